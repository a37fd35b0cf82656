set_option maxRecDepth 16384
/-! ===== valley: the first bad byte, the class ===== -/
def ndF (l : List Int) (z : Int) : Nat → Int → Int
  | 0, p => p
  | q + 1, p => if 48 ≤ bFc l z p ∧ bFc l z p ≤ 57 then ndF l z q (p + 1) else p
theorem ndF_b {l : List Int} {z : Int} : ∀ (q : Nat) (p : Int), p ≤ ndF l z q p ∧ ndF l z q p ≤ p + q := by
  intro q
  induction q with
  | zero => intro p; unfold ndF; omega
  | succ q ih =>
    intro p
    unfold ndF
    have := ih (p + 1)
    split <;> omega
/-- where a statement is bad, or -1 -/
def stmF (l : List Int) (z p : Int) : Int :=
  if dbF (bFc l z p) < 0 then p else
    if ndF l z (dbF (bFc l z p)).toNat (p + 1) = p + 1 + dbF (bFc l z p) ∧ bFc l z (p + 1 + dbF (bFc l z p)) = 59 then -1 else ndF l z (dbF (bFc l z p)).toNat (p + 1)
def fbF (l : List Int) (z : Int) : Nat → Int → Int
  | 0, _ => -1
  | f + 1, p => if 0 ≤ stmF l z p then stmF l z p else if p + (dbF (bFc l z p) + 2) < z then fbF l z f (p + (dbF (bFc l z p) + 2)) else -1
section OPS
variable {sp : Nat → List iV → iH → Option (Option iV × iH)} {sc : List Int} {d : Nat} {A A' : iA} {Q : Option iV → iH → Prop} {h : iH} {X : iVal} {D : Nat} {l : List Int} {z i x : Int}
theorem fbd_loop (hd : D < 8) (hc : celC A D) (hsz : 0 ≤ (A.sh D).sz ∧ (A.sh D).sz ≤ 100) (hl : (A.sh D).sz ≤ ((A.cel D).length : Int)) (hl2 : (A.cel D).length ≤ 1000) (hb : ∀ i : Int, 0 ≤ i → i < (A.sh D).sz → -128 ≤ (A.cel D).getD i.toNat 0 ∧ (A.cel D).getD i.toNat 0 ≤ 127) {p k : Int} (hp0 : 0 ≤ p ∧ p ≤ 1000) (hk : 0 ≤ k ∧ k ≤ 5) : ∀ (q : Nat) (j : Int), 1 ≤ j → j + q = k + 1 → (ndF (A.cel D) (A.sh D).sz q (p + j) = p + 1 + k → Run sp sc (d + 2) mX11_firstBadByte 19 [some (.inr (.inr (107 + 2 * D + 2))), some (.inl p), some (.inl k), some (.inl (k + 1))] [] (hp A) Q) → (¬ ndF (A.cel D) (A.sh D).sz q (p + j) = p + 1 + k → Q (some (.inl (ndF (A.cel D) (A.sh D).sz q (p + j)))) (hp A)) → Run sp sc (d + 2) mX11_firstBadByte 19 [some (.inr (.inr (107 + 2 * D + 2))), some (.inl p), some (.inl k), some (.inl j)] [] (hp A) Q := by
  intro q
  induction q with
  | zero =>
    intro j h0 h1 h2 h3
    have : j = k + 1 := by omega
    rw [this]
    refine h2 ?_
    unfold ndF; omega
  | succ q ih =>
    intro j h0 h1 h2 h3
    have ih := ih (j + 1) (by omega) (by omega)
    have ep : p + (j + 1) = p + j + 1 := by omega
    rw [ep] at ih
    have e1 : ¬ k < j := by omega
    have hba := fun Q => @byteAt_eq sp sc d A Q D (p + j) hd hc hsz hl hl2 (inI_of (by omega) (by omega))
    have bb := @bFc_b (A.cel D) (A.sh D).sz (p + j) hb
    have ib : inI (bFc (A.cel D) (A.sh D).sz (p + j)) = true := inI_of (by omega) (by omega)
    unfold ndF at h2 h3
    refine G_run (B := [2, 19]) 60 _ _ _ _ ?_
    by_cases c : 48 ≤ bFc (A.cel D) (A.sh D).sz (p + j) ∧ bFc (A.cel D) (A.sh D).sz (p + j) ≤ 57
    · rw [if_pos c] at h2 h3
      have hdg : ∀ Q, Call sp sc (d + 1) mX11_isDigit [.inl (bFc (A.cel D) (A.sh D).sz (p + j))] (hp A) Q = Q (some (.inl 1)) (hp A) := fun Q => by rw [isDigit_eq _ ib, bI_t c]
      simp (disch := first | assumption | rfl | exact inI_of (by omega) (by omega) | omega | decide | (simp only [sv_ext, sv_mc, Nat.le_refl]; done) | with_unfolding_all (refine @id _ ?_; first | exact Eq.refl _ | exact Nat.le_refl _ | assumption)) only [Nat.reduceAdd, Nat.reduceMul, Nat.reduceLeDiff, Nat.reduceLT, Int.reduceAdd, Int.reduceSub, Int.reduceMul, Int.reduceNeg, Int.reduceLE, Int.reduceLT, Int.reduceToNat, Int.reduceEq, reduceCtorEq, ld_z, ld_s, st1_0, st1_1, st1_s, st2_0, st2_1, st2_s, isJ_i, isJ_r, isJ_n, isJ_l, cs_nil, cs_i, cs_r, cs_l, kF, List.getElem?_cons_succ, List.getElem?_cons_zero, List.set_cons_zero, List.set_cons_succ, GC_s, GC_n, GK_nil, GK_no, GK_yes, not_false_eq_true, back_eq, back_hp, inI_eq, inA_eq, true_and, and_true, and_self, if_true, if_false, bI_0, bI_1, bI_in, bI_T, bI_F, fitF, jmpF, nlF, pjA, iVal.eta, iYr.eta, List.getElem?_toArray, List.length_cons, List.length_nil, true_or, or_true, or_false, false_or, Classical.not_not, Bool.false_eq_true, hp_2, Nat.zero_le, Nat.le_refl, Option.some.injEq, Sum.inl.injEq, Sum.inr.injEq, not_true_eq_false, true_implies, false_implies, implies_true, Int.le_refl, gX11_firstBadByte, rd_s, e1, hba, hdg]
      exact ih h2 h3
    · rw [if_neg c] at h2 h3
      have hdg : ∀ Q, Call sp sc (d + 1) mX11_isDigit [.inl (bFc (A.cel D) (A.sh D).sz (p + j))] (hp A) Q = Q (some (.inl 0)) (hp A) := fun Q => by rw [isDigit_eq _ ib, bI_f c]
      simp (disch := first | assumption | rfl | exact inI_of (by omega) (by omega) | omega | decide | (simp only [sv_ext, sv_mc, Nat.le_refl]; done) | with_unfolding_all (refine @id _ ?_; first | exact Eq.refl _ | exact Nat.le_refl _ | assumption)) only [Nat.reduceAdd, Nat.reduceMul, Nat.reduceLeDiff, Nat.reduceLT, Int.reduceAdd, Int.reduceSub, Int.reduceMul, Int.reduceNeg, Int.reduceLE, Int.reduceLT, Int.reduceToNat, Int.reduceEq, reduceCtorEq, ld_z, ld_s, st1_0, st1_1, st1_s, st2_0, st2_1, st2_s, isJ_i, isJ_r, isJ_n, isJ_l, cs_nil, cs_i, cs_r, cs_l, kF, List.getElem?_cons_succ, List.getElem?_cons_zero, List.set_cons_zero, List.set_cons_succ, GC_s, GC_n, GK_nil, GK_no, GK_yes, not_false_eq_true, back_eq, back_hp, inI_eq, inA_eq, true_and, and_true, and_self, if_true, if_false, bI_0, bI_1, bI_in, bI_T, bI_F, fitF, jmpF, nlF, pjA, iVal.eta, iYr.eta, List.getElem?_toArray, List.length_cons, List.length_nil, true_or, or_true, or_false, false_or, Classical.not_not, Bool.false_eq_true, hp_2, Nat.zero_le, Nat.le_refl, Option.some.injEq, Sum.inl.injEq, Sum.inr.injEq, not_true_eq_false, true_implies, false_implies, implies_true, Int.le_refl, gX11_firstBadByte, rd_s, e1, hba, hdg]
      exact h3 (by omega)
theorem stm_no {p k : Int} (hk : dbF (bFc l z p) = k) (c : k < 0) : stmF l z p = p := by
  unfold stmF
  rw [hk, if_pos c]
theorem stm_ok {p k : Int} (hk : dbF (bFc l z p) = k) (c : ¬ k < 0) (h : ndF l z k.toNat (p + 1) = p + 1 + k) (h2 : bFc l z (p + 1 + k) = 59) : stmF l z p = -1 := by
  unfold stmF
  rw [hk, if_neg c, if_pos ⟨h, h2⟩]
theorem stm_bad {p k : Int} (hk : dbF (bFc l z p) = k) (c : ¬ k < 0) (h : ¬ (ndF l z k.toNat (p + 1) = p + 1 + k ∧ bFc l z (p + 1 + k) = 59)) : stmF l z p = ndF l z k.toNat (p + 1) := by
  unfold stmF
  rw [hk, if_neg c, if_neg h]
theorem fb_loop (hd : D < 8) (hc : celC A D) (hsz : 0 ≤ (A.sh D).sz ∧ (A.sh D).sz ≤ 100) (hl : (A.sh D).sz ≤ ((A.cel D).length : Int)) (hl2 : (A.cel D).length ≤ 1000) (hb : ∀ i : Int, 0 ≤ i → i < (A.sh D).sz → -128 ≤ (A.cel D).getD i.toNat 0 ∧ (A.cel D).getD i.toNat 0 ≤ 127) : ∀ (f : Nat) (p : Int) (o2 o3 : Option iV), 1 ≤ f → 0 ≤ p → p ≤ 200 → (A.sh D).sz ≤ p + 4 * f → Q (some (.inl (fbF (A.cel D) (A.sh D).sz f p))) (hp A) → Run sp sc (d + 2) mX11_firstBadByte 2 [some (.inr (.inr (107 + 2 * D + 2))), some (.inl p), o2, o3] [] (hp A) Q := by
  intro f
  induction f with
  | zero => intro p o2 o3 f1; omega
  | succ f ih =>
    intro p o2 o3 f1 h0 h1 h2 hq
    have hba := fun Q => @byteAt_eq sp sc d A Q D p hd hc hsz hl hl2 (inI_of (by omega) (by omega))
    have bb := @bFc_b (A.cel D) (A.sh D).sz p hb
    have ib : inI (bFc (A.cel D) (A.sh D).sz p) = true := inI_of (by omega) (by omega)
    have hdb := fun Q => @digitsBehind_eq sp sc (d + 1) Q (hp A) (bFc (A.cel D) (A.sh D).sz p) ib
    have kb := @dbF_b (bFc (A.cel D) (A.sh D).sz p)
    unfold fbF at hq
    obtain ⟨k, hk⟩ : ∃ k, dbF (bFc (A.cel D) (A.sh D).sz p) = k := ⟨_, rfl⟩
    rw [hk] at hq kb hdb
    refine G_run (B := [2, 19]) 60 _ _ _ _ ?_
    by_cases c : k < 0
    · rw [stm_no hk c, if_pos h0] at hq
      have c2 : ¬ 0 ≤ k := by omega
      simp (disch := first | assumption | rfl | exact inI_of (by omega) (by omega) | omega | decide | (simp only [sv_ext, sv_mc, Nat.le_refl]; done) | with_unfolding_all (refine @id _ ?_; first | exact Eq.refl _ | exact Nat.le_refl _ | assumption)) only [Nat.reduceAdd, Nat.reduceMul, Nat.reduceLeDiff, Nat.reduceLT, Int.reduceAdd, Int.reduceSub, Int.reduceMul, Int.reduceNeg, Int.reduceLE, Int.reduceLT, Int.reduceToNat, Int.reduceEq, reduceCtorEq, ld_z, ld_s, st1_0, st1_1, st1_s, st2_0, st2_1, st2_s, isJ_i, isJ_r, isJ_n, isJ_l, cs_nil, cs_i, cs_r, cs_l, kF, List.getElem?_cons_succ, List.getElem?_cons_zero, List.set_cons_zero, List.set_cons_succ, GC_s, GC_n, GK_nil, GK_no, GK_yes, not_false_eq_true, back_eq, back_hp, inI_eq, inA_eq, true_and, and_true, and_self, if_true, if_false, bI_0, bI_1, bI_in, bI_T, bI_F, fitF, jmpF, nlF, pjA, iVal.eta, iYr.eta, List.getElem?_toArray, List.length_cons, List.length_nil, true_or, or_true, or_false, false_or, Classical.not_not, Bool.false_eq_true, hp_2, Nat.zero_le, Nat.le_refl, Option.some.injEq, Sum.inl.injEq, Sum.inr.injEq, not_true_eq_false, true_implies, false_implies, implies_true, Int.le_refl, gX11_firstBadByte, rd_s, hba, hdb, c2]
      exact hq
    · have c2 : 0 ≤ k := by omega
      have ek : ((k.toNat : Nat) : Int) = k := by omega
      have nb := @ndF_b (A.cel D) (A.sh D).sz k.toNat (p + 1)
      simp (disch := first | assumption | rfl | exact inI_of (by omega) (by omega) | omega | decide | (simp only [sv_ext, sv_mc, Nat.le_refl]; done) | with_unfolding_all (refine @id _ ?_; first | exact Eq.refl _ | exact Nat.le_refl _ | assumption)) only [Nat.reduceAdd, Nat.reduceMul, Nat.reduceLeDiff, Nat.reduceLT, Int.reduceAdd, Int.reduceSub, Int.reduceMul, Int.reduceNeg, Int.reduceLE, Int.reduceLT, Int.reduceToNat, Int.reduceEq, reduceCtorEq, ld_z, ld_s, st1_0, st1_1, st1_s, st2_0, st2_1, st2_s, isJ_i, isJ_r, isJ_n, isJ_l, cs_nil, cs_i, cs_r, cs_l, kF, List.getElem?_cons_succ, List.getElem?_cons_zero, List.set_cons_zero, List.set_cons_succ, GC_s, GC_n, GK_nil, GK_no, GK_yes, not_false_eq_true, back_eq, back_hp, inI_eq, inA_eq, true_and, and_true, and_self, if_true, if_false, bI_0, bI_1, bI_in, bI_T, bI_F, fitF, jmpF, nlF, pjA, iVal.eta, iYr.eta, List.getElem?_toArray, List.length_cons, List.length_nil, true_or, or_true, or_false, false_or, Classical.not_not, Bool.false_eq_true, hp_2, Nat.zero_le, Nat.le_refl, Option.some.injEq, Sum.inl.injEq, Sum.inr.injEq, not_true_eq_false, true_implies, false_implies, implies_true, Int.le_refl, gX11_firstBadByte, rd_s, hba, hdb, c2]
      refine fbd_loop (d := d) (p := p) (k := k) hd hc hsz hl hl2 hb ⟨h0, by omega⟩ ⟨c2, by omega⟩ k.toNat 1 (by omega) (by omega) (fun z1 => ?_) (fun z1 => ?_)
      · have e1 : k < k + 1 := by omega
        have e2 : p + k + 1 = p + 1 + k := by omega
        have hb2 := fun Q => @byteAt_eq sp sc d A Q D (p + 1 + k) hd hc hsz hl hl2 (inI_of (by omega) (by omega))
        have bb2 := @bFc_b (A.cel D) (A.sh D).sz (p + 1 + k) hb
        have ib2 : inI (bFc (A.cel D) (A.sh D).sz (p + 1 + k)) = true := inI_of (by omega) (by omega)
        refine G_run (B := [2, 19]) 60 _ _ _ _ ?_
        by_cases c3 : bFc (A.cel D) (A.sh D).sz (p + 1 + k) = 59
        · rw [stm_ok hk c z1 c3, if_neg (by omega)] at hq
          by_cases c4 : p + (k + 2) < (A.sh D).sz
          · rw [if_pos c4] at hq
            simp (disch := first | assumption | rfl | exact inI_of (by omega) (by omega) | omega | decide | (simp only [sv_ext, sv_mc, Nat.le_refl]; done) | with_unfolding_all (refine @id _ ?_; first | exact Eq.refl _ | exact Nat.le_refl _ | assumption)) only [Nat.reduceAdd, Nat.reduceMul, Nat.reduceLeDiff, Nat.reduceLT, Int.reduceAdd, Int.reduceSub, Int.reduceMul, Int.reduceNeg, Int.reduceLE, Int.reduceLT, Int.reduceToNat, Int.reduceEq, reduceCtorEq, ld_z, ld_s, st1_0, st1_1, st1_s, st2_0, st2_1, st2_s, isJ_i, isJ_r, isJ_n, isJ_l, cs_nil, cs_i, cs_r, cs_l, kF, List.getElem?_cons_succ, List.getElem?_cons_zero, List.set_cons_zero, List.set_cons_succ, GC_s, GC_n, GK_nil, GK_no, GK_yes, not_false_eq_true, back_eq, back_hp, inI_eq, inA_eq, true_and, and_true, and_self, if_true, if_false, bI_0, bI_1, bI_in, bI_T, bI_F, fitF, jmpF, nlF, pjA, iVal.eta, iYr.eta, List.getElem?_toArray, List.length_cons, List.length_nil, true_or, or_true, or_false, false_or, Classical.not_not, Bool.false_eq_true, hp_2, Nat.zero_le, Nat.le_refl, Option.some.injEq, Sum.inl.injEq, Sum.inr.injEq, not_true_eq_false, true_implies, false_implies, implies_true, Int.le_refl, gX11_firstBadByte, rd_s, e1, e2, hb2, eq_true c3, c4]
            exact ih (p + (k + 2)) _ _ (by omega) (by omega) (by omega) (by omega) hq
          · rw [if_neg c4] at hq
            simp (disch := first | assumption | rfl | exact inI_of (by omega) (by omega) | omega | decide | (simp only [sv_ext, sv_mc, Nat.le_refl]; done) | with_unfolding_all (refine @id _ ?_; first | exact Eq.refl _ | exact Nat.le_refl _ | assumption)) only [Nat.reduceAdd, Nat.reduceMul, Nat.reduceLeDiff, Nat.reduceLT, Int.reduceAdd, Int.reduceSub, Int.reduceMul, Int.reduceNeg, Int.reduceLE, Int.reduceLT, Int.reduceToNat, Int.reduceEq, reduceCtorEq, ld_z, ld_s, st1_0, st1_1, st1_s, st2_0, st2_1, st2_s, isJ_i, isJ_r, isJ_n, isJ_l, cs_nil, cs_i, cs_r, cs_l, kF, List.getElem?_cons_succ, List.getElem?_cons_zero, List.set_cons_zero, List.set_cons_succ, GC_s, GC_n, GK_nil, GK_no, GK_yes, not_false_eq_true, back_eq, back_hp, inI_eq, inA_eq, true_and, and_true, and_self, if_true, if_false, bI_0, bI_1, bI_in, bI_T, bI_F, fitF, jmpF, nlF, pjA, iVal.eta, iYr.eta, List.getElem?_toArray, List.length_cons, List.length_nil, true_or, or_true, or_false, false_or, Classical.not_not, Bool.false_eq_true, hp_2, Nat.zero_le, Nat.le_refl, Option.some.injEq, Sum.inl.injEq, Sum.inr.injEq, not_true_eq_false, true_implies, false_implies, implies_true, Int.le_refl, gX11_firstBadByte, rd_s, e1, e2, hb2, eq_true c3, c4]
            exact hq
        · rw [stm_bad hk c (fun y => c3 y.2), z1, if_pos (by omega)] at hq
          simp (disch := first | assumption | rfl | exact inI_of (by omega) (by omega) | omega | decide | (simp only [sv_ext, sv_mc, Nat.le_refl]; done) | with_unfolding_all (refine @id _ ?_; first | exact Eq.refl _ | exact Nat.le_refl _ | assumption)) only [Nat.reduceAdd, Nat.reduceMul, Nat.reduceLeDiff, Nat.reduceLT, Int.reduceAdd, Int.reduceSub, Int.reduceMul, Int.reduceNeg, Int.reduceLE, Int.reduceLT, Int.reduceToNat, Int.reduceEq, reduceCtorEq, ld_z, ld_s, st1_0, st1_1, st1_s, st2_0, st2_1, st2_s, isJ_i, isJ_r, isJ_n, isJ_l, cs_nil, cs_i, cs_r, cs_l, kF, List.getElem?_cons_succ, List.getElem?_cons_zero, List.set_cons_zero, List.set_cons_succ, GC_s, GC_n, GK_nil, GK_no, GK_yes, not_false_eq_true, back_eq, back_hp, inI_eq, inA_eq, true_and, and_true, and_self, if_true, if_false, bI_0, bI_1, bI_in, bI_T, bI_F, fitF, jmpF, nlF, pjA, iVal.eta, iYr.eta, List.getElem?_toArray, List.length_cons, List.length_nil, true_or, or_true, or_false, false_or, Classical.not_not, Bool.false_eq_true, hp_2, Nat.zero_le, Nat.le_refl, Option.some.injEq, Sum.inl.injEq, Sum.inr.injEq, not_true_eq_false, true_implies, false_implies, implies_true, Int.le_refl, gX11_firstBadByte, rd_s, e1, e2, hb2, c3]
          exact hq
      · rw [stm_bad hk c (fun y => z1 y.1), if_pos (by omega)] at hq
        exact hq
end OPS
