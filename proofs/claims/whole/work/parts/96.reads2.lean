set_option maxRecDepth 16384
/-! ===== valley: a statement is read, the reference: two numbers of one digit ===== -/
theorem nd_fail {l : List Int} {z p : Int} (h : ¬ ndF l z 1 p = p + 1) (q : Nat) : ndF l z (q + 1) p = p ∧ ndF l z 1 p = p := by
  have c : ¬ (48 ≤ bFc l z p ∧ bFc l z p ≤ 57) := fun y => h (by unfold ndF; rw [if_pos y]; rfl)
  exact ⟨by rw [ndF, if_neg c], by rw [ndF, if_neg c]⟩
theorem nd_step {l : List Int} {z p : Int} (h : ndF l z 1 p = p + 1) (q : Nat) : ndF l z (q + 1) p = ndF l z q (p + 1) := by
  have c : 48 ≤ bFc l z p ∧ bFc l z p ≤ 57 := by
    by_cases c : 48 ≤ bFc l z p ∧ bFc l z p ≤ 57
    · exact c
    · have : ndF l z 1 p = p := by rw [ndF, if_neg c]
      omega
  rw [ndF, if_pos c]
theorem vl1 {l : List Int} {z p : Int} : vlF l z 1 p 0 = bFc l z p - 48 := by
  show 10 * 0 + bFc l z p - 48 = _
  omega
theorem vl2 {l : List Int} {z p : Int} : vlF l z 2 p 0 = 10 * (bFc l z p - 48) + (bFc l z (p + 1) - 48) := by
  show 10 * (10 * 0 + bFc l z p - 48) + bFc l z (p + 1) - 48 = _
  omega
def rdP (l : List Int) (z p : Int) : Int := if stmF l z p = -1 then p + (dbF (bFc l z p) + 2) else stmF l z p
def rdR (l : List Int) (z p : Int) : Int := if stmF l z p = -1 then 1 else 0
section OPS
variable {sp : Nat → List iV → iH → Option (Option iV × iH)} {sc : List Int} {d : Nat} {A A' : iA} {Q : Option iV → iH → Prop} {h : iH} {X : iVal} {D : Nat} {l nu nu2 : List Int} {z i x p p2 : Int}
theorem rs_two (hH : okR A l z) (hb : okB l z) (h0 : 0 ≤ p) (h1 : p ≤ 150) (ln : nu.length = 4) (hl : bFc l z p = 97 ∨ bFc l z p = 99 ∨ bFc l z p = 109 ∨ bFc l z p = 119) : ∃ nu' : List Int, nu'.length = 4 ∧ (stmF l z p = -1 → nu'.getD 0 0 = bFc l z (p + 1) - 48 ∧ nu'.getD 1 0 = bFc l z (p + 2) - 48) ∧ ∀ Q, Call sp sc (d + 2) mX12_readsStatement [.inr (.inr 140)] (hp (A.sRd p nu)) Q = Q (some (.inl (rdR l z p))) (hp (A.sRd (rdP l z p) nu')) := by
  have er := (bFc_rFc (l := l) (z := z) hb h0 (b := bFc l z p) (by omega) (by omega)).mp rfl
  have hh := fun Q nu => hH sp sc (d + 1) p nu Q h0 (by omega)
  rw [er] at hh
  have hk : dbF (bFc l z p) = 2 := by rcases hl with y | y | y | y <;> rw [y] <;> rfl
  have k0 : ¬ (2 : Int) < 0 := by omega
  obtain ⟨nu1, r1, a1, a2, a3, a4⟩ := @readsNumber_eq sp sc d A l nu z (p + 1) hH hb 0 1 (by omega) (by omega) (by omega) (by omega) ln
  have a4 : ∀ Q, Call sp sc (d + 1) mX12_readsNumber [.inr (.inr 140), .inl 0, .inl 1] (hp (A.sRd (p + 1) nu)) Q = Q (some (.inl r1)) (hp (A.sRd (ndF l z 1 (p + 1)) nu1)) := a4
  have c1 : ((1 : Nat) : Int) = 1 := rfl
  rw [c1] at a3
  have run : ∀ (r : Int) (T : iA), (∀ Q, Q (some (.inl r)) (hp T) → G sp sc [] (d + 2) mX12_readsStatement 60 0 [some (.inr (.inr 140)), none, none] [] (hp (A.sRd p nu)) Q) → ∀ Q, Call sp sc (d + 2) mX12_readsStatement [.inr (.inr 140)] (hp (A.sRd p nu)) Q = Q (some (.inl r)) (hp T) := fun r T hr Q => Call_eq (by
    apply eX12_readsStatement 60
    exact hr _ ⟨rfl, rfl⟩)
  rcases a3 with a3 | a3
  · obtain ⟨nu2, r2, b1, b2, b3, b4⟩ := @readsNumber_eq sp sc d A l nu1 z (p + 1 + 1) hH hb 1 1 (by omega) (by omega) (by omega) (by omega) a1
    have b4 : ∀ Q, Call sp sc (d + 1) mX12_readsNumber [.inr (.inr 140), .inl 1, .inl 1] (hp (A.sRd (p + 1 + 1) nu1)) Q = Q (some (.inl r2)) (hp (A.sRd (ndF l z 1 (p + 1 + 1)) nu2)) := b4
    rw [c1] at b3
    rw [a3.1, a3.2.1] at a4
    have n2 := nd_step a3.1 1
    rcases b3 with b3 | b3
    · rw [b3.1, b3.2.1] at b4
      rw [b3.1] at n2
      have ep : p + 1 + 1 + 1 = p + 1 + 2 := by omega
      rw [ep] at n2 b4
      have h3 := fun Q nu => hH sp sc (d + 1) (p + 1 + 2) nu Q (by omega) (by omega)
      have i3 := @bFc_rFc l z (p + 1 + 2) hb (by omega) 59 (by omega) (by omega)
      have rb := rFc_b (l := l) (z := z) hb (p := p + 1 + 2) (by omega)
      have ir : inI (rFc l z (p + 1 + 2)) = true := inI_of (by omega) (by omega)
      by_cases c : bFc l z (p + 1 + 2) = 59
      · have c2 := i3.mp c
        have es := stm_ok hk k0 n2 c
        have eR : rdR l z p = 1 := by unfold rdR; rw [if_pos es]
        have eP : rdP l z p = p + 1 + 2 + 1 := by unfold rdP; rw [if_pos es, hk]; omega
        rw [eR, eP]
        refine ⟨nu2, b1, fun _ => ⟨?_, ?_⟩, run _ _ (fun Q hQ => ?_)⟩
        · rw [b2 0 (by omega), a3.2.2, vl1]
        · rw [b3.2.2, vl1]; congr 2; omega
        · rcases hl with y | y | y | y <;> rw [y] at hh <;> simp (disch := first | assumption | rfl | exact inI_of (by omega) (by omega) | omega | decide | (simp only [sv_ext, sv_mc, Nat.le_refl]; done) | with_unfolding_all (refine @id _ ?_; first | exact Eq.refl _ | exact Nat.le_refl _ | assumption)) only [Nat.reduceAdd, Nat.reduceMul, Nat.reduceLeDiff, Nat.reduceLT, Int.reduceAdd, Int.reduceSub, Int.reduceMul, Int.reduceNeg, Int.reduceLE, Int.reduceLT, Int.reduceToNat, Int.reduceEq, reduceCtorEq, ld_z, ld_s, st1_0, st1_1, st1_s, st2_0, st2_1, st2_s, isJ_i, isJ_r, isJ_n, isJ_l, cs_nil, cs_i, cs_r, cs_l, kF, List.getElem?_cons_succ, List.getElem?_cons_zero, List.set_cons_zero, List.set_cons_succ, GC_s, GC_n, GK_nil, GK_no, GK_yes, not_false_eq_true, back_eq, back_hp, inI_eq, inA_eq, true_and, and_true, and_self, if_true, if_false, bI_0, bI_1, bI_in, bI_T, bI_F, fitF, jmpF, nlF, pjA, iVal.eta, iYr.eta, List.getElem?_toArray, List.length_cons, List.length_nil, true_or, or_true, or_false, false_or, Classical.not_not, Bool.false_eq_true, hp_2, Nat.zero_le, Nat.le_refl, Option.some.injEq, Sum.inl.injEq, Sum.inr.injEq, not_true_eq_false, true_implies, false_implies, implies_true, Int.le_refl, gX12_readsStatement, rd_o, sRd_at, hh, a4, b4, h3, eq_true c2, ir, back_Rd, wr_Ra] <;> exact hQ
      · have c2 : ¬ rFc l z (p + 1 + 2) = 59 := fun y => c (i3.mpr y)
        have es := stm_bad hk k0 (fun y => c y.2)
        rw [show ndF l z (2 : Int).toNat (p + 1) = p + 1 + 2 from n2] at es
        have eR : rdR l z p = 0 := by unfold rdR; rw [if_neg (by omega)]
        have eP : rdP l z p = p + 1 + 2 := by unfold rdP; rw [if_neg (by omega), es]
        rw [eR, eP]
        refine ⟨nu2, b1, fun y => absurd y (by omega), run _ _ (fun Q hQ => ?_)⟩
        rcases hl with y | y | y | y <;> rw [y] at hh <;> simp (disch := first | assumption | rfl | exact inI_of (by omega) (by omega) | omega | decide | (simp only [sv_ext, sv_mc, Nat.le_refl]; done) | with_unfolding_all (refine @id _ ?_; first | exact Eq.refl _ | exact Nat.le_refl _ | assumption)) only [Nat.reduceAdd, Nat.reduceMul, Nat.reduceLeDiff, Nat.reduceLT, Int.reduceAdd, Int.reduceSub, Int.reduceMul, Int.reduceNeg, Int.reduceLE, Int.reduceLT, Int.reduceToNat, Int.reduceEq, reduceCtorEq, ld_z, ld_s, st1_0, st1_1, st1_s, st2_0, st2_1, st2_s, isJ_i, isJ_r, isJ_n, isJ_l, cs_nil, cs_i, cs_r, cs_l, kF, List.getElem?_cons_succ, List.getElem?_cons_zero, List.set_cons_zero, List.set_cons_succ, GC_s, GC_n, GK_nil, GK_no, GK_yes, not_false_eq_true, back_eq, back_hp, inI_eq, inA_eq, true_and, and_true, and_self, if_true, if_false, bI_0, bI_1, bI_in, bI_T, bI_F, fitF, jmpF, nlF, pjA, iVal.eta, iYr.eta, List.getElem?_toArray, List.length_cons, List.length_nil, true_or, or_true, or_false, false_or, Classical.not_not, Bool.false_eq_true, hp_2, Nat.zero_le, Nat.le_refl, Option.some.injEq, Sum.inl.injEq, Sum.inr.injEq, not_true_eq_false, true_implies, false_implies, implies_true, Int.le_refl, gX12_readsStatement, rd_o, sRd_at, hh, a4, b4, h3, c2, ir, back_Rd, wr_Ra] <;> exact hQ
    · have nf := nd_fail b3.1 0
      rw [nf.2, b3.2] at b4
      rw [nf.2] at n2
      have es := stm_bad hk k0 (fun y => by have y1 : ndF l z 2 (p + 1) = p + 1 + 2 := y.1; rw [n2] at y1; omega)
      rw [show ndF l z (2 : Int).toNat (p + 1) = p + 1 + 1 from n2] at es
      have eR : rdR l z p = 0 := by unfold rdR; rw [if_neg (by omega)]
      have eP : rdP l z p = p + 1 + 1 := by unfold rdP; rw [if_neg (by omega), es]
      rw [eR, eP]
      refine ⟨nu2, b1, fun y => absurd y (by omega), run _ _ (fun Q hQ => ?_)⟩
      rcases hl with y | y | y | y <;> rw [y] at hh <;> simp (disch := first | assumption | rfl | exact inI_of (by omega) (by omega) | omega | decide | (simp only [sv_ext, sv_mc, Nat.le_refl]; done) | with_unfolding_all (refine @id _ ?_; first | exact Eq.refl _ | exact Nat.le_refl _ | assumption)) only [Nat.reduceAdd, Nat.reduceMul, Nat.reduceLeDiff, Nat.reduceLT, Int.reduceAdd, Int.reduceSub, Int.reduceMul, Int.reduceNeg, Int.reduceLE, Int.reduceLT, Int.reduceToNat, Int.reduceEq, reduceCtorEq, ld_z, ld_s, st1_0, st1_1, st1_s, st2_0, st2_1, st2_s, isJ_i, isJ_r, isJ_n, isJ_l, cs_nil, cs_i, cs_r, cs_l, kF, List.getElem?_cons_succ, List.getElem?_cons_zero, List.set_cons_zero, List.set_cons_succ, GC_s, GC_n, GK_nil, GK_no, GK_yes, not_false_eq_true, back_eq, back_hp, inI_eq, inA_eq, true_and, and_true, and_self, if_true, if_false, bI_0, bI_1, bI_in, bI_T, bI_F, fitF, jmpF, nlF, pjA, iVal.eta, iYr.eta, List.getElem?_toArray, List.length_cons, List.length_nil, true_or, or_true, or_false, false_or, Classical.not_not, Bool.false_eq_true, hp_2, Nat.zero_le, Nat.le_refl, Option.some.injEq, Sum.inl.injEq, Sum.inr.injEq, not_true_eq_false, true_implies, false_implies, implies_true, Int.le_refl, gX12_readsStatement, rd_o, sRd_at, hh, a4, b4, back_Rd, wr_Ra] <;> exact hQ
  · have nf := nd_fail a3.1 1
    rw [nf.2, a3.2] at a4
    have n2 : ndF l z 2 (p + 1) = p + 1 := nf.1
    have es := stm_bad hk k0 (fun y => by have y1 : ndF l z 2 (p + 1) = p + 1 + 2 := y.1; rw [n2] at y1; omega)
    rw [show ndF l z (2 : Int).toNat (p + 1) = p + 1 from n2] at es
    have eR : rdR l z p = 0 := by unfold rdR; rw [if_neg (by omega)]
    have eP : rdP l z p = p + 1 := by unfold rdP; rw [if_neg (by omega), es]
    rw [eR, eP]
    refine ⟨nu1, a1, fun y => absurd y (by omega), run _ _ (fun Q hQ => ?_)⟩
    rcases hl with y | y | y | y <;> rw [y] at hh <;> simp (disch := first | assumption | rfl | exact inI_of (by omega) (by omega) | omega | decide | (simp only [sv_ext, sv_mc, Nat.le_refl]; done) | with_unfolding_all (refine @id _ ?_; first | exact Eq.refl _ | exact Nat.le_refl _ | assumption)) only [Nat.reduceAdd, Nat.reduceMul, Nat.reduceLeDiff, Nat.reduceLT, Int.reduceAdd, Int.reduceSub, Int.reduceMul, Int.reduceNeg, Int.reduceLE, Int.reduceLT, Int.reduceToNat, Int.reduceEq, reduceCtorEq, ld_z, ld_s, st1_0, st1_1, st1_s, st2_0, st2_1, st2_s, isJ_i, isJ_r, isJ_n, isJ_l, cs_nil, cs_i, cs_r, cs_l, kF, List.getElem?_cons_succ, List.getElem?_cons_zero, List.set_cons_zero, List.set_cons_succ, GC_s, GC_n, GK_nil, GK_no, GK_yes, not_false_eq_true, back_eq, back_hp, inI_eq, inA_eq, true_and, and_true, and_self, if_true, if_false, bI_0, bI_1, bI_in, bI_T, bI_F, fitF, jmpF, nlF, pjA, iVal.eta, iYr.eta, List.getElem?_toArray, List.length_cons, List.length_nil, true_or, or_true, or_false, false_or, Classical.not_not, Bool.false_eq_true, hp_2, Nat.zero_le, Nat.le_refl, Option.some.injEq, Sum.inl.injEq, Sum.inr.injEq, not_true_eq_false, true_implies, false_implies, implies_true, Int.le_refl, gX12_readsStatement, rd_o, sRd_at, hh, a4, back_Rd, wr_Ra] <;> exact hQ
end OPS
