set_option maxRecDepth 16384
/-! ===== valley: a number is read, the reference ===== -/
def iA.sRd (A : iA) (p : Int) (nu : List Int) : iA := (iA.mk A.now A.img A.mnd A.imd A.yr A.mt A.sh A.pt ((iMo.mk A.mo.s A.mo.m A.mo.im A.mo.was A.mo.hi A.mo.wt A.mo.en A.mo.od A.mo.dn A.mo.sm A.mo.sf A.mo.go (p) A.mo.ra A.mo.re (nu) A.mo.bd A.mo.bg A.mo.he A.mo.bh A.mo.ak A.mo.st A.mo.ml A.mo.fi A.mo.th A.mo.se A.mo.ke A.mo.kk A.mo.kf A.mo.so A.mo.sz A.mo.el A.mo.tn)) A.out A.ext A.mc)
def okR (A : iA) (l : List Int) (z : Int) : Prop := ∀ (sp : Nat → List iV → iH → Option (Option iV × iH)) (sc : List Int) (d : Nat) (p : Int) (nu : List Int) (Q : Option iV → iH → Prop), 0 ≤ p → p ≤ 200 → Call sp sc d mX12_here [.inr (.inr 140)] (hp (A.sRd p nu)) Q = Q (some (.inl (rFc l z p))) (hp (A.sRd p nu))
def okB (l : List Int) (z : Int) : Prop := ∀ i : Int, 0 ≤ i → i < z → -128 ≤ l.getD i.toNat 0 ∧ l.getD i.toNat 0 ≤ 127
/-- so many digits make a number -/
def vlF (l : List Int) (z : Int) : Nat → Int → Int → Int
  | 0, _, a => a
  | q + 1, p, a => vlF l z q (p + 1) (10 * a + bFc l z p - 48)
theorem rFc_b {l : List Int} {z p : Int} (hb : okB l z) (h0 : 0 ≤ p) : -1 ≤ rFc l z p ∧ rFc l z p ≤ 255 := by
  unfold rFc
  by_cases c : p < z
  · rw [if_pos c]
    have := hb p h0 c
    unfold uF
    split <;> omega
  · rw [if_neg c]; omega
theorem rdg_iff {l : List Int} {z p : Int} (hb : okB l z) (h0 : 0 ≤ p) : (48 ≤ rFc l z p ∧ rFc l z p ≤ 57) ↔ (48 ≤ bFc l z p ∧ bFc l z p ≤ 57) := by
  constructor
  · intro y
    have := (bFc_rFc (l := l) (z := z) hb h0 (b := rFc l z p) (by omega) (by omega)).mpr rfl
    rw [this]; exact y
  · intro y
    have := (bFc_rFc (l := l) (z := z) hb h0 (b := bFc l z p) (by omega) (by omega)).mp rfl
    rw [this]; exact y
section OPS
variable {sp : Nat → List iV → iH → Option (Option iV × iH)} {sc : List Int} {d : Nat} {A A' : iA} {Q : Option iV → iH → Prop} {h : iH} {X : iVal} {D : Nat} {l nu nu2 : List Int} {z i x p p2 : Int}
theorem sRd_at : (A.sRd p nu).mo.at_ = p := rfl
theorem sRd_nu : (A.sRd p nu).mo.nu = nu := rfl
theorem sRd_sRd : (A.sRd p nu).sRd p2 nu2 = A.sRd p2 nu2 := rfl
theorem back_Rd {L : List (Option iV)} {rest : List iV} : back (hp (A.sRd p nu)) (hp (A.sRd p2 nu2)) L rest = True := back_hp rfl (Nat.le_refl _)
theorem wr_Rn : ((hp (A.sRd p nu)).1.set 146 (.inr (.inl (0, nu2))), (A.sRd p nu).mc) = hp (A.sRd p nu2) := wr_o_nu
theorem wr_Ra : ((hp (A.sRd p nu)).1.set (138) (.inl (12, [.inr (.inr (139 + 2)), .inr (.inr (140 + 2)), .inr (.inr (141 + 2)), .inr (.inr (142 + 2)), .inl (A.sRd p nu).mo.hi, .inr (.inr (143 + 2)), .inr (.inr (144 + 2)), .inr (.inr (145 + 2)), .inl (A.sRd p nu).mo.dn, .inl (A.sRd p nu).mo.sm, .inl (A.sRd p nu).mo.sf, .inl (A.sRd p nu).mo.go, .inl p2, .inl (A.sRd p nu).mo.ra, .inl (A.sRd p nu).mo.re, .inr (.inr (146 + 2)), .inl (A.sRd p nu).mo.bd, .inl (A.sRd p nu).mo.bg, .inr (.inr (147 + 2)), .inr (.inr (148 + 2)), .inr (.inr (149 + 2)), .inl (A.sRd p nu).mo.st, .inl (A.sRd p nu).mo.ml, .inr (.inr (150 + 2)), .inr (.inr (151 + 2)), .inl (A.sRd p nu).mo.se, .inr (.inr (152 + 2)), .inr (.inr (153 + 2)), .inr (.inr (154 + 2)), .inr (.inr (155 + 2)), .inr (.inr (156 + 2)), .inr (.inr (157 + 2)), .inl (A.sRd p nu).mo.tn])), (A.sRd p nu).mc) = hp (A.sRd p2 nu) := wr_o
theorem rn_loop (hH : okR A l z) (hb : okB l z) {n L : Nat} (hn : n < 4) (hL : L ≤ 2) : ∀ (q k : Nat) (p a : Int) (nu : List Int), k + q = L → 0 ≤ p → p + q ≤ 200 → nu.length = 4 → nu.getD n 0 = a → 0 ≤ a → a ≤ 99 → (1 ≤ q → a ≤ 9) → (2 ≤ q → a = 0) → ∃ (nu' : List Int) (r : Int), nu'.length = 4 ∧ (∀ j, ¬ j = n → nu'.getD j 0 = nu.getD j 0) ∧ ((ndF l z q p = p + q ∧ r = 1 ∧ nu'.getD n 0 = vlF l z q p a) ∨ (¬ ndF l z q p = p + q ∧ r = 0)) ∧ ∀ Q, Q (some (.inl r)) (hp (A.sRd (ndF l z q p) nu')) → Run sp sc (d + 1) mX12_readsNumber 9 [some (.inr (.inr 140)), some (.inl (n : Int)), some (.inl (L : Int)), some (.inl (k : Int))] [] (hp (A.sRd p nu)) Q := by
  intro q
  induction q with
  | zero =>
    intro k p a nu hk h0 h1 ln ha a0 a1 a2 a3
    refine ⟨nu, 1, ln, fun _ _ => rfl, Or.inl ⟨by unfold ndF; omega, rfl, ha⟩, fun Q hQ => ?_⟩
    have e1 : (L : Int) ≤ (k : Int) := by omega
    refine G_run (B := [9]) 60 _ _ _ _ ?_
    simp (disch := first | assumption | rfl | exact inI_of (by omega) (by omega) | omega | decide | (simp only [sv_ext, sv_mc, Nat.le_refl]; done) | with_unfolding_all (refine @id _ ?_; first | exact Eq.refl _ | exact Nat.le_refl _ | assumption)) only [Nat.reduceAdd, Nat.reduceMul, Nat.reduceLeDiff, Nat.reduceLT, Int.reduceAdd, Int.reduceSub, Int.reduceMul, Int.reduceNeg, Int.reduceLE, Int.reduceLT, Int.reduceToNat, Int.reduceEq, reduceCtorEq, ld_z, ld_s, st1_0, st1_1, st1_s, st2_0, st2_1, st2_s, isJ_i, isJ_r, isJ_n, isJ_l, cs_nil, cs_i, cs_r, cs_l, kF, List.getElem?_cons_succ, List.getElem?_cons_zero, List.set_cons_zero, List.set_cons_succ, GC_s, GC_n, GK_nil, GK_no, GK_yes, not_false_eq_true, back_eq, back_hp, inI_eq, inA_eq, true_and, and_true, and_self, if_true, if_false, bI_0, bI_1, bI_in, bI_T, bI_F, fitF, jmpF, nlF, pjA, iVal.eta, iYr.eta, List.getElem?_toArray, List.length_cons, List.length_nil, true_or, or_true, or_false, false_or, Classical.not_not, Bool.false_eq_true, hp_2, Nat.zero_le, Nat.le_refl, Option.some.injEq, Sum.inl.injEq, Sum.inr.injEq, not_true_eq_false, true_implies, false_implies, implies_true, Int.le_refl, gX12_readsNumber, rd_o, e1]
    exact hQ
  | succ q ih =>
    intro k p a nu hk h0 h1 ln ha a0 a1 a2 a3
    have e1 : ¬ (L : Int) ≤ (k : Int) := by omega
    have hh := fun Q nu => hH sp sc d p nu Q h0 (by omega)
    have rb := rFc_b hb h0
    have ir : inI (rFc l z p) = true := inI_of (by omega) (by omega)
    by_cases c : 48 ≤ bFc l z p ∧ bFc l z p ≤ 57
    · have c2 := (rdg_iff hb h0).mpr c
      have er := (bFc_rFc (l := l) (z := z) hb h0 (b := bFc l z p) (by omega) (by omega)).mp rfl
      rw [er] at hh ir c2
      have ln2 : (nu.set n (10 * a + bFc l z p - 48)).length = 4 := by rw [List.length_set]; exact ln
      obtain ⟨nu', r, g1, g2, g3, g4⟩ := ih (k + 1) (p + 1) (10 * a + bFc l z p - 48) (nu.set n (10 * a + bFc l z p - 48)) (by omega) (by omega) (by omega) ln2 (by rw [gsq (by omega), if_pos rfl]) (by omega) (by have := a2 (by omega); omega) (fun y => by have := a3 (by omega); omega) (fun y => by omega)
      have en : ndF l z (q + 1) p = ndF l z q (p + 1) := by rw [ndF, if_pos c]
      refine ⟨nu', r, g1, fun j hj => by rw [g2 j hj, gsq (by omega), if_neg (fun y => hj y.symm)], ?_, fun Q hQ => ?_⟩
      · rw [en]
        rcases g3 with y | y
        · left; exact ⟨by have := y.1; omega, y.2.1, y.2.2⟩
        · right; exact ⟨by have := y.1; omega, y.2⟩
      · rw [en] at hQ
        have g4 := g4 Q hQ
        have e4 : (k : Int) + 1 = ((k + 1 : Nat) : Int) := by omega
        have e5 : ((n : Nat) : Int).toNat = n := by omega
        have iv : inI (10 * a + bFc l z p - 48) = true := by
          have := a2 (by omega)
          exact inI_of (by omega) (by omega)
        have hi : ∀ Q nu, Call sp sc d mX12_isIn [.inl (bFc l z p), .inl 48, .inl 57] (hp (A.sRd p nu)) Q = Q (some (.inl 1)) (hp (A.sRd p nu)) := fun Q nu => by rw [isIn_eq ir rfl rfl, bI_t c2]
        refine G_run (B := [9]) 60 _ _ _ _ ?_
        simp (disch := first | assumption | rfl | exact inI_of (by omega) (by omega) | omega | decide | (simp only [sv_ext, sv_mc, Nat.le_refl]; done) | with_unfolding_all (refine @id _ ?_; first | exact Eq.refl _ | exact Nat.le_refl _ | assumption)) only [Nat.reduceAdd, Nat.reduceMul, Nat.reduceLeDiff, Nat.reduceLT, Int.reduceAdd, Int.reduceSub, Int.reduceMul, Int.reduceNeg, Int.reduceLE, Int.reduceLT, Int.reduceToNat, Int.reduceEq, reduceCtorEq, ld_z, ld_s, st1_0, st1_1, st1_s, st2_0, st2_1, st2_s, isJ_i, isJ_r, isJ_n, isJ_l, cs_nil, cs_i, cs_r, cs_l, kF, List.getElem?_cons_succ, List.getElem?_cons_zero, List.set_cons_zero, List.set_cons_succ, GC_s, GC_n, GK_nil, GK_no, GK_yes, not_false_eq_true, back_eq, back_hp, inI_eq, inA_eq, true_and, and_true, and_self, if_true, if_false, bI_0, bI_1, bI_in, bI_T, bI_F, fitF, jmpF, nlF, pjA, iVal.eta, iYr.eta, List.getElem?_toArray, List.length_cons, List.length_nil, true_or, or_true, or_false, false_or, Classical.not_not, Bool.false_eq_true, hp_2, Nat.zero_le, Nat.le_refl, Option.some.injEq, Sum.inl.injEq, Sum.inr.injEq, not_true_eq_false, true_implies, false_implies, implies_true, Int.le_refl, gX12_readsNumber, rd_o, rd_o_nu, sRd_at, sRd_nu, ln, ha, e1, e4, e5, hh, hi, iv, back_Rd, wr_Rn, wr_Ra]
        exact g4
    · have en : ndF l z (q + 1) p = p := by rw [ndF, if_neg c]
      have c2 : ¬ (48 ≤ rFc l z p ∧ rFc l z p ≤ 57) := fun y => c ((rdg_iff hb h0).mp y)
      refine ⟨nu, 0, ln, fun _ _ => rfl, Or.inr ⟨by rw [en]; omega, rfl⟩, fun Q hQ => ?_⟩
      rw [en] at hQ
      have hi : ∀ Q nu, Call sp sc d mX12_isIn [.inl (rFc l z p), .inl 48, .inl 57] (hp (A.sRd p nu)) Q = Q (some (.inl 0)) (hp (A.sRd p nu)) := fun Q nu => by rw [isIn_eq ir rfl rfl, bI_f c2]
      refine G_run (B := [9]) 60 _ _ _ _ ?_
      simp (disch := first | assumption | rfl | exact inI_of (by omega) (by omega) | omega | decide | (simp only [sv_ext, sv_mc, Nat.le_refl]; done) | with_unfolding_all (refine @id _ ?_; first | exact Eq.refl _ | exact Nat.le_refl _ | assumption)) only [Nat.reduceAdd, Nat.reduceMul, Nat.reduceLeDiff, Nat.reduceLT, Int.reduceAdd, Int.reduceSub, Int.reduceMul, Int.reduceNeg, Int.reduceLE, Int.reduceLT, Int.reduceToNat, Int.reduceEq, reduceCtorEq, ld_z, ld_s, st1_0, st1_1, st1_s, st2_0, st2_1, st2_s, isJ_i, isJ_r, isJ_n, isJ_l, cs_nil, cs_i, cs_r, cs_l, kF, List.getElem?_cons_succ, List.getElem?_cons_zero, List.set_cons_zero, List.set_cons_succ, GC_s, GC_n, GK_nil, GK_no, GK_yes, not_false_eq_true, back_eq, back_hp, inI_eq, inA_eq, true_and, and_true, and_self, if_true, if_false, bI_0, bI_1, bI_in, bI_T, bI_F, fitF, jmpF, nlF, pjA, iVal.eta, iYr.eta, List.getElem?_toArray, List.length_cons, List.length_nil, true_or, or_true, or_false, false_or, Classical.not_not, Bool.false_eq_true, hp_2, Nat.zero_le, Nat.le_refl, Option.some.injEq, Sum.inl.injEq, Sum.inr.injEq, not_true_eq_false, true_implies, false_implies, implies_true, Int.le_refl, gX12_readsNumber, rd_o, e1, hh, hi, back_Rd]
      exact hQ
theorem readsNumber_eq (hH : okR A l z) (hb : okB l z) {n L : Nat} (hn : n < 4) (hL : L ≤ 2) (h0 : 0 ≤ p) (h1 : p ≤ 190) (ln : nu.length = 4) : ∃ (nu' : List Int) (r : Int), nu'.length = 4 ∧ (∀ j, ¬ j = n → nu'.getD j 0 = nu.getD j 0) ∧ ((ndF l z L p = p + L ∧ r = 1 ∧ nu'.getD n 0 = vlF l z L p 0) ∨ (¬ ndF l z L p = p + L ∧ r = 0)) ∧ ∀ Q, Call sp sc (d + 1) mX12_readsNumber [.inr (.inr 140), .inl (n : Int), .inl (L : Int)] (hp (A.sRd p nu)) Q = Q (some (.inl r)) (hp (A.sRd (ndF l z L p) nu')) := by
  have ln2 : (nu.set n 0).length = 4 := by rw [List.length_set]; exact ln
  obtain ⟨nu', r, g1, g2, g3, g4⟩ := @rn_loop sp sc d A l z hH hb n L hn hL L 0 p 0 (nu.set n 0) (by omega) h0 (by omega) ln2 (by rw [gsq (by omega), if_pos rfl]) (by omega) (by omega) (fun _ => by omega) (fun _ => rfl)
  refine ⟨nu', r, g1, fun j hj => by rw [g2 j hj, gsq (by omega), if_neg (fun y => hj y.symm)], g3, fun Q => Call_eq ?_⟩
  have e5 : ((n : Nat) : Int).toNat = n := by omega
  apply eX12_readsNumber 40
  simp (disch := first | assumption | rfl | exact inI_of (by omega) (by omega) | omega | decide | (simp only [sv_ext, sv_mc, Nat.le_refl]; done) | with_unfolding_all (refine @id _ ?_; first | exact Eq.refl _ | exact Nat.le_refl _ | assumption)) only [Nat.reduceAdd, Nat.reduceMul, Nat.reduceLeDiff, Nat.reduceLT, Int.reduceAdd, Int.reduceSub, Int.reduceMul, Int.reduceNeg, Int.reduceLE, Int.reduceLT, Int.reduceToNat, Int.reduceEq, reduceCtorEq, ld_z, ld_s, st1_0, st1_1, st1_s, st2_0, st2_1, st2_s, isJ_i, isJ_r, isJ_n, isJ_l, cs_nil, cs_i, cs_r, cs_l, kF, List.getElem?_cons_succ, List.getElem?_cons_zero, List.set_cons_zero, List.set_cons_succ, GC_s, GC_n, GK_nil, GK_no, GK_yes, not_false_eq_true, back_eq, back_hp, inI_eq, inA_eq, true_and, and_true, and_self, if_true, if_false, bI_0, bI_1, bI_in, bI_T, bI_F, fitF, jmpF, nlF, pjA, iVal.eta, iYr.eta, List.getElem?_toArray, List.length_cons, List.length_nil, true_or, or_true, or_false, false_or, Classical.not_not, Bool.false_eq_true, hp_2, Nat.zero_le, Nat.le_refl, Option.some.injEq, Sum.inl.injEq, Sum.inr.injEq, not_true_eq_false, true_implies, false_implies, implies_true, Int.le_refl, gX12_readsNumber, rd_o, rd_o_nu, sRd_nu, ln, e5, wr_Rn]
  exact g4 _ ⟨rfl, rfl⟩
end OPS
