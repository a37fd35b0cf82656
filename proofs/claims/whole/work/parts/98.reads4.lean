set_option maxRecDepth 16384
/-! ===== valley: a statement is read, the reference: any byte ===== -/
theorem dbF_let {b : Int} (h : ¬ dbF b = -1) : b = 108 ∨ b = 100 ∨ (b = 97 ∨ b = 99 ∨ b = 109 ∨ b = 119) ∨ (b = 115 ∨ b = 121) := by
  unfold dbF at h
  by_cases c1 : b = 108
  · exact Or.inl c1
  · rw [if_neg c1] at h
    by_cases c2 : b = 100
    · exact Or.inr (Or.inl c2)
    · rw [if_neg c2] at h
      by_cases c3 : b = 97 ∨ b = 99 ∨ b = 109 ∨ b = 115 ∨ b = 119 ∨ b = 121
      · omega
      · rw [if_neg c3] at h; exact absurd rfl h
theorem dbF_non {b : Int} (h : dbF b = -1) : ¬ (b = 97 ∨ b = 99 ∨ b = 100 ∨ b = 108 ∨ b = 109 ∨ b = 115 ∨ b = 119 ∨ b = 121) := by
  intro y
  rcases y with y | y | y | y | y | y | y | y <;> rw [y] at h <;> exact absurd h (by decide)
section OPS
variable {sp : Nat → List iV → iH → Option (Option iV × iH)} {sc : List Int} {d : Nat} {A A' : iA} {Q : Option iV → iH → Prop} {h : iH} {X : iVal} {D : Nat} {l nu nu2 : List Int} {z i x p p2 : Int}
theorem rs_none (hH : okR A l z) (hb : okB l z) (h0 : 0 ≤ p) (h1 : p ≤ 150) (hk : dbF (bFc l z p) = -1) : ∀ Q, Call sp sc (d + 2) mX12_readsStatement [.inr (.inr 140)] (hp (A.sRd p nu)) Q = Q (some (.inl (rdR l z p))) (hp (A.sRd (rdP l z p) nu)) := by
  have es := stm_no hk (by omega)
  have eR : rdR l z p = 0 := by unfold rdR; rw [if_neg (by omega)]
  have eP : rdP l z p = p := by unfold rdP; rw [if_neg (by omega), es]
  rw [eR, eP]
  have hh := fun Q nu => hH sp sc (d + 1) p nu Q h0 (by omega)
  have rb := rFc_b hb h0
  have ir : inI (rFc l z p) = true := inI_of (by omega) (by omega)
  have ep : p + 1 - 1 = p := by omega
  intro Q
  refine Call_eq ?_
  apply eX12_readsStatement 60
  by_cases c : rFc l z p < 97 ∨ 121 < rFc l z p
  · simp (disch := first | assumption | rfl | exact inI_of (by omega) (by omega) | omega | decide | (simp only [sv_ext, sv_mc, Nat.le_refl]; done) | with_unfolding_all (refine @id _ ?_; first | exact Eq.refl _ | exact Nat.le_refl _ | assumption)) only [Nat.reduceAdd, Nat.reduceMul, Nat.reduceLeDiff, Nat.reduceLT, Int.reduceAdd, Int.reduceSub, Int.reduceMul, Int.reduceNeg, Int.reduceLE, Int.reduceLT, Int.reduceToNat, Int.reduceEq, reduceCtorEq, ld_z, ld_s, st1_0, st1_1, st1_s, st2_0, st2_1, st2_s, isJ_i, isJ_r, isJ_n, isJ_l, cs_nil, cs_i, cs_r, cs_l, kF, List.getElem?_cons_succ, List.getElem?_cons_zero, List.set_cons_zero, List.set_cons_succ, GC_s, GC_n, GK_nil, GK_no, GK_yes, not_false_eq_true, back_eq, back_hp, inI_eq, inA_eq, true_and, and_true, and_self, if_true, if_false, bI_0, bI_1, bI_in, bI_T, bI_F, fitF, jmpF, nlF, pjA, iVal.eta, iYr.eta, List.getElem?_toArray, List.length_cons, List.length_nil, true_or, or_true, or_false, false_or, Classical.not_not, Bool.false_eq_true, hp_2, Nat.zero_le, Nat.le_refl, Option.some.injEq, Sum.inl.injEq, Sum.inr.injEq, not_true_eq_false, true_implies, false_implies, implies_true, Int.le_refl, gX12_readsStatement, rd_o, sRd_at, hh, c, ir, ep, back_Rd, wr_Ra]
  · have e := (bFc_rFc (l := l) (z := z) hb h0 (b := rFc l z p) (by omega) (by omega)).mpr rfl
    rw [e] at hk
    have nn := dbF_non hk
    have : rFc l z p = 98 ∨ rFc l z p = 101 ∨ rFc l z p = 102 ∨ rFc l z p = 103 ∨ rFc l z p = 104 ∨ rFc l z p = 105 ∨ rFc l z p = 106 ∨ rFc l z p = 107 ∨ rFc l z p = 110 ∨ rFc l z p = 111 ∨ rFc l z p = 112 ∨ rFc l z p = 113 ∨ rFc l z p = 114 ∨ rFc l z p = 116 ∨ rFc l z p = 117 ∨ rFc l z p = 118 ∨ rFc l z p = 120 := by omega
    rcases this with y | y | y | y | y | y | y | y | y | y | y | y | y | y | y | y | y <;> rw [y] at hh <;> simp (disch := first | assumption | rfl | exact inI_of (by omega) (by omega) | omega | decide | (simp only [sv_ext, sv_mc, Nat.le_refl]; done) | with_unfolding_all (refine @id _ ?_; first | exact Eq.refl _ | exact Nat.le_refl _ | assumption)) only [Nat.reduceAdd, Nat.reduceMul, Nat.reduceLeDiff, Nat.reduceLT, Int.reduceAdd, Int.reduceSub, Int.reduceMul, Int.reduceNeg, Int.reduceLE, Int.reduceLT, Int.reduceToNat, Int.reduceEq, reduceCtorEq, ld_z, ld_s, st1_0, st1_1, st1_s, st2_0, st2_1, st2_s, isJ_i, isJ_r, isJ_n, isJ_l, cs_nil, cs_i, cs_r, cs_l, kF, List.getElem?_cons_succ, List.getElem?_cons_zero, List.set_cons_zero, List.set_cons_succ, GC_s, GC_n, GK_nil, GK_no, GK_yes, not_false_eq_true, back_eq, back_hp, inI_eq, inA_eq, true_and, and_true, and_self, if_true, if_false, bI_0, bI_1, bI_in, bI_T, bI_F, fitF, jmpF, nlF, pjA, iVal.eta, iYr.eta, List.getElem?_toArray, List.length_cons, List.length_nil, true_or, or_true, or_false, false_or, Classical.not_not, Bool.false_eq_true, hp_2, Nat.zero_le, Nat.le_refl, Option.some.injEq, Sum.inl.injEq, Sum.inr.injEq, not_true_eq_false, true_implies, false_implies, implies_true, Int.le_refl, gX12_readsStatement, rd_o, sRd_at, hh, ep, back_Rd, wr_Ra]
theorem rs_all (hH : okR A l z) (hb : okB l z) (h0 : 0 ≤ p) (h1 : p ≤ 150) (ln : nu.length = 4) : ∃ nu' : List Int, nu'.length = 4 ∧ ∀ Q, Call sp sc (d + 2) mX12_readsStatement [.inr (.inr 140)] (hp (A.sRd p nu)) Q = Q (some (.inl (rdR l z p))) (hp (A.sRd (rdP l z p) nu')) := by
  by_cases c : dbF (bFc l z p) = -1
  · exact ⟨nu, ln, rs_none hH hb h0 h1 c⟩
  · rcases dbF_let c with y | y | y | y
    · obtain ⟨nu', a, _, b⟩ := @rs_like sp sc d A l nu z p hH hb h0 h1 ln y
      exact ⟨nu', a, b⟩
    · obtain ⟨nu', a, _, b⟩ := @rs_dep sp sc d A l nu z p hH hb h0 h1 ln y
      exact ⟨nu', a, b⟩
    · obtain ⟨nu', a, _, b⟩ := @rs_two sp sc d A l nu z p hH hb h0 h1 ln y
      exact ⟨nu', a, b⟩
    · obtain ⟨nu', a, _, b⟩ := @rs_day sp sc d A l nu z p hH hb h0 h1 ln y
      exact ⟨nu', a, b⟩
theorem okR_of (hr : A.mo.ra = 100 * (D : Int)) (hz : A.mo.re = z) (z0 : 0 ≤ z ∧ z ≤ 100) (hd : D < 8) (le : A.mo.el.length = 800) (hx : ∀ i : Int, 0 ≤ i → i < z → A.mo.el.getD (100 * (D : Int) + i).toNat 0 = l.getD i.toNat 0) (hb : okB l z) : okR A l z := by
  intro sp sc d p nu Q h0 h1
  subst hz
  exact @here_eq sp sc d (A.sRd p nu) Q D l h0 h1 ⟨z0.2, z0.1⟩ hr hd le hx hb
end OPS
