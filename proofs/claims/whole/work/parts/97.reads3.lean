set_option maxRecDepth 16384
/-! ===== valley: a statement is read, the reference: the other letters (laid by gen_reads.py) ===== -/
section OPS
variable {sp : Nat → List iV → iH → Option (Option iV × iH)} {sc : List Int} {d : Nat} {A A' : iA} {Q : Option iV → iH → Prop} {h : iH} {X : iVal} {D : Nat} {l nu nu2 : List Int} {z i x p p2 : Int}
theorem rs_day (hH : okR A l z) (hb : okB l z) (h0 : 0 ≤ p) (h1 : p ≤ 150) (ln : nu.length = 4) (hl : bFc l z p = 115 ∨ bFc l z p = 121) : ∃ nu' : List Int, nu'.length = 4 ∧ (stmF l z p = -1 → nu'.getD 0 0 = 10 * (bFc l z (p + 1) - 48) + (bFc l z (p + 1 + 1) - 48)) ∧ ∀ Q, Call sp sc (d + 2) mX12_readsStatement [.inr (.inr 140)] (hp (A.sRd p nu)) Q = Q (some (.inl (rdR l z p))) (hp (A.sRd (rdP l z p) nu')) := by
  have er := (bFc_rFc (l := l) (z := z) hb h0 (b := bFc l z p) (by omega) (by omega)).mp rfl
  have hh := fun Q nu => hH sp sc (d + 1) p nu Q h0 (by omega)
  rw [er] at hh
  have hk : dbF (bFc l z p) = 2 := by rcases hl with y | y <;> rw [y] <;> rfl
  have k0 : ¬ (2 : Int) < 0 := by omega
  have c1 : ((1 : Nat) : Int) = 1 := rfl
  have c2 : ((2 : Nat) : Int) = 2 := rfl
  have run : ∀ (r : Int) (T : iA), (∀ Q, Q (some (.inl r)) (hp T) → G sp sc [] (d + 2) mX12_readsStatement 60 0 [some (.inr (.inr 140)), none, none] [] (hp (A.sRd p nu)) Q) → ∀ Q, Call sp sc (d + 2) mX12_readsStatement [.inr (.inr 140)] (hp (A.sRd p nu)) Q = Q (some (.inl r)) (hp T) := fun r T hr Q => Call_eq (by
    apply eX12_readsStatement 60
    exact hr _ ⟨rfl, rfl⟩)
  have n0 : ndF l z 2 (p + 1) = ndF l z 2 (p + 1) := rfl
  obtain ⟨nu1, r0, a01, a02, a03, a04⟩ := @readsNumber_eq sp sc d A l nu z (p + 1) hH hb 0 2 (by omega) (by omega) (by omega) (by omega) ln
  have a04 : ∀ Q, Call sp sc (d + 1) mX12_readsNumber [.inr (.inr 140), .inl 0, .inl 2] (hp (A.sRd (p + 1) nu)) Q = Q (some (.inl r0)) (hp (A.sRd (ndF l z 2 (p + 1)) nu1)) := a04
  rw [c2] at a03
  rcases a03 with a03 | a03
  · have q0 := a03.1
    rw [q0, a03.2.1] at a04
    have n1 := n0.trans q0
    have h3 := fun Q nu => hH sp sc (d + 1) (p + 1 + 2) nu Q (by omega) (by omega)
    have i3 := bFc_rFc (l := l) (z := z) (i := p + 1 + 2) hb (by omega) (b := 59) (by omega) (by omega)
    have rb := rFc_b (l := l) (z := z) hb (p := p + 1 + 2) (by omega)
    have ir : inI (rFc l z (p + 1 + 2)) = true := inI_of (by omega) (by omega)
    by_cases c : bFc l z (p + 1 + 2) = 59
    · have c2 := i3.mp c
      have es := stm_ok hk k0 n1 c
      have eR : rdR l z p = 1 := by unfold rdR; rw [if_pos es]
      have eP : rdP l z p = p + 1 + 2 + 1 := by unfold rdP; rw [if_pos es, hk]; omega
      rw [eR, eP]
      refine ⟨nu1, a01, fun _ => by rw [a03.2.2, vl2], run _ _ (fun Q hQ => ?_)⟩
      rcases hl with y | y <;> rw [y] at hh <;> simp (disch := first | assumption | rfl | exact inI_of (by omega) (by omega) | omega | decide | (simp only [sv_ext, sv_mc, Nat.le_refl]; done) | with_unfolding_all (refine @id _ ?_; first | exact Eq.refl _ | exact Nat.le_refl _ | assumption)) only [Nat.reduceAdd, Nat.reduceMul, Nat.reduceLeDiff, Nat.reduceLT, Int.reduceAdd, Int.reduceSub, Int.reduceMul, Int.reduceNeg, Int.reduceLE, Int.reduceLT, Int.reduceToNat, Int.reduceEq, reduceCtorEq, ld_z, ld_s, st1_0, st1_1, st1_s, st2_0, st2_1, st2_s, isJ_i, isJ_r, isJ_n, isJ_l, cs_nil, cs_i, cs_r, cs_l, kF, List.getElem?_cons_succ, List.getElem?_cons_zero, List.set_cons_zero, List.set_cons_succ, GC_s, GC_n, GK_nil, GK_no, GK_yes, not_false_eq_true, back_eq, back_hp, inI_eq, inA_eq, true_and, and_true, and_self, if_true, if_false, bI_0, bI_1, bI_in, bI_T, bI_F, fitF, jmpF, nlF, pjA, iVal.eta, iYr.eta, List.getElem?_toArray, List.length_cons, List.length_nil, true_or, or_true, or_false, false_or, Classical.not_not, Bool.false_eq_true, hp_2, Nat.zero_le, Nat.le_refl, Option.some.injEq, Sum.inl.injEq, Sum.inr.injEq, not_true_eq_false, true_implies, false_implies, implies_true, Int.le_refl, gX12_readsStatement, rd_o, sRd_at, hh, a04, h3, eq_true c2, ir, back_Rd, wr_Ra] <;> exact hQ
    · have c2 : ¬ rFc l z (p + 1 + 2) = 59 := fun y => c (i3.mpr y)
      have es := stm_bad hk k0 (fun y => c y.2)
      rw [show ndF l z (2 : Int).toNat (p + 1) = p + 1 + 2 from n1] at es
      have eR : rdR l z p = 0 := by unfold rdR; rw [if_neg (by omega)]
      have eP : rdP l z p = p + 1 + 2 := by unfold rdP; rw [if_neg (by omega), es]
      rw [eR, eP]
      refine ⟨nu1, a01, fun y => absurd y (by omega), run _ _ (fun Q hQ => ?_)⟩
      rcases hl with y | y <;> rw [y] at hh <;> simp (disch := first | assumption | rfl | exact inI_of (by omega) (by omega) | omega | decide | (simp only [sv_ext, sv_mc, Nat.le_refl]; done) | with_unfolding_all (refine @id _ ?_; first | exact Eq.refl _ | exact Nat.le_refl _ | assumption)) only [Nat.reduceAdd, Nat.reduceMul, Nat.reduceLeDiff, Nat.reduceLT, Int.reduceAdd, Int.reduceSub, Int.reduceMul, Int.reduceNeg, Int.reduceLE, Int.reduceLT, Int.reduceToNat, Int.reduceEq, reduceCtorEq, ld_z, ld_s, st1_0, st1_1, st1_s, st2_0, st2_1, st2_s, isJ_i, isJ_r, isJ_n, isJ_l, cs_nil, cs_i, cs_r, cs_l, kF, List.getElem?_cons_succ, List.getElem?_cons_zero, List.set_cons_zero, List.set_cons_succ, GC_s, GC_n, GK_nil, GK_no, GK_yes, not_false_eq_true, back_eq, back_hp, inI_eq, inA_eq, true_and, and_true, and_self, if_true, if_false, bI_0, bI_1, bI_in, bI_T, bI_F, fitF, jmpF, nlF, pjA, iVal.eta, iYr.eta, List.getElem?_toArray, List.length_cons, List.length_nil, true_or, or_true, or_false, false_or, Classical.not_not, Bool.false_eq_true, hp_2, Nat.zero_le, Nat.le_refl, Option.some.injEq, Sum.inl.injEq, Sum.inr.injEq, not_true_eq_false, true_implies, false_implies, implies_true, Int.le_refl, gX12_readsStatement, rd_o, sRd_at, hh, a04, h3, c2, ir, back_Rd, wr_Ra] <;> exact hQ
  · have nb := @ndF_b l z 2 (p + 1)
    have qf := a03.1
    rw [a03.2] at a04
    have n2 : ndF l z 2 (p + 1) = ndF l z 2 (p + 1) := n0
    have e0 : 0 ≤ ndF l z 2 (p + 1) ∧ ¬ ndF l z 2 (p + 1) = p + 1 + 2 := by omega
    have es := stm_bad hk k0 (fun y => e0.2 (n2.symm.trans y.1))
    rw [show ndF l z (2 : Int).toNat (p + 1) = ndF l z 2 (p + 1) from n2] at es
    have eR : rdR l z p = 0 := by unfold rdR; rw [if_neg (by omega)]
    have eP : rdP l z p = ndF l z 2 (p + 1) := by unfold rdP; rw [if_neg (by omega), es]
    rw [eR, eP]
    refine ⟨nu1, a01, fun y => absurd y (by omega), run _ _ (fun Q hQ => ?_)⟩
    rcases hl with y | y <;> rw [y] at hh <;> simp (disch := first | assumption | rfl | exact inI_of (by omega) (by omega) | omega | decide | (simp only [sv_ext, sv_mc, Nat.le_refl]; done) | with_unfolding_all (refine @id _ ?_; first | exact Eq.refl _ | exact Nat.le_refl _ | assumption)) only [Nat.reduceAdd, Nat.reduceMul, Nat.reduceLeDiff, Nat.reduceLT, Int.reduceAdd, Int.reduceSub, Int.reduceMul, Int.reduceNeg, Int.reduceLE, Int.reduceLT, Int.reduceToNat, Int.reduceEq, reduceCtorEq, ld_z, ld_s, st1_0, st1_1, st1_s, st2_0, st2_1, st2_s, isJ_i, isJ_r, isJ_n, isJ_l, cs_nil, cs_i, cs_r, cs_l, kF, List.getElem?_cons_succ, List.getElem?_cons_zero, List.set_cons_zero, List.set_cons_succ, GC_s, GC_n, GK_nil, GK_no, GK_yes, not_false_eq_true, back_eq, back_hp, inI_eq, inA_eq, true_and, and_true, and_self, if_true, if_false, bI_0, bI_1, bI_in, bI_T, bI_F, fitF, jmpF, nlF, pjA, iVal.eta, iYr.eta, List.getElem?_toArray, List.length_cons, List.length_nil, true_or, or_true, or_false, false_or, Classical.not_not, Bool.false_eq_true, hp_2, Nat.zero_le, Nat.le_refl, Option.some.injEq, Sum.inl.injEq, Sum.inr.injEq, not_true_eq_false, true_implies, false_implies, implies_true, Int.le_refl, gX12_readsStatement, rd_o, sRd_at, hh, a04, back_Rd, wr_Ra] <;> exact hQ
theorem rs_dep (hH : okR A l z) (hb : okB l z) (h0 : 0 ≤ p) (h1 : p ≤ 150) (ln : nu.length = 4) (hl : bFc l z p = 100) : ∃ nu' : List Int, nu'.length = 4 ∧ (stmF l z p = -1 → nu'.getD 0 0 = bFc l z (p + 1) - 48 ∧ nu'.getD 1 0 = bFc l z (p + 1 + 1) - 48 ∧ nu'.getD 2 0 = bFc l z (p + 1 + 2) - 48) ∧ ∀ Q, Call sp sc (d + 2) mX12_readsStatement [.inr (.inr 140)] (hp (A.sRd p nu)) Q = Q (some (.inl (rdR l z p))) (hp (A.sRd (rdP l z p) nu')) := by
  have er := (bFc_rFc (l := l) (z := z) hb h0 (b := bFc l z p) (by omega) (by omega)).mp rfl
  have hh := fun Q nu => hH sp sc (d + 1) p nu Q h0 (by omega)
  rw [er] at hh
  have hk : dbF (bFc l z p) = 3 := by rw [hl]; rfl
  have k0 : ¬ (3 : Int) < 0 := by omega
  have c1 : ((1 : Nat) : Int) = 1 := rfl
  have c2 : ((2 : Nat) : Int) = 2 := rfl
  have run : ∀ (r : Int) (T : iA), (∀ Q, Q (some (.inl r)) (hp T) → G sp sc [] (d + 2) mX12_readsStatement 60 0 [some (.inr (.inr 140)), none, none] [] (hp (A.sRd p nu)) Q) → ∀ Q, Call sp sc (d + 2) mX12_readsStatement [.inr (.inr 140)] (hp (A.sRd p nu)) Q = Q (some (.inl r)) (hp T) := fun r T hr Q => Call_eq (by
    apply eX12_readsStatement 60
    exact hr _ ⟨rfl, rfl⟩)
  have n0 : ndF l z 3 (p + 1) = ndF l z 3 (p + 1) := rfl
  obtain ⟨nu1, r0, a01, a02, a03, a04⟩ := @readsNumber_eq sp sc d A l nu z (p + 1) hH hb 0 1 (by omega) (by omega) (by omega) (by omega) ln
  have a04 : ∀ Q, Call sp sc (d + 1) mX12_readsNumber [.inr (.inr 140), .inl 0, .inl 1] (hp (A.sRd (p + 1) nu)) Q = Q (some (.inl r0)) (hp (A.sRd (ndF l z 1 (p + 1)) nu1)) := a04
  rw [c1] at a03
  rcases a03 with a03 | a03
  · have q0 := a03.1
    rw [q0, a03.2.1] at a04
    have n1 := n0.trans (nd_step a03.1 2)
    obtain ⟨nu2, r1, a11, a12, a13, a14⟩ := @readsNumber_eq sp sc d A l nu1 z (p + 1 + 1) hH hb 1 1 (by omega) (by omega) (by omega) (by omega) a01
    have a14 : ∀ Q, Call sp sc (d + 1) mX12_readsNumber [.inr (.inr 140), .inl 1, .inl 1] (hp (A.sRd (p + 1 + 1) nu1)) Q = Q (some (.inl r1)) (hp (A.sRd (ndF l z 1 (p + 1 + 1)) nu2)) := a14
    rw [c1] at a13
    rcases a13 with a13 | a13
    · have q1 := a13.1
      have e1 : p + 1 + 1 + 1 = p + 1 + 2 := by omega
      rw [e1] at q1
      rw [q1, a13.2.1] at a14
      have n2 := n1.trans (nd_step a13.1 1)
      rw [(show p + 1 + 1 + 1 = p + 1 + 2 by omega)] at n2
      obtain ⟨nu3, r2, a21, a22, a23, a24⟩ := @readsNumber_eq sp sc d A l nu2 z (p + 1 + 2) hH hb 2 1 (by omega) (by omega) (by omega) (by omega) a11
      have a24 : ∀ Q, Call sp sc (d + 1) mX12_readsNumber [.inr (.inr 140), .inl 2, .inl 1] (hp (A.sRd (p + 1 + 2) nu2)) Q = Q (some (.inl r2)) (hp (A.sRd (ndF l z 1 (p + 1 + 2)) nu3)) := a24
      rw [c1] at a23
      rcases a23 with a23 | a23
      · have q2 := a23.1
        have e2 : p + 1 + 2 + 1 = p + 1 + 3 := by omega
        rw [e2] at q2
        rw [q2, a23.2.1] at a24
        have n3 := n2.trans (nd_step a23.1 0)
        rw [(show p + 1 + 2 + 1 = p + 1 + 3 by omega)] at n3
        have n3 : ndF l z 3 (p + 1) = p + 1 + 3 := n3
        have h3 := fun Q nu => hH sp sc (d + 1) (p + 1 + 3) nu Q (by omega) (by omega)
        have i3 := bFc_rFc (l := l) (z := z) (i := p + 1 + 3) hb (by omega) (b := 59) (by omega) (by omega)
        have rb := rFc_b (l := l) (z := z) hb (p := p + 1 + 3) (by omega)
        have ir : inI (rFc l z (p + 1 + 3)) = true := inI_of (by omega) (by omega)
        by_cases c : bFc l z (p + 1 + 3) = 59
        · have c2 := i3.mp c
          have es := stm_ok hk k0 n3 c
          have eR : rdR l z p = 1 := by unfold rdR; rw [if_pos es]
          have eP : rdP l z p = p + 1 + 3 + 1 := by unfold rdP; rw [if_pos es, hk]; omega
          rw [eR, eP]
          refine ⟨nu3, a21, fun _ => ⟨by rw [a22 0 (by omega), a12 0 (by omega), a03.2.2, vl1], by rw [a22 1 (by omega), a13.2.2, vl1], by rw [a23.2.2, vl1]⟩, run _ _ (fun Q hQ => ?_)⟩
          rw [hl] at hh; simp (disch := first | assumption | rfl | exact inI_of (by omega) (by omega) | omega | decide | (simp only [sv_ext, sv_mc, Nat.le_refl]; done) | with_unfolding_all (refine @id _ ?_; first | exact Eq.refl _ | exact Nat.le_refl _ | assumption)) only [Nat.reduceAdd, Nat.reduceMul, Nat.reduceLeDiff, Nat.reduceLT, Int.reduceAdd, Int.reduceSub, Int.reduceMul, Int.reduceNeg, Int.reduceLE, Int.reduceLT, Int.reduceToNat, Int.reduceEq, reduceCtorEq, ld_z, ld_s, st1_0, st1_1, st1_s, st2_0, st2_1, st2_s, isJ_i, isJ_r, isJ_n, isJ_l, cs_nil, cs_i, cs_r, cs_l, kF, List.getElem?_cons_succ, List.getElem?_cons_zero, List.set_cons_zero, List.set_cons_succ, GC_s, GC_n, GK_nil, GK_no, GK_yes, not_false_eq_true, back_eq, back_hp, inI_eq, inA_eq, true_and, and_true, and_self, if_true, if_false, bI_0, bI_1, bI_in, bI_T, bI_F, fitF, jmpF, nlF, pjA, iVal.eta, iYr.eta, List.getElem?_toArray, List.length_cons, List.length_nil, true_or, or_true, or_false, false_or, Classical.not_not, Bool.false_eq_true, hp_2, Nat.zero_le, Nat.le_refl, Option.some.injEq, Sum.inl.injEq, Sum.inr.injEq, not_true_eq_false, true_implies, false_implies, implies_true, Int.le_refl, gX12_readsStatement, rd_o, sRd_at, hh, a04, a14, a24, h3, eq_true c2, ir, back_Rd, wr_Ra]; exact hQ
        · have c2 : ¬ rFc l z (p + 1 + 3) = 59 := fun y => c (i3.mpr y)
          have es := stm_bad hk k0 (fun y => c y.2)
          rw [show ndF l z (3 : Int).toNat (p + 1) = p + 1 + 3 from n3] at es
          have eR : rdR l z p = 0 := by unfold rdR; rw [if_neg (by omega)]
          have eP : rdP l z p = p + 1 + 3 := by unfold rdP; rw [if_neg (by omega), es]
          rw [eR, eP]
          refine ⟨nu3, a21, fun y => absurd y (by omega), run _ _ (fun Q hQ => ?_)⟩
          rw [hl] at hh; simp (disch := first | assumption | rfl | exact inI_of (by omega) (by omega) | omega | decide | (simp only [sv_ext, sv_mc, Nat.le_refl]; done) | with_unfolding_all (refine @id _ ?_; first | exact Eq.refl _ | exact Nat.le_refl _ | assumption)) only [Nat.reduceAdd, Nat.reduceMul, Nat.reduceLeDiff, Nat.reduceLT, Int.reduceAdd, Int.reduceSub, Int.reduceMul, Int.reduceNeg, Int.reduceLE, Int.reduceLT, Int.reduceToNat, Int.reduceEq, reduceCtorEq, ld_z, ld_s, st1_0, st1_1, st1_s, st2_0, st2_1, st2_s, isJ_i, isJ_r, isJ_n, isJ_l, cs_nil, cs_i, cs_r, cs_l, kF, List.getElem?_cons_succ, List.getElem?_cons_zero, List.set_cons_zero, List.set_cons_succ, GC_s, GC_n, GK_nil, GK_no, GK_yes, not_false_eq_true, back_eq, back_hp, inI_eq, inA_eq, true_and, and_true, and_self, if_true, if_false, bI_0, bI_1, bI_in, bI_T, bI_F, fitF, jmpF, nlF, pjA, iVal.eta, iYr.eta, List.getElem?_toArray, List.length_cons, List.length_nil, true_or, or_true, or_false, false_or, Classical.not_not, Bool.false_eq_true, hp_2, Nat.zero_le, Nat.le_refl, Option.some.injEq, Sum.inl.injEq, Sum.inr.injEq, not_true_eq_false, true_implies, false_implies, implies_true, Int.le_refl, gX12_readsStatement, rd_o, sRd_at, hh, a04, a14, a24, h3, c2, ir, back_Rd, wr_Ra]; exact hQ
      · have nf := nd_fail a23.1 0
        rw [nf.2, a23.2] at a24
        have n2 : ndF l z 3 (p + 1) = p + 1 + 2 := n2.trans nf.1
        have e0 : 0 ≤ p + 1 + 2 ∧ ¬ p + 1 + 2 = p + 1 + 3 := by omega
        have es := stm_bad hk k0 (fun y => e0.2 (n2.symm.trans y.1))
        rw [show ndF l z (3 : Int).toNat (p + 1) = p + 1 + 2 from n2] at es
        have eR : rdR l z p = 0 := by unfold rdR; rw [if_neg (by omega)]
        have eP : rdP l z p = p + 1 + 2 := by unfold rdP; rw [if_neg (by omega), es]
        rw [eR, eP]
        refine ⟨nu3, a21, fun y => absurd y (by omega), run _ _ (fun Q hQ => ?_)⟩
        rw [hl] at hh; simp (disch := first | assumption | rfl | exact inI_of (by omega) (by omega) | omega | decide | (simp only [sv_ext, sv_mc, Nat.le_refl]; done) | with_unfolding_all (refine @id _ ?_; first | exact Eq.refl _ | exact Nat.le_refl _ | assumption)) only [Nat.reduceAdd, Nat.reduceMul, Nat.reduceLeDiff, Nat.reduceLT, Int.reduceAdd, Int.reduceSub, Int.reduceMul, Int.reduceNeg, Int.reduceLE, Int.reduceLT, Int.reduceToNat, Int.reduceEq, reduceCtorEq, ld_z, ld_s, st1_0, st1_1, st1_s, st2_0, st2_1, st2_s, isJ_i, isJ_r, isJ_n, isJ_l, cs_nil, cs_i, cs_r, cs_l, kF, List.getElem?_cons_succ, List.getElem?_cons_zero, List.set_cons_zero, List.set_cons_succ, GC_s, GC_n, GK_nil, GK_no, GK_yes, not_false_eq_true, back_eq, back_hp, inI_eq, inA_eq, true_and, and_true, and_self, if_true, if_false, bI_0, bI_1, bI_in, bI_T, bI_F, fitF, jmpF, nlF, pjA, iVal.eta, iYr.eta, List.getElem?_toArray, List.length_cons, List.length_nil, true_or, or_true, or_false, false_or, Classical.not_not, Bool.false_eq_true, hp_2, Nat.zero_le, Nat.le_refl, Option.some.injEq, Sum.inl.injEq, Sum.inr.injEq, not_true_eq_false, true_implies, false_implies, implies_true, Int.le_refl, gX12_readsStatement, rd_o, sRd_at, hh, a04, a14, a24, back_Rd, wr_Ra]; exact hQ
    · have nf := nd_fail a13.1 1
      rw [nf.2, a13.2] at a14
      have n2 : ndF l z 3 (p + 1) = p + 1 + 1 := n1.trans nf.1
      have e0 : 0 ≤ p + 1 + 1 ∧ ¬ p + 1 + 1 = p + 1 + 3 := by omega
      have es := stm_bad hk k0 (fun y => e0.2 (n2.symm.trans y.1))
      rw [show ndF l z (3 : Int).toNat (p + 1) = p + 1 + 1 from n2] at es
      have eR : rdR l z p = 0 := by unfold rdR; rw [if_neg (by omega)]
      have eP : rdP l z p = p + 1 + 1 := by unfold rdP; rw [if_neg (by omega), es]
      rw [eR, eP]
      refine ⟨nu2, a11, fun y => absurd y (by omega), run _ _ (fun Q hQ => ?_)⟩
      rw [hl] at hh; simp (disch := first | assumption | rfl | exact inI_of (by omega) (by omega) | omega | decide | (simp only [sv_ext, sv_mc, Nat.le_refl]; done) | with_unfolding_all (refine @id _ ?_; first | exact Eq.refl _ | exact Nat.le_refl _ | assumption)) only [Nat.reduceAdd, Nat.reduceMul, Nat.reduceLeDiff, Nat.reduceLT, Int.reduceAdd, Int.reduceSub, Int.reduceMul, Int.reduceNeg, Int.reduceLE, Int.reduceLT, Int.reduceToNat, Int.reduceEq, reduceCtorEq, ld_z, ld_s, st1_0, st1_1, st1_s, st2_0, st2_1, st2_s, isJ_i, isJ_r, isJ_n, isJ_l, cs_nil, cs_i, cs_r, cs_l, kF, List.getElem?_cons_succ, List.getElem?_cons_zero, List.set_cons_zero, List.set_cons_succ, GC_s, GC_n, GK_nil, GK_no, GK_yes, not_false_eq_true, back_eq, back_hp, inI_eq, inA_eq, true_and, and_true, and_self, if_true, if_false, bI_0, bI_1, bI_in, bI_T, bI_F, fitF, jmpF, nlF, pjA, iVal.eta, iYr.eta, List.getElem?_toArray, List.length_cons, List.length_nil, true_or, or_true, or_false, false_or, Classical.not_not, Bool.false_eq_true, hp_2, Nat.zero_le, Nat.le_refl, Option.some.injEq, Sum.inl.injEq, Sum.inr.injEq, not_true_eq_false, true_implies, false_implies, implies_true, Int.le_refl, gX12_readsStatement, rd_o, sRd_at, hh, a04, a14, back_Rd, wr_Ra]; exact hQ
  · have nf := nd_fail a03.1 2
    rw [nf.2, a03.2] at a04
    have n2 : ndF l z 3 (p + 1) = p + 1 := n0.trans nf.1
    have e0 : 0 ≤ p + 1 ∧ ¬ p + 1 = p + 1 + 3 := by omega
    have es := stm_bad hk k0 (fun y => e0.2 (n2.symm.trans y.1))
    rw [show ndF l z (3 : Int).toNat (p + 1) = p + 1 from n2] at es
    have eR : rdR l z p = 0 := by unfold rdR; rw [if_neg (by omega)]
    have eP : rdP l z p = p + 1 := by unfold rdP; rw [if_neg (by omega), es]
    rw [eR, eP]
    refine ⟨nu1, a01, fun y => absurd y (by omega), run _ _ (fun Q hQ => ?_)⟩
    rw [hl] at hh; simp (disch := first | assumption | rfl | exact inI_of (by omega) (by omega) | omega | decide | (simp only [sv_ext, sv_mc, Nat.le_refl]; done) | with_unfolding_all (refine @id _ ?_; first | exact Eq.refl _ | exact Nat.le_refl _ | assumption)) only [Nat.reduceAdd, Nat.reduceMul, Nat.reduceLeDiff, Nat.reduceLT, Int.reduceAdd, Int.reduceSub, Int.reduceMul, Int.reduceNeg, Int.reduceLE, Int.reduceLT, Int.reduceToNat, Int.reduceEq, reduceCtorEq, ld_z, ld_s, st1_0, st1_1, st1_s, st2_0, st2_1, st2_s, isJ_i, isJ_r, isJ_n, isJ_l, cs_nil, cs_i, cs_r, cs_l, kF, List.getElem?_cons_succ, List.getElem?_cons_zero, List.set_cons_zero, List.set_cons_succ, GC_s, GC_n, GK_nil, GK_no, GK_yes, not_false_eq_true, back_eq, back_hp, inI_eq, inA_eq, true_and, and_true, and_self, if_true, if_false, bI_0, bI_1, bI_in, bI_T, bI_F, fitF, jmpF, nlF, pjA, iVal.eta, iYr.eta, List.getElem?_toArray, List.length_cons, List.length_nil, true_or, or_true, or_false, false_or, Classical.not_not, Bool.false_eq_true, hp_2, Nat.zero_le, Nat.le_refl, Option.some.injEq, Sum.inl.injEq, Sum.inr.injEq, not_true_eq_false, true_implies, false_implies, implies_true, Int.le_refl, gX12_readsStatement, rd_o, sRd_at, hh, a04, back_Rd, wr_Ra]; exact hQ
theorem rs_like (hH : okR A l z) (hb : okB l z) (h0 : 0 ≤ p) (h1 : p ≤ 150) (ln : nu.length = 4) (hl : bFc l z p = 108) : ∃ nu' : List Int, nu'.length = 4 ∧ (stmF l z p = -1 → nu'.getD 0 0 = bFc l z (p + 1) - 48 ∧ nu'.getD 1 0 = bFc l z (p + 1 + 1) - 48 ∧ nu'.getD 2 0 = bFc l z (p + 1 + 2) - 48 ∧ nu'.getD 3 0 = 10 * (bFc l z (p + 1 + 3) - 48) + (bFc l z (p + 1 + 3 + 1) - 48)) ∧ ∀ Q, Call sp sc (d + 2) mX12_readsStatement [.inr (.inr 140)] (hp (A.sRd p nu)) Q = Q (some (.inl (rdR l z p))) (hp (A.sRd (rdP l z p) nu')) := by
  have er := (bFc_rFc (l := l) (z := z) hb h0 (b := bFc l z p) (by omega) (by omega)).mp rfl
  have hh := fun Q nu => hH sp sc (d + 1) p nu Q h0 (by omega)
  rw [er] at hh
  have hk : dbF (bFc l z p) = 5 := by rw [hl]; rfl
  have k0 : ¬ (5 : Int) < 0 := by omega
  have c1 : ((1 : Nat) : Int) = 1 := rfl
  have c2 : ((2 : Nat) : Int) = 2 := rfl
  have run : ∀ (r : Int) (T : iA), (∀ Q, Q (some (.inl r)) (hp T) → G sp sc [] (d + 2) mX12_readsStatement 60 0 [some (.inr (.inr 140)), none, none] [] (hp (A.sRd p nu)) Q) → ∀ Q, Call sp sc (d + 2) mX12_readsStatement [.inr (.inr 140)] (hp (A.sRd p nu)) Q = Q (some (.inl r)) (hp T) := fun r T hr Q => Call_eq (by
    apply eX12_readsStatement 60
    exact hr _ ⟨rfl, rfl⟩)
  have n0 : ndF l z 5 (p + 1) = ndF l z 5 (p + 1) := rfl
  obtain ⟨nu1, r0, a01, a02, a03, a04⟩ := @readsNumber_eq sp sc d A l nu z (p + 1) hH hb 0 1 (by omega) (by omega) (by omega) (by omega) ln
  have a04 : ∀ Q, Call sp sc (d + 1) mX12_readsNumber [.inr (.inr 140), .inl 0, .inl 1] (hp (A.sRd (p + 1) nu)) Q = Q (some (.inl r0)) (hp (A.sRd (ndF l z 1 (p + 1)) nu1)) := a04
  rw [c1] at a03
  rcases a03 with a03 | a03
  · have q0 := a03.1
    rw [q0, a03.2.1] at a04
    have n1 := n0.trans (nd_step a03.1 4)
    obtain ⟨nu2, r1, a11, a12, a13, a14⟩ := @readsNumber_eq sp sc d A l nu1 z (p + 1 + 1) hH hb 1 1 (by omega) (by omega) (by omega) (by omega) a01
    have a14 : ∀ Q, Call sp sc (d + 1) mX12_readsNumber [.inr (.inr 140), .inl 1, .inl 1] (hp (A.sRd (p + 1 + 1) nu1)) Q = Q (some (.inl r1)) (hp (A.sRd (ndF l z 1 (p + 1 + 1)) nu2)) := a14
    rw [c1] at a13
    rcases a13 with a13 | a13
    · have q1 := a13.1
      have e1 : p + 1 + 1 + 1 = p + 1 + 2 := by omega
      rw [e1] at q1
      rw [q1, a13.2.1] at a14
      have n2 := n1.trans (nd_step a13.1 3)
      rw [(show p + 1 + 1 + 1 = p + 1 + 2 by omega)] at n2
      obtain ⟨nu3, r2, a21, a22, a23, a24⟩ := @readsNumber_eq sp sc d A l nu2 z (p + 1 + 2) hH hb 2 1 (by omega) (by omega) (by omega) (by omega) a11
      have a24 : ∀ Q, Call sp sc (d + 1) mX12_readsNumber [.inr (.inr 140), .inl 2, .inl 1] (hp (A.sRd (p + 1 + 2) nu2)) Q = Q (some (.inl r2)) (hp (A.sRd (ndF l z 1 (p + 1 + 2)) nu3)) := a24
      rw [c1] at a23
      rcases a23 with a23 | a23
      · have q2 := a23.1
        have e2 : p + 1 + 2 + 1 = p + 1 + 3 := by omega
        rw [e2] at q2
        rw [q2, a23.2.1] at a24
        have n3 := n2.trans (nd_step a23.1 2)
        rw [(show p + 1 + 2 + 1 = p + 1 + 3 by omega)] at n3
        obtain ⟨nu4, r3, a31, a32, a33, a34⟩ := @readsNumber_eq sp sc d A l nu3 z (p + 1 + 3) hH hb 3 2 (by omega) (by omega) (by omega) (by omega) a21
        have a34 : ∀ Q, Call sp sc (d + 1) mX12_readsNumber [.inr (.inr 140), .inl 3, .inl 2] (hp (A.sRd (p + 1 + 3) nu3)) Q = Q (some (.inl r3)) (hp (A.sRd (ndF l z 2 (p + 1 + 3)) nu4)) := a34
        rw [c2] at a33
        rcases a33 with a33 | a33
        · have q3 := a33.1
          have e3 : p + 1 + 3 + 2 = p + 1 + 5 := by omega
          rw [e3] at q3
          rw [q3, a33.2.1] at a34
          have n4 := n3.trans q3
          have h3 := fun Q nu => hH sp sc (d + 1) (p + 1 + 5) nu Q (by omega) (by omega)
          have i3 := bFc_rFc (l := l) (z := z) (i := p + 1 + 5) hb (by omega) (b := 59) (by omega) (by omega)
          have rb := rFc_b (l := l) (z := z) hb (p := p + 1 + 5) (by omega)
          have ir : inI (rFc l z (p + 1 + 5)) = true := inI_of (by omega) (by omega)
          by_cases c : bFc l z (p + 1 + 5) = 59
          · have c2 := i3.mp c
            have es := stm_ok hk k0 n4 c
            have eR : rdR l z p = 1 := by unfold rdR; rw [if_pos es]
            have eP : rdP l z p = p + 1 + 5 + 1 := by unfold rdP; rw [if_pos es, hk]; omega
            rw [eR, eP]
            refine ⟨nu4, a31, fun _ => ⟨by rw [a32 0 (by omega), a22 0 (by omega), a12 0 (by omega), a03.2.2, vl1], by rw [a32 1 (by omega), a22 1 (by omega), a13.2.2, vl1], by rw [a32 2 (by omega), a23.2.2, vl1], by rw [a33.2.2, vl2]⟩, run _ _ (fun Q hQ => ?_)⟩
            rw [hl] at hh; simp (disch := first | assumption | rfl | exact inI_of (by omega) (by omega) | omega | decide | (simp only [sv_ext, sv_mc, Nat.le_refl]; done) | with_unfolding_all (refine @id _ ?_; first | exact Eq.refl _ | exact Nat.le_refl _ | assumption)) only [Nat.reduceAdd, Nat.reduceMul, Nat.reduceLeDiff, Nat.reduceLT, Int.reduceAdd, Int.reduceSub, Int.reduceMul, Int.reduceNeg, Int.reduceLE, Int.reduceLT, Int.reduceToNat, Int.reduceEq, reduceCtorEq, ld_z, ld_s, st1_0, st1_1, st1_s, st2_0, st2_1, st2_s, isJ_i, isJ_r, isJ_n, isJ_l, cs_nil, cs_i, cs_r, cs_l, kF, List.getElem?_cons_succ, List.getElem?_cons_zero, List.set_cons_zero, List.set_cons_succ, GC_s, GC_n, GK_nil, GK_no, GK_yes, not_false_eq_true, back_eq, back_hp, inI_eq, inA_eq, true_and, and_true, and_self, if_true, if_false, bI_0, bI_1, bI_in, bI_T, bI_F, fitF, jmpF, nlF, pjA, iVal.eta, iYr.eta, List.getElem?_toArray, List.length_cons, List.length_nil, true_or, or_true, or_false, false_or, Classical.not_not, Bool.false_eq_true, hp_2, Nat.zero_le, Nat.le_refl, Option.some.injEq, Sum.inl.injEq, Sum.inr.injEq, not_true_eq_false, true_implies, false_implies, implies_true, Int.le_refl, gX12_readsStatement, rd_o, sRd_at, hh, a04, a14, a24, a34, h3, eq_true c2, ir, back_Rd, wr_Ra]; exact hQ
          · have c2 : ¬ rFc l z (p + 1 + 5) = 59 := fun y => c (i3.mpr y)
            have es := stm_bad hk k0 (fun y => c y.2)
            rw [show ndF l z (5 : Int).toNat (p + 1) = p + 1 + 5 from n4] at es
            have eR : rdR l z p = 0 := by unfold rdR; rw [if_neg (by omega)]
            have eP : rdP l z p = p + 1 + 5 := by unfold rdP; rw [if_neg (by omega), es]
            rw [eR, eP]
            refine ⟨nu4, a31, fun y => absurd y (by omega), run _ _ (fun Q hQ => ?_)⟩
            rw [hl] at hh; simp (disch := first | assumption | rfl | exact inI_of (by omega) (by omega) | omega | decide | (simp only [sv_ext, sv_mc, Nat.le_refl]; done) | with_unfolding_all (refine @id _ ?_; first | exact Eq.refl _ | exact Nat.le_refl _ | assumption)) only [Nat.reduceAdd, Nat.reduceMul, Nat.reduceLeDiff, Nat.reduceLT, Int.reduceAdd, Int.reduceSub, Int.reduceMul, Int.reduceNeg, Int.reduceLE, Int.reduceLT, Int.reduceToNat, Int.reduceEq, reduceCtorEq, ld_z, ld_s, st1_0, st1_1, st1_s, st2_0, st2_1, st2_s, isJ_i, isJ_r, isJ_n, isJ_l, cs_nil, cs_i, cs_r, cs_l, kF, List.getElem?_cons_succ, List.getElem?_cons_zero, List.set_cons_zero, List.set_cons_succ, GC_s, GC_n, GK_nil, GK_no, GK_yes, not_false_eq_true, back_eq, back_hp, inI_eq, inA_eq, true_and, and_true, and_self, if_true, if_false, bI_0, bI_1, bI_in, bI_T, bI_F, fitF, jmpF, nlF, pjA, iVal.eta, iYr.eta, List.getElem?_toArray, List.length_cons, List.length_nil, true_or, or_true, or_false, false_or, Classical.not_not, Bool.false_eq_true, hp_2, Nat.zero_le, Nat.le_refl, Option.some.injEq, Sum.inl.injEq, Sum.inr.injEq, not_true_eq_false, true_implies, false_implies, implies_true, Int.le_refl, gX12_readsStatement, rd_o, sRd_at, hh, a04, a14, a24, a34, h3, c2, ir, back_Rd, wr_Ra]; exact hQ
        · have nb := @ndF_b l z 2 (p + 1 + 3)
          have qf := a33.1
          rw [a33.2] at a34
          have n2 : ndF l z 5 (p + 1) = ndF l z 2 (p + 1 + 3) := n3
          have e0 : 0 ≤ ndF l z 2 (p + 1 + 3) ∧ ¬ ndF l z 2 (p + 1 + 3) = p + 1 + 5 := by omega
          have es := stm_bad hk k0 (fun y => e0.2 (n2.symm.trans y.1))
          rw [show ndF l z (5 : Int).toNat (p + 1) = ndF l z 2 (p + 1 + 3) from n2] at es
          have eR : rdR l z p = 0 := by unfold rdR; rw [if_neg (by omega)]
          have eP : rdP l z p = ndF l z 2 (p + 1 + 3) := by unfold rdP; rw [if_neg (by omega), es]
          rw [eR, eP]
          refine ⟨nu4, a31, fun y => absurd y (by omega), run _ _ (fun Q hQ => ?_)⟩
          rw [hl] at hh; simp (disch := first | assumption | rfl | exact inI_of (by omega) (by omega) | omega | decide | (simp only [sv_ext, sv_mc, Nat.le_refl]; done) | with_unfolding_all (refine @id _ ?_; first | exact Eq.refl _ | exact Nat.le_refl _ | assumption)) only [Nat.reduceAdd, Nat.reduceMul, Nat.reduceLeDiff, Nat.reduceLT, Int.reduceAdd, Int.reduceSub, Int.reduceMul, Int.reduceNeg, Int.reduceLE, Int.reduceLT, Int.reduceToNat, Int.reduceEq, reduceCtorEq, ld_z, ld_s, st1_0, st1_1, st1_s, st2_0, st2_1, st2_s, isJ_i, isJ_r, isJ_n, isJ_l, cs_nil, cs_i, cs_r, cs_l, kF, List.getElem?_cons_succ, List.getElem?_cons_zero, List.set_cons_zero, List.set_cons_succ, GC_s, GC_n, GK_nil, GK_no, GK_yes, not_false_eq_true, back_eq, back_hp, inI_eq, inA_eq, true_and, and_true, and_self, if_true, if_false, bI_0, bI_1, bI_in, bI_T, bI_F, fitF, jmpF, nlF, pjA, iVal.eta, iYr.eta, List.getElem?_toArray, List.length_cons, List.length_nil, true_or, or_true, or_false, false_or, Classical.not_not, Bool.false_eq_true, hp_2, Nat.zero_le, Nat.le_refl, Option.some.injEq, Sum.inl.injEq, Sum.inr.injEq, not_true_eq_false, true_implies, false_implies, implies_true, Int.le_refl, gX12_readsStatement, rd_o, sRd_at, hh, a04, a14, a24, a34, back_Rd, wr_Ra]; exact hQ
      · have nf := nd_fail a23.1 2
        rw [nf.2, a23.2] at a24
        have n2 : ndF l z 5 (p + 1) = p + 1 + 2 := n2.trans nf.1
        have e0 : 0 ≤ p + 1 + 2 ∧ ¬ p + 1 + 2 = p + 1 + 5 := by omega
        have es := stm_bad hk k0 (fun y => e0.2 (n2.symm.trans y.1))
        rw [show ndF l z (5 : Int).toNat (p + 1) = p + 1 + 2 from n2] at es
        have eR : rdR l z p = 0 := by unfold rdR; rw [if_neg (by omega)]
        have eP : rdP l z p = p + 1 + 2 := by unfold rdP; rw [if_neg (by omega), es]
        rw [eR, eP]
        refine ⟨nu3, a21, fun y => absurd y (by omega), run _ _ (fun Q hQ => ?_)⟩
        rw [hl] at hh; simp (disch := first | assumption | rfl | exact inI_of (by omega) (by omega) | omega | decide | (simp only [sv_ext, sv_mc, Nat.le_refl]; done) | with_unfolding_all (refine @id _ ?_; first | exact Eq.refl _ | exact Nat.le_refl _ | assumption)) only [Nat.reduceAdd, Nat.reduceMul, Nat.reduceLeDiff, Nat.reduceLT, Int.reduceAdd, Int.reduceSub, Int.reduceMul, Int.reduceNeg, Int.reduceLE, Int.reduceLT, Int.reduceToNat, Int.reduceEq, reduceCtorEq, ld_z, ld_s, st1_0, st1_1, st1_s, st2_0, st2_1, st2_s, isJ_i, isJ_r, isJ_n, isJ_l, cs_nil, cs_i, cs_r, cs_l, kF, List.getElem?_cons_succ, List.getElem?_cons_zero, List.set_cons_zero, List.set_cons_succ, GC_s, GC_n, GK_nil, GK_no, GK_yes, not_false_eq_true, back_eq, back_hp, inI_eq, inA_eq, true_and, and_true, and_self, if_true, if_false, bI_0, bI_1, bI_in, bI_T, bI_F, fitF, jmpF, nlF, pjA, iVal.eta, iYr.eta, List.getElem?_toArray, List.length_cons, List.length_nil, true_or, or_true, or_false, false_or, Classical.not_not, Bool.false_eq_true, hp_2, Nat.zero_le, Nat.le_refl, Option.some.injEq, Sum.inl.injEq, Sum.inr.injEq, not_true_eq_false, true_implies, false_implies, implies_true, Int.le_refl, gX12_readsStatement, rd_o, sRd_at, hh, a04, a14, a24, back_Rd, wr_Ra]; exact hQ
    · have nf := nd_fail a13.1 3
      rw [nf.2, a13.2] at a14
      have n2 : ndF l z 5 (p + 1) = p + 1 + 1 := n1.trans nf.1
      have e0 : 0 ≤ p + 1 + 1 ∧ ¬ p + 1 + 1 = p + 1 + 5 := by omega
      have es := stm_bad hk k0 (fun y => e0.2 (n2.symm.trans y.1))
      rw [show ndF l z (5 : Int).toNat (p + 1) = p + 1 + 1 from n2] at es
      have eR : rdR l z p = 0 := by unfold rdR; rw [if_neg (by omega)]
      have eP : rdP l z p = p + 1 + 1 := by unfold rdP; rw [if_neg (by omega), es]
      rw [eR, eP]
      refine ⟨nu2, a11, fun y => absurd y (by omega), run _ _ (fun Q hQ => ?_)⟩
      rw [hl] at hh; simp (disch := first | assumption | rfl | exact inI_of (by omega) (by omega) | omega | decide | (simp only [sv_ext, sv_mc, Nat.le_refl]; done) | with_unfolding_all (refine @id _ ?_; first | exact Eq.refl _ | exact Nat.le_refl _ | assumption)) only [Nat.reduceAdd, Nat.reduceMul, Nat.reduceLeDiff, Nat.reduceLT, Int.reduceAdd, Int.reduceSub, Int.reduceMul, Int.reduceNeg, Int.reduceLE, Int.reduceLT, Int.reduceToNat, Int.reduceEq, reduceCtorEq, ld_z, ld_s, st1_0, st1_1, st1_s, st2_0, st2_1, st2_s, isJ_i, isJ_r, isJ_n, isJ_l, cs_nil, cs_i, cs_r, cs_l, kF, List.getElem?_cons_succ, List.getElem?_cons_zero, List.set_cons_zero, List.set_cons_succ, GC_s, GC_n, GK_nil, GK_no, GK_yes, not_false_eq_true, back_eq, back_hp, inI_eq, inA_eq, true_and, and_true, and_self, if_true, if_false, bI_0, bI_1, bI_in, bI_T, bI_F, fitF, jmpF, nlF, pjA, iVal.eta, iYr.eta, List.getElem?_toArray, List.length_cons, List.length_nil, true_or, or_true, or_false, false_or, Classical.not_not, Bool.false_eq_true, hp_2, Nat.zero_le, Nat.le_refl, Option.some.injEq, Sum.inl.injEq, Sum.inr.injEq, not_true_eq_false, true_implies, false_implies, implies_true, Int.le_refl, gX12_readsStatement, rd_o, sRd_at, hh, a04, a14, back_Rd, wr_Ra]; exact hQ
  · have nf := nd_fail a03.1 4
    rw [nf.2, a03.2] at a04
    have n2 : ndF l z 5 (p + 1) = p + 1 := n0.trans nf.1
    have e0 : 0 ≤ p + 1 ∧ ¬ p + 1 = p + 1 + 5 := by omega
    have es := stm_bad hk k0 (fun y => e0.2 (n2.symm.trans y.1))
    rw [show ndF l z (5 : Int).toNat (p + 1) = p + 1 from n2] at es
    have eR : rdR l z p = 0 := by unfold rdR; rw [if_neg (by omega)]
    have eP : rdP l z p = p + 1 := by unfold rdP; rw [if_neg (by omega), es]
    rw [eR, eP]
    refine ⟨nu1, a01, fun y => absurd y (by omega), run _ _ (fun Q hQ => ?_)⟩
    rw [hl] at hh; simp (disch := first | assumption | rfl | exact inI_of (by omega) (by omega) | omega | decide | (simp only [sv_ext, sv_mc, Nat.le_refl]; done) | with_unfolding_all (refine @id _ ?_; first | exact Eq.refl _ | exact Nat.le_refl _ | assumption)) only [Nat.reduceAdd, Nat.reduceMul, Nat.reduceLeDiff, Nat.reduceLT, Int.reduceAdd, Int.reduceSub, Int.reduceMul, Int.reduceNeg, Int.reduceLE, Int.reduceLT, Int.reduceToNat, Int.reduceEq, reduceCtorEq, ld_z, ld_s, st1_0, st1_1, st1_s, st2_0, st2_1, st2_s, isJ_i, isJ_r, isJ_n, isJ_l, cs_nil, cs_i, cs_r, cs_l, kF, List.getElem?_cons_succ, List.getElem?_cons_zero, List.set_cons_zero, List.set_cons_succ, GC_s, GC_n, GK_nil, GK_no, GK_yes, not_false_eq_true, back_eq, back_hp, inI_eq, inA_eq, true_and, and_true, and_self, if_true, if_false, bI_0, bI_1, bI_in, bI_T, bI_F, fitF, jmpF, nlF, pjA, iVal.eta, iYr.eta, List.getElem?_toArray, List.length_cons, List.length_nil, true_or, or_true, or_false, false_or, Classical.not_not, Bool.false_eq_true, hp_2, Nat.zero_le, Nat.le_refl, Option.some.injEq, Sum.inl.injEq, Sum.inr.injEq, not_true_eq_false, true_implies, false_implies, implies_true, Int.le_refl, gX12_readsStatement, rd_o, sRd_at, hh, a04, back_Rd, wr_Ra]; exact hQ
end OPS
