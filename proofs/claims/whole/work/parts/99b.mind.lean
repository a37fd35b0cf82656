set_option maxRecDepth 16384
/-! ===== valley: a row of another sort, the reference ===== -/
section OPS
variable {sp : Nat → List iV → iH → Option (Option iV × iH)} {sc : List Int} {d : Nat} {A A' : iA} {Q : Option iV → iH → Prop} {h : iH} {X : iVal} {D : Nat} {l nu nu2 : List Int} {z i x p p2 : Int}
theorem admitM_eq (hO : OkV A.mnd) {s : Int} {x : Nat} (h0 : 0 ≤ s) (h1 : s < 2) (h2 : ¬ A.mnd.num s < 5) : Call sp sc (d + 1) mX8_admit [.inr (.inr (vb .mnd + 2)), .inl s, .inr (.inr (x + 2))] (hp A) Q = Q (some (.inl (-2))) (hp A) := Call_eq (by
  have hO2 : OkV (A.v .mnd) := hO
  have h3 : ¬ (A.v .mnd).num s < 5 := h2
  have nn := hO2.num h0 h1
  apply eX8_admit 60
  simp (disch := first | assumption | rfl | exact inI_of (by omega) (by omega) | omega | decide | (simp only [sv_ext, sv_mc, Nat.le_refl]; done) | with_unfolding_all (refine @id _ ?_; first | exact Eq.refl _ | exact Nat.le_refl _ | assumption)) only [Nat.reduceAdd, Nat.reduceMul, Nat.reduceLeDiff, Nat.reduceLT, Int.reduceAdd, Int.reduceSub, Int.reduceMul, Int.reduceNeg, Int.reduceLE, Int.reduceLT, Int.reduceToNat, Int.reduceEq, reduceCtorEq, ld_z, ld_s, st1_0, st1_1, st1_s, st2_0, st2_1, st2_s, isJ_i, isJ_r, isJ_n, isJ_l, cs_nil, cs_i, cs_r, cs_l, kF, List.getElem?_cons_succ, List.getElem?_cons_zero, List.set_cons_zero, List.set_cons_succ, GC_s, GC_n, GK_nil, GK_no, GK_yes, not_false_eq_true, back_eq, back_hp, inI_eq, inA_eq, true_and, and_true, and_self, if_true, if_false, bI_0, bI_1, bI_in, bI_T, bI_F, fitF, jmpF, nlF, pjA, iVal.eta, iYr.eta, List.getElem?_toArray, List.length_cons, List.length_nil, true_or, or_true, or_false, false_or, Classical.not_not, Bool.false_eq_true, hp_2, Nat.zero_le, Nat.le_refl, Option.some.injEq, Sum.inl.injEq, Sum.inr.injEq, not_true_eq_false, true_implies, false_implies, implies_true, Int.le_refl, rd_v, f_num, f_lik, f_dep, f_bnd, f_man, f_wom, f_sta, f_dds, f_who, gX8_admit, rd_v1, hO2.lon, h3])
end OPS
