set_option maxRecDepth 16384
/-! ===== the reference: days ===== -/
def enR (l : List Int) : List Int := l.map fun z => if z = 0 then -4 else z
def sfR (Y : iYr) : Int := if Y.sp = 0 then -4 else Y.fs
def ryOf (Y : iYr) (g : Int) : iRy := (iRy.mk (Y.wt) (enR Y.en) (Y.od) (Y.dn) (Y.sp) (sfR Y) (g))
theorem enR_len {l : List Int} : (enR l).length = l.length := List.length_map ..
theorem enR_set {l : List Int} {i : Nat} {v : Int} (h : ¬ v = 0) : (enR l).set i v = enR (l.set i v) := by
  unfold enR
  rw [List.map_set, if_neg h]
section RD
variable {sp : Nat → List iV → iH → Option (Option iV × iH)} {sc : List Int} {d : Nat} {A : iA} {r : iR} {R : iRy} {h : iH} {Q : Option iV → iH → Prop} {X : iVal} {e g B : Int} {S : iXY}
theorem dep_ge (hO : OkV X) {s k : Int} (h0 : 0 ≤ s) (h1 : s < 2) (h2 : 0 ≤ k) (h3 : k < 5) : -1 ≤ X.dep s k ∧ X.dep s k < 5 := by
  have := hO.dep s k h0 h1 h2 h3
  have := hO.num h0 h1
  omega
theorem doerR_loop (hO : OkV X) {s k0 n : Int} (h0 : 0 ≤ s) (h1 : s < 2) (hn : inI n = true) : ∀ (m : Nat) (k i : Int), 0 ≤ k → k < X.num s → 0 ≤ i → i + m = n → Q (some (.inl (X.stepF s m k))) (hp (A.sro r (rowOf X e) R)) → Run sp sc (d + 1) mX12_doer 6 [some (.inr (.inr (rb r + 2))), some (.inl s), some (.inl k0), some (.inl n), some (.inl k), some (.inl i)] [] (hp (A.sro r (rowOf X e) R)) Q := by
  have en := hO.num h0 h1
  have hn2 := inI_iff.mp hn
  intro m
  induction m with
  | zero =>
    intro k i h2 h3 h4 h5 hq
    refine G_run (B := [6]) 40 _ _ _ _ ?_
    have e : n ≤ i := by omega
    simp (disch := first | assumption | rfl | exact inI_of (by omega) (by omega) | omega | decide | (simp only [sv_ext, sv_mc, Nat.le_refl]; done) | with_unfolding_all (refine @id _ ?_; first | exact Eq.refl _ | exact Nat.le_refl _ | assumption)) only [Nat.reduceAdd, Nat.reduceMul, Nat.reduceLeDiff, Nat.reduceLT, Int.reduceAdd, Int.reduceSub, Int.reduceMul, Int.reduceNeg, Int.reduceLE, Int.reduceLT, Int.reduceToNat, Int.reduceEq, reduceCtorEq, ld_z, ld_s, st1_0, st1_1, st1_s, st2_0, st2_1, st2_s, isJ_i, isJ_r, isJ_n, isJ_l, cs_nil, cs_i, cs_r, cs_l, kF, List.getElem?_cons_succ, List.getElem?_cons_zero, List.set_cons_zero, List.set_cons_succ, GC_s, GC_n, GK_nil, GK_no, GK_yes, not_false_eq_true, back_eq, inI_eq, inA_eq, true_and, and_true, and_self, if_true, if_false, bI_0, bI_1, bI_in, bI_T, bI_F, fitF, jmpF, nlF, pjA, iVal.eta, iYr.eta, List.getElem?_toArray, List.length_cons, List.length_nil, true_or, or_true, or_false, false_or, Classical.not_not, Bool.false_eq_true, hp_2, Nat.zero_le, Nat.le_refl, Option.some.injEq, Sum.inl.injEq, Sum.inr.injEq, not_true_eq_false, true_implies, false_implies, implies_true, iRy.pj, back_sro, back_sro1, rd_r, rd_o, rd_o_wt, rd_o_en, rd_o_od, sro_rr, sro_srr, sro_sro, sro_wt, sro_en, sro_od, sro_dn, sro_sm, sro_sf, sro_go, wro_wt, wro_en, wro_od, wro_r, wro_o, row_len, inA_one, inA_lik, inA_cpl, gX12_doer, e]
    exact hq
  | succ m ih =>
    intro k i h2 h3 h4 h5 hq
    refine G_run (B := [6]) 60 _ _ _ _ ?_
    have e : ¬ n ≤ i := by omega
    have e2 := dep_ge hO h0 h1 h2 (by omega)
    have e3 := hO.dep s k h0 h1 h2 (by omega)
    unfold iVal.stepF at hq
    simp (disch := first | assumption | rfl | exact inI_of (by omega) (by omega) | omega | decide | (simp only [sv_ext, sv_mc, Nat.le_refl]; done) | with_unfolding_all (refine @id _ ?_; first | exact Eq.refl _ | exact Nat.le_refl _ | assumption)) only [Nat.reduceAdd, Nat.reduceMul, Nat.reduceLeDiff, Nat.reduceLT, Int.reduceAdd, Int.reduceSub, Int.reduceMul, Int.reduceNeg, Int.reduceLE, Int.reduceLT, Int.reduceToNat, Int.reduceEq, reduceCtorEq, ld_z, ld_s, st1_0, st1_1, st1_s, st2_0, st2_1, st2_s, isJ_i, isJ_r, isJ_n, isJ_l, cs_nil, cs_i, cs_r, cs_l, kF, List.getElem?_cons_succ, List.getElem?_cons_zero, List.set_cons_zero, List.set_cons_succ, GC_s, GC_n, GK_nil, GK_no, GK_yes, not_false_eq_true, back_eq, inI_eq, inA_eq, true_and, and_true, and_self, if_true, if_false, bI_0, bI_1, bI_in, bI_T, bI_F, fitF, jmpF, nlF, pjA, iVal.eta, iYr.eta, List.getElem?_toArray, List.length_cons, List.length_nil, true_or, or_true, or_false, false_or, Classical.not_not, Bool.false_eq_true, hp_2, Nat.zero_le, Nat.le_refl, Option.some.injEq, Sum.inl.injEq, Sum.inr.injEq, not_true_eq_false, true_implies, false_implies, implies_true, iRy.pj, back_sro, back_sro1, rd_r, rd_o, rd_o_wt, rd_o_en, rd_o_od, sro_rr, sro_srr, sro_sro, sro_wt, sro_en, sro_od, sro_dn, sro_sm, sro_sf, sro_go, wro_wt, wro_en, wro_od, wro_r, wro_o, row_len, inA_one, inA_lik, inA_cpl, gX12_doer, e, atOne_eq, q_dep]
    refine ⟨fun g => ?_, fun g => ?_⟩
    · rw [if_pos (by omega)] at hq; exact ih _ (i + 1) (by omega) (by omega) (by omega) (by omega) hq
    · rw [if_neg (by omega)] at hq; exact ih _ (i + 1) (by omega) (by omega) (by omega) (by omega) hq
theorem doerR_eq (hO : OkV X) {s k n : Int} (h0 : 0 ≤ s) (h1 : s < 2) (h2 : 0 ≤ k) (h3 : k < X.num s) (h4 : 0 ≤ n) (h5 : n < 1000) : Call sp sc (d + 1) mX12_doer [.inr (.inr (rb r + 2)), .inl s, .inl k, .inl n] (hp (A.sro r (rowOf X e) R)) Q = Q (some (.inl (X.stepF s n.toNat k))) (hp (A.sro r (rowOf X e) R)) := Call_eq (by
  apply eX12_doer 30; simp (disch := first | assumption | rfl | exact inI_of (by omega) (by omega) | omega | decide | (simp only [sv_ext, sv_mc, Nat.le_refl]; done) | with_unfolding_all (refine @id _ ?_; first | exact Eq.refl _ | exact Nat.le_refl _ | assumption)) only [Nat.reduceAdd, Nat.reduceMul, Nat.reduceLeDiff, Nat.reduceLT, Int.reduceAdd, Int.reduceSub, Int.reduceMul, Int.reduceNeg, Int.reduceLE, Int.reduceLT, Int.reduceToNat, Int.reduceEq, reduceCtorEq, ld_z, ld_s, st1_0, st1_1, st1_s, st2_0, st2_1, st2_s, isJ_i, isJ_r, isJ_n, isJ_l, cs_nil, cs_i, cs_r, cs_l, kF, List.getElem?_cons_succ, List.getElem?_cons_zero, List.set_cons_zero, List.set_cons_succ, GC_s, GC_n, GK_nil, GK_no, GK_yes, not_false_eq_true, back_eq, inI_eq, inA_eq, true_and, and_true, and_self, if_true, if_false, bI_0, bI_1, bI_in, bI_T, bI_F, fitF, jmpF, nlF, pjA, iVal.eta, iYr.eta, List.getElem?_toArray, List.length_cons, List.length_nil, true_or, or_true, or_false, false_or, Classical.not_not, Bool.false_eq_true, hp_2, Nat.zero_le, Nat.le_refl, Option.some.injEq, Sum.inl.injEq, Sum.inr.injEq, not_true_eq_false, true_implies, false_implies, implies_true, iRy.pj, back_sro, back_sro1, rd_r, rd_o, rd_o_wt, rd_o_en, rd_o_od, sro_rr, sro_srr, sro_sro, sro_wt, sro_en, sro_od, sro_dn, sro_sm, sro_sf, sro_go, wro_wt, wro_en, wro_od, wro_r, wro_o, row_len, inA_one, inA_lik, inA_cpl, gX12_doer]
  exact doerR_loop hO h0 h1 (inI_of (by omega) (by omega)) n.toNat k 0 h2 h3 (by omega) (by omega) ⟨rfl, rfl⟩)
theorem areOwnR_loop (hO : OkV X) {a b : Int} (ha : inI a = true) (hb : inI b = true) : ∀ (k : Nat) (c : Int), 0 ≤ c → c + k = X.cp → Q (some (.inl (X.ownF a b k c))) (hp (A.sro r (rowOf X e) R)) → Run sp sc (d + 2) mX12_areOwn 2 [some (.inr (.inr (rb r + 2))), some (.inl a), some (.inl b), some (.inl c)] [] (hp (A.sro r (rowOf X e) R)) Q := by
  have hcp := hO.cp
  intro k
  induction k with
  | zero =>
    intro c h0 h1 hq
    refine G_run (B := [2]) 60 _ _ _ _ ?_
    have e : X.cp ≤ c := by omega
    simp (disch := first | assumption | rfl | exact inI_of (by omega) (by omega) | omega | decide | (simp only [sv_ext, sv_mc, Nat.le_refl]; done) | with_unfolding_all (refine @id _ ?_; first | exact Eq.refl _ | exact Nat.le_refl _ | assumption)) only [Nat.reduceAdd, Nat.reduceMul, Nat.reduceLeDiff, Nat.reduceLT, Int.reduceAdd, Int.reduceSub, Int.reduceMul, Int.reduceNeg, Int.reduceLE, Int.reduceLT, Int.reduceToNat, Int.reduceEq, reduceCtorEq, ld_z, ld_s, st1_0, st1_1, st1_s, st2_0, st2_1, st2_s, isJ_i, isJ_r, isJ_n, isJ_l, cs_nil, cs_i, cs_r, cs_l, kF, List.getElem?_cons_succ, List.getElem?_cons_zero, List.set_cons_zero, List.set_cons_succ, GC_s, GC_n, GK_nil, GK_no, GK_yes, not_false_eq_true, back_eq, inI_eq, inA_eq, true_and, and_true, and_self, if_true, if_false, bI_0, bI_1, bI_in, bI_T, bI_F, fitF, jmpF, nlF, pjA, iVal.eta, iYr.eta, List.getElem?_toArray, List.length_cons, List.length_nil, true_or, or_true, or_false, false_or, Classical.not_not, Bool.false_eq_true, hp_2, Nat.zero_le, Nat.le_refl, Option.some.injEq, Sum.inl.injEq, Sum.inr.injEq, not_true_eq_false, true_implies, false_implies, implies_true, iRy.pj, back_sro, back_sro1, rd_r, rd_o, rd_o_wt, rd_o_en, rd_o_od, sro_rr, sro_srr, sro_sro, sro_wt, sro_en, sro_od, sro_dn, sro_sm, sro_sf, sro_go, wro_wt, wro_en, wro_od, wro_r, wro_o, row_len, inA_one, inA_lik, inA_cpl, gX12_areOwn, r_cp, e]
    exact hq
  | succ k ih =>
    intro c h0 h1 hq
    refine G_run (B := [2]) 60 _ _ _ _ ?_
    have e : ¬ X.cp ≤ c := by omega
    have e1 := hO.man c (by omega) (by omega)
    have e2 := hO.wom c (by omega) (by omega)
    have n0 := hO.n0
    have n1 := hO.n1
    have ih := ih (c + 1) (by omega) (by omega)
    unfold iVal.ownF at hq
    simp (disch := first | assumption | rfl | exact inI_of (by omega) (by omega) | omega | decide | (simp only [sv_ext, sv_mc, Nat.le_refl]; done) | with_unfolding_all (refine @id _ ?_; first | exact Eq.refl _ | exact Nat.le_refl _ | assumption)) only [Nat.reduceAdd, Nat.reduceMul, Nat.reduceLeDiff, Nat.reduceLT, Int.reduceAdd, Int.reduceSub, Int.reduceMul, Int.reduceNeg, Int.reduceLE, Int.reduceLT, Int.reduceToNat, Int.reduceEq, reduceCtorEq, ld_z, ld_s, st1_0, st1_1, st1_s, st2_0, st2_1, st2_s, isJ_i, isJ_r, isJ_n, isJ_l, cs_nil, cs_i, cs_r, cs_l, kF, List.getElem?_cons_succ, List.getElem?_cons_zero, List.set_cons_zero, List.set_cons_succ, GC_s, GC_n, GK_nil, GK_no, GK_yes, not_false_eq_true, back_eq, inI_eq, inA_eq, true_and, and_true, and_self, if_true, if_false, bI_0, bI_1, bI_in, bI_T, bI_F, fitF, jmpF, nlF, pjA, iVal.eta, iYr.eta, List.getElem?_toArray, List.length_cons, List.length_nil, true_or, or_true, or_false, false_or, Classical.not_not, Bool.false_eq_true, hp_2, Nat.zero_le, Nat.le_refl, Option.some.injEq, Sum.inl.injEq, Sum.inr.injEq, not_true_eq_false, true_implies, false_implies, implies_true, iRy.pj, back_sro, back_sro1, rd_r, rd_o, rd_o_wt, rd_o_en, rd_o_od, sro_rr, sro_srr, sro_sro, sro_wt, sro_en, sro_od, sro_dn, sro_sm, sro_sf, sro_go, wro_wt, wro_en, wro_od, wro_r, wro_o, row_len, inA_one, inA_lik, inA_cpl, gX12_areOwn, r_cp, e, goesOnR_eq, atCouple_eq, q_man, q_wom]
    ((repeat' first | intro _ | refine And.intro ?_ ?_) <;> first | exact hq | exact ih hq | (rw [if_pos (by omega)] at hq; first | exact hq | exact ih hq) | (rw [if_neg (by omega)] at hq; first | exact hq | exact ih hq) | (first | assumption | exact inI_of (by omega) (by omega) | exact inA_of (by omega) (by omega) (by omega) | exact (bI_f (by omega)).symm | exact (bI_t (by omega)).symm | exact bI_f (by omega) | exact bI_t (by omega) | omega | rfl | (simp; done)))
theorem areOwnR_eq (hO : OkV X) {a b : Int} (ha : inI a = true) (hb : inI b = true) : Call sp sc (d + 2) mX12_areOwn [.inr (.inr (rb r + 2)), .inl a, .inl b] (hp (A.sro r (rowOf X e) R)) Q = Q (some (.inl (X.own a b))) (hp (A.sro r (rowOf X e) R)) := Call_eq (by
  have := hO.cp
  apply eX12_areOwn 40; simp (disch := first | assumption | rfl | exact inI_of (by omega) (by omega) | omega | decide | (simp only [sv_ext, sv_mc, Nat.le_refl]; done) | with_unfolding_all (refine @id _ ?_; first | exact Eq.refl _ | exact Nat.le_refl _ | assumption)) only [Nat.reduceAdd, Nat.reduceMul, Nat.reduceLeDiff, Nat.reduceLT, Int.reduceAdd, Int.reduceSub, Int.reduceMul, Int.reduceNeg, Int.reduceLE, Int.reduceLT, Int.reduceToNat, Int.reduceEq, reduceCtorEq, ld_z, ld_s, st1_0, st1_1, st1_s, st2_0, st2_1, st2_s, isJ_i, isJ_r, isJ_n, isJ_l, cs_nil, cs_i, cs_r, cs_l, kF, List.getElem?_cons_succ, List.getElem?_cons_zero, List.set_cons_zero, List.set_cons_succ, GC_s, GC_n, GK_nil, GK_no, GK_yes, not_false_eq_true, back_eq, inI_eq, inA_eq, true_and, and_true, and_self, if_true, if_false, bI_0, bI_1, bI_in, bI_T, bI_F, fitF, jmpF, nlF, pjA, iVal.eta, iYr.eta, List.getElem?_toArray, List.length_cons, List.length_nil, true_or, or_true, or_false, false_or, Classical.not_not, Bool.false_eq_true, hp_2, Nat.zero_le, Nat.le_refl, Option.some.injEq, Sum.inl.injEq, Sum.inr.injEq, not_true_eq_false, true_implies, false_implies, implies_true, iRy.pj, back_sro, back_sro1, rd_r, rd_o, rd_o_wt, rd_o_en, rd_o_od, sro_rr, sro_srr, sro_sro, sro_wt, sro_en, sro_od, sro_dn, sro_sm, sro_sf, sro_go, wro_wt, wro_en, wro_od, wro_r, wro_o, row_len, inA_one, inA_lik, inA_cpl, gX12_areOwn]
  exact areOwnR_loop hO ha hb X.cp.toNat 0 (by omega) (by omega) ⟨rfl, rfl⟩)
theorem manyR_loop (hO : OkV X) {z : Int} (hz : inI z = true) : ∀ (k : Nat) (c n : Int), 0 ≤ c → c + k = X.cp → Q (some (.inl (X.manyF z k c n))) (hp (A.sro r (rowOf X e) R)) → Run sp sc (d + 1) mX12_manySuch 4 [some (.inr (.inr (rb r + 2))), some (.inl z), some (.inl n), some (.inl c)] [] (hp (A.sro r (rowOf X e) R)) Q := by
  have hcp := hO.cp
  intro k
  induction k with
  | zero =>
    intro c n h0 h1 hq
    refine G_run (B := [4]) 60 _ _ _ _ ?_
    have e : X.cp ≤ c := by omega
    simp (disch := first | assumption | rfl | exact inI_of (by omega) (by omega) | omega | decide | (simp only [sv_ext, sv_mc, Nat.le_refl]; done) | with_unfolding_all (refine @id _ ?_; first | exact Eq.refl _ | exact Nat.le_refl _ | assumption)) only [Nat.reduceAdd, Nat.reduceMul, Nat.reduceLeDiff, Nat.reduceLT, Int.reduceAdd, Int.reduceSub, Int.reduceMul, Int.reduceNeg, Int.reduceLE, Int.reduceLT, Int.reduceToNat, Int.reduceEq, reduceCtorEq, ld_z, ld_s, st1_0, st1_1, st1_s, st2_0, st2_1, st2_s, isJ_i, isJ_r, isJ_n, isJ_l, cs_nil, cs_i, cs_r, cs_l, kF, List.getElem?_cons_succ, List.getElem?_cons_zero, List.set_cons_zero, List.set_cons_succ, GC_s, GC_n, GK_nil, GK_no, GK_yes, not_false_eq_true, back_eq, inI_eq, inA_eq, true_and, and_true, and_self, if_true, if_false, bI_0, bI_1, bI_in, bI_T, bI_F, fitF, jmpF, nlF, pjA, iVal.eta, iYr.eta, List.getElem?_toArray, List.length_cons, List.length_nil, true_or, or_true, or_false, false_or, Classical.not_not, Bool.false_eq_true, hp_2, Nat.zero_le, Nat.le_refl, Option.some.injEq, Sum.inl.injEq, Sum.inr.injEq, not_true_eq_false, true_implies, false_implies, implies_true, iRy.pj, back_sro, back_sro1, rd_r, rd_o, rd_o_wt, rd_o_en, rd_o_od, sro_rr, sro_srr, sro_sro, sro_wt, sro_en, sro_od, sro_dn, sro_sm, sro_sf, sro_go, wro_wt, wro_en, wro_od, wro_r, wro_o, row_len, inA_one, inA_lik, inA_cpl, gX12_manySuch, r_cp, e]
    exact hq
  | succ k ih =>
    intro c n h0 h1 hq
    refine G_run (B := [4]) 60 _ _ _ _ ?_
    have e : ¬ X.cp ≤ c := by omega
    have e1 := hO.sta c (by omega) (by omega)
    have ih := fun n => ih (c + 1) n (by omega) (by omega)
    unfold iVal.manyF at hq
    simp (disch := first | assumption | rfl | exact inI_of (by omega) (by omega) | omega | decide | (simp only [sv_ext, sv_mc, Nat.le_refl]; done) | with_unfolding_all (refine @id _ ?_; first | exact Eq.refl _ | exact Nat.le_refl _ | assumption)) only [Nat.reduceAdd, Nat.reduceMul, Nat.reduceLeDiff, Nat.reduceLT, Int.reduceAdd, Int.reduceSub, Int.reduceMul, Int.reduceNeg, Int.reduceLE, Int.reduceLT, Int.reduceToNat, Int.reduceEq, reduceCtorEq, ld_z, ld_s, st1_0, st1_1, st1_s, st2_0, st2_1, st2_s, isJ_i, isJ_r, isJ_n, isJ_l, cs_nil, cs_i, cs_r, cs_l, kF, List.getElem?_cons_succ, List.getElem?_cons_zero, List.set_cons_zero, List.set_cons_succ, GC_s, GC_n, GK_nil, GK_no, GK_yes, not_false_eq_true, back_eq, inI_eq, inA_eq, true_and, and_true, and_self, if_true, if_false, bI_0, bI_1, bI_in, bI_T, bI_F, fitF, jmpF, nlF, pjA, iVal.eta, iYr.eta, List.getElem?_toArray, List.length_cons, List.length_nil, true_or, or_true, or_false, false_or, Classical.not_not, Bool.false_eq_true, hp_2, Nat.zero_le, Nat.le_refl, Option.some.injEq, Sum.inl.injEq, Sum.inr.injEq, not_true_eq_false, true_implies, false_implies, implies_true, iRy.pj, back_sro, back_sro1, rd_r, rd_o, rd_o_wt, rd_o_en, rd_o_od, sro_rr, sro_srr, sro_sro, sro_wt, sro_en, sro_od, sro_dn, sro_sm, sro_sf, sro_go, wro_wt, wro_en, wro_od, wro_r, wro_o, row_len, inA_one, inA_lik, inA_cpl, gX12_manySuch, r_cp, e, atCouple_eq, q_sta, Int.add_zero]
    refine ⟨hz, fun g => ?_, fun g => ?_⟩
    · rw [if_neg g] at hq; exact ih _ hq
    · rw [if_pos (by omega)] at hq; exact ih _ hq
theorem manySuch_eq (hO : OkV X) {z : Int} (hz : inI z = true) : Call sp sc (d + 1) mX12_manySuch [.inr (.inr (rb r + 2)), .inl z] (hp (A.sro r (rowOf X e) R)) Q = Q (some (.inl (X.many z))) (hp (A.sro r (rowOf X e) R)) := Call_eq (by
  have := hO.cp
  apply eX12_manySuch 40; simp (disch := first | assumption | rfl | exact inI_of (by omega) (by omega) | omega | decide | (simp only [sv_ext, sv_mc, Nat.le_refl]; done) | with_unfolding_all (refine @id _ ?_; first | exact Eq.refl _ | exact Nat.le_refl _ | assumption)) only [Nat.reduceAdd, Nat.reduceMul, Nat.reduceLeDiff, Nat.reduceLT, Int.reduceAdd, Int.reduceSub, Int.reduceMul, Int.reduceNeg, Int.reduceLE, Int.reduceLT, Int.reduceToNat, Int.reduceEq, reduceCtorEq, ld_z, ld_s, st1_0, st1_1, st1_s, st2_0, st2_1, st2_s, isJ_i, isJ_r, isJ_n, isJ_l, cs_nil, cs_i, cs_r, cs_l, kF, List.getElem?_cons_succ, List.getElem?_cons_zero, List.set_cons_zero, List.set_cons_succ, GC_s, GC_n, GK_nil, GK_no, GK_yes, not_false_eq_true, back_eq, inI_eq, inA_eq, true_and, and_true, and_self, if_true, if_false, bI_0, bI_1, bI_in, bI_T, bI_F, fitF, jmpF, nlF, pjA, iVal.eta, iYr.eta, List.getElem?_toArray, List.length_cons, List.length_nil, true_or, or_true, or_false, false_or, Classical.not_not, Bool.false_eq_true, hp_2, Nat.zero_le, Nat.le_refl, Option.some.injEq, Sum.inl.injEq, Sum.inr.injEq, not_true_eq_false, true_implies, false_implies, implies_true, iRy.pj, back_sro, back_sro1, rd_r, rd_o, rd_o_wt, rd_o_en, rd_o_od, sro_rr, sro_srr, sro_sro, sro_wt, sro_en, sro_od, sro_dn, sro_sm, sro_sf, sro_go, wro_wt, wro_en, wro_od, wro_r, wro_o, row_len, inA_one, inA_lik, inA_cpl, gX12_manySuch]
  exact manyR_loop hO hz X.cp.toNat 0 0 (by omega) (by omega) ⟨rfl, rfl⟩)
theorem chg0_eq (hO : OkV X) {a b v : Int} (h2 : 0 ≤ a) (h3 : a < X.num 0) (h4 : 0 ≤ b) (h5 : b < X.num 1) (h6 : -100 ≤ v) (h7 : v ≤ 100) : Call sp sc (d + 1) mX12_changesLike [.inr (.inr (rb r + 2)), .inl (aLik 0 a b), .inl v] (hp (A.sro r (rowOf X e) R)) Q = Q none (hp (A.sro r (rowOf (X.alk 0 a b v) e) R)) := changesLike_eq hO (by omega) (by omega) h2 h3 h4 h5 h6 h7
theorem chg1_eq (hO : OkV X) {a b v : Int} (h2 : 0 ≤ a) (h3 : a < X.num 1) (h4 : 0 ≤ b) (h5 : b < X.num 0) (h6 : -100 ≤ v) (h7 : v ≤ 100) : Call sp sc (d + 1) mX12_changesLike [.inr (.inr (rb r + 2)), .inl (aLik 1 a b), .inl v] (hp (A.sro r (rowOf X e) R)) Q = Q none (hp (A.sro r (rowOf (X.alk 1 a b v) e) R)) := changesLike_eq hO (by omega) (by omega) h2 h3 h4 h5 h6 h7
theorem sulkR_loop {a b o : Int} (ha : inI a = true) (hb : inI b = true) : ∀ (k : Nat) (c : Int) (X : iVal) (o1 o2 : Option iV), OkV X → 0 ≤ c → c + k = X.cp → Q none (hp (A.sro r (rowOf (iVal.sulkF a b k c X) e) R)) → Run sp sc (d + 3) mX12_meet 70 [some (.inr (.inr (rb r + 2))), some (.inl a), some (.inl b), some (.inl o), some (.inl c), o1, o2] [] (hp (A.sro r (rowOf X e) R)) Q := by
  intro k
  induction k with
  | zero =>
    intro c X o1 o2 hO h0 h1 hq
    have hcp := hO.cp
    refine G_run (B := [70]) 60 _ _ _ _ ?_
    have e : X.cp ≤ c := by omega
    simp (disch := first | assumption | rfl | exact inI_of (by omega) (by omega) | omega | decide | (simp only [sv_ext, sv_mc, Nat.le_refl]; done) | with_unfolding_all (refine @id _ ?_; first | exact Eq.refl _ | exact Nat.le_refl _ | assumption)) only [Nat.reduceAdd, Nat.reduceMul, Nat.reduceLeDiff, Nat.reduceLT, Int.reduceAdd, Int.reduceSub, Int.reduceMul, Int.reduceNeg, Int.reduceLE, Int.reduceLT, Int.reduceToNat, Int.reduceEq, reduceCtorEq, ld_z, ld_s, st1_0, st1_1, st1_s, st2_0, st2_1, st2_s, isJ_i, isJ_r, isJ_n, isJ_l, cs_nil, cs_i, cs_r, cs_l, kF, List.getElem?_cons_succ, List.getElem?_cons_zero, List.set_cons_zero, List.set_cons_succ, GC_s, GC_n, GK_nil, GK_no, GK_yes, not_false_eq_true, back_eq, inI_eq, inA_eq, true_and, and_true, and_self, if_true, if_false, bI_0, bI_1, bI_in, bI_T, bI_F, fitF, jmpF, nlF, pjA, iVal.eta, iYr.eta, List.getElem?_toArray, List.length_cons, List.length_nil, true_or, or_true, or_false, false_or, Classical.not_not, Bool.false_eq_true, hp_2, Nat.zero_le, Nat.le_refl, Option.some.injEq, Sum.inl.injEq, Sum.inr.injEq, not_true_eq_false, true_implies, false_implies, implies_true, iRy.pj, back_sro, back_sro1, rd_r, rd_o, rd_o_wt, rd_o_en, rd_o_od, sro_rr, sro_srr, sro_sro, sro_wt, sro_en, sro_od, sro_dn, sro_sm, sro_sf, sro_go, wro_wt, wro_en, wro_od, wro_r, wro_o, row_len, inA_one, inA_lik, inA_cpl, gX12_meet, r_cp, e]
    exact hq
  | succ k ih =>
    intro c X o1 o2 hO h0 h1 hq
    have hcp := hO.cp
    have n0 := hO.n0
    have n1 := hO.n1
    have em := hO.man c h0 (by omega)
    have ew := hO.wom c h0 (by omega)
    have s1 := slk1_b hO (s := 0) (k := X.man c) (by omega) (by omega) em.1 (by omega)
    have s2 := slk1_b hO (s := 1) (k := X.wom c) (by omega) (by omega) ew.1 (by omega)
    have hO2 := okV_sulk1 hO (a := a) (b := b) h0 (by omega)
    have sl : sameL X (X.sulk1 a b c) := sameL_sulk1
    have e2 : (X.sulk1 a b c).cp = X.cp := by rw [sl] <;> rfl
    have ih1 := fun o1 o2 => ih (c + 1) (X.sulk1 a b c) o1 o2 hO2 (by omega) (by omega) hq
    refine G_run (B := [70]) 90 _ _ _ _ ?_
    have e : ¬ X.cp ≤ c := by omega
    by_cases g : X.sta c = 0
    · by_cases gw : X.wom c = b <;> by_cases gm : X.man c = a
      · have z : X.sulk1 a b c = X := by unfold iVal.sulk1; rw [if_pos g, if_neg (by omega), if_neg (by omega)]
        rw [z] at ih1
        simp (disch := first | assumption | rfl | exact inI_of (by omega) (by omega) | omega | decide | (simp only [sv_ext, sv_mc, Nat.le_refl]; done) | with_unfolding_all (refine @id _ ?_; first | exact Eq.refl _ | exact Nat.le_refl _ | assumption)) only [Nat.reduceAdd, Nat.reduceMul, Nat.reduceLeDiff, Nat.reduceLT, Int.reduceAdd, Int.reduceSub, Int.reduceMul, Int.reduceNeg, Int.reduceLE, Int.reduceLT, Int.reduceToNat, Int.reduceEq, reduceCtorEq, ld_z, ld_s, st1_0, st1_1, st1_s, st2_0, st2_1, st2_s, isJ_i, isJ_r, isJ_n, isJ_l, cs_nil, cs_i, cs_r, cs_l, kF, List.getElem?_cons_succ, List.getElem?_cons_zero, List.set_cons_zero, List.set_cons_succ, GC_s, GC_n, GK_nil, GK_no, GK_yes, not_false_eq_true, back_eq, inI_eq, inA_eq, true_and, and_true, and_self, if_true, if_false, bI_0, bI_1, bI_in, bI_T, bI_F, fitF, jmpF, nlF, pjA, iVal.eta, iYr.eta, List.getElem?_toArray, List.length_cons, List.length_nil, true_or, or_true, or_false, false_or, Classical.not_not, Bool.false_eq_true, hp_2, Nat.zero_le, Nat.le_refl, Option.some.injEq, Sum.inl.injEq, Sum.inr.injEq, not_true_eq_false, true_implies, false_implies, implies_true, iRy.pj, back_sro, back_sro1, rd_r, rd_o, rd_o_wt, rd_o_en, rd_o_od, sro_rr, sro_srr, sro_sro, sro_wt, sro_en, sro_od, sro_dn, sro_sm, sro_sf, sro_go, wro_wt, wro_en, wro_od, wro_r, wro_o, row_len, inA_one, inA_lik, inA_cpl, gX12_meet, r_cp, e, goesOnR_eq, g, atCouple_eq, q_man, q_wom, gw, gm]
        ((repeat' refine And.intro ?_ ?_) <;> first | exact ha | exact hb | exact ih1 _ _)
      · have z : X.sulk1 a b c = X.alk 0 (X.man c) (X.wom c) (-(X.slk1 0 (X.man c))) := by unfold iVal.sulk1; rw [if_pos g, if_pos ⟨gw, gm⟩]
        rw [z] at ih1
        have ew1 := ew
        rw [gw] at ih1 ew1
        simp (disch := first | assumption | rfl | exact inI_of (by omega) (by omega) | omega | decide | (simp only [sv_ext, sv_mc, Nat.le_refl]; done) | with_unfolding_all (refine @id _ ?_; first | exact Eq.refl _ | exact Nat.le_refl _ | assumption)) only [Nat.reduceAdd, Nat.reduceMul, Nat.reduceLeDiff, Nat.reduceLT, Int.reduceAdd, Int.reduceSub, Int.reduceMul, Int.reduceNeg, Int.reduceLE, Int.reduceLT, Int.reduceToNat, Int.reduceEq, reduceCtorEq, ld_z, ld_s, st1_0, st1_1, st1_s, st2_0, st2_1, st2_s, isJ_i, isJ_r, isJ_n, isJ_l, cs_nil, cs_i, cs_r, cs_l, kF, List.getElem?_cons_succ, List.getElem?_cons_zero, List.set_cons_zero, List.set_cons_succ, GC_s, GC_n, GK_nil, GK_no, GK_yes, not_false_eq_true, back_eq, inI_eq, inA_eq, true_and, and_true, and_self, if_true, if_false, bI_0, bI_1, bI_in, bI_T, bI_F, fitF, jmpF, nlF, pjA, iVal.eta, iYr.eta, List.getElem?_toArray, List.length_cons, List.length_nil, true_or, or_true, or_false, false_or, Classical.not_not, Bool.false_eq_true, hp_2, Nat.zero_le, Nat.le_refl, Option.some.injEq, Sum.inl.injEq, Sum.inr.injEq, not_true_eq_false, true_implies, false_implies, implies_true, iRy.pj, back_sro, back_sro1, rd_r, rd_o, rd_o_wt, rd_o_en, rd_o_od, sro_rr, sro_srr, sro_sro, sro_wt, sro_en, sro_od, sro_dn, sro_sm, sro_sf, sro_go, wro_wt, wro_en, wro_od, wro_r, wro_o, row_len, inA_one, inA_lik, inA_cpl, gX12_meet, r_cp, e, goesOnR_eq, g, atCouple_eq, q_man, q_wom, gw, gm, atLike_eq, sulksOf_eq, chg0_eq]
        ((repeat' refine And.intro ?_ ?_) <;> first | exact ha | exact hb | exact ih1 _ _)
      · have z : X.sulk1 a b c = X.alk 1 (X.wom c) (X.man c) (-(X.slk1 1 (X.wom c))) := by unfold iVal.sulk1; rw [if_pos g, if_neg (by omega), if_pos ⟨gm, gw⟩]
        rw [z] at ih1
        have em1 := em
        rw [gm] at ih1 em1
        simp (disch := first | assumption | rfl | exact inI_of (by omega) (by omega) | omega | decide | (simp only [sv_ext, sv_mc, Nat.le_refl]; done) | with_unfolding_all (refine @id _ ?_; first | exact Eq.refl _ | exact Nat.le_refl _ | assumption)) only [Nat.reduceAdd, Nat.reduceMul, Nat.reduceLeDiff, Nat.reduceLT, Int.reduceAdd, Int.reduceSub, Int.reduceMul, Int.reduceNeg, Int.reduceLE, Int.reduceLT, Int.reduceToNat, Int.reduceEq, reduceCtorEq, ld_z, ld_s, st1_0, st1_1, st1_s, st2_0, st2_1, st2_s, isJ_i, isJ_r, isJ_n, isJ_l, cs_nil, cs_i, cs_r, cs_l, kF, List.getElem?_cons_succ, List.getElem?_cons_zero, List.set_cons_zero, List.set_cons_succ, GC_s, GC_n, GK_nil, GK_no, GK_yes, not_false_eq_true, back_eq, inI_eq, inA_eq, true_and, and_true, and_self, if_true, if_false, bI_0, bI_1, bI_in, bI_T, bI_F, fitF, jmpF, nlF, pjA, iVal.eta, iYr.eta, List.getElem?_toArray, List.length_cons, List.length_nil, true_or, or_true, or_false, false_or, Classical.not_not, Bool.false_eq_true, hp_2, Nat.zero_le, Nat.le_refl, Option.some.injEq, Sum.inl.injEq, Sum.inr.injEq, not_true_eq_false, true_implies, false_implies, implies_true, iRy.pj, back_sro, back_sro1, rd_r, rd_o, rd_o_wt, rd_o_en, rd_o_od, sro_rr, sro_srr, sro_sro, sro_wt, sro_en, sro_od, sro_dn, sro_sm, sro_sf, sro_go, wro_wt, wro_en, wro_od, wro_r, wro_o, row_len, inA_one, inA_lik, inA_cpl, gX12_meet, r_cp, e, goesOnR_eq, g, atCouple_eq, q_man, q_wom, gw, gm, atLike_eq, sulksOf_eq, chg1_eq]
        ((repeat' refine And.intro ?_ ?_) <;> first | exact ha | exact hb | exact ih1 _ _)
      · have z : X.sulk1 a b c = X := by unfold iVal.sulk1; rw [if_pos g, if_neg (by omega), if_neg (by omega)]
        rw [z] at ih1
        simp (disch := first | assumption | rfl | exact inI_of (by omega) (by omega) | omega | decide | (simp only [sv_ext, sv_mc, Nat.le_refl]; done) | with_unfolding_all (refine @id _ ?_; first | exact Eq.refl _ | exact Nat.le_refl _ | assumption)) only [Nat.reduceAdd, Nat.reduceMul, Nat.reduceLeDiff, Nat.reduceLT, Int.reduceAdd, Int.reduceSub, Int.reduceMul, Int.reduceNeg, Int.reduceLE, Int.reduceLT, Int.reduceToNat, Int.reduceEq, reduceCtorEq, ld_z, ld_s, st1_0, st1_1, st1_s, st2_0, st2_1, st2_s, isJ_i, isJ_r, isJ_n, isJ_l, cs_nil, cs_i, cs_r, cs_l, kF, List.getElem?_cons_succ, List.getElem?_cons_zero, List.set_cons_zero, List.set_cons_succ, GC_s, GC_n, GK_nil, GK_no, GK_yes, not_false_eq_true, back_eq, inI_eq, inA_eq, true_and, and_true, and_self, if_true, if_false, bI_0, bI_1, bI_in, bI_T, bI_F, fitF, jmpF, nlF, pjA, iVal.eta, iYr.eta, List.getElem?_toArray, List.length_cons, List.length_nil, true_or, or_true, or_false, false_or, Classical.not_not, Bool.false_eq_true, hp_2, Nat.zero_le, Nat.le_refl, Option.some.injEq, Sum.inl.injEq, Sum.inr.injEq, not_true_eq_false, true_implies, false_implies, implies_true, iRy.pj, back_sro, back_sro1, rd_r, rd_o, rd_o_wt, rd_o_en, rd_o_od, sro_rr, sro_srr, sro_sro, sro_wt, sro_en, sro_od, sro_dn, sro_sm, sro_sf, sro_go, wro_wt, wro_en, wro_od, wro_r, wro_o, row_len, inA_one, inA_lik, inA_cpl, gX12_meet, r_cp, e, goesOnR_eq, g, atCouple_eq, q_man, q_wom, gw, gm]
        ((repeat' refine And.intro ?_ ?_) <;> first | exact ha | exact hb | exact ih1 _ _)
    · have z : X.sulk1 a b c = X := by unfold iVal.sulk1; rw [if_neg g]
      rw [z] at ih1
      simp (disch := first | assumption | rfl | exact inI_of (by omega) (by omega) | omega | decide | (simp only [sv_ext, sv_mc, Nat.le_refl]; done) | with_unfolding_all (refine @id _ ?_; first | exact Eq.refl _ | exact Nat.le_refl _ | assumption)) only [Nat.reduceAdd, Nat.reduceMul, Nat.reduceLeDiff, Nat.reduceLT, Int.reduceAdd, Int.reduceSub, Int.reduceMul, Int.reduceNeg, Int.reduceLE, Int.reduceLT, Int.reduceToNat, Int.reduceEq, reduceCtorEq, ld_z, ld_s, st1_0, st1_1, st1_s, st2_0, st2_1, st2_s, isJ_i, isJ_r, isJ_n, isJ_l, cs_nil, cs_i, cs_r, cs_l, kF, List.getElem?_cons_succ, List.getElem?_cons_zero, List.set_cons_zero, List.set_cons_succ, GC_s, GC_n, GK_nil, GK_no, GK_yes, not_false_eq_true, back_eq, inI_eq, inA_eq, true_and, and_true, and_self, if_true, if_false, bI_0, bI_1, bI_in, bI_T, bI_F, fitF, jmpF, nlF, pjA, iVal.eta, iYr.eta, List.getElem?_toArray, List.length_cons, List.length_nil, true_or, or_true, or_false, false_or, Classical.not_not, Bool.false_eq_true, hp_2, Nat.zero_le, Nat.le_refl, Option.some.injEq, Sum.inl.injEq, Sum.inr.injEq, not_true_eq_false, true_implies, false_implies, implies_true, iRy.pj, back_sro, back_sro1, rd_r, rd_o, rd_o_wt, rd_o_en, rd_o_od, sro_rr, sro_srr, sro_sro, sro_wt, sro_en, sro_od, sro_dn, sro_sm, sro_sf, sro_go, wro_wt, wro_en, wro_od, wro_r, wro_o, row_len, inA_one, inA_lik, inA_cpl, gX12_meet, r_cp, e, goesOnR_eq, g]
      ((repeat' refine And.intro ?_ ?_) <;> first | exact ha | exact hb | exact ih1 _ _)
theorem meetR_eq (hO : OkV X) {a b : Int} (h0 : 0 ≤ a) (h1 : a < X.num 0) (h2 : 0 ≤ b) (h3 : b < X.num 1) : Call sp sc (d + 3) mX12_meet [.inr (.inr (rb r + 2)), .inl a, .inl b] (hp (A.sro r (rowOf X e) R)) Q = Q none (hp (A.sro r (rowOf ((X.meet a b).sulk a b) e) R)) := Call_eq (by
  have hcp := hO.cp
  have n0 := hO.n0
  have n1 := hO.n1
  have k1 := nK_lt (X.nx 0 a)
  have k2 := nK_lt (X.nx 1 b)
  have g1 := grw_b hO (own := X.own a b) (s := 0) (k := a) (by omega) (by omega) h0 (by omega)
  have g2 := grw_b hO (own := X.own a b) (s := 1) (k := b) (by omega) (by omega) h2 (by omega)
  have ho : X.own a b = 0 ∨ X.own a b = 1 := ownF_b _ _
  have hO1 : OkV (X.alk 0 a b (X.grw 0 a (X.own a b))) := okV_alk hO (by omega) (by omega) h0 h1 h2 h3
  have hM := okV_meet hO h0 h1 h2 h3
  unfold iVal.grw at *
  have p1 : b < (X.alk 0 a b (gB (nK (X.nx 0 a)) (nF (X.nx 0 a)) (X.own a b))).num 1 := h3
  have p2 : a < (X.alk 0 a b (gB (nK (X.nx 0 a)) (nF (X.nx 0 a)) (X.own a b))).num 0 := h1
  have p3 : (X.alk 0 a b (gB (nK (X.nx 0 a)) (nF (X.nx 0 a)) (X.own a b))).num 1 ≤ 5 := n1.2
  apply eX12_meet 90
  simp (disch := first | assumption | rfl | exact inI_of (by omega) (by omega) | omega | decide | (simp only [sv_ext, sv_mc, Nat.le_refl]; done) | with_unfolding_all (refine @id _ ?_; first | exact Eq.refl _ | exact Nat.le_refl _ | assumption)) only [Nat.reduceAdd, Nat.reduceMul, Nat.reduceLeDiff, Nat.reduceLT, Int.reduceAdd, Int.reduceSub, Int.reduceMul, Int.reduceNeg, Int.reduceLE, Int.reduceLT, Int.reduceToNat, Int.reduceEq, reduceCtorEq, ld_z, ld_s, st1_0, st1_1, st1_s, st2_0, st2_1, st2_s, isJ_i, isJ_r, isJ_n, isJ_l, cs_nil, cs_i, cs_r, cs_l, kF, List.getElem?_cons_succ, List.getElem?_cons_zero, List.set_cons_zero, List.set_cons_succ, GC_s, GC_n, GK_nil, GK_no, GK_yes, not_false_eq_true, back_eq, inI_eq, inA_eq, true_and, and_true, and_self, if_true, if_false, bI_0, bI_1, bI_in, bI_T, bI_F, fitF, jmpF, nlF, pjA, iVal.eta, iYr.eta, List.getElem?_toArray, List.length_cons, List.length_nil, true_or, or_true, or_false, false_or, Classical.not_not, Bool.false_eq_true, hp_2, Nat.zero_le, Nat.le_refl, Option.some.injEq, Sum.inl.injEq, Sum.inr.injEq, not_true_eq_false, true_implies, false_implies, implies_true, iRy.pj, back_sro, back_sro1, rd_r, rd_o, rd_o_wt, rd_o_en, rd_o_od, sro_rr, sro_srr, sro_sro, sro_wt, sro_en, sro_od, sro_dn, sro_sm, sro_sf, sro_go, wro_wt, wro_en, wro_od, wro_r, wro_o, row_len, inA_one, inA_lik, inA_cpl, gX12_meet, areOwnR_eq, atLike_eq, atOne_eq, q_kind, q_fig, nx_alk, growsBy_eq k1 ho, growsBy_eq k2 ho, chg0_eq, chg1_eq]
  exact sulkR_loop (inI_of (by omega) (by omega)) (inI_of (by omega) (by omega)) X.cp.toNat 0 (X.meet a b) _ _ hM (by omega) (by show (0 : Int) + (X.cp.toNat : Int) = X.cp; omega) ⟨rfl, rfl⟩)
theorem ends_eq (le : S.2.en.length = 4) (ls : S.1.sa.length = 4) (hg : S.2.ps = g + 1) (hg0 : 0 ≤ g) {c v : Int} (h0 : 0 ≤ c) (h1 : c < 4) : Call sp sc (d + 1) mX12_ends [.inr (.inr 140), .inr (.inr (rb r + 2)), .inl c, .inl v] (hp (A.sro r (rowOf S.1 e) (ryOf S.2 g))) Q = Q none (hp (A.sro r (rowOf (endA S c v).1 e) (ryOf (endA S c v).2 g))) := Call_eq (by
  have l2 : (enR S.2.en).length = 4 := by rw [enR_len]; exact le
  have ne : ¬ g + 1 = 0 := by omega
  apply eX12_ends 40
  unfold ryOf
  simp (disch := first | assumption | rfl | exact inI_of (by omega) (by omega) | omega | decide | (simp only [sv_ext, sv_mc, Nat.le_refl]; done) | with_unfolding_all (refine @id _ ?_; first | exact Eq.refl _ | exact Nat.le_refl _ | assumption)) only [Nat.reduceAdd, Nat.reduceMul, Nat.reduceLeDiff, Nat.reduceLT, Int.reduceAdd, Int.reduceSub, Int.reduceMul, Int.reduceNeg, Int.reduceLE, Int.reduceLT, Int.reduceToNat, Int.reduceEq, reduceCtorEq, ld_z, ld_s, st1_0, st1_1, st1_s, st2_0, st2_1, st2_s, isJ_i, isJ_r, isJ_n, isJ_l, cs_nil, cs_i, cs_r, cs_l, kF, List.getElem?_cons_succ, List.getElem?_cons_zero, List.set_cons_zero, List.set_cons_succ, GC_s, GC_n, GK_nil, GK_no, GK_yes, not_false_eq_true, back_eq, inI_eq, inA_eq, true_and, and_true, and_self, if_true, if_false, bI_0, bI_1, bI_in, bI_T, bI_F, fitF, jmpF, nlF, pjA, iVal.eta, iYr.eta, List.getElem?_toArray, List.length_cons, List.length_nil, true_or, or_true, or_false, false_or, Classical.not_not, Bool.false_eq_true, hp_2, Nat.zero_le, Nat.le_refl, Option.some.injEq, Sum.inl.injEq, Sum.inr.injEq, not_true_eq_false, true_implies, false_implies, implies_true, iRy.pj, back_sro, back_sro1, rd_r, rd_o, rd_o_wt, rd_o_en, rd_o_od, sro_rr, sro_srr, sro_sro, sro_wt, sro_en, sro_od, sro_dn, sro_sm, sro_sf, sro_go, wro_wt, wro_en, wro_od, wro_r, wro_o, row_len, inA_one, inA_lik, inA_cpl, gX12_ends, atCouple_eq, w_sta, l2, enR_set ne]
  unfold endA
  rw [hg]
  rfl)
theorem ry_wt {Y : iYr} {g : Int} : (ryOf Y g).wt = Y.wt := rfl
theorem ry_en {Y : iYr} {g : Int} : (ryOf Y g).en = enR Y.en := rfl
theorem ry_od {Y : iYr} {g : Int} : (ryOf Y g).od = Y.od := rfl
theorem ry_dn {Y : iYr} {g : Int} : (ryOf Y g).dn = Y.dn := rfl
theorem ry_sm {Y : iYr} {g : Int} : (ryOf Y g).sm = Y.sp := rfl
theorem ry_sf {Y : iYr} {g : Int} : (ryOf Y g).sf = sfR Y := rfl
theorem ry_go {Y : iYr} {g : Int} : (ryOf Y g).go = g := rfl
end RD
