set_option maxRecDepth 16384
/-! ===== stable: the reference ===== -/
def iA.sQ (A : iA) (he ak : List Int) : iA := (iA.mk A.now A.img A.mnd A.imd A.yr A.mt A.sh A.pt ((iMo.mk A.mo.s A.mo.m A.mo.im A.mo.was A.mo.hi A.mo.wt A.mo.en A.mo.od A.mo.dn A.mo.sm A.mo.sf A.mo.go A.mo.at_ A.mo.ra A.mo.re A.mo.nu A.mo.bd A.mo.bg (he) A.mo.bh (ak) A.mo.st A.mo.ml A.mo.fi A.mo.th A.mo.se A.mo.ke A.mo.kk A.mo.kf A.mo.so A.mo.sz A.mo.el A.mo.tn)) A.out A.ext A.mc)
def RZ (Z : iZt) (he ak : List Int) : Prop := he.length = 5 ∧ ak.length = 5 ∧ (∀ m, 0 ≤ m → m < 5 → (gt0 Z.1 m = -1 ∧ gt0 he m = -4) ∨ (0 ≤ gt0 Z.1 m ∧ gt0 he m = gt0 Z.1 m)) ∧ ∀ m, 0 ≤ m → m < 5 → ∃ n : Nat, n < 1024 ∧ gt0 ak m = (n : Int) ∧ ∀ w, 0 ≤ w → w < 5 → (bAnd (bShr (n : Int) w) 1 = 1 ↔ askd Z m w)
section OPS
variable {sp : Nat → List iV → iH → Option (Option iV × iH)} {sc : List Int} {d : Nat} {A : iA} {Q : Option iV → iH → Prop} {h : iH} {X : iVal} {e g B : Int} {Z : iZt} {he ak : List Int}
theorem sQ_he : (A.sQ he ak).mo.he = he := rfl
theorem sQ_ak : (A.sQ he ak).mo.ak = ak := rfl
theorem sQ_s : (A.sQ he ak).mo.s = A.mo.s := rfl
theorem sQ_sQ {a b : List Int} : (A.sQ he ak).sQ a b = A.sQ a b := rfl
theorem wr_Qhe {l : List Int} : ((hp A).1.set 147 (.inr (.inl (0, l))), A.mc) = hp (A.sQ l A.mo.ak) := wr_o_he
theorem wr_Qak {l : List Int} : ((hp A).1.set 149 (.inr (.inl (0, l))), A.mc) = hp (A.sQ A.mo.he l) := wr_o_ak
theorem back_sQ {a b : List Int} {L : List (Option iV)} {rest : List iV} : back (hp (A.sQ he ak)) (hp (A.sQ a b)) L rest = True := back_hp rfl (Nat.le_refl _)
def nR (x : Int) : Int := if x = -1 then -4 else x
theorem nxR_loop (hO : OkV X) (hr : A.mo.s = rowOf X e) {ks : List Int} {m : Int} {n : Nat} (hb : ∀ w, 0 ≤ w → w < 5 → (bAnd (bShr (n : Int) w) 1 = 1 ↔ gt0 ks (m * 5 + w) = 1)) (h0 : 0 ≤ m) (h1 : m < X.num 0) : ∀ (k : Nat) (w cur : Int), 0 ≤ w → w + k = X.num 1 → (cur = -1 ∨ (0 ≤ cur ∧ cur < X.num 1)) → Q (some (.inl (nR (nxF X ks m k w cur)))) (hp A) → Run sp sc (d + 1) mX12_nextOf 6 [some (.inr (.inr 140)), some (.inl m), some (.inl (n : Int)), some (.inl (nR cur)), some (.inl w)] [] (hp A) Q := by
  have n0 := hO.n0
  have n1 := hO.n1
  intro k
  induction k with
  | zero =>
    intro w cur h2 h3 h4 hq
    refine G_run (B := [6]) 60 _ _ _ _ ?_
    have e1 : X.num 1 ≤ w := by omega
    simp (disch := first | assumption | rfl | exact inI_of (by omega) (by omega) | omega | decide | (simp only [sv_ext, sv_mc, Nat.le_refl]; done) | with_unfolding_all (refine @id _ ?_; first | exact Eq.refl _ | exact Nat.le_refl _ | assumption)) only [Nat.reduceAdd, Nat.reduceMul, Nat.reduceLeDiff, Nat.reduceLT, Int.reduceAdd, Int.reduceSub, Int.reduceMul, Int.reduceNeg, Int.reduceLE, Int.reduceLT, Int.reduceToNat, Int.reduceEq, reduceCtorEq, ld_z, ld_s, st1_0, st1_1, st1_s, st2_0, st2_1, st2_s, isJ_i, isJ_r, isJ_n, isJ_l, cs_nil, cs_i, cs_r, cs_l, kF, List.getElem?_cons_succ, List.getElem?_cons_zero, List.set_cons_zero, List.set_cons_succ, GC_s, GC_n, GK_nil, GK_no, GK_yes, not_false_eq_true, back_eq, back_hp, inI_eq, inA_eq, true_and, and_true, and_self, if_true, if_false, bI_0, bI_1, bI_in, bI_T, bI_F, fitF, jmpF, nlF, pjA, iVal.eta, iYr.eta, List.getElem?_toArray, List.length_cons, List.length_nil, true_or, or_true, or_false, false_or, Classical.not_not, Bool.false_eq_true, hp_2, Nat.zero_le, Nat.le_refl, Option.some.injEq, Sum.inl.injEq, Sum.inr.injEq, not_true_eq_false, true_implies, false_implies, implies_true, Int.le_refl, rd_o, rd_o_s, hr, row_len, inA_one, inA_lik, inA_cpl, isOne_eq hO hr, isCouple_eq hO hr, isIn_eq, atOne_eq, atLike_eq, atCouple_eq, r_num, q_n0, q_n1, r_cp, r_dy, r_sl, r_who, q_kind, q_fig, q_dep, q_bnd, q_lik, q_man, q_wom, q_sta, q_dds, orNoneR_eq, Int.zero_add, gX12_nextOf, e1]
    exact hq
  | succ k ih =>
    intro w cur h2 h3 h4 hq
    refine G_run (B := [6]) 60 _ _ _ _ ?_
    have e1 : ¬ X.num 1 ≤ w := by omega
    have l1 := hO.lik 0 m w (by omega) (by omega) h0 (by omega) h2 (by omega)
    have hw := hb w h2 (by omega)
    have nw : nR w = w := if_neg (by omega)
    unfold nxF at hq
    by_cases c0 : gt0 ks (m * 5 + w) = 1
    · rw [if_neg (fun u => u.1 c0)] at hq
      have z := hw.mpr c0
      simp (disch := first | assumption | rfl | exact inI_of (by omega) (by omega) | omega | decide | (simp only [sv_ext, sv_mc, Nat.le_refl]; done) | with_unfolding_all (refine @id _ ?_; first | exact Eq.refl _ | exact Nat.le_refl _ | assumption)) only [Nat.reduceAdd, Nat.reduceMul, Nat.reduceLeDiff, Nat.reduceLT, Int.reduceAdd, Int.reduceSub, Int.reduceMul, Int.reduceNeg, Int.reduceLE, Int.reduceLT, Int.reduceToNat, Int.reduceEq, reduceCtorEq, ld_z, ld_s, st1_0, st1_1, st1_s, st2_0, st2_1, st2_s, isJ_i, isJ_r, isJ_n, isJ_l, cs_nil, cs_i, cs_r, cs_l, kF, List.getElem?_cons_succ, List.getElem?_cons_zero, List.set_cons_zero, List.set_cons_succ, GC_s, GC_n, GK_nil, GK_no, GK_yes, not_false_eq_true, back_eq, back_hp, inI_eq, inA_eq, true_and, and_true, and_self, if_true, if_false, bI_0, bI_1, bI_in, bI_T, bI_F, fitF, jmpF, nlF, pjA, iVal.eta, iYr.eta, List.getElem?_toArray, List.length_cons, List.length_nil, true_or, or_true, or_false, false_or, Classical.not_not, Bool.false_eq_true, hp_2, Nat.zero_le, Nat.le_refl, Option.some.injEq, Sum.inl.injEq, Sum.inr.injEq, not_true_eq_false, true_implies, false_implies, implies_true, Int.le_refl, rd_o, rd_o_s, hr, row_len, inA_one, inA_lik, inA_cpl, isOne_eq hO hr, isCouple_eq hO hr, isIn_eq, atOne_eq, atLike_eq, atCouple_eq, r_num, q_n0, q_n1, r_cp, r_dy, r_sl, r_who, q_kind, q_fig, q_dep, q_bnd, q_lik, q_man, q_wom, q_sta, q_dds, orNoneR_eq, Int.zero_add, gX12_nextOf, e1, has_eq, eq_true z]
      exact ih (w + 1) cur (by omega) (by omega) h4 hq
    · have z : ¬ bAnd (bShr (n : Int) w) 1 = 1 := fun y => c0 (hw.mp y)
      rcases h4 with c | c
      · rw [if_pos ⟨c0, Or.inl c⟩] at hq
        have nc : nR cur = -4 := if_pos c
        rw [nc]
        simp (disch := first | assumption | rfl | exact inI_of (by omega) (by omega) | omega | decide | (simp only [sv_ext, sv_mc, Nat.le_refl]; done) | with_unfolding_all (refine @id _ ?_; first | exact Eq.refl _ | exact Nat.le_refl _ | assumption)) only [Nat.reduceAdd, Nat.reduceMul, Nat.reduceLeDiff, Nat.reduceLT, Int.reduceAdd, Int.reduceSub, Int.reduceMul, Int.reduceNeg, Int.reduceLE, Int.reduceLT, Int.reduceToNat, Int.reduceEq, reduceCtorEq, ld_z, ld_s, st1_0, st1_1, st1_s, st2_0, st2_1, st2_s, isJ_i, isJ_r, isJ_n, isJ_l, cs_nil, cs_i, cs_r, cs_l, kF, List.getElem?_cons_succ, List.getElem?_cons_zero, List.set_cons_zero, List.set_cons_succ, GC_s, GC_n, GK_nil, GK_no, GK_yes, not_false_eq_true, back_eq, back_hp, inI_eq, inA_eq, true_and, and_true, and_self, if_true, if_false, bI_0, bI_1, bI_in, bI_T, bI_F, fitF, jmpF, nlF, pjA, iVal.eta, iYr.eta, List.getElem?_toArray, List.length_cons, List.length_nil, true_or, or_true, or_false, false_or, Classical.not_not, Bool.false_eq_true, hp_2, Nat.zero_le, Nat.le_refl, Option.some.injEq, Sum.inl.injEq, Sum.inr.injEq, not_true_eq_false, true_implies, false_implies, implies_true, Int.le_refl, rd_o, rd_o_s, hr, row_len, inA_one, inA_lik, inA_cpl, isOne_eq hO hr, isCouple_eq hO hr, isIn_eq, atOne_eq, atLike_eq, atCouple_eq, r_num, q_n0, q_n1, r_cp, r_dy, r_sl, r_who, q_kind, q_fig, q_dep, q_bnd, q_lik, q_man, q_wom, q_sta, q_dds, orNoneR_eq, Int.zero_add, gX12_nextOf, e1, has_eq, z]
        have := ih (w + 1) w (by omega) (by omega) (Or.inr ⟨h2, by omega⟩) hq
        rw [nw] at this
        exact this
      · have nc : nR cur = cur := if_neg (by omega)
        rw [nc]
        have l2 := hO.lik 0 m cur (by omega) (by omega) h0 (by omega) c.1 (by omega)
        have c1 : ¬ cur < 0 := by omega
        have c2 : ¬ cur = -1 := by omega
        by_cases y : X.lik 0 m cur < X.lik 0 m w
        · rw [if_pos ⟨c0, Or.inr y⟩] at hq
          have y2 : ¬ X.lik 0 m w ≤ X.lik 0 m cur := by omega
          simp (disch := first | assumption | rfl | exact inI_of (by omega) (by omega) | omega | decide | (simp only [sv_ext, sv_mc, Nat.le_refl]; done) | with_unfolding_all (refine @id _ ?_; first | exact Eq.refl _ | exact Nat.le_refl _ | assumption)) only [Nat.reduceAdd, Nat.reduceMul, Nat.reduceLeDiff, Nat.reduceLT, Int.reduceAdd, Int.reduceSub, Int.reduceMul, Int.reduceNeg, Int.reduceLE, Int.reduceLT, Int.reduceToNat, Int.reduceEq, reduceCtorEq, ld_z, ld_s, st1_0, st1_1, st1_s, st2_0, st2_1, st2_s, isJ_i, isJ_r, isJ_n, isJ_l, cs_nil, cs_i, cs_r, cs_l, kF, List.getElem?_cons_succ, List.getElem?_cons_zero, List.set_cons_zero, List.set_cons_succ, GC_s, GC_n, GK_nil, GK_no, GK_yes, not_false_eq_true, back_eq, back_hp, inI_eq, inA_eq, true_and, and_true, and_self, if_true, if_false, bI_0, bI_1, bI_in, bI_T, bI_F, fitF, jmpF, nlF, pjA, iVal.eta, iYr.eta, List.getElem?_toArray, List.length_cons, List.length_nil, true_or, or_true, or_false, false_or, Classical.not_not, Bool.false_eq_true, hp_2, Nat.zero_le, Nat.le_refl, Option.some.injEq, Sum.inl.injEq, Sum.inr.injEq, not_true_eq_false, true_implies, false_implies, implies_true, Int.le_refl, rd_o, rd_o_s, hr, row_len, inA_one, inA_lik, inA_cpl, isOne_eq hO hr, isCouple_eq hO hr, isIn_eq, atOne_eq, atLike_eq, atCouple_eq, r_num, q_n0, q_n1, r_cp, r_dy, r_sl, r_who, q_kind, q_fig, q_dep, q_bnd, q_lik, q_man, q_wom, q_sta, q_dds, orNoneR_eq, Int.zero_add, gX12_nextOf, e1, has_eq, z, c1, y2]
          have := ih (w + 1) w (by omega) (by omega) (Or.inr ⟨h2, by omega⟩) hq
          rw [nw] at this
          exact this
        · rw [if_neg (fun u => u.2.elim c2 y)] at hq
          have y2 : X.lik 0 m w ≤ X.lik 0 m cur := by omega
          simp (disch := first | assumption | rfl | exact inI_of (by omega) (by omega) | omega | decide | (simp only [sv_ext, sv_mc, Nat.le_refl]; done) | with_unfolding_all (refine @id _ ?_; first | exact Eq.refl _ | exact Nat.le_refl _ | assumption)) only [Nat.reduceAdd, Nat.reduceMul, Nat.reduceLeDiff, Nat.reduceLT, Int.reduceAdd, Int.reduceSub, Int.reduceMul, Int.reduceNeg, Int.reduceLE, Int.reduceLT, Int.reduceToNat, Int.reduceEq, reduceCtorEq, ld_z, ld_s, st1_0, st1_1, st1_s, st2_0, st2_1, st2_s, isJ_i, isJ_r, isJ_n, isJ_l, cs_nil, cs_i, cs_r, cs_l, kF, List.getElem?_cons_succ, List.getElem?_cons_zero, List.set_cons_zero, List.set_cons_succ, GC_s, GC_n, GK_nil, GK_no, GK_yes, not_false_eq_true, back_eq, back_hp, inI_eq, inA_eq, true_and, and_true, and_self, if_true, if_false, bI_0, bI_1, bI_in, bI_T, bI_F, fitF, jmpF, nlF, pjA, iVal.eta, iYr.eta, List.getElem?_toArray, List.length_cons, List.length_nil, true_or, or_true, or_false, false_or, Classical.not_not, Bool.false_eq_true, hp_2, Nat.zero_le, Nat.le_refl, Option.some.injEq, Sum.inl.injEq, Sum.inr.injEq, not_true_eq_false, true_implies, false_implies, implies_true, Int.le_refl, rd_o, rd_o_s, hr, row_len, inA_one, inA_lik, inA_cpl, isOne_eq hO hr, isCouple_eq hO hr, isIn_eq, atOne_eq, atLike_eq, atCouple_eq, r_num, q_n0, q_n1, r_cp, r_dy, r_sl, r_who, q_kind, q_fig, q_dep, q_bnd, q_lik, q_man, q_wom, q_sta, q_dds, orNoneR_eq, Int.zero_add, gX12_nextOf, e1, has_eq, z, c1, y2]
          have := ih (w + 1) cur (by omega) (by omega) (Or.inr c) hq
          rw [nc] at this
          exact this
theorem nextOf_eq (hO : OkV X) (hr : A.mo.s = rowOf X e) {ks : List Int} {m : Int} {n : Nat} (hb : ∀ w, 0 ≤ w → w < 5 → (bAnd (bShr (n : Int) w) 1 = 1 ↔ gt0 ks (m * 5 + w) = 1)) (h0 : 0 ≤ m) (h1 : m < X.num 0) : Call sp sc (d + 1) mX12_nextOf [.inr (.inr 140), .inl m, .inl (n : Int)] (hp A) Q = Q (some (.inl (nR (nxZ X ks m)))) (hp A) := Call_eq (by
  have n1 := hO.n1
  apply eX12_nextOf 40; simp (disch := first | assumption | rfl | exact inI_of (by omega) (by omega) | omega | decide | (simp only [sv_ext, sv_mc, Nat.le_refl]; done) | with_unfolding_all (refine @id _ ?_; first | exact Eq.refl _ | exact Nat.le_refl _ | assumption)) only [Nat.reduceAdd, Nat.reduceMul, Nat.reduceLeDiff, Nat.reduceLT, Int.reduceAdd, Int.reduceSub, Int.reduceMul, Int.reduceNeg, Int.reduceLE, Int.reduceLT, Int.reduceToNat, Int.reduceEq, reduceCtorEq, ld_z, ld_s, st1_0, st1_1, st1_s, st2_0, st2_1, st2_s, isJ_i, isJ_r, isJ_n, isJ_l, cs_nil, cs_i, cs_r, cs_l, kF, List.getElem?_cons_succ, List.getElem?_cons_zero, List.set_cons_zero, List.set_cons_succ, GC_s, GC_n, GK_nil, GK_no, GK_yes, not_false_eq_true, back_eq, back_hp, inI_eq, inA_eq, true_and, and_true, and_self, if_true, if_false, bI_0, bI_1, bI_in, bI_T, bI_F, fitF, jmpF, nlF, pjA, iVal.eta, iYr.eta, List.getElem?_toArray, List.length_cons, List.length_nil, true_or, or_true, or_false, false_or, Classical.not_not, Bool.false_eq_true, hp_2, Nat.zero_le, Nat.le_refl, Option.some.injEq, Sum.inl.injEq, Sum.inr.injEq, not_true_eq_false, true_implies, false_implies, implies_true, Int.le_refl, gX12_nextOf]
  exact nxR_loop hO hr hb h0 h1 (X.num 1).toNat 0 (-1) (by omega) (by omega) (Or.inl rfl) ⟨rfl, rfl⟩)
theorem keepsR_eq (hO : OkV X) (hr : A.mo.s = rowOf X e) {w m r : Int} (h0 : 0 ≤ w) (h1 : w < X.num 1) (h2 : 0 ≤ m) (h3 : m < X.num 0) (h4 : 0 ≤ r) (h5 : r < X.num 0) : Call sp sc (d + 1) mX12_keepsMore [.inr (.inr 140), .inl w, .inl m, .inl r] (hp A) Q = Q (some (.inl (bI (pwP X w r m)))) (hp A) := Call_eq (by
  have n0 := hO.n0
  have n1 := hO.n1
  have l1 := hO.lik 1 w m (by omega) (by omega) h0 (by omega) h2 (by omega)
  have l2 := hO.lik 1 w r (by omega) (by omega) h0 (by omega) h4 (by omega)
  apply eX12_keepsMore 60
  by_cases z : X.lik 1 w r < X.lik 1 w m
  · rw [bI_t (Or.inl z)]
    simp (disch := first | assumption | rfl | exact inI_of (by omega) (by omega) | omega | decide | (simp only [sv_ext, sv_mc, Nat.le_refl]; done) | with_unfolding_all (refine @id _ ?_; first | exact Eq.refl _ | exact Nat.le_refl _ | assumption)) only [Nat.reduceAdd, Nat.reduceMul, Nat.reduceLeDiff, Nat.reduceLT, Int.reduceAdd, Int.reduceSub, Int.reduceMul, Int.reduceNeg, Int.reduceLE, Int.reduceLT, Int.reduceToNat, Int.reduceEq, reduceCtorEq, ld_z, ld_s, st1_0, st1_1, st1_s, st2_0, st2_1, st2_s, isJ_i, isJ_r, isJ_n, isJ_l, cs_nil, cs_i, cs_r, cs_l, kF, List.getElem?_cons_succ, List.getElem?_cons_zero, List.set_cons_zero, List.set_cons_succ, GC_s, GC_n, GK_nil, GK_no, GK_yes, not_false_eq_true, back_eq, back_hp, inI_eq, inA_eq, true_and, and_true, and_self, if_true, if_false, bI_0, bI_1, bI_in, bI_T, bI_F, fitF, jmpF, nlF, pjA, iVal.eta, iYr.eta, List.getElem?_toArray, List.length_cons, List.length_nil, true_or, or_true, or_false, false_or, Classical.not_not, Bool.false_eq_true, hp_2, Nat.zero_le, Nat.le_refl, Option.some.injEq, Sum.inl.injEq, Sum.inr.injEq, not_true_eq_false, true_implies, false_implies, implies_true, Int.le_refl, rd_o, rd_o_s, hr, row_len, inA_one, inA_lik, inA_cpl, isOne_eq hO hr, isCouple_eq hO hr, isIn_eq, atOne_eq, atLike_eq, atCouple_eq, r_num, q_n0, q_n1, r_cp, r_dy, r_sl, r_who, q_kind, q_fig, q_dep, q_bnd, q_lik, q_man, q_wom, q_sta, q_dds, orNoneR_eq, Int.zero_add, gX12_keepsMore, z]
  · by_cases y : X.lik 1 w m = X.lik 1 w r
    · by_cases x : m < r
      · rw [bI_t (Or.inr ⟨y, x⟩)]
        have x2 : ¬ r ≤ m := by omega
        simp (disch := first | assumption | rfl | exact inI_of (by omega) (by omega) | omega | decide | (simp only [sv_ext, sv_mc, Nat.le_refl]; done) | with_unfolding_all (refine @id _ ?_; first | exact Eq.refl _ | exact Nat.le_refl _ | assumption)) only [Nat.reduceAdd, Nat.reduceMul, Nat.reduceLeDiff, Nat.reduceLT, Int.reduceAdd, Int.reduceSub, Int.reduceMul, Int.reduceNeg, Int.reduceLE, Int.reduceLT, Int.reduceToNat, Int.reduceEq, reduceCtorEq, ld_z, ld_s, st1_0, st1_1, st1_s, st2_0, st2_1, st2_s, isJ_i, isJ_r, isJ_n, isJ_l, cs_nil, cs_i, cs_r, cs_l, kF, List.getElem?_cons_succ, List.getElem?_cons_zero, List.set_cons_zero, List.set_cons_succ, GC_s, GC_n, GK_nil, GK_no, GK_yes, not_false_eq_true, back_eq, back_hp, inI_eq, inA_eq, true_and, and_true, and_self, if_true, if_false, bI_0, bI_1, bI_in, bI_T, bI_F, fitF, jmpF, nlF, pjA, iVal.eta, iYr.eta, List.getElem?_toArray, List.length_cons, List.length_nil, true_or, or_true, or_false, false_or, Classical.not_not, Bool.false_eq_true, hp_2, Nat.zero_le, Nat.le_refl, Option.some.injEq, Sum.inl.injEq, Sum.inr.injEq, not_true_eq_false, true_implies, false_implies, implies_true, Int.le_refl, rd_o, rd_o_s, hr, row_len, inA_one, inA_lik, inA_cpl, isOne_eq hO hr, isCouple_eq hO hr, isIn_eq, atOne_eq, atLike_eq, atCouple_eq, r_num, q_n0, q_n1, r_cp, r_dy, r_sl, r_who, q_kind, q_fig, q_dep, q_bnd, q_lik, q_man, q_wom, q_sta, q_dds, orNoneR_eq, Int.zero_add, gX12_keepsMore, z, eq_true y, x2]
      · rw [bI_f (fun u => u.elim z (fun v => x v.2))]
        have x2 : r ≤ m := by omega
        simp (disch := first | assumption | rfl | exact inI_of (by omega) (by omega) | omega | decide | (simp only [sv_ext, sv_mc, Nat.le_refl]; done) | with_unfolding_all (refine @id _ ?_; first | exact Eq.refl _ | exact Nat.le_refl _ | assumption)) only [Nat.reduceAdd, Nat.reduceMul, Nat.reduceLeDiff, Nat.reduceLT, Int.reduceAdd, Int.reduceSub, Int.reduceMul, Int.reduceNeg, Int.reduceLE, Int.reduceLT, Int.reduceToNat, Int.reduceEq, reduceCtorEq, ld_z, ld_s, st1_0, st1_1, st1_s, st2_0, st2_1, st2_s, isJ_i, isJ_r, isJ_n, isJ_l, cs_nil, cs_i, cs_r, cs_l, kF, List.getElem?_cons_succ, List.getElem?_cons_zero, List.set_cons_zero, List.set_cons_succ, GC_s, GC_n, GK_nil, GK_no, GK_yes, not_false_eq_true, back_eq, back_hp, inI_eq, inA_eq, true_and, and_true, and_self, if_true, if_false, bI_0, bI_1, bI_in, bI_T, bI_F, fitF, jmpF, nlF, pjA, iVal.eta, iYr.eta, List.getElem?_toArray, List.length_cons, List.length_nil, true_or, or_true, or_false, false_or, Classical.not_not, Bool.false_eq_true, hp_2, Nat.zero_le, Nat.le_refl, Option.some.injEq, Sum.inl.injEq, Sum.inr.injEq, not_true_eq_false, true_implies, false_implies, implies_true, Int.le_refl, rd_o, rd_o_s, hr, row_len, inA_one, inA_lik, inA_cpl, isOne_eq hO hr, isCouple_eq hO hr, isIn_eq, atOne_eq, atLike_eq, atCouple_eq, r_num, q_n0, q_n1, r_cp, r_dy, r_sl, r_who, q_kind, q_fig, q_dep, q_bnd, q_lik, q_man, q_wom, q_sta, q_dds, orNoneR_eq, Int.zero_add, gX12_keepsMore, z, eq_true y, x2]
    · rw [bI_f (fun u => u.elim z (fun v => y v.1))]
      simp (disch := first | assumption | rfl | exact inI_of (by omega) (by omega) | omega | decide | (simp only [sv_ext, sv_mc, Nat.le_refl]; done) | with_unfolding_all (refine @id _ ?_; first | exact Eq.refl _ | exact Nat.le_refl _ | assumption)) only [Nat.reduceAdd, Nat.reduceMul, Nat.reduceLeDiff, Nat.reduceLT, Int.reduceAdd, Int.reduceSub, Int.reduceMul, Int.reduceNeg, Int.reduceLE, Int.reduceLT, Int.reduceToNat, Int.reduceEq, reduceCtorEq, ld_z, ld_s, st1_0, st1_1, st1_s, st2_0, st2_1, st2_s, isJ_i, isJ_r, isJ_n, isJ_l, cs_nil, cs_i, cs_r, cs_l, kF, List.getElem?_cons_succ, List.getElem?_cons_zero, List.set_cons_zero, List.set_cons_succ, GC_s, GC_n, GK_nil, GK_no, GK_yes, not_false_eq_true, back_eq, back_hp, inI_eq, inA_eq, true_and, and_true, and_self, if_true, if_false, bI_0, bI_1, bI_in, bI_T, bI_F, fitF, jmpF, nlF, pjA, iVal.eta, iYr.eta, List.getElem?_toArray, List.length_cons, List.length_nil, true_or, or_true, or_false, false_or, Classical.not_not, Bool.false_eq_true, hp_2, Nat.zero_le, Nat.le_refl, Option.some.injEq, Sum.inl.injEq, Sum.inr.injEq, not_true_eq_false, true_implies, false_implies, implies_true, Int.le_refl, rd_o, rd_o_s, hr, row_len, inA_one, inA_lik, inA_cpl, isOne_eq hO hr, isCouple_eq hO hr, isIn_eq, atOne_eq, atLike_eq, atCouple_eq, r_num, q_n0, q_n1, r_cp, r_dy, r_sl, r_who, q_kind, q_fig, q_dep, q_bnd, q_lik, q_man, q_wom, q_sta, q_dds, orNoneR_eq, Int.zero_add, gX12_keepsMore, z, y])
theorem RZ_ask (hV : VZ X Z) (hO : OkV X) (hR : RZ Z he ak) {m w : Int} {n : Nat} (h0 : 0 ≤ m) (h1 : m < X.num 0) (w0 : 0 ≤ w) (w1 : w < X.num 1) (hn : n < 1024) (hk : gt0 ak m = (n : Int)) (hb : ∀ w, 0 ≤ w → w < 5 → (bAnd (bShr (n : Int) w) 1 = 1 ↔ askd Z m w)) : RZ (askZ X m w Z) (if gt0 Z.2.1 w = -1 then he.set m.toNat w else if pwP X w (gt0 Z.2.1 w) m then (he.set m.toNat w).set (gt0 Z.2.1 w).toNat (-4) else he) (ak.set m.toNat (bOr (n : Int) (bShl 1 w))) := by
  have n0 := hO.n0
  have n1 := hO.n1
  obtain ⟨r1, r2, r3, r4⟩ := hR
  have ew : ((w.toNat : Nat) : Int) = w := by omega
  have bs := bShl_1 w.toNat (by omega)
  rw [ew] at bs
  have l1 : n ||| 1 <<< w.toNat < 1024 := Nat.or_lt_two_pow (n := 10) hn bs.2
  have aS : ∀ a b, 0 ≤ a → a < 5 → 0 ≤ b → b < 5 → (askd (askZ X m w Z) a b ↔ (m = a ∧ w = b) ∨ askd Z a b) := fun a b a0 a1 b0 b1 => by
    unfold askd
    rw [askZ_ak, askd_set h0 (by omega) w0 (by omega) a0 a1 b0 b1 hV.lk]
    by_cases z : m = a ∧ w = b
    · rw [if_pos z]; exact ⟨fun _ => Or.inl z, fun _ => rfl⟩
    · rw [if_neg z]; exact ⟨fun y => Or.inr y, fun y => y.resolve_left z⟩
  refine ⟨?_, by rw [List.length_set]; exact r2, fun a a0 a1 => ?_, fun a a0 a1 => ?_⟩
  · split
    · rw [List.length_set]; exact r1
    · split
      · rw [List.length_set, List.length_set]; exact r1
      · exact r1
  · have ra := r3 a a0 a1
    unfold askZ
    by_cases c : gt0 Z.2.1 w = -1
    · rw [if_pos c, if_pos c]
      show (gt0 (Z.1.set m.toNat w) a = -1 ∧ gt0 (he.set m.toNat w) a = -4) ∨ (0 ≤ gt0 (Z.1.set m.toNat w) a ∧ gt0 (he.set m.toNat w) a = gt0 (Z.1.set m.toNat w) a)
      rw [gt_set h0 a0 (by rw [hV.lw]; omega), gt_set h0 a0 (by omega)]
      by_cases y : m = a
      · rw [if_pos y, if_pos y]; right; exact ⟨w0, rfl⟩
      · rw [if_neg y, if_neg y]; exact ra
    · rw [if_neg c, if_neg c]
      have hw := (hV.hu w w0 (by omega)).resolve_left c
      by_cases c2 : pwP X w (gt0 Z.2.1 w) m
      · rw [if_pos c2, if_pos c2]
        generalize gt0 Z.2.1 w = r at *
        show (gt0 ((Z.1.set r.toNat (-1)).set m.toNat w) a = -1 ∧ gt0 ((he.set m.toNat w).set r.toNat (-4)) a = -4) ∨ (0 ≤ gt0 ((Z.1.set r.toNat (-1)).set m.toNat w) a ∧ gt0 ((he.set m.toNat w).set r.toNat (-4)) a = gt0 ((Z.1.set r.toNat (-1)).set m.toNat w) a)
        have rm : ¬ r = m := fun y => by
          rw [y] at c2
          rcases c2 with q | q <;> omega
        have lw := hV.lw
        rw [gt_set h0 a0 (by rw [List.length_set]; omega), gt_set hw.1 a0 (by omega), gt_set hw.1 a0 (by rw [List.length_set]; omega), gt_set h0 a0 (by omega)]
        by_cases y : m = a
        · rw [if_pos y, if_neg (fun z => rm (z.trans y.symm)), if_pos y]; right; exact ⟨w0, rfl⟩
        · rw [if_neg y]
          by_cases x : r = a
          · rw [if_pos x, if_pos x]; left; exact ⟨rfl, rfl⟩
          · rw [if_neg x, if_neg x, if_neg y]; exact ra
      · rw [if_neg c2, if_neg c2]; exact ra
  · obtain ⟨na, ln, ea, ba⟩ := r4 a a0 a1
    rw [gt_set h0 a0 (by omega)]
    by_cases y : m = a
    · rw [if_pos y]
      refine ⟨n ||| 1 <<< w.toNat, l1, by rw [bs.1, bOr_nat (by omega) (by omega)], fun b b0 b1 => ?_⟩
      rw [aS a b a0 a1 b0 b1]
      have ej : ((b.toNat : Nat) : Int) = b := by omega
      have p := bits_has _ l1 b.toNat (by omega)
      rw [ej] at p
      have q := bits_has _ hn b.toNat (by omega)
      rw [ej] at q
      rw [p, bits_set (by omega)]
      by_cases z : w = b
      · rw [z, getD_set1 (by rw [bits_len]; omega)]
        exact ⟨fun _ => Or.inl ⟨y, rfl⟩, fun _ => rfl⟩
      · rw [gsd (by omega), ← q, hb b b0 b1, ← y]
        exact ⟨fun u => Or.inr u, fun u => u.resolve_left (fun v => z v.2)⟩
    · rw [if_neg y]
      refine ⟨na, ln, ea, fun b b0 b1 => ?_⟩
      rw [ba b b0 b1, aS a b a0 a1 b0 b1]
      exact ⟨fun u => Or.inr u, fun u => u.resolve_left (fun v => y v.1)⟩
theorem RZ_sameH (hV : VZ X Z) (hO : OkV X) (hR : RZ Z he ak) : sameH X Z.1 he ∧ OkM X Z.1 Z.2.1 := by
  have n0 := hO.n0
  refine ⟨⟨hR.1, fun m a b => ?_⟩, OkM.mk hV.lw hV.lh hV.wi hV.hu⟩
  rcases hR.2.2.1 m a (by omega) with z | z
  · left; omega
  · right; exact z
theorem asksOnce_ok (hO : OkV X) (hr : A.mo.s = rowOf X e) : ∀ (k : Nat) (m : Int) (Z : iZt) (he ak : List Int) (o2 o3 : Option iV), invZ X Z → RZ Z he ak → 0 ≤ m → m + k = X.num 0 → ((∀ a, m ≤ a → a < X.num 0 → gt0 Z.1 a = -1 → nxZ X Z.2.2 a = -1) ∧ ∀ Q, Q (some (.inl 0)) (hp (A.sQ he ak)) → Run sp sc (d + 3) mX12_asksOnce 2 [some (.inr (.inr 140)), some (.inl m), o2, o3] [] (hp (A.sQ he ak)) Q) ∨ (∃ (Z' : iZt) (he' ak' : List Int), invZ X Z' ∧ RZ Z' he' ak' ∧ cntZ Z' = cntZ Z + 1 ∧ ∀ Q, Q (some (.inl 1)) (hp (A.sQ he' ak')) → Run sp sc (d + 3) mX12_asksOnce 2 [some (.inr (.inr 140)), some (.inl m), o2, o3] [] (hp (A.sQ he ak)) Q) := by
  have n0 := hO.n0
  have n1 := hO.n1
  intro k
  induction k with
  | zero =>
    intro m Z he ak o2 o3 hZ hR h0 h1
    left
    refine ⟨fun a b c => by omega, fun Q hq => ?_⟩
    have hr : (A.sQ he ak).mo.s = rowOf X e := hr
    refine G_run (B := [2]) 60 _ _ _ _ ?_
    have e1 : X.num 0 ≤ m := by omega
    simp (disch := first | assumption | rfl | exact inI_of (by omega) (by omega) | omega | decide | (simp only [sv_ext, sv_mc, Nat.le_refl]; done) | with_unfolding_all (refine @id _ ?_; first | exact Eq.refl _ | exact Nat.le_refl _ | assumption)) only [Nat.reduceAdd, Nat.reduceMul, Nat.reduceLeDiff, Nat.reduceLT, Int.reduceAdd, Int.reduceSub, Int.reduceMul, Int.reduceNeg, Int.reduceLE, Int.reduceLT, Int.reduceToNat, Int.reduceEq, reduceCtorEq, ld_z, ld_s, st1_0, st1_1, st1_s, st2_0, st2_1, st2_s, isJ_i, isJ_r, isJ_n, isJ_l, cs_nil, cs_i, cs_r, cs_l, kF, List.getElem?_cons_succ, List.getElem?_cons_zero, List.set_cons_zero, List.set_cons_succ, GC_s, GC_n, GK_nil, GK_no, GK_yes, not_false_eq_true, back_eq, back_hp, inI_eq, inA_eq, true_and, and_true, and_self, if_true, if_false, bI_0, bI_1, bI_in, bI_T, bI_F, fitF, jmpF, nlF, pjA, iVal.eta, iYr.eta, List.getElem?_toArray, List.length_cons, List.length_nil, true_or, or_true, or_false, false_or, Classical.not_not, Bool.false_eq_true, hp_2, Nat.zero_le, Nat.le_refl, Option.some.injEq, Sum.inl.injEq, Sum.inr.injEq, not_true_eq_false, true_implies, false_implies, implies_true, Int.le_refl, rd_o, rd_o_s, hr, row_len, inA_one, inA_lik, inA_cpl, isOne_eq hO hr, isCouple_eq hO hr, isIn_eq, atOne_eq, atLike_eq, atCouple_eq, r_num, q_n0, q_n1, r_cp, r_dy, r_sl, r_who, q_kind, q_fig, q_dep, q_bnd, q_lik, q_man, q_wom, q_sta, q_dds, orNoneR_eq, Int.zero_add, gX12_asksOnce, e1]
    exact hq
  | succ k ih =>
    intro m Z he ak o2 o3 hZ hR h0 h1
    have hr2 : (A.sQ he ak).mo.s = rowOf X e := hr
    have e1 : ¬ X.num 0 ≤ m := by omega
    have l1 := hR.1
    have l2 := hR.2.1
    obtain ⟨n, hn, ekn, hb⟩ := hR.2.2.2 m h0 (by omega)
    have no := fun Q => @nextOf_eq sp sc (d + 1) (A.sQ he ak) Q X e hO hr2 Z.2.2 m n hb h0 (by omega)
    rcases hR.2.2.1 m h0 (by omega) with z | z
    · by_cases c : nxZ X Z.2.2 m = -1
      · rw [c] at no
        have stp : ∀ Q (o2 : Option iV), Run sp sc (d + 3) mX12_asksOnce 2 [some (.inr (.inr 140)), some (.inl (m + 1)), some (.inl (-4)), o3] [] (hp (A.sQ he ak)) Q → Run sp sc (d + 3) mX12_asksOnce 2 [some (.inr (.inr 140)), some (.inl m), o2, o3] [] (hp (A.sQ he ak)) Q := fun Q o2 hq => by
          have hr := hr2
          have no : ∀ Q, Call sp sc (d + 2) mX12_nextOf [.inr (.inr 140), .inl m, .inl (n : Int)] (hp (A.sQ he ak)) Q = Q (some (.inl (-4))) (hp (A.sQ he ak)) := no
          refine G_run (B := [2]) 60 _ _ _ _ ?_
          simp (disch := first | assumption | rfl | exact inI_of (by omega) (by omega) | omega | decide | (simp only [sv_ext, sv_mc, Nat.le_refl]; done) | with_unfolding_all (refine @id _ ?_; first | exact Eq.refl _ | exact Nat.le_refl _ | assumption)) only [Nat.reduceAdd, Nat.reduceMul, Nat.reduceLeDiff, Nat.reduceLT, Int.reduceAdd, Int.reduceSub, Int.reduceMul, Int.reduceNeg, Int.reduceLE, Int.reduceLT, Int.reduceToNat, Int.reduceEq, reduceCtorEq, ld_z, ld_s, st1_0, st1_1, st1_s, st2_0, st2_1, st2_s, isJ_i, isJ_r, isJ_n, isJ_l, cs_nil, cs_i, cs_r, cs_l, kF, List.getElem?_cons_succ, List.getElem?_cons_zero, List.set_cons_zero, List.set_cons_succ, GC_s, GC_n, GK_nil, GK_no, GK_yes, not_false_eq_true, back_eq, back_hp, inI_eq, inA_eq, true_and, and_true, and_self, if_true, if_false, bI_0, bI_1, bI_in, bI_T, bI_F, fitF, jmpF, nlF, pjA, iVal.eta, iYr.eta, List.getElem?_toArray, List.length_cons, List.length_nil, true_or, or_true, or_false, false_or, Classical.not_not, Bool.false_eq_true, hp_2, Nat.zero_le, Nat.le_refl, Option.some.injEq, Sum.inl.injEq, Sum.inr.injEq, not_true_eq_false, true_implies, false_implies, implies_true, Int.le_refl, rd_o, rd_o_s, hr, row_len, inA_one, inA_lik, inA_cpl, isOne_eq hO hr, isCouple_eq hO hr, isIn_eq, atOne_eq, atLike_eq, atCouple_eq, r_num, q_n0, q_n1, r_cp, r_dy, r_sl, r_who, q_kind, q_fig, q_dep, q_bnd, q_lik, q_man, q_wom, q_sta, q_dds, orNoneR_eq, Int.zero_add, gX12_asksOnce, e1, rd_o_he, rd_o_ak, sQ_he, sQ_ak, l1, l2, f_gt0, z.2, ekn, no]
          exact hq
        rcases ih (m + 1) Z he ak (some (.inl (-4))) o3 hZ hR (by omega) (by omega) with r | ⟨Z', he', ak', r1, r2, r3, r4⟩
        · left
          refine ⟨fun a b c2 hf => ?_, fun Q hq => stp Q o2 (r.2 Q hq)⟩
          by_cases y : a = m
          · rw [y]; exact c
          · exact r.1 a (by omega) c2 hf
        · right
          exact ⟨Z', he', ak', r1, r2, r3, fun Q hq => stp Q o2 (r4 Q hq)⟩
      · right
        have s := (nxZ_ok hO (ak := Z.2.2) (m := m)).resolve_left (fun y => c y.1)
        have iA2 := invZ_ask hO hZ h0 (by omega) z.1 c
        have ct := cnt_ask hO hZ.1 h0 (by omega) c
        have R2 := RZ_ask (w := nxZ X Z.2.2 m) hZ.1 hO hR h0 (by omega) s.1 s.2.1 hn ekn hb
        have nr : nR (nxZ X Z.2.2 m) = nxZ X Z.2.2 m := if_neg c
        rw [nr] at no
        generalize nxZ X Z.2.2 m = w at *
        have w0 := s.1
        have w1 := s.2.1
        have sm := RZ_sameH hZ.1 hO hR
        refine ⟨_, _, _, iA2, R2, ct, fun Q hq => ?_⟩
        have hr3 : (A.sQ he (ak.set m.toNat (bOr (n : Int) (bShl 1 w)))).mo.s = rowOf X e := hr
        have mo := fun Q => @manOf_eq sp sc (d + 1) (A.sQ he (ak.set m.toNat (bOr (n : Int) (bShl 1 w)))) Q X e Z.1 Z.2.1 hO hr3 sm.2 sm.1 w w0 w1
        have w2 : ¬ w < 0 := by omega
        have hr := hr2
        have w3 : 0 ≤ w := w0
        have hw := hZ.1.hu w w0 (by omega)
        by_cases c2 : gt0 Z.2.1 w = -1
        · have em : mOf Z.2.1 w = -4 := if_pos c2
          rw [em] at mo
          rw [if_pos c2] at hq
          refine G_run (B := [2]) 90 _ _ _ _ ?_
          simp (disch := first | assumption | rfl | exact inI_of (by omega) (by omega) | omega | decide | (simp only [sv_ext, sv_mc, Nat.le_refl]; done) | with_unfolding_all (refine @id _ ?_; first | exact Eq.refl _ | exact Nat.le_refl _ | assumption)) only [Nat.reduceAdd, Nat.reduceMul, Nat.reduceLeDiff, Nat.reduceLT, Int.reduceAdd, Int.reduceSub, Int.reduceMul, Int.reduceNeg, Int.reduceLE, Int.reduceLT, Int.reduceToNat, Int.reduceEq, reduceCtorEq, ld_z, ld_s, st1_0, st1_1, st1_s, st2_0, st2_1, st2_s, isJ_i, isJ_r, isJ_n, isJ_l, cs_nil, cs_i, cs_r, cs_l, kF, List.getElem?_cons_succ, List.getElem?_cons_zero, List.set_cons_zero, List.set_cons_succ, GC_s, GC_n, GK_nil, GK_no, GK_yes, not_false_eq_true, back_eq, back_hp, inI_eq, inA_eq, true_and, and_true, and_self, if_true, if_false, bI_0, bI_1, bI_in, bI_T, bI_F, fitF, jmpF, nlF, pjA, iVal.eta, iYr.eta, List.getElem?_toArray, List.length_cons, List.length_nil, true_or, or_true, or_false, false_or, Classical.not_not, Bool.false_eq_true, hp_2, Nat.zero_le, Nat.le_refl, Option.some.injEq, Sum.inl.injEq, Sum.inr.injEq, not_true_eq_false, true_implies, false_implies, implies_true, Int.le_refl, rd_o, rd_o_s, hr, row_len, inA_one, inA_lik, inA_cpl, isOne_eq hO hr, isCouple_eq hO hr, isIn_eq, atOne_eq, atLike_eq, atCouple_eq, r_num, q_n0, q_n1, r_cp, r_dy, r_sl, r_who, q_kind, q_fig, q_dep, q_bnd, q_lik, q_man, q_wom, q_sta, q_dds, orNoneR_eq, Int.zero_add, gX12_asksOnce, e1, rd_o_he, rd_o_ak, sQ_he, sQ_ak, l1, l2, f_gt0, z.2, ekn, no, w2, w3, wr_Qak, wr_Qhe, sQ_sQ, mo]
          exact hq
        · have em : mOf Z.2.1 w = gt0 Z.2.1 w := if_neg c2
          rw [em] at mo
          have hw := hw.resolve_left c2
          have g0 : ¬ gt0 Z.2.1 w < 0 := by omega
          have g1 : 0 ≤ gt0 Z.2.1 w := hw.1
          have ig : inI (gt0 Z.2.1 w) = true := inI_of (by omega) (by omega)
          have kp := fun Q => @keepsR_eq sp sc (d + 1) (A.sQ he (ak.set m.toNat (bOr (n : Int) (bShl 1 w)))) Q X e hO hr3 w m (gt0 Z.2.1 w) w0 w1 h0 (by omega) hw.1 hw.2.1
          rw [if_neg c2] at hq
          have lh2 : (he.set m.toNat w).length = 5 := by rw [List.length_set]; exact l1
          by_cases c3 : pwP X w (gt0 Z.2.1 w) m
          · rw [if_pos c3] at hq
            rw [bI_t c3] at kp
            generalize gt0 Z.2.1 w = r at *
            refine G_run (B := [2]) 90 _ _ _ _ ?_
            simp (disch := first | assumption | rfl | exact inI_of (by omega) (by omega) | omega | decide | (simp only [sv_ext, sv_mc, Nat.le_refl]; done) | with_unfolding_all (refine @id _ ?_; first | exact Eq.refl _ | exact Nat.le_refl _ | assumption)) only [Nat.reduceAdd, Nat.reduceMul, Nat.reduceLeDiff, Nat.reduceLT, Int.reduceAdd, Int.reduceSub, Int.reduceMul, Int.reduceNeg, Int.reduceLE, Int.reduceLT, Int.reduceToNat, Int.reduceEq, reduceCtorEq, ld_z, ld_s, st1_0, st1_1, st1_s, st2_0, st2_1, st2_s, isJ_i, isJ_r, isJ_n, isJ_l, cs_nil, cs_i, cs_r, cs_l, kF, List.getElem?_cons_succ, List.getElem?_cons_zero, List.set_cons_zero, List.set_cons_succ, GC_s, GC_n, GK_nil, GK_no, GK_yes, not_false_eq_true, back_eq, back_hp, inI_eq, inA_eq, true_and, and_true, and_self, if_true, if_false, bI_0, bI_1, bI_in, bI_T, bI_F, fitF, jmpF, nlF, pjA, iVal.eta, iYr.eta, List.getElem?_toArray, List.length_cons, List.length_nil, true_or, or_true, or_false, false_or, Classical.not_not, Bool.false_eq_true, hp_2, Nat.zero_le, Nat.le_refl, Option.some.injEq, Sum.inl.injEq, Sum.inr.injEq, not_true_eq_false, true_implies, false_implies, implies_true, Int.le_refl, rd_o, rd_o_s, hr, row_len, inA_one, inA_lik, inA_cpl, isOne_eq hO hr, isCouple_eq hO hr, isIn_eq, atOne_eq, atLike_eq, atCouple_eq, r_num, q_n0, q_n1, r_cp, r_dy, r_sl, r_who, q_kind, q_fig, q_dep, q_bnd, q_lik, q_man, q_wom, q_sta, q_dds, orNoneR_eq, Int.zero_add, gX12_asksOnce, e1, rd_o_he, rd_o_ak, sQ_he, sQ_ak, l1, l2, lh2, f_gt0, z.2, ekn, no, w2, w3, wr_Qak, wr_Qhe, sQ_sQ, mo, g0, g1, ig, kp]
            exact hq
          · rw [if_neg c3] at hq
            rw [bI_f c3] at kp
            generalize gt0 Z.2.1 w = r at *
            refine G_run (B := [2]) 90 _ _ _ _ ?_
            simp (disch := first | assumption | rfl | exact inI_of (by omega) (by omega) | omega | decide | (simp only [sv_ext, sv_mc, Nat.le_refl]; done) | with_unfolding_all (refine @id _ ?_; first | exact Eq.refl _ | exact Nat.le_refl _ | assumption)) only [Nat.reduceAdd, Nat.reduceMul, Nat.reduceLeDiff, Nat.reduceLT, Int.reduceAdd, Int.reduceSub, Int.reduceMul, Int.reduceNeg, Int.reduceLE, Int.reduceLT, Int.reduceToNat, Int.reduceEq, reduceCtorEq, ld_z, ld_s, st1_0, st1_1, st1_s, st2_0, st2_1, st2_s, isJ_i, isJ_r, isJ_n, isJ_l, cs_nil, cs_i, cs_r, cs_l, kF, List.getElem?_cons_succ, List.getElem?_cons_zero, List.set_cons_zero, List.set_cons_succ, GC_s, GC_n, GK_nil, GK_no, GK_yes, not_false_eq_true, back_eq, back_hp, inI_eq, inA_eq, true_and, and_true, and_self, if_true, if_false, bI_0, bI_1, bI_in, bI_T, bI_F, fitF, jmpF, nlF, pjA, iVal.eta, iYr.eta, List.getElem?_toArray, List.length_cons, List.length_nil, true_or, or_true, or_false, false_or, Classical.not_not, Bool.false_eq_true, hp_2, Nat.zero_le, Nat.le_refl, Option.some.injEq, Sum.inl.injEq, Sum.inr.injEq, not_true_eq_false, true_implies, false_implies, implies_true, Int.le_refl, rd_o, rd_o_s, hr, row_len, inA_one, inA_lik, inA_cpl, isOne_eq hO hr, isCouple_eq hO hr, isIn_eq, atOne_eq, atLike_eq, atCouple_eq, r_num, q_n0, q_n1, r_cp, r_dy, r_sl, r_who, q_kind, q_fig, q_dep, q_bnd, q_lik, q_man, q_wom, q_sta, q_dds, orNoneR_eq, Int.zero_add, gX12_asksOnce, e1, rd_o_he, rd_o_ak, sQ_he, sQ_ak, l1, l2, f_gt0, z.2, ekn, no, w2, w3, wr_Qak, wr_Qhe, sQ_sQ, mo, g0, g1, ig, kp]
            exact hq
    · have hw := (hZ.1.wi m h0 (by omega)).resolve_left (by omega)
      have g1 : 0 ≤ gt0 he m := by omega
      have g2 : ¬ gt0 he m < 0 := by omega
      have ig : inI (gt0 he m) = true := inI_of (by omega) (by omega)
      have stp : ∀ Q, Run sp sc (d + 3) mX12_asksOnce 2 [some (.inr (.inr 140)), some (.inl (m + 1)), o2, o3] [] (hp (A.sQ he ak)) Q → Run sp sc (d + 3) mX12_asksOnce 2 [some (.inr (.inr 140)), some (.inl m), o2, o3] [] (hp (A.sQ he ak)) Q := fun Q hq => by
        have hr := hr2
        refine G_run (B := [2]) 60 _ _ _ _ ?_
        simp (disch := first | assumption | rfl | exact inI_of (by omega) (by omega) | omega | decide | (simp only [sv_ext, sv_mc, Nat.le_refl]; done) | with_unfolding_all (refine @id _ ?_; first | exact Eq.refl _ | exact Nat.le_refl _ | assumption)) only [Nat.reduceAdd, Nat.reduceMul, Nat.reduceLeDiff, Nat.reduceLT, Int.reduceAdd, Int.reduceSub, Int.reduceMul, Int.reduceNeg, Int.reduceLE, Int.reduceLT, Int.reduceToNat, Int.reduceEq, reduceCtorEq, ld_z, ld_s, st1_0, st1_1, st1_s, st2_0, st2_1, st2_s, isJ_i, isJ_r, isJ_n, isJ_l, cs_nil, cs_i, cs_r, cs_l, kF, List.getElem?_cons_succ, List.getElem?_cons_zero, List.set_cons_zero, List.set_cons_succ, GC_s, GC_n, GK_nil, GK_no, GK_yes, not_false_eq_true, back_eq, back_hp, inI_eq, inA_eq, true_and, and_true, and_self, if_true, if_false, bI_0, bI_1, bI_in, bI_T, bI_F, fitF, jmpF, nlF, pjA, iVal.eta, iYr.eta, List.getElem?_toArray, List.length_cons, List.length_nil, true_or, or_true, or_false, false_or, Classical.not_not, Bool.false_eq_true, hp_2, Nat.zero_le, Nat.le_refl, Option.some.injEq, Sum.inl.injEq, Sum.inr.injEq, not_true_eq_false, true_implies, false_implies, implies_true, Int.le_refl, rd_o, rd_o_s, hr, row_len, inA_one, inA_lik, inA_cpl, isOne_eq hO hr, isCouple_eq hO hr, isIn_eq, atOne_eq, atLike_eq, atCouple_eq, r_num, q_n0, q_n1, r_cp, r_dy, r_sl, r_who, q_kind, q_fig, q_dep, q_bnd, q_lik, q_man, q_wom, q_sta, q_dds, orNoneR_eq, Int.zero_add, gX12_asksOnce, e1, rd_o_he, sQ_he, l1, f_gt0, g1, g2, ig]
        exact hq
      rcases ih (m + 1) Z he ak o2 o3 hZ hR (by omega) (by omega) with r | ⟨Z', he', ak', r1, r2, r3, r4⟩
      · left
        refine ⟨fun a b c2 hf => ?_, fun Q hq => stp Q (r.2 Q hq)⟩
        by_cases y : a = m
        · rw [y] at hf; omega
        · exact r.1 a (by omega) c2 hf
      · right
        exact ⟨Z', he', ak', r1, r2, r3, fun Q hq => stp Q (r4 Q hq)⟩
theorem stR_loop (hO : OkV X) (hr : A.mo.s = rowOf X e) {m : Int} (h0 : 0 ≤ m) (h1 : m < X.num 0) : ∀ (k : Nat) (Z : iZt) (he ak : List Int), invZ X Z → RZ Z he ak → cntZ Z + k = 25 → ∃ (Z' : iZt) (he' ak' : List Int), invZ X Z' ∧ clsZ X Z' ∧ RZ Z' he' ak' ∧ ∀ Q, Q (some (.inl (gt0 he' m))) (hp (A.sQ he' ak')) → Run sp sc (d + 4) mX12_stable 41 [some (.inr (.inr 140)), some (.inl m), some (.inl 1)] [] (hp (A.sQ he ak)) Q := by
  have n0 := hO.n0
  have n1 := hO.n1
  have fin : ∀ (Z : iZt) (he ak : List Int), invZ X Z → RZ Z he ak → ∀ Q, Q (some (.inl (gt0 he m))) (hp (A.sQ he ak)) → Run sp sc (d + 4) mX12_stable 41 [some (.inr (.inr 140)), some (.inl m), some (.inl 0)] [] (hp (A.sQ he ak)) Q := fun Z he ak hZ hR Q hq => by
    refine G_run (B := [13, 41]) 40 _ _ _ _ ?_
    have l1 := hR.1
    simp (disch := first | assumption | rfl | exact inI_of (by omega) (by omega) | omega | decide | (simp only [sv_ext, sv_mc, Nat.le_refl]; done) | with_unfolding_all (refine @id _ ?_; first | exact Eq.refl _ | exact Nat.le_refl _ | assumption)) only [Nat.reduceAdd, Nat.reduceMul, Nat.reduceLeDiff, Nat.reduceLT, Int.reduceAdd, Int.reduceSub, Int.reduceMul, Int.reduceNeg, Int.reduceLE, Int.reduceLT, Int.reduceToNat, Int.reduceEq, reduceCtorEq, ld_z, ld_s, st1_0, st1_1, st1_s, st2_0, st2_1, st2_s, isJ_i, isJ_r, isJ_n, isJ_l, cs_nil, cs_i, cs_r, cs_l, kF, List.getElem?_cons_succ, List.getElem?_cons_zero, List.set_cons_zero, List.set_cons_succ, GC_s, GC_n, GK_nil, GK_no, GK_yes, not_false_eq_true, back_eq, back_hp, inI_eq, inA_eq, true_and, and_true, and_self, if_true, if_false, bI_0, bI_1, bI_in, bI_T, bI_F, fitF, jmpF, nlF, pjA, iVal.eta, iYr.eta, List.getElem?_toArray, List.length_cons, List.length_nil, true_or, or_true, or_false, false_or, Classical.not_not, Bool.false_eq_true, hp_2, Nat.zero_le, Nat.le_refl, Option.some.injEq, Sum.inl.injEq, Sum.inr.injEq, not_true_eq_false, true_implies, false_implies, implies_true, Int.le_refl, gX12_stable, rd_o, rd_o_he, sQ_he, l1, f_gt0]
    exact hq
  intro k
  induction k with
  | zero =>
    intro Z he ak hZ hR hc
    rcases asksOnce_ok (sp := sp) (sc := sc) (d := d) (A := A) hO hr (X.num 0).toNat 0 Z he ak none none hZ hR (by omega) (by omega) with r | ⟨Z', he', ak', r1, r2, r3, r4⟩
    · refine ⟨Z, he, ak, hZ, cnt_full hO hZ.1 (by omega), hR, fun Q hq => ?_⟩
      have ac : ∀ Q, Call sp sc (d + 3) mX12_asksOnce [.inr (.inr 140)] (hp (A.sQ he ak)) Q = Q (some (.inl 0)) (hp (A.sQ he ak)) := fun Q => Call_eq (by
        apply eX12_asksOnce 40; simp (disch := first | assumption | rfl | exact inI_of (by omega) (by omega) | omega | decide | (simp only [sv_ext, sv_mc, Nat.le_refl]; done) | with_unfolding_all (refine @id _ ?_; first | exact Eq.refl _ | exact Nat.le_refl _ | assumption)) only [Nat.reduceAdd, Nat.reduceMul, Nat.reduceLeDiff, Nat.reduceLT, Int.reduceAdd, Int.reduceSub, Int.reduceMul, Int.reduceNeg, Int.reduceLE, Int.reduceLT, Int.reduceToNat, Int.reduceEq, reduceCtorEq, ld_z, ld_s, st1_0, st1_1, st1_s, st2_0, st2_1, st2_s, isJ_i, isJ_r, isJ_n, isJ_l, cs_nil, cs_i, cs_r, cs_l, kF, List.getElem?_cons_succ, List.getElem?_cons_zero, List.set_cons_zero, List.set_cons_succ, GC_s, GC_n, GK_nil, GK_no, GK_yes, not_false_eq_true, back_eq, back_hp, inI_eq, inA_eq, true_and, and_true, and_self, if_true, if_false, bI_0, bI_1, bI_in, bI_T, bI_F, fitF, jmpF, nlF, pjA, iVal.eta, iYr.eta, List.getElem?_toArray, List.length_cons, List.length_nil, true_or, or_true, or_false, false_or, Classical.not_not, Bool.false_eq_true, hp_2, Nat.zero_le, Nat.le_refl, Option.some.injEq, Sum.inl.injEq, Sum.inr.injEq, not_true_eq_false, true_implies, false_implies, implies_true, Int.le_refl, gX12_asksOnce]
        exact r.2 _ ⟨rfl, rfl⟩)
      refine G_run (B := [13, 41]) 40 _ _ _ _ ?_
      simp (disch := first | assumption | rfl | exact inI_of (by omega) (by omega) | omega | decide | (simp only [sv_ext, sv_mc, Nat.le_refl]; done) | with_unfolding_all (refine @id _ ?_; first | exact Eq.refl _ | exact Nat.le_refl _ | assumption)) only [Nat.reduceAdd, Nat.reduceMul, Nat.reduceLeDiff, Nat.reduceLT, Int.reduceAdd, Int.reduceSub, Int.reduceMul, Int.reduceNeg, Int.reduceLE, Int.reduceLT, Int.reduceToNat, Int.reduceEq, reduceCtorEq, ld_z, ld_s, st1_0, st1_1, st1_s, st2_0, st2_1, st2_s, isJ_i, isJ_r, isJ_n, isJ_l, cs_nil, cs_i, cs_r, cs_l, kF, List.getElem?_cons_succ, List.getElem?_cons_zero, List.set_cons_zero, List.set_cons_succ, GC_s, GC_n, GK_nil, GK_no, GK_yes, not_false_eq_true, back_eq, back_hp, inI_eq, inA_eq, true_and, and_true, and_self, if_true, if_false, bI_0, bI_1, bI_in, bI_T, bI_F, fitF, jmpF, nlF, pjA, iVal.eta, iYr.eta, List.getElem?_toArray, List.length_cons, List.length_nil, true_or, or_true, or_false, false_or, Classical.not_not, Bool.false_eq_true, hp_2, Nat.zero_le, Nat.le_refl, Option.some.injEq, Sum.inl.injEq, Sum.inr.injEq, not_true_eq_false, true_implies, false_implies, implies_true, Int.le_refl, gX12_stable, rd_o, ac]
      exact fin Z he ak hZ hR Q hq
    · exfalso
      have := cnt_le r1.1
      omega
  | succ k ih =>
    intro Z he ak hZ hR hc
    rcases asksOnce_ok (sp := sp) (sc := sc) (d := d) (A := A) hO hr (X.num 0).toNat 0 Z he ak none none hZ hR (by omega) (by omega) with r | ⟨Z', he', ak', r1, r2, r3, r4⟩
    · have cl : clsZ X Z := fun m a b hf w c f => by
        have nx := r.1 m a b hf
        have sp := nxZ_ok hO (ak := Z.2.2) (m := m)
        rw [nx] at sp
        rcases sp with s | s
        · exact s.2 w c f
        · omega
      refine ⟨Z, he, ak, hZ, cl, hR, fun Q hq => ?_⟩
      have ac : ∀ Q, Call sp sc (d + 3) mX12_asksOnce [.inr (.inr 140)] (hp (A.sQ he ak)) Q = Q (some (.inl 0)) (hp (A.sQ he ak)) := fun Q => Call_eq (by
        apply eX12_asksOnce 40; simp (disch := first | assumption | rfl | exact inI_of (by omega) (by omega) | omega | decide | (simp only [sv_ext, sv_mc, Nat.le_refl]; done) | with_unfolding_all (refine @id _ ?_; first | exact Eq.refl _ | exact Nat.le_refl _ | assumption)) only [Nat.reduceAdd, Nat.reduceMul, Nat.reduceLeDiff, Nat.reduceLT, Int.reduceAdd, Int.reduceSub, Int.reduceMul, Int.reduceNeg, Int.reduceLE, Int.reduceLT, Int.reduceToNat, Int.reduceEq, reduceCtorEq, ld_z, ld_s, st1_0, st1_1, st1_s, st2_0, st2_1, st2_s, isJ_i, isJ_r, isJ_n, isJ_l, cs_nil, cs_i, cs_r, cs_l, kF, List.getElem?_cons_succ, List.getElem?_cons_zero, List.set_cons_zero, List.set_cons_succ, GC_s, GC_n, GK_nil, GK_no, GK_yes, not_false_eq_true, back_eq, back_hp, inI_eq, inA_eq, true_and, and_true, and_self, if_true, if_false, bI_0, bI_1, bI_in, bI_T, bI_F, fitF, jmpF, nlF, pjA, iVal.eta, iYr.eta, List.getElem?_toArray, List.length_cons, List.length_nil, true_or, or_true, or_false, false_or, Classical.not_not, Bool.false_eq_true, hp_2, Nat.zero_le, Nat.le_refl, Option.some.injEq, Sum.inl.injEq, Sum.inr.injEq, not_true_eq_false, true_implies, false_implies, implies_true, Int.le_refl, gX12_asksOnce]
        exact r.2 _ ⟨rfl, rfl⟩)
      refine G_run (B := [13, 41]) 40 _ _ _ _ ?_
      simp (disch := first | assumption | rfl | exact inI_of (by omega) (by omega) | omega | decide | (simp only [sv_ext, sv_mc, Nat.le_refl]; done) | with_unfolding_all (refine @id _ ?_; first | exact Eq.refl _ | exact Nat.le_refl _ | assumption)) only [Nat.reduceAdd, Nat.reduceMul, Nat.reduceLeDiff, Nat.reduceLT, Int.reduceAdd, Int.reduceSub, Int.reduceMul, Int.reduceNeg, Int.reduceLE, Int.reduceLT, Int.reduceToNat, Int.reduceEq, reduceCtorEq, ld_z, ld_s, st1_0, st1_1, st1_s, st2_0, st2_1, st2_s, isJ_i, isJ_r, isJ_n, isJ_l, cs_nil, cs_i, cs_r, cs_l, kF, List.getElem?_cons_succ, List.getElem?_cons_zero, List.set_cons_zero, List.set_cons_succ, GC_s, GC_n, GK_nil, GK_no, GK_yes, not_false_eq_true, back_eq, back_hp, inI_eq, inA_eq, true_and, and_true, and_self, if_true, if_false, bI_0, bI_1, bI_in, bI_T, bI_F, fitF, jmpF, nlF, pjA, iVal.eta, iYr.eta, List.getElem?_toArray, List.length_cons, List.length_nil, true_or, or_true, or_false, false_or, Classical.not_not, Bool.false_eq_true, hp_2, Nat.zero_le, Nat.le_refl, Option.some.injEq, Sum.inl.injEq, Sum.inr.injEq, not_true_eq_false, true_implies, false_implies, implies_true, Int.le_refl, gX12_stable, rd_o, ac]
      exact fin Z he ak hZ hR Q hq
    · obtain ⟨Z2, he2, ak2, q1, q2, q3, q4⟩ := ih Z' he' ak' r1 r2 (by omega)
      refine ⟨Z2, he2, ak2, q1, q2, q3, fun Q hq => ?_⟩
      have ac : ∀ Q, Call sp sc (d + 3) mX12_asksOnce [.inr (.inr 140)] (hp (A.sQ he ak)) Q = Q (some (.inl 1)) (hp (A.sQ he' ak')) := fun Q => Call_eq (by
        apply eX12_asksOnce 40; simp (disch := first | assumption | rfl | exact inI_of (by omega) (by omega) | omega | decide | (simp only [sv_ext, sv_mc, Nat.le_refl]; done) | with_unfolding_all (refine @id _ ?_; first | exact Eq.refl _ | exact Nat.le_refl _ | assumption)) only [Nat.reduceAdd, Nat.reduceMul, Nat.reduceLeDiff, Nat.reduceLT, Int.reduceAdd, Int.reduceSub, Int.reduceMul, Int.reduceNeg, Int.reduceLE, Int.reduceLT, Int.reduceToNat, Int.reduceEq, reduceCtorEq, ld_z, ld_s, st1_0, st1_1, st1_s, st2_0, st2_1, st2_s, isJ_i, isJ_r, isJ_n, isJ_l, cs_nil, cs_i, cs_r, cs_l, kF, List.getElem?_cons_succ, List.getElem?_cons_zero, List.set_cons_zero, List.set_cons_succ, GC_s, GC_n, GK_nil, GK_no, GK_yes, not_false_eq_true, back_eq, back_hp, inI_eq, inA_eq, true_and, and_true, and_self, if_true, if_false, bI_0, bI_1, bI_in, bI_T, bI_F, fitF, jmpF, nlF, pjA, iVal.eta, iYr.eta, List.getElem?_toArray, List.length_cons, List.length_nil, true_or, or_true, or_false, false_or, Classical.not_not, Bool.false_eq_true, hp_2, Nat.zero_le, Nat.le_refl, Option.some.injEq, Sum.inl.injEq, Sum.inr.injEq, not_true_eq_false, true_implies, false_implies, implies_true, Int.le_refl, gX12_asksOnce]
        exact r4 _ ⟨rfl, rfl⟩)
      refine G_run (B := [13, 41]) 40 _ _ _ _ ?_
      simp (disch := first | assumption | rfl | exact inI_of (by omega) (by omega) | omega | decide | (simp only [sv_ext, sv_mc, Nat.le_refl]; done) | with_unfolding_all (refine @id _ ?_; first | exact Eq.refl _ | exact Nat.le_refl _ | assumption)) only [Nat.reduceAdd, Nat.reduceMul, Nat.reduceLeDiff, Nat.reduceLT, Int.reduceAdd, Int.reduceSub, Int.reduceMul, Int.reduceNeg, Int.reduceLE, Int.reduceLT, Int.reduceToNat, Int.reduceEq, reduceCtorEq, ld_z, ld_s, st1_0, st1_1, st1_s, st2_0, st2_1, st2_s, isJ_i, isJ_r, isJ_n, isJ_l, cs_nil, cs_i, cs_r, cs_l, kF, List.getElem?_cons_succ, List.getElem?_cons_zero, List.set_cons_zero, List.set_cons_succ, GC_s, GC_n, GK_nil, GK_no, GK_yes, not_false_eq_true, back_eq, back_hp, inI_eq, inA_eq, true_and, and_true, and_self, if_true, if_false, bI_0, bI_1, bI_in, bI_T, bI_F, fitF, jmpF, nlF, pjA, iVal.eta, iYr.eta, List.getElem?_toArray, List.length_cons, List.length_nil, true_or, or_true, or_false, false_or, Classical.not_not, Bool.false_eq_true, hp_2, Nat.zero_le, Nat.le_refl, Option.some.injEq, Sum.inl.injEq, Sum.inr.injEq, not_true_eq_false, true_implies, false_implies, implies_true, Int.le_refl, gX12_stable, rd_o, ac, back_sQ]
      exact q4 Q hq
theorem stI_it {m i : Int} (h0 : 0 ≤ i) (h1 : i < 5) (l1 : A.mo.he.length = 5) (l2 : A.mo.ak.length = 5) (hq : Run sp sc d mX12_stable 13 [some (.inr (.inr 140)), some (.inl m), some (.inl (i + 1))] [] (hp (A.sQ (A.mo.he.set i.toNat (-4)) (A.mo.ak.set i.toNat 0))) Q) : Run sp sc d mX12_stable 13 [some (.inr (.inr 140)), some (.inl m), some (.inl i)] [] (hp A) Q := by
  refine G_run (B := [13, 41]) 40 _ _ _ _ ?_
  have e1 : ¬ 5 ≤ i := by omega
  simp (disch := first | assumption | rfl | exact inI_of (by omega) (by omega) | omega | decide | (simp only [sv_ext, sv_mc, Nat.le_refl]; done) | with_unfolding_all (refine @id _ ?_; first | exact Eq.refl _ | exact Nat.le_refl _ | assumption)) only [Nat.reduceAdd, Nat.reduceMul, Nat.reduceLeDiff, Nat.reduceLT, Int.reduceAdd, Int.reduceSub, Int.reduceMul, Int.reduceNeg, Int.reduceLE, Int.reduceLT, Int.reduceToNat, Int.reduceEq, reduceCtorEq, ld_z, ld_s, st1_0, st1_1, st1_s, st2_0, st2_1, st2_s, isJ_i, isJ_r, isJ_n, isJ_l, cs_nil, cs_i, cs_r, cs_l, kF, List.getElem?_cons_succ, List.getElem?_cons_zero, List.set_cons_zero, List.set_cons_succ, GC_s, GC_n, GK_nil, GK_no, GK_yes, not_false_eq_true, back_eq, back_hp, inI_eq, inA_eq, true_and, and_true, and_self, if_true, if_false, bI_0, bI_1, bI_in, bI_T, bI_F, fitF, jmpF, nlF, pjA, iVal.eta, iYr.eta, List.getElem?_toArray, List.length_cons, List.length_nil, true_or, or_true, or_false, false_or, Classical.not_not, Bool.false_eq_true, hp_2, Nat.zero_le, Nat.le_refl, Option.some.injEq, Sum.inl.injEq, Sum.inr.injEq, not_true_eq_false, true_implies, false_implies, implies_true, Int.le_refl, gX12_stable, e1, rd_o, rd_o_he, rd_o_ak, l1, l2, wr_Qhe, wr_Qak, sQ_he, sQ_ak, sQ_sQ]
  exact hq
def f5 : List Int := [-4, -4, -4, -4, -4]
def o5L : List Int := [0, 0, 0, 0, 0]
theorem set5 {l : List Int} {v : Int} (h : l.length = 5) : ((((l.set 0 v).set 1 v).set 2 v).set 3 v).set 4 v = [v, v, v, v, v] := by
  match l, h with
  | [a, b, c, x, y], _ => rfl
theorem RZ_0 : RZ Z0 f5 o5L := by
  refine ⟨rfl, rfl, fun m a b => Or.inl ⟨gt_m5 a b, ?_⟩, fun m a b => ⟨0, by omega, ?_, fun w c d => ?_⟩⟩
  · have : m = 0 ∨ m = 1 ∨ m = 2 ∨ m = 3 ∨ m = 4 := by omega
    rcases this with rfl | rfl | rfl | rfl | rfl <;> rfl
  · have : m = 0 ∨ m = 1 ∨ m = 2 ∨ m = 3 ∨ m = 4 := by omega
    rcases this with rfl | rfl | rfl | rfl | rfl <;> rfl
  · constructor
    · intro y
      exfalso
      have : w = 0 ∨ w = 1 ∨ w = 2 ∨ w = 3 ∨ w = 4 := by omega
      rcases this with rfl | rfl | rfl | rfl | rfl <;> exact absurd y (by decide)
    · intro y
      have y : gt0 z25 (m * 5 + w) = 1 := y
      rw [gt_z25] at y
      exact absurd y (by decide)
theorem ag_stable (hR : Rel A) {m : Int} (im : inI m = true) : Agree sp sc mX11_stable mX12_stable [.inl m] A := by
  have hO := hR.now
  have hr := hR.row
  have n0 := hO.n0
  have n1 := hO.n1
  by_cases c : 0 ≤ m ∧ m < A.now.num 0
  · obtain ⟨T, hT⟩ : ∃ T : Nat, T = 25 := ⟨25, rfl⟩
    have aa := fun Q => @askAll_eq sp sc 15 A Q hO hR.lwv hR.lhb hR.lmk T hT
    have en := allZ_end hO hT
    generalize allZ A.now T Z0 = C at *
    have hrC : (A.sZ C).mo.s = rowOf A.now A.now.dy := hr
    have c0 : cntZ Z0 = 0 := by decide
    obtain ⟨Z, he, ak, i1, i2, i3, i4⟩ := @stR_loop sp sc 15 (A.sZ C) A.now A.now.dy hO hrC m c.1 c.2 25 Z0 f5 o5L invZ_0 RZ_0 (by omega)
    have eq := endsZ_eq hO en.1 en.2 i1 i2 c.1 (show m < 5 by omega)
    have hv := i3.2.2.1 m c.1 (by omega)
    have wc := en.1.1.wi m c.1 (by omega)
    have hRC : Rel ((A.sZ C).sQ he ak) := (Rel.mk hR.now hR.img hR.mnd hR.mok hR.yr hR.ndy hR.idy hR.row hR.imd hR.him hR.imr hR.lim hR.lm hR.lwas hR.lwt hR.len hR.lod hR.lnu (i3.1) hR.lbh (i3.2.1) hR.lfi hR.lth hR.lke hR.lkk hR.lkf hR.lso hR.lsz hR.lel (en.1.1.lw) (en.1.1.lh) hR.lfm (en.1.1.lk) hR.lpt hR.lout hR.shs hR.inj)
    have lw := en.1.1.lw
    have iw : inI (gt0 C.1 m) = true := inI_of (by omega) (by omega)
    have ev : (if gt0 C.1 m = -1 then (-4 : Int) else gt0 C.1 m) = gt0 he m := by
      by_cases y : gt0 C.1 m = -1
      · rw [if_pos y]; omega
      · rw [if_neg y]; omega
    refine Agree.of (gt0 he m) (A.sZ C) ((A.sZ C).sQ he ak) (inI_of (by omega) (by omega)) (fun Q => Call_eq ?_) (fun Q => Call_eq ?_) rfl rfl hRC
    · apply eX11_stable 60; simp (disch := first | assumption | rfl | exact inI_of (by omega) (by omega) | omega | decide | (simp only [sv_ext, sv_mc, Nat.le_refl]; done) | with_unfolding_all (refine @id _ ?_; first | exact Eq.refl _ | exact Nat.le_refl _ | assumption)) only [Nat.reduceAdd, Nat.reduceMul, Nat.reduceLeDiff, Nat.reduceLT, Int.reduceAdd, Int.reduceSub, Int.reduceMul, Int.reduceNeg, Int.reduceLE, Int.reduceLT, Int.reduceToNat, Int.reduceEq, reduceCtorEq, ld_z, ld_s, st1_0, st1_1, st1_s, st2_0, st2_1, st2_s, isJ_i, isJ_r, isJ_n, isJ_l, cs_nil, cs_i, cs_r, cs_l, kF, List.getElem?_cons_succ, List.getElem?_cons_zero, List.set_cons_zero, List.set_cons_succ, GC_s, GC_n, GK_nil, GK_no, GK_yes, not_false_eq_true, back_eq, back_hp, inI_eq, inA_eq, true_and, and_true, and_self, if_true, if_false, bI_0, bI_1, bI_in, bI_T, bI_F, fitF, jmpF, nlF, pjA, iVal.eta, iYr.eta, List.getElem?_toArray, List.length_cons, List.length_nil, true_or, or_true, or_false, false_or, Classical.not_not, Bool.false_eq_true, hp_2, Nat.zero_le, Nat.le_refl, Option.some.injEq, Sum.inl.injEq, Sum.inr.injEq, not_true_eq_false, true_implies, false_implies, implies_true, Int.le_refl, rd_v, f_num, f_lik, f_dep, f_bnd, f_man, f_wom, f_sta, f_dds, f_who, rd_e, v_now, hasOne_eq, hasTwo_eq, hasCouple_eq, orNone_eq, natureOf_eq, rd_nat, place_eq, rd_v1, rd_v3, rd_v4, rd_v6, rd_v7, rd_v8, rd_v9, rd_v10, isShelf_eq, isSide_eq, isDeed_eq, isKind_eq, isMindSpan_eq, gX11_stable, c, rd_m, aa, back_sZ1, rd_m1, sZ_wv, lw, f_gt0]
      exact ev
    · have hr := hrC
      apply eX12_stable 60; simp (disch := first | assumption | rfl | exact inI_of (by omega) (by omega) | omega | decide | (simp only [sv_ext, sv_mc, Nat.le_refl]; done) | with_unfolding_all (refine @id _ ?_; first | exact Eq.refl _ | exact Nat.le_refl _ | assumption)) only [Nat.reduceAdd, Nat.reduceMul, Nat.reduceLeDiff, Nat.reduceLT, Int.reduceAdd, Int.reduceSub, Int.reduceMul, Int.reduceNeg, Int.reduceLE, Int.reduceLT, Int.reduceToNat, Int.reduceEq, reduceCtorEq, ld_z, ld_s, st1_0, st1_1, st1_s, st2_0, st2_1, st2_s, isJ_i, isJ_r, isJ_n, isJ_l, cs_nil, cs_i, cs_r, cs_l, kF, List.getElem?_cons_succ, List.getElem?_cons_zero, List.set_cons_zero, List.set_cons_succ, GC_s, GC_n, GK_nil, GK_no, GK_yes, not_false_eq_true, back_eq, back_hp, inI_eq, inA_eq, true_and, and_true, and_self, if_true, if_false, bI_0, bI_1, bI_in, bI_T, bI_F, fitF, jmpF, nlF, pjA, iVal.eta, iYr.eta, List.getElem?_toArray, List.length_cons, List.length_nil, true_or, or_true, or_false, false_or, Classical.not_not, Bool.false_eq_true, hp_2, Nat.zero_le, Nat.le_refl, Option.some.injEq, Sum.inl.injEq, Sum.inr.injEq, not_true_eq_false, true_implies, false_implies, implies_true, Int.le_refl, rd_o, rd_o_s, hr, row_len, inA_one, inA_lik, inA_cpl, isOne_eq hO hr, isCouple_eq hO hr, isIn_eq, atOne_eq, atLike_eq, atCouple_eq, r_num, q_n0, q_n1, r_cp, r_dy, r_sl, r_who, q_kind, q_fig, q_dep, q_bnd, q_lik, q_man, q_wom, q_sta, q_dds, orNoneR_eq, Int.zero_add, gX12_stable, c]
      have L := fun (l : List Int) (v : Int) (i : Nat) (h : l.length = 5) => (show (l.set i v).length = 5 from by rw [List.length_set]; exact h)
      have q1 : (A.sZ C).mo.he.length = 5 := hR.lhe
      have q2 : (A.sZ C).mo.ak.length = 5 := hR.lak
      refine stI_it (by omega) (by omega) q1 q2 ?_
      refine stI_it (by omega) (by omega) (L _ _ _ q1) (L _ _ _ q2) ?_
      refine stI_it (by omega) (by omega) (L _ _ _ (L _ _ _ q1)) (L _ _ _ (L _ _ _ q2)) ?_
      refine stI_it (by omega) (by omega) (L _ _ _ (L _ _ _ (L _ _ _ q1))) (L _ _ _ (L _ _ _ (L _ _ _ q2))) ?_
      refine stI_it (by omega) (by omega) (L _ _ _ (L _ _ _ (L _ _ _ (L _ _ _ q1)))) (L _ _ _ (L _ _ _ (L _ _ _ (L _ _ _ q2)))) ?_
      have ce : (A.sZ C).sQ ((((((A.sZ C).mo.he.set 0 (-4)).set 1 (-4)).set 2 (-4)).set 3 (-4)).set 4 (-4)) ((((((A.sZ C).mo.ak.set 0 0).set 1 0).set 2 0).set 3 0).set 4 0) = (A.sZ C).sQ f5 o5L := by rw [set5 q1, set5 q2]; rfl
      refine G_run (B := [13, 41]) 40 _ _ _ _ ?_
      simp (disch := first | assumption | rfl | exact inI_of (by omega) (by omega) | omega | decide | (simp only [sv_ext, sv_mc, Nat.le_refl]; done) | with_unfolding_all (refine @id _ ?_; first | exact Eq.refl _ | exact Nat.le_refl _ | assumption)) only [Nat.reduceAdd, Nat.reduceMul, Nat.reduceLeDiff, Nat.reduceLT, Int.reduceAdd, Int.reduceSub, Int.reduceMul, Int.reduceNeg, Int.reduceLE, Int.reduceLT, Int.reduceToNat, Int.reduceEq, reduceCtorEq, ld_z, ld_s, st1_0, st1_1, st1_s, st2_0, st2_1, st2_s, isJ_i, isJ_r, isJ_n, isJ_l, cs_nil, cs_i, cs_r, cs_l, kF, List.getElem?_cons_succ, List.getElem?_cons_zero, List.set_cons_zero, List.set_cons_succ, GC_s, GC_n, GK_nil, GK_no, GK_yes, not_false_eq_true, back_eq, back_hp, inI_eq, inA_eq, true_and, and_true, and_self, if_true, if_false, bI_0, bI_1, bI_in, bI_T, bI_F, fitF, jmpF, nlF, pjA, iVal.eta, iYr.eta, List.getElem?_toArray, List.length_cons, List.length_nil, true_or, or_true, or_false, false_or, Classical.not_not, Bool.false_eq_true, hp_2, Nat.zero_le, Nat.le_refl, Option.some.injEq, Sum.inl.injEq, Sum.inr.injEq, not_true_eq_false, true_implies, false_implies, implies_true, Int.le_refl, gX12_stable]
      have i4 := i4 (fun a b => a = some (.inl (gt0 he m)) ∧ b = hp ((A.sZ C).sQ he ak)) ⟨rfl, rfl⟩
      rw [← ce] at i4
      exact i4
  · have c2 : ¬ ((0 ≤ (0 : Int) ∧ (0 : Int) < 2) ∧ 0 ≤ m ∧ m < A.now.num 0) := fun y => c y.2
    refine Agree.of (-1) A A rfl (fun Q => Call_eq ?_) (fun Q => Call_eq ?_) rfl rfl hR
    · apply eX11_stable 60; simp (disch := first | assumption | rfl | exact inI_of (by omega) (by omega) | omega | decide | (simp only [sv_ext, sv_mc, Nat.le_refl]; done) | with_unfolding_all (refine @id _ ?_; first | exact Eq.refl _ | exact Nat.le_refl _ | assumption)) only [Nat.reduceAdd, Nat.reduceMul, Nat.reduceLeDiff, Nat.reduceLT, Int.reduceAdd, Int.reduceSub, Int.reduceMul, Int.reduceNeg, Int.reduceLE, Int.reduceLT, Int.reduceToNat, Int.reduceEq, reduceCtorEq, ld_z, ld_s, st1_0, st1_1, st1_s, st2_0, st2_1, st2_s, isJ_i, isJ_r, isJ_n, isJ_l, cs_nil, cs_i, cs_r, cs_l, kF, List.getElem?_cons_succ, List.getElem?_cons_zero, List.set_cons_zero, List.set_cons_succ, GC_s, GC_n, GK_nil, GK_no, GK_yes, not_false_eq_true, back_eq, back_hp, inI_eq, inA_eq, true_and, and_true, and_self, if_true, if_false, bI_0, bI_1, bI_in, bI_T, bI_F, fitF, jmpF, nlF, pjA, iVal.eta, iYr.eta, List.getElem?_toArray, List.length_cons, List.length_nil, true_or, or_true, or_false, false_or, Classical.not_not, Bool.false_eq_true, hp_2, Nat.zero_le, Nat.le_refl, Option.some.injEq, Sum.inl.injEq, Sum.inr.injEq, not_true_eq_false, true_implies, false_implies, implies_true, Int.le_refl, rd_v, f_num, f_lik, f_dep, f_bnd, f_man, f_wom, f_sta, f_dds, f_who, rd_e, v_now, hasOne_eq, hasTwo_eq, hasCouple_eq, orNone_eq, natureOf_eq, rd_nat, place_eq, rd_v1, rd_v3, rd_v4, rd_v6, rd_v7, rd_v8, rd_v9, rd_v10, isShelf_eq, isSide_eq, isDeed_eq, isKind_eq, isMindSpan_eq, gX11_stable, c]
    · apply eX12_stable 60; simp (disch := first | assumption | rfl | exact inI_of (by omega) (by omega) | omega | decide | (simp only [sv_ext, sv_mc, Nat.le_refl]; done) | with_unfolding_all (refine @id _ ?_; first | exact Eq.refl _ | exact Nat.le_refl _ | assumption)) only [Nat.reduceAdd, Nat.reduceMul, Nat.reduceLeDiff, Nat.reduceLT, Int.reduceAdd, Int.reduceSub, Int.reduceMul, Int.reduceNeg, Int.reduceLE, Int.reduceLT, Int.reduceToNat, Int.reduceEq, reduceCtorEq, ld_z, ld_s, st1_0, st1_1, st1_s, st2_0, st2_1, st2_s, isJ_i, isJ_r, isJ_n, isJ_l, cs_nil, cs_i, cs_r, cs_l, kF, List.getElem?_cons_succ, List.getElem?_cons_zero, List.set_cons_zero, List.set_cons_succ, GC_s, GC_n, GK_nil, GK_no, GK_yes, not_false_eq_true, back_eq, back_hp, inI_eq, inA_eq, true_and, and_true, and_self, if_true, if_false, bI_0, bI_1, bI_in, bI_T, bI_F, fitF, jmpF, nlF, pjA, iVal.eta, iYr.eta, List.getElem?_toArray, List.length_cons, List.length_nil, true_or, or_true, or_false, false_or, Classical.not_not, Bool.false_eq_true, hp_2, Nat.zero_le, Nat.le_refl, Option.some.injEq, Sum.inl.injEq, Sum.inr.injEq, not_true_eq_false, true_implies, false_implies, implies_true, Int.le_refl, rd_o, rd_o_s, hr, row_len, inA_one, inA_lik, inA_cpl, isOne_eq hO hr, isCouple_eq hO hr, isIn_eq, atOne_eq, atLike_eq, atCouple_eq, r_num, q_n0, q_n1, r_cp, r_dy, r_sl, r_who, q_kind, q_fig, q_dep, q_bnd, q_lik, q_man, q_wom, q_sta, q_dds, orNoneR_eq, Int.zero_add, gX12_stable, c]
end OPS
