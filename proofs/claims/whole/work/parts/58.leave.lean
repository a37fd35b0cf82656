set_option maxRecDepth 16384
/-! ===== matchings: who would leave ===== -/
/-- the man and the woman would leave for each other -/
abbrev iVal.lv (X : iVal) (wv hb : List Int) (m w : Int) : Prop := (gt0 wv m = -1 ∨ X.lik 0 m (gt0 wv m) < X.lik 0 m w) ∧ (gt0 hb w = -1 ∨ X.lik 1 w (gt0 hb w) < X.lik 1 w m)
def iVal.flI (X : iVal) (wv hb : List Int) (m : Int) : Nat → Int → Int
  | 0, _ => -4
  | k + 1, w => if X.lv wv hb m w then 10 * m + w else X.flI wv hb m k (w + 1)
def iVal.flO (X : iVal) (wv hb : List Int) : Nat → Int → Int
  | 0, _ => -4
  | k + 1, m => if X.flI wv hb m (X.num 1).toNat 0 = -4 then X.flO wv hb k (m + 1) else X.flI wv hb m (X.num 1).toNat 0
def iVal.fl (X : iVal) (wv hb : List Int) : Int := X.flO wv hb (X.num 0).toNat 0
def OkM (X : iVal) (wv hb : List Int) : Prop := ((wv.length = 5) ∧ (hb.length = 5) ∧ (∀ m, 0 ≤ m → m < 5 → gt0 wv m = -1 ∨ (0 ≤ gt0 wv m ∧ gt0 wv m < X.num 1 ∧ gt0 hb (gt0 wv m) = m)) ∧ (∀ w, 0 ≤ w → w < 5 → gt0 hb w = -1 ∨ (0 ≤ gt0 hb w ∧ gt0 hb w < X.num 0 ∧ gt0 wv (gt0 hb w) = w))) ∨ False
theorem OkM.mk {X : iVal} {wv hb : List Int} (a_lw : wv.length = 5) (a_lh : hb.length = 5) (a_wi : ∀ m, 0 ≤ m → m < 5 → gt0 wv m = -1 ∨ (0 ≤ gt0 wv m ∧ gt0 wv m < X.num 1 ∧ gt0 hb (gt0 wv m) = m)) (a_hu : ∀ w, 0 ≤ w → w < 5 → gt0 hb w = -1 ∨ (0 ≤ gt0 hb w ∧ gt0 hb w < X.num 0 ∧ gt0 wv (gt0 hb w) = w)) : OkM X wv hb := Or.inl ⟨a_lw, a_lh, a_wi, a_hu⟩
theorem OkM.lw {X : iVal} {wv hb : List Int} (h : OkM X wv hb) : wv.length = 5 := (h.elim id False.elim).1
theorem OkM.lh {X : iVal} {wv hb : List Int} (h : OkM X wv hb) : hb.length = 5 := (h.elim id False.elim).2.1
theorem OkM.wi {X : iVal} {wv hb : List Int} (h : OkM X wv hb) : ∀ m, 0 ≤ m → m < 5 → gt0 wv m = -1 ∨ (0 ≤ gt0 wv m ∧ gt0 wv m < X.num 1 ∧ gt0 hb (gt0 wv m) = m) := (h.elim id False.elim).2.2.1
theorem OkM.hu {X : iVal} {wv hb : List Int} (h : OkM X wv hb) : ∀ w, 0 ≤ w → w < 5 → gt0 hb w = -1 ∨ (0 ≤ gt0 hb w ∧ gt0 hb w < X.num 0 ∧ gt0 wv (gt0 hb w) = w) := (h.elim id False.elim).2.2.2
/-- the reference's row of women is the class's -/
def sameH (X : iVal) (wv he : List Int) : Prop := he.length = 5 ∧ ∀ m, 0 ≤ m → m < X.num 0 → (gt0 wv m = -1 ∧ gt0 he m < 0 ∧ -4 ≤ gt0 he m) ∨ (0 ≤ gt0 wv m ∧ gt0 he m = gt0 wv m)
section OPS
variable {sp : Nat → List iV → iH → Option (Option iV × iH)} {sc : List Int} {d : Nat} {A : iA} {Q : Option iV → iH → Prop} {h : iH} {X : iVal} {e : Int} {wv hb he : List Int}
theorem f_gt0 {l : List Int} {i : Int} : l.getD i.toNat 0 = gt0 l i := rfl
theorem flI_b {m : Int} (hm : 0 ≤ m) : ∀ (k : Nat) (w : Int), 0 ≤ w → X.flI wv hb m k w = -4 ∨ (10 * m ≤ X.flI wv hb m k w ∧ X.flI wv hb m k w < 10 * m + w + k) := by
  intro k
  induction k with
  | zero => intro w h; left; rfl
  | succ k ih =>
    intro w h
    unfold iVal.flI
    split
    · right; omega
    · rcases ih (w + 1) (by omega) with z | z
      · left; exact z
      · right; omega
theorem flO_b (hO : OkV X) : ∀ (k : Nat) (m : Int), 0 ≤ m → m + k ≤ 5 → -4 ≤ X.flO wv hb k m ∧ X.flO wv hb k m < 100 := by
  have n1 := hO.n1
  intro k
  induction k with
  | zero => intro m h0 h1; exact ⟨Int.le_refl _, by show (-4 : Int) < 100; omega⟩
  | succ k ih =>
    intro m h0 h1
    unfold iVal.flO
    split
    · exact ih _ (by omega) (by omega)
    · rcases flI_b (X := X) (wv := wv) (hb := hb) h0 (X.num 1).toNat 0 (by omega) with z | z
      · contradiction
      · omega
theorem wouldLeave_eq (hO : OkV A.now) {s k j u : Int} (h0 : 0 ≤ s) (h1 : s < 2) (h2 : 0 ≤ k) (h3 : k < 5) (h4 : 0 ≤ j) (h5 : j < 5) (hu : u = -1 ∨ (0 ≤ u ∧ u < 5)) : Call sp sc (d + 1) mX4_wouldLeave [.inr (.inr 15), .inl s, .inl k, .inl j, .inl u] (hp A) Q = Q (some (.inl (bI (u = -1 ∨ A.now.lik s k u < A.now.lik s k j)))) (hp A) := Call_eq (by
  have hO2 : OkV (A.v .now) := hO
  have l1 := hO.lik s k j h0 h1 h2 h3 h4 h5
  apply eX4_wouldLeave 40
  by_cases z : u = -1
  · simp (disch := first | assumption | rfl | exact inI_of (by omega) (by omega) | omega | decide | (simp only [sv_ext, sv_mc, Nat.le_refl]; done) | with_unfolding_all (refine @id _ ?_; first | exact Eq.refl _ | exact Nat.le_refl _ | assumption)) only [Nat.reduceAdd, Nat.reduceMul, Nat.reduceLeDiff, Nat.reduceLT, Int.reduceAdd, Int.reduceSub, Int.reduceMul, Int.reduceNeg, Int.reduceLE, Int.reduceLT, Int.reduceToNat, Int.reduceEq, reduceCtorEq, ld_z, ld_s, st1_0, st1_1, st1_s, st2_0, st2_1, st2_s, isJ_i, isJ_r, isJ_n, isJ_l, cs_nil, cs_i, cs_r, cs_l, kF, List.getElem?_cons_succ, List.getElem?_cons_zero, List.set_cons_zero, List.set_cons_succ, GC_s, GC_n, GK_nil, GK_no, GK_yes, not_false_eq_true, back_eq, back_hp, inI_eq, inA_eq, true_and, and_true, and_self, if_true, if_false, bI_0, bI_1, bI_in, bI_T, bI_F, fitF, jmpF, nlF, pjA, iVal.eta, iYr.eta, List.getElem?_toArray, List.length_cons, List.length_nil, true_or, or_true, or_false, false_or, Classical.not_not, Bool.false_eq_true, hp_2, Nat.zero_le, Nat.le_refl, Option.some.injEq, Sum.inl.injEq, Sum.inr.injEq, not_true_eq_false, true_implies, false_implies, implies_true, rd_v, f_num, f_lik, f_dep, f_bnd, f_man, f_wom, f_sta, f_dds, f_who, rd_e, v_now, hasOne_eq, hasTwo_eq, hasCouple_eq, orNone_eq, natureOf_eq, rd_nat, place_eq, rd_v1, rd_v3, rd_v4, rd_v6, rd_v7, rd_v8, rd_v9, rd_v10, isShelf_eq, isSide_eq, isDeed_eq, isKind_eq, isMindSpan_eq, gX4_wouldLeave, rd_m, eq_true z]
  · have l2 := hO.lik s k u h0 h1 h2 h3 (by omega) (by omega)
    simp (disch := first | assumption | rfl | exact inI_of (by omega) (by omega) | omega | decide | (simp only [sv_ext, sv_mc, Nat.le_refl]; done) | with_unfolding_all (refine @id _ ?_; first | exact Eq.refl _ | exact Nat.le_refl _ | assumption)) only [Nat.reduceAdd, Nat.reduceMul, Nat.reduceLeDiff, Nat.reduceLT, Int.reduceAdd, Int.reduceSub, Int.reduceMul, Int.reduceNeg, Int.reduceLE, Int.reduceLT, Int.reduceToNat, Int.reduceEq, reduceCtorEq, ld_z, ld_s, st1_0, st1_1, st1_s, st2_0, st2_1, st2_s, isJ_i, isJ_r, isJ_n, isJ_l, cs_nil, cs_i, cs_r, cs_l, kF, List.getElem?_cons_succ, List.getElem?_cons_zero, List.set_cons_zero, List.set_cons_succ, GC_s, GC_n, GK_nil, GK_no, GK_yes, not_false_eq_true, back_eq, back_hp, inI_eq, inA_eq, true_and, and_true, and_self, if_true, if_false, bI_0, bI_1, bI_in, bI_T, bI_F, fitF, jmpF, nlF, pjA, iVal.eta, iYr.eta, List.getElem?_toArray, List.length_cons, List.length_nil, true_or, or_true, or_false, false_or, Classical.not_not, Bool.false_eq_true, hp_2, Nat.zero_le, Nat.le_refl, Option.some.injEq, Sum.inl.injEq, Sum.inr.injEq, not_true_eq_false, true_implies, false_implies, implies_true, rd_v, f_num, f_lik, f_dep, f_bnd, f_man, f_wom, f_sta, f_dds, f_who, rd_e, v_now, hasOne_eq, hasTwo_eq, hasCouple_eq, orNone_eq, natureOf_eq, rd_nat, place_eq, rd_v1, rd_v3, rd_v4, rd_v6, rd_v7, rd_v8, rd_v9, rd_v10, isShelf_eq, isSide_eq, isDeed_eq, isKind_eq, isMindSpan_eq, gX4_wouldLeave, rd_m, z, liking_eq]
    ((repeat' first | intro _ | refine And.intro ?_ ?_) <;> (first | assumption | exact inI_of (by omega) (by omega) | exact inA_of (by omega) (by omega) (by omega) | exact (bI_f (by omega)).symm | exact (bI_t (by omega)).symm | exact bI_f (by omega) | exact bI_t (by omega) | omega | rfl | (simp; done))))
theorem flC_in (hO : OkV A.now) (hM : OkM A.now A.mt.wv A.mt.hb) {m : Int} (h0 : 0 ≤ m) (h1 : m < A.now.num 0) : ∀ (k : Nat) (w : Int), 0 ≤ w → w + k = A.now.num 1 → (A.now.flI A.mt.wv A.mt.hb m k w ≠ -4 → Q (some (.inl (A.now.flI A.mt.wv A.mt.hb m k w))) (hp A)) → (A.now.flI A.mt.wv A.mt.hb m k w = -4 → ∀ o2, Run sp sc (d + 3) mX4_firstLeaving 2 [some (.inr (.inr 15)), some (.inl (m + 1)), o2] [] (hp A) Q) → Run sp sc (d + 3) mX4_firstLeaving 17 [some (.inr (.inr 15)), some (.inl m), some (.inl w)] [] (hp A) Q := by
  have n0 := hO.n0
  have n1 := hO.n1
  have lw := hM.lw
  have lh := hM.lh
  have lo := hO.lon
  intro k
  induction k with
  | zero =>
    intro w h2 h3 k1 k2
    refine G_run (B := [2, 17]) 60 _ _ _ _ ?_
    have e1 : A.now.num 1 ≤ w := by omega
    simp (disch := first | assumption | rfl | exact inI_of (by omega) (by omega) | omega | decide | (simp only [sv_ext, sv_mc, Nat.le_refl]; done) | with_unfolding_all (refine @id _ ?_; first | exact Eq.refl _ | exact Nat.le_refl _ | assumption)) only [Nat.reduceAdd, Nat.reduceMul, Nat.reduceLeDiff, Nat.reduceLT, Int.reduceAdd, Int.reduceSub, Int.reduceMul, Int.reduceNeg, Int.reduceLE, Int.reduceLT, Int.reduceToNat, Int.reduceEq, reduceCtorEq, ld_z, ld_s, st1_0, st1_1, st1_s, st2_0, st2_1, st2_s, isJ_i, isJ_r, isJ_n, isJ_l, cs_nil, cs_i, cs_r, cs_l, kF, List.getElem?_cons_succ, List.getElem?_cons_zero, List.set_cons_zero, List.set_cons_succ, GC_s, GC_n, GK_nil, GK_no, GK_yes, not_false_eq_true, back_eq, back_hp, inI_eq, inA_eq, true_and, and_true, and_self, if_true, if_false, bI_0, bI_1, bI_in, bI_T, bI_F, fitF, jmpF, nlF, pjA, iVal.eta, iYr.eta, List.getElem?_toArray, List.length_cons, List.length_nil, true_or, or_true, or_false, false_or, Classical.not_not, Bool.false_eq_true, hp_2, Nat.zero_le, Nat.le_refl, Option.some.injEq, Sum.inl.injEq, Sum.inr.injEq, not_true_eq_false, true_implies, false_implies, implies_true, rd_v, f_num, f_lik, f_dep, f_bnd, f_man, f_wom, f_sta, f_dds, f_who, rd_e, v_now, hasOne_eq, hasTwo_eq, hasCouple_eq, orNone_eq, natureOf_eq, rd_nat, place_eq, rd_v1, rd_v3, rd_v4, rd_v6, rd_v7, rd_v8, rd_v9, rd_v10, isShelf_eq, isSide_eq, isDeed_eq, isKind_eq, isMindSpan_eq, gX4_firstLeaving, rd_m, lo, f_n1, e1]
    exact k2 rfl _
  | succ k ih =>
    intro w h2 h3 k1 k2
    have ih := ih (w + 1) (by omega) (by omega)
    refine G_run (B := [2, 17]) 60 _ _ _ _ ?_
    have e1 : ¬ A.now.num 1 ≤ w := by omega
    have a1 := hM.wi m h0 (by omega)
    have a2 := hM.hu w h2 (by omega)
    unfold iVal.flI at k1 k2
    by_cases z1 : gt0 A.mt.wv m = -1 ∨ A.now.lik 0 m (gt0 A.mt.wv m) < A.now.lik 0 m w
    · by_cases z2 : gt0 A.mt.hb w = -1 ∨ A.now.lik 1 w (gt0 A.mt.hb w) < A.now.lik 1 w m
      · rw [if_pos ⟨z1, z2⟩] at k1
        simp (disch := first | assumption | rfl | exact inI_of (by omega) (by omega) | omega | decide | (simp only [sv_ext, sv_mc, Nat.le_refl]; done) | with_unfolding_all (refine @id _ ?_; first | exact Eq.refl _ | exact Nat.le_refl _ | assumption)) only [Nat.reduceAdd, Nat.reduceMul, Nat.reduceLeDiff, Nat.reduceLT, Int.reduceAdd, Int.reduceSub, Int.reduceMul, Int.reduceNeg, Int.reduceLE, Int.reduceLT, Int.reduceToNat, Int.reduceEq, reduceCtorEq, ld_z, ld_s, st1_0, st1_1, st1_s, st2_0, st2_1, st2_s, isJ_i, isJ_r, isJ_n, isJ_l, cs_nil, cs_i, cs_r, cs_l, kF, List.getElem?_cons_succ, List.getElem?_cons_zero, List.set_cons_zero, List.set_cons_succ, GC_s, GC_n, GK_nil, GK_no, GK_yes, not_false_eq_true, back_eq, back_hp, inI_eq, inA_eq, true_and, and_true, and_self, if_true, if_false, bI_0, bI_1, bI_in, bI_T, bI_F, fitF, jmpF, nlF, pjA, iVal.eta, iYr.eta, List.getElem?_toArray, List.length_cons, List.length_nil, true_or, or_true, or_false, false_or, Classical.not_not, Bool.false_eq_true, hp_2, Nat.zero_le, Nat.le_refl, Option.some.injEq, Sum.inl.injEq, Sum.inr.injEq, not_true_eq_false, true_implies, false_implies, implies_true, rd_v, f_num, f_lik, f_dep, f_bnd, f_man, f_wom, f_sta, f_dds, f_who, rd_e, v_now, hasOne_eq, hasTwo_eq, hasCouple_eq, orNone_eq, natureOf_eq, rd_nat, place_eq, rd_v1, rd_v3, rd_v4, rd_v6, rd_v7, rd_v8, rd_v9, rd_v10, isShelf_eq, isSide_eq, isDeed_eq, isKind_eq, isMindSpan_eq, gX4_firstLeaving, rd_m, rd_m1, rd_m2, lo, lw, lh, f_n1, f_gt0, e1, wouldLeave_eq hO, bI_t z1, bI_t z2]
        exact k1 (by omega)
      · rw [if_neg (fun y => z2 y.2)] at k1 k2
        simp (disch := first | assumption | rfl | exact inI_of (by omega) (by omega) | omega | decide | (simp only [sv_ext, sv_mc, Nat.le_refl]; done) | with_unfolding_all (refine @id _ ?_; first | exact Eq.refl _ | exact Nat.le_refl _ | assumption)) only [Nat.reduceAdd, Nat.reduceMul, Nat.reduceLeDiff, Nat.reduceLT, Int.reduceAdd, Int.reduceSub, Int.reduceMul, Int.reduceNeg, Int.reduceLE, Int.reduceLT, Int.reduceToNat, Int.reduceEq, reduceCtorEq, ld_z, ld_s, st1_0, st1_1, st1_s, st2_0, st2_1, st2_s, isJ_i, isJ_r, isJ_n, isJ_l, cs_nil, cs_i, cs_r, cs_l, kF, List.getElem?_cons_succ, List.getElem?_cons_zero, List.set_cons_zero, List.set_cons_succ, GC_s, GC_n, GK_nil, GK_no, GK_yes, not_false_eq_true, back_eq, back_hp, inI_eq, inA_eq, true_and, and_true, and_self, if_true, if_false, bI_0, bI_1, bI_in, bI_T, bI_F, fitF, jmpF, nlF, pjA, iVal.eta, iYr.eta, List.getElem?_toArray, List.length_cons, List.length_nil, true_or, or_true, or_false, false_or, Classical.not_not, Bool.false_eq_true, hp_2, Nat.zero_le, Nat.le_refl, Option.some.injEq, Sum.inl.injEq, Sum.inr.injEq, not_true_eq_false, true_implies, false_implies, implies_true, rd_v, f_num, f_lik, f_dep, f_bnd, f_man, f_wom, f_sta, f_dds, f_who, rd_e, v_now, hasOne_eq, hasTwo_eq, hasCouple_eq, orNone_eq, natureOf_eq, rd_nat, place_eq, rd_v1, rd_v3, rd_v4, rd_v6, rd_v7, rd_v8, rd_v9, rd_v10, isShelf_eq, isSide_eq, isDeed_eq, isKind_eq, isMindSpan_eq, gX4_firstLeaving, rd_m, rd_m1, rd_m2, lo, lw, lh, f_n1, f_gt0, e1, wouldLeave_eq hO, bI_t z1, bI_f z2]
        exact ih k1 k2
    · rw [if_neg (fun y => z1 y.1)] at k1 k2
      simp (disch := first | assumption | rfl | exact inI_of (by omega) (by omega) | omega | decide | (simp only [sv_ext, sv_mc, Nat.le_refl]; done) | with_unfolding_all (refine @id _ ?_; first | exact Eq.refl _ | exact Nat.le_refl _ | assumption)) only [Nat.reduceAdd, Nat.reduceMul, Nat.reduceLeDiff, Nat.reduceLT, Int.reduceAdd, Int.reduceSub, Int.reduceMul, Int.reduceNeg, Int.reduceLE, Int.reduceLT, Int.reduceToNat, Int.reduceEq, reduceCtorEq, ld_z, ld_s, st1_0, st1_1, st1_s, st2_0, st2_1, st2_s, isJ_i, isJ_r, isJ_n, isJ_l, cs_nil, cs_i, cs_r, cs_l, kF, List.getElem?_cons_succ, List.getElem?_cons_zero, List.set_cons_zero, List.set_cons_succ, GC_s, GC_n, GK_nil, GK_no, GK_yes, not_false_eq_true, back_eq, back_hp, inI_eq, inA_eq, true_and, and_true, and_self, if_true, if_false, bI_0, bI_1, bI_in, bI_T, bI_F, fitF, jmpF, nlF, pjA, iVal.eta, iYr.eta, List.getElem?_toArray, List.length_cons, List.length_nil, true_or, or_true, or_false, false_or, Classical.not_not, Bool.false_eq_true, hp_2, Nat.zero_le, Nat.le_refl, Option.some.injEq, Sum.inl.injEq, Sum.inr.injEq, not_true_eq_false, true_implies, false_implies, implies_true, rd_v, f_num, f_lik, f_dep, f_bnd, f_man, f_wom, f_sta, f_dds, f_who, rd_e, v_now, hasOne_eq, hasTwo_eq, hasCouple_eq, orNone_eq, natureOf_eq, rd_nat, place_eq, rd_v1, rd_v3, rd_v4, rd_v6, rd_v7, rd_v8, rd_v9, rd_v10, isShelf_eq, isSide_eq, isDeed_eq, isKind_eq, isMindSpan_eq, gX4_firstLeaving, rd_m, rd_m1, rd_m2, lo, lw, lh, f_n1, f_gt0, e1, wouldLeave_eq hO, bI_f z1]
      exact ih k1 k2
theorem flC_out (hO : OkV A.now) (hM : OkM A.now A.mt.wv A.mt.hb) : ∀ (k : Nat) (m : Int) (o2 : Option iV), 0 ≤ m → m + k = A.now.num 0 → Q (some (.inl (A.now.flO A.mt.wv A.mt.hb k m))) (hp A) → Run sp sc (d + 3) mX4_firstLeaving 2 [some (.inr (.inr 15)), some (.inl m), o2] [] (hp A) Q := by
  have n0 := hO.n0
  have n1 := hO.n1
  have lo := hO.lon
  intro k
  induction k with
  | zero =>
    intro m o2 h2 h3 hq
    refine G_run (B := [2, 17]) 60 _ _ _ _ ?_
    have e1 : A.now.num 0 ≤ m := by omega
    simp (disch := first | assumption | rfl | exact inI_of (by omega) (by omega) | omega | decide | (simp only [sv_ext, sv_mc, Nat.le_refl]; done) | with_unfolding_all (refine @id _ ?_; first | exact Eq.refl _ | exact Nat.le_refl _ | assumption)) only [Nat.reduceAdd, Nat.reduceMul, Nat.reduceLeDiff, Nat.reduceLT, Int.reduceAdd, Int.reduceSub, Int.reduceMul, Int.reduceNeg, Int.reduceLE, Int.reduceLT, Int.reduceToNat, Int.reduceEq, reduceCtorEq, ld_z, ld_s, st1_0, st1_1, st1_s, st2_0, st2_1, st2_s, isJ_i, isJ_r, isJ_n, isJ_l, cs_nil, cs_i, cs_r, cs_l, kF, List.getElem?_cons_succ, List.getElem?_cons_zero, List.set_cons_zero, List.set_cons_succ, GC_s, GC_n, GK_nil, GK_no, GK_yes, not_false_eq_true, back_eq, back_hp, inI_eq, inA_eq, true_and, and_true, and_self, if_true, if_false, bI_0, bI_1, bI_in, bI_T, bI_F, fitF, jmpF, nlF, pjA, iVal.eta, iYr.eta, List.getElem?_toArray, List.length_cons, List.length_nil, true_or, or_true, or_false, false_or, Classical.not_not, Bool.false_eq_true, hp_2, Nat.zero_le, Nat.le_refl, Option.some.injEq, Sum.inl.injEq, Sum.inr.injEq, not_true_eq_false, true_implies, false_implies, implies_true, rd_v, f_num, f_lik, f_dep, f_bnd, f_man, f_wom, f_sta, f_dds, f_who, rd_e, v_now, hasOne_eq, hasTwo_eq, hasCouple_eq, orNone_eq, natureOf_eq, rd_nat, place_eq, rd_v1, rd_v3, rd_v4, rd_v6, rd_v7, rd_v8, rd_v9, rd_v10, isShelf_eq, isSide_eq, isDeed_eq, isKind_eq, isMindSpan_eq, gX4_firstLeaving, rd_m, lo, f_n0, e1]
    exact hq
  | succ k ih =>
    intro m o2 h2 h3 hq
    have e1 : ¬ A.now.num 0 ≤ m := by omega
    unfold iVal.flO at hq
    refine G_run (B := [2, 17]) 60 _ _ _ _ ?_
    simp (disch := first | assumption | rfl | exact inI_of (by omega) (by omega) | omega | decide | (simp only [sv_ext, sv_mc, Nat.le_refl]; done) | with_unfolding_all (refine @id _ ?_; first | exact Eq.refl _ | exact Nat.le_refl _ | assumption)) only [Nat.reduceAdd, Nat.reduceMul, Nat.reduceLeDiff, Nat.reduceLT, Int.reduceAdd, Int.reduceSub, Int.reduceMul, Int.reduceNeg, Int.reduceLE, Int.reduceLT, Int.reduceToNat, Int.reduceEq, reduceCtorEq, ld_z, ld_s, st1_0, st1_1, st1_s, st2_0, st2_1, st2_s, isJ_i, isJ_r, isJ_n, isJ_l, cs_nil, cs_i, cs_r, cs_l, kF, List.getElem?_cons_succ, List.getElem?_cons_zero, List.set_cons_zero, List.set_cons_succ, GC_s, GC_n, GK_nil, GK_no, GK_yes, not_false_eq_true, back_eq, back_hp, inI_eq, inA_eq, true_and, and_true, and_self, if_true, if_false, bI_0, bI_1, bI_in, bI_T, bI_F, fitF, jmpF, nlF, pjA, iVal.eta, iYr.eta, List.getElem?_toArray, List.length_cons, List.length_nil, true_or, or_true, or_false, false_or, Classical.not_not, Bool.false_eq_true, hp_2, Nat.zero_le, Nat.le_refl, Option.some.injEq, Sum.inl.injEq, Sum.inr.injEq, not_true_eq_false, true_implies, false_implies, implies_true, rd_v, f_num, f_lik, f_dep, f_bnd, f_man, f_wom, f_sta, f_dds, f_who, rd_e, v_now, hasOne_eq, hasTwo_eq, hasCouple_eq, orNone_eq, natureOf_eq, rd_nat, place_eq, rd_v1, rd_v3, rd_v4, rd_v6, rd_v7, rd_v8, rd_v9, rd_v10, isShelf_eq, isSide_eq, isDeed_eq, isKind_eq, isMindSpan_eq, gX4_firstLeaving, rd_m, lo, f_n0, e1]
    refine flC_in hO hM h2 (by omega) (A.now.num 1).toNat 0 (by omega) (by omega) (fun z => ?_) (fun z o2 => ?_)
    · rw [if_neg z] at hq; exact hq
    · rw [if_pos z] at hq; exact ih (m + 1) o2 (by omega) (by omega) hq
theorem firstLeaving_eq (hO : OkV A.now) (hM : OkM A.now A.mt.wv A.mt.hb) : Call sp sc (d + 3) mX4_firstLeaving [.inr (.inr 15)] (hp A) Q = Q (some (.inl (A.now.fl A.mt.wv A.mt.hb))) (hp A) := Call_eq (by
  have n0 := hO.n0
  apply eX4_firstLeaving 40; simp (disch := first | assumption | rfl | exact inI_of (by omega) (by omega) | omega | decide | (simp only [sv_ext, sv_mc, Nat.le_refl]; done) | with_unfolding_all (refine @id _ ?_; first | exact Eq.refl _ | exact Nat.le_refl _ | assumption)) only [Nat.reduceAdd, Nat.reduceMul, Nat.reduceLeDiff, Nat.reduceLT, Int.reduceAdd, Int.reduceSub, Int.reduceMul, Int.reduceNeg, Int.reduceLE, Int.reduceLT, Int.reduceToNat, Int.reduceEq, reduceCtorEq, ld_z, ld_s, st1_0, st1_1, st1_s, st2_0, st2_1, st2_s, isJ_i, isJ_r, isJ_n, isJ_l, cs_nil, cs_i, cs_r, cs_l, kF, List.getElem?_cons_succ, List.getElem?_cons_zero, List.set_cons_zero, List.set_cons_succ, GC_s, GC_n, GK_nil, GK_no, GK_yes, not_false_eq_true, back_eq, back_hp, inI_eq, inA_eq, true_and, and_true, and_self, if_true, if_false, bI_0, bI_1, bI_in, bI_T, bI_F, fitF, jmpF, nlF, pjA, iVal.eta, iYr.eta, List.getElem?_toArray, List.length_cons, List.length_nil, true_or, or_true, or_false, false_or, Classical.not_not, Bool.false_eq_true, hp_2, Nat.zero_le, Nat.le_refl, Option.some.injEq, Sum.inl.injEq, Sum.inr.injEq, not_true_eq_false, true_implies, false_implies, implies_true, rd_v, f_num, f_lik, f_dep, f_bnd, f_man, f_wom, f_sta, f_dds, f_who, rd_e, v_now, hasOne_eq, hasTwo_eq, hasCouple_eq, orNone_eq, natureOf_eq, rd_nat, place_eq, rd_v1, rd_v3, rd_v4, rd_v6, rd_v7, rd_v8, rd_v9, rd_v10, isShelf_eq, isSide_eq, isDeed_eq, isKind_eq, isMindSpan_eq, gX4_firstLeaving]
  exact flC_out hO hM (A.now.num 0).toNat 0 _ (by omega) (by omega) ⟨rfl, rfl⟩)
end OPS
