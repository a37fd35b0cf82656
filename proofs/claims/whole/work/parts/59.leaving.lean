set_option maxRecDepth 16384
/-! ===== the reference: who would leave ===== -/
section OPS
variable {sp : Nat → List iV → iH → Option (Option iV × iH)} {sc : List Int} {d : Nat} {A : iA} {Q : Option iV → iH → Prop} {h : iH} {X : iVal} {e : Int} {wv hb he : List Int}
theorem f_he {i : Int} : A.mo.he.getD i.toNat 0 = gt0 A.mo.he i := rfl
def mOf (hb : List Int) (w : Int) : Int := if gt0 hb w = -1 then -4 else gt0 hb w
theorem manR_loop (hO : OkV X) (hr : A.mo.s = rowOf X e) (hM : OkM X wv hb) (hH : sameH X wv A.mo.he) {w : Int} (h0 : 0 ≤ w) (h1 : w < X.num 1) : ∀ (n : Nat) (k : Int), 0 ≤ k → k + n = X.num 0 → (gt0 hb w = -1 ∨ k ≤ gt0 hb w) → Q (some (.inl (mOf hb w))) (hp A) → Run sp sc (d + 1) mX12_manOf 2 [some (.inr (.inr 140)), some (.inl w), some (.inl k)] [] (hp A) Q := by
  have n0 := hO.n0
  have n1 := hO.n1
  have lh := hH.1
  have hu := hM.hu w h0 (by omega)
  intro n
  induction n with
  | zero =>
    intro k h2 h3 h4 hq
    refine G_run (B := [2]) 60 _ _ _ _ ?_
    have e1 : X.num 0 ≤ k := by omega
    unfold mOf at hq
    rw [if_pos (by omega)] at hq
    simp (disch := first | assumption | rfl | exact inI_of (by omega) (by omega) | omega | decide | (simp only [sv_ext, sv_mc, Nat.le_refl]; done) | with_unfolding_all (refine @id _ ?_; first | exact Eq.refl _ | exact Nat.le_refl _ | assumption)) only [Nat.reduceAdd, Nat.reduceMul, Nat.reduceLeDiff, Nat.reduceLT, Int.reduceAdd, Int.reduceSub, Int.reduceMul, Int.reduceNeg, Int.reduceLE, Int.reduceLT, Int.reduceToNat, Int.reduceEq, reduceCtorEq, ld_z, ld_s, st1_0, st1_1, st1_s, st2_0, st2_1, st2_s, isJ_i, isJ_r, isJ_n, isJ_l, cs_nil, cs_i, cs_r, cs_l, kF, List.getElem?_cons_succ, List.getElem?_cons_zero, List.set_cons_zero, List.set_cons_succ, GC_s, GC_n, GK_nil, GK_no, GK_yes, not_false_eq_true, back_eq, back_hp, inI_eq, inA_eq, true_and, and_true, and_self, if_true, if_false, bI_0, bI_1, bI_in, bI_T, bI_F, fitF, jmpF, nlF, pjA, iVal.eta, iYr.eta, List.getElem?_toArray, List.length_cons, List.length_nil, true_or, or_true, or_false, false_or, Classical.not_not, Bool.false_eq_true, hp_2, Nat.zero_le, Nat.le_refl, Option.some.injEq, Sum.inl.injEq, Sum.inr.injEq, not_true_eq_false, true_implies, false_implies, implies_true, rd_o, rd_o_s, hr, row_len, inA_one, inA_lik, inA_cpl, isOne_eq hO hr, isCouple_eq hO hr, isIn_eq, atOne_eq, atLike_eq, atCouple_eq, r_num, q_n0, q_n1, r_cp, r_dy, r_sl, r_who, q_kind, q_fig, q_dep, q_bnd, q_lik, q_man, q_wom, q_sta, q_dds, orNoneR_eq, Int.zero_add, gX12_manOf, e1]
    exact hq
  | succ n ih =>
    intro k h2 h3 h4 hq
    refine G_run (B := [2]) 60 _ _ _ _ ?_
    have e1 : ¬ X.num 0 ≤ k := by omega
    have a1 := hH.2 k h2 (by omega)
    have a2 := hM.wi k h2 (by omega)
    have ii : inI (gt0 A.mo.he k) = true := inI_of (by omega) (by omega)
    by_cases z : gt0 A.mo.he k = w
    · have zw : gt0 wv k = w := by omega
      have : gt0 hb w = k := by
        rcases a2 with y | y
        · omega
        · rw [zw] at y; exact y.2.2
      unfold mOf at hq
      rw [if_neg (by omega), this] at hq
      simp (disch := first | assumption | rfl | exact inI_of (by omega) (by omega) | omega | decide | (simp only [sv_ext, sv_mc, Nat.le_refl]; done) | with_unfolding_all (refine @id _ ?_; first | exact Eq.refl _ | exact Nat.le_refl _ | assumption)) only [Nat.reduceAdd, Nat.reduceMul, Nat.reduceLeDiff, Nat.reduceLT, Int.reduceAdd, Int.reduceSub, Int.reduceMul, Int.reduceNeg, Int.reduceLE, Int.reduceLT, Int.reduceToNat, Int.reduceEq, reduceCtorEq, ld_z, ld_s, st1_0, st1_1, st1_s, st2_0, st2_1, st2_s, isJ_i, isJ_r, isJ_n, isJ_l, cs_nil, cs_i, cs_r, cs_l, kF, List.getElem?_cons_succ, List.getElem?_cons_zero, List.set_cons_zero, List.set_cons_succ, GC_s, GC_n, GK_nil, GK_no, GK_yes, not_false_eq_true, back_eq, back_hp, inI_eq, inA_eq, true_and, and_true, and_self, if_true, if_false, bI_0, bI_1, bI_in, bI_T, bI_F, fitF, jmpF, nlF, pjA, iVal.eta, iYr.eta, List.getElem?_toArray, List.length_cons, List.length_nil, true_or, or_true, or_false, false_or, Classical.not_not, Bool.false_eq_true, hp_2, Nat.zero_le, Nat.le_refl, Option.some.injEq, Sum.inl.injEq, Sum.inr.injEq, not_true_eq_false, true_implies, false_implies, implies_true, rd_o, rd_o_s, hr, row_len, inA_one, inA_lik, inA_cpl, isOne_eq hO hr, isCouple_eq hO hr, isIn_eq, atOne_eq, atLike_eq, atCouple_eq, r_num, q_n0, q_n1, r_cp, r_dy, r_sl, r_who, q_kind, q_fig, q_dep, q_bnd, q_lik, q_man, q_wom, q_sta, q_dds, orNoneR_eq, Int.zero_add, gX12_manOf, e1, rd_o_he, lh, f_gt0, eq_true z, ii]
      exact hq
    · simp (disch := first | assumption | rfl | exact inI_of (by omega) (by omega) | omega | decide | (simp only [sv_ext, sv_mc, Nat.le_refl]; done) | with_unfolding_all (refine @id _ ?_; first | exact Eq.refl _ | exact Nat.le_refl _ | assumption)) only [Nat.reduceAdd, Nat.reduceMul, Nat.reduceLeDiff, Nat.reduceLT, Int.reduceAdd, Int.reduceSub, Int.reduceMul, Int.reduceNeg, Int.reduceLE, Int.reduceLT, Int.reduceToNat, Int.reduceEq, reduceCtorEq, ld_z, ld_s, st1_0, st1_1, st1_s, st2_0, st2_1, st2_s, isJ_i, isJ_r, isJ_n, isJ_l, cs_nil, cs_i, cs_r, cs_l, kF, List.getElem?_cons_succ, List.getElem?_cons_zero, List.set_cons_zero, List.set_cons_succ, GC_s, GC_n, GK_nil, GK_no, GK_yes, not_false_eq_true, back_eq, back_hp, inI_eq, inA_eq, true_and, and_true, and_self, if_true, if_false, bI_0, bI_1, bI_in, bI_T, bI_F, fitF, jmpF, nlF, pjA, iVal.eta, iYr.eta, List.getElem?_toArray, List.length_cons, List.length_nil, true_or, or_true, or_false, false_or, Classical.not_not, Bool.false_eq_true, hp_2, Nat.zero_le, Nat.le_refl, Option.some.injEq, Sum.inl.injEq, Sum.inr.injEq, not_true_eq_false, true_implies, false_implies, implies_true, rd_o, rd_o_s, hr, row_len, inA_one, inA_lik, inA_cpl, isOne_eq hO hr, isCouple_eq hO hr, isIn_eq, atOne_eq, atLike_eq, atCouple_eq, r_num, q_n0, q_n1, r_cp, r_dy, r_sl, r_who, q_kind, q_fig, q_dep, q_bnd, q_lik, q_man, q_wom, q_sta, q_dds, orNoneR_eq, Int.zero_add, gX12_manOf, e1, rd_o_he, lh, f_gt0, z, ii]
      refine ih (k + 1) (by omega) (by omega) ?_ hq
      rcases h4 with y | y
      · left; exact y
      · by_cases x : gt0 hb w = k
        · exfalso
          rcases hu with u | u
          · omega
          · have : gt0 wv k = w := by rw [← x]; exact u.2.2
            omega
        · right; omega
theorem manOf_eq (hO : OkV X) (hr : A.mo.s = rowOf X e) (hM : OkM X wv hb) (hH : sameH X wv A.mo.he) {w : Int} (h0 : 0 ≤ w) (h1 : w < X.num 1) : Call sp sc (d + 1) mX12_manOf [.inr (.inr 140), .inl w] (hp A) Q = Q (some (.inl (mOf hb w))) (hp A) := Call_eq (by
  have n0 := hO.n0
  have n1 := hO.n1
  have hu := hM.hu w h0 (by omega)
  apply eX12_manOf 40; simp (disch := first | assumption | rfl | exact inI_of (by omega) (by omega) | omega | decide | (simp only [sv_ext, sv_mc, Nat.le_refl]; done) | with_unfolding_all (refine @id _ ?_; first | exact Eq.refl _ | exact Nat.le_refl _ | assumption)) only [Nat.reduceAdd, Nat.reduceMul, Nat.reduceLeDiff, Nat.reduceLT, Int.reduceAdd, Int.reduceSub, Int.reduceMul, Int.reduceNeg, Int.reduceLE, Int.reduceLT, Int.reduceToNat, Int.reduceEq, reduceCtorEq, ld_z, ld_s, st1_0, st1_1, st1_s, st2_0, st2_1, st2_s, isJ_i, isJ_r, isJ_n, isJ_l, cs_nil, cs_i, cs_r, cs_l, kF, List.getElem?_cons_succ, List.getElem?_cons_zero, List.set_cons_zero, List.set_cons_succ, GC_s, GC_n, GK_nil, GK_no, GK_yes, not_false_eq_true, back_eq, back_hp, inI_eq, inA_eq, true_and, and_true, and_self, if_true, if_false, bI_0, bI_1, bI_in, bI_T, bI_F, fitF, jmpF, nlF, pjA, iVal.eta, iYr.eta, List.getElem?_toArray, List.length_cons, List.length_nil, true_or, or_true, or_false, false_or, Classical.not_not, Bool.false_eq_true, hp_2, Nat.zero_le, Nat.le_refl, Option.some.injEq, Sum.inl.injEq, Sum.inr.injEq, not_true_eq_false, true_implies, false_implies, implies_true, gX12_manOf]
  exact manR_loop hO hr hM hH h0 h1 (X.num 0).toNat 0 (by omega) (by omega) (by omega) ⟨rfl, rfl⟩)
theorem flR_in (hO : OkV X) (hr : A.mo.s = rowOf X e) (hM : OkM X wv hb) (hH : sameH X wv A.mo.he) {m : Int} (h0 : 0 ≤ m) (h1 : m < X.num 0) : ∀ (k : Nat) (w : Int) (o3 o4 o5 : Option iV), 0 ≤ w → w + k = X.num 1 → (X.flI wv hb m k w ≠ -4 → Q (some (.inl (X.flI wv hb m k w))) (hp A)) → (X.flI wv hb m k w = -4 → ∀ o2 o3 o4 o5, Run sp sc (d + 3) mX12_leaving 2 [some (.inr (.inr 140)), some (.inl (m + 1)), o2, o3, o4, o5] [] (hp A) Q) → Run sp sc (d + 3) mX12_leaving 14 [some (.inr (.inr 140)), some (.inl m), some (.inl w), o3, o4, o5] [] (hp A) Q := by
  have n0 := hO.n0
  have n1 := hO.n1
  have lh := hH.1
  have a1 := hH.2 m h0 h1
  have a2 := hM.wi m h0 (by omega)
  have ii : inI (gt0 A.mo.he m) = true := inI_of (by omega) (by omega)
  intro k
  induction k with
  | zero =>
    intro w o3 o4 o5 h2 h3 k1 k2
    refine G_run (B := [2, 14]) 60 _ _ _ _ ?_
    have e1 : X.num 1 ≤ w := by omega
    simp (disch := first | assumption | rfl | exact inI_of (by omega) (by omega) | omega | decide | (simp only [sv_ext, sv_mc, Nat.le_refl]; done) | with_unfolding_all (refine @id _ ?_; first | exact Eq.refl _ | exact Nat.le_refl _ | assumption)) only [Nat.reduceAdd, Nat.reduceMul, Nat.reduceLeDiff, Nat.reduceLT, Int.reduceAdd, Int.reduceSub, Int.reduceMul, Int.reduceNeg, Int.reduceLE, Int.reduceLT, Int.reduceToNat, Int.reduceEq, reduceCtorEq, ld_z, ld_s, st1_0, st1_1, st1_s, st2_0, st2_1, st2_s, isJ_i, isJ_r, isJ_n, isJ_l, cs_nil, cs_i, cs_r, cs_l, kF, List.getElem?_cons_succ, List.getElem?_cons_zero, List.set_cons_zero, List.set_cons_succ, GC_s, GC_n, GK_nil, GK_no, GK_yes, not_false_eq_true, back_eq, back_hp, inI_eq, inA_eq, true_and, and_true, and_self, if_true, if_false, bI_0, bI_1, bI_in, bI_T, bI_F, fitF, jmpF, nlF, pjA, iVal.eta, iYr.eta, List.getElem?_toArray, List.length_cons, List.length_nil, true_or, or_true, or_false, false_or, Classical.not_not, Bool.false_eq_true, hp_2, Nat.zero_le, Nat.le_refl, Option.some.injEq, Sum.inl.injEq, Sum.inr.injEq, not_true_eq_false, true_implies, false_implies, implies_true, rd_o, rd_o_s, hr, row_len, inA_one, inA_lik, inA_cpl, isOne_eq hO hr, isCouple_eq hO hr, isIn_eq, atOne_eq, atLike_eq, atCouple_eq, r_num, q_n0, q_n1, r_cp, r_dy, r_sl, r_who, q_kind, q_fig, q_dep, q_bnd, q_lik, q_man, q_wom, q_sta, q_dds, orNoneR_eq, Int.zero_add, gX12_leaving, e1]
    exact k2 rfl _ _ _ _
  | succ k ih =>
    intro w o3 o4 o5 h2 h3 k1 k2
    have ih := fun o3 o4 o5 => ih (w + 1) o3 o4 o5 (by omega) (by omega)
    refine G_run (B := [2, 14]) 90 _ _ _ _ ?_
    have e1 : ¬ X.num 1 ≤ w := by omega
    have hu := hM.hu w h2 (by omega)
    have lk1 := hO.lik 0 m w (by omega) (by omega) h0 (by omega) h2 (by omega)
    have lk2 := hO.lik 1 w m (by omega) (by omega) h2 (by omega) h0 (by omega)
    have mo := fun Q => @manOf_eq sp sc (d + 1) A Q X e wv hb hO hr hM hH w h2 (by omega)
    unfold iVal.flI at k1 k2
    by_cases z0 : gt0 A.mo.he m = w
    · have zw : gt0 wv m = w := by omega
      have no : ¬ (X.lv wv hb m w) := fun y => by
        rcases y.1 with u | u
        · omega
        · rw [zw] at u; omega
      rw [if_neg no] at k1 k2
      simp (disch := first | assumption | rfl | exact inI_of (by omega) (by omega) | omega | decide | (simp only [sv_ext, sv_mc, Nat.le_refl]; done) | with_unfolding_all (refine @id _ ?_; first | exact Eq.refl _ | exact Nat.le_refl _ | assumption)) only [Nat.reduceAdd, Nat.reduceMul, Nat.reduceLeDiff, Nat.reduceLT, Int.reduceAdd, Int.reduceSub, Int.reduceMul, Int.reduceNeg, Int.reduceLE, Int.reduceLT, Int.reduceToNat, Int.reduceEq, reduceCtorEq, ld_z, ld_s, st1_0, st1_1, st1_s, st2_0, st2_1, st2_s, isJ_i, isJ_r, isJ_n, isJ_l, cs_nil, cs_i, cs_r, cs_l, kF, List.getElem?_cons_succ, List.getElem?_cons_zero, List.set_cons_zero, List.set_cons_succ, GC_s, GC_n, GK_nil, GK_no, GK_yes, not_false_eq_true, back_eq, back_hp, inI_eq, inA_eq, true_and, and_true, and_self, if_true, if_false, bI_0, bI_1, bI_in, bI_T, bI_F, fitF, jmpF, nlF, pjA, iVal.eta, iYr.eta, List.getElem?_toArray, List.length_cons, List.length_nil, true_or, or_true, or_false, false_or, Classical.not_not, Bool.false_eq_true, hp_2, Nat.zero_le, Nat.le_refl, Option.some.injEq, Sum.inl.injEq, Sum.inr.injEq, not_true_eq_false, true_implies, false_implies, implies_true, rd_o, rd_o_s, hr, row_len, inA_one, inA_lik, inA_cpl, isOne_eq hO hr, isCouple_eq hO hr, isIn_eq, atOne_eq, atLike_eq, atCouple_eq, r_num, q_n0, q_n1, r_cp, r_dy, r_sl, r_who, q_kind, q_fig, q_dep, q_bnd, q_lik, q_man, q_wom, q_sta, q_dds, orNoneR_eq, Int.zero_add, gX12_leaving, e1, rd_o_he, lh, f_he, eq_true z0, ii]
      exact ih _ _ _ k1 k2
    · by_cases p1 : gt0 wv m = -1
      · have q1 : ¬ 0 ≤ gt0 A.mo.he m := by omega
        have w1 : ¬ X.lik 0 m w ≤ -1 := by omega
        by_cases p2 : gt0 hb w = -1
        · have em : mOf hb w = -4 := by unfold mOf; rw [if_pos p2]
          rw [em] at mo
          have w2 : ¬ X.lik 1 w m ≤ -1 := by omega
          rw [if_pos ⟨Or.inl p1, Or.inl p2⟩] at k1
          simp (disch := first | assumption | rfl | exact inI_of (by omega) (by omega) | omega | decide | (simp only [sv_ext, sv_mc, Nat.le_refl]; done) | with_unfolding_all (refine @id _ ?_; first | exact Eq.refl _ | exact Nat.le_refl _ | assumption)) only [Nat.reduceAdd, Nat.reduceMul, Nat.reduceLeDiff, Nat.reduceLT, Int.reduceAdd, Int.reduceSub, Int.reduceMul, Int.reduceNeg, Int.reduceLE, Int.reduceLT, Int.reduceToNat, Int.reduceEq, reduceCtorEq, ld_z, ld_s, st1_0, st1_1, st1_s, st2_0, st2_1, st2_s, isJ_i, isJ_r, isJ_n, isJ_l, cs_nil, cs_i, cs_r, cs_l, kF, List.getElem?_cons_succ, List.getElem?_cons_zero, List.set_cons_zero, List.set_cons_succ, GC_s, GC_n, GK_nil, GK_no, GK_yes, not_false_eq_true, back_eq, back_hp, inI_eq, inA_eq, true_and, and_true, and_self, if_true, if_false, bI_0, bI_1, bI_in, bI_T, bI_F, fitF, jmpF, nlF, pjA, iVal.eta, iYr.eta, List.getElem?_toArray, List.length_cons, List.length_nil, true_or, or_true, or_false, false_or, Classical.not_not, Bool.false_eq_true, hp_2, Nat.zero_le, Nat.le_refl, Option.some.injEq, Sum.inl.injEq, Sum.inr.injEq, not_true_eq_false, true_implies, false_implies, implies_true, rd_o, rd_o_s, hr, row_len, inA_one, inA_lik, inA_cpl, isOne_eq hO hr, isCouple_eq hO hr, isIn_eq, atOne_eq, atLike_eq, atCouple_eq, r_num, q_n0, q_n1, r_cp, r_dy, r_sl, r_who, q_kind, q_fig, q_dep, q_bnd, q_lik, q_man, q_wom, q_sta, q_dds, orNoneR_eq, Int.zero_add, gX12_leaving, e1, rd_o_he, lh, f_he, z0, ii, q1, mo, w1, w2]
          exact k1 (by omega)
        · have em : mOf hb w = gt0 hb w := by unfold mOf; rw [if_neg p2]
          rw [em] at mo
          have r2 : 0 ≤ gt0 hb w := by omega
          have lk3 := hO.lik 1 w (gt0 hb w) (by omega) (by omega) h2 (by omega) (by omega) (by omega)
          by_cases p3 : X.lik 1 w (gt0 hb w) < X.lik 1 w m
          · have w2 : ¬ X.lik 1 w m ≤ X.lik 1 w (gt0 hb w) := by omega
            rw [if_pos ⟨Or.inl p1, Or.inr p3⟩] at k1
            simp (disch := first | assumption | rfl | exact inI_of (by omega) (by omega) | omega | decide | (simp only [sv_ext, sv_mc, Nat.le_refl]; done) | with_unfolding_all (refine @id _ ?_; first | exact Eq.refl _ | exact Nat.le_refl _ | assumption)) only [Nat.reduceAdd, Nat.reduceMul, Nat.reduceLeDiff, Nat.reduceLT, Int.reduceAdd, Int.reduceSub, Int.reduceMul, Int.reduceNeg, Int.reduceLE, Int.reduceLT, Int.reduceToNat, Int.reduceEq, reduceCtorEq, ld_z, ld_s, st1_0, st1_1, st1_s, st2_0, st2_1, st2_s, isJ_i, isJ_r, isJ_n, isJ_l, cs_nil, cs_i, cs_r, cs_l, kF, List.getElem?_cons_succ, List.getElem?_cons_zero, List.set_cons_zero, List.set_cons_succ, GC_s, GC_n, GK_nil, GK_no, GK_yes, not_false_eq_true, back_eq, back_hp, inI_eq, inA_eq, true_and, and_true, and_self, if_true, if_false, bI_0, bI_1, bI_in, bI_T, bI_F, fitF, jmpF, nlF, pjA, iVal.eta, iYr.eta, List.getElem?_toArray, List.length_cons, List.length_nil, true_or, or_true, or_false, false_or, Classical.not_not, Bool.false_eq_true, hp_2, Nat.zero_le, Nat.le_refl, Option.some.injEq, Sum.inl.injEq, Sum.inr.injEq, not_true_eq_false, true_implies, false_implies, implies_true, rd_o, rd_o_s, hr, row_len, inA_one, inA_lik, inA_cpl, isOne_eq hO hr, isCouple_eq hO hr, isIn_eq, atOne_eq, atLike_eq, atCouple_eq, r_num, q_n0, q_n1, r_cp, r_dy, r_sl, r_who, q_kind, q_fig, q_dep, q_bnd, q_lik, q_man, q_wom, q_sta, q_dds, orNoneR_eq, Int.zero_add, gX12_leaving, e1, rd_o_he, lh, f_he, z0, ii, q1, mo, r2, w1, w2]
            exact k1 (by omega)
          · have w2 : X.lik 1 w m ≤ X.lik 1 w (gt0 hb w) := by omega
            rw [if_neg (fun y => y.2.elim p2 p3)] at k1 k2
            simp (disch := first | assumption | rfl | exact inI_of (by omega) (by omega) | omega | decide | (simp only [sv_ext, sv_mc, Nat.le_refl]; done) | with_unfolding_all (refine @id _ ?_; first | exact Eq.refl _ | exact Nat.le_refl _ | assumption)) only [Nat.reduceAdd, Nat.reduceMul, Nat.reduceLeDiff, Nat.reduceLT, Int.reduceAdd, Int.reduceSub, Int.reduceMul, Int.reduceNeg, Int.reduceLE, Int.reduceLT, Int.reduceToNat, Int.reduceEq, reduceCtorEq, ld_z, ld_s, st1_0, st1_1, st1_s, st2_0, st2_1, st2_s, isJ_i, isJ_r, isJ_n, isJ_l, cs_nil, cs_i, cs_r, cs_l, kF, List.getElem?_cons_succ, List.getElem?_cons_zero, List.set_cons_zero, List.set_cons_succ, GC_s, GC_n, GK_nil, GK_no, GK_yes, not_false_eq_true, back_eq, back_hp, inI_eq, inA_eq, true_and, and_true, and_self, if_true, if_false, bI_0, bI_1, bI_in, bI_T, bI_F, fitF, jmpF, nlF, pjA, iVal.eta, iYr.eta, List.getElem?_toArray, List.length_cons, List.length_nil, true_or, or_true, or_false, false_or, Classical.not_not, Bool.false_eq_true, hp_2, Nat.zero_le, Nat.le_refl, Option.some.injEq, Sum.inl.injEq, Sum.inr.injEq, not_true_eq_false, true_implies, false_implies, implies_true, rd_o, rd_o_s, hr, row_len, inA_one, inA_lik, inA_cpl, isOne_eq hO hr, isCouple_eq hO hr, isIn_eq, atOne_eq, atLike_eq, atCouple_eq, r_num, q_n0, q_n1, r_cp, r_dy, r_sl, r_who, q_kind, q_fig, q_dep, q_bnd, q_lik, q_man, q_wom, q_sta, q_dds, orNoneR_eq, Int.zero_add, gX12_leaving, e1, rd_o_he, lh, f_he, z0, ii, q1, mo, r2, w1, w2]
            exact ih _ _ _ k1 k2
      · have q1 : 0 ≤ gt0 A.mo.he m := by omega
        have q2 : gt0 A.mo.he m = gt0 wv m := by omega
        have lk4 := hO.lik 0 m (gt0 wv m) (by omega) (by omega) h0 (by omega) (by omega) (by omega)
        have q3 : 0 ≤ gt0 wv m := by omega
        rw [q2] at z0
        by_cases p4 : X.lik 0 m (gt0 wv m) < X.lik 0 m w
        · have w1 : ¬ X.lik 0 m w ≤ X.lik 0 m (gt0 wv m) := by omega
          by_cases p2 : gt0 hb w = -1
          · have em : mOf hb w = -4 := by unfold mOf; rw [if_pos p2]
            rw [em] at mo
            have w2 : ¬ X.lik 1 w m ≤ -1 := by omega
            rw [if_pos ⟨Or.inr p4, Or.inl p2⟩] at k1
            simp (disch := first | assumption | rfl | exact inI_of (by omega) (by omega) | omega | decide | (simp only [sv_ext, sv_mc, Nat.le_refl]; done) | with_unfolding_all (refine @id _ ?_; first | exact Eq.refl _ | exact Nat.le_refl _ | assumption)) only [Nat.reduceAdd, Nat.reduceMul, Nat.reduceLeDiff, Nat.reduceLT, Int.reduceAdd, Int.reduceSub, Int.reduceMul, Int.reduceNeg, Int.reduceLE, Int.reduceLT, Int.reduceToNat, Int.reduceEq, reduceCtorEq, ld_z, ld_s, st1_0, st1_1, st1_s, st2_0, st2_1, st2_s, isJ_i, isJ_r, isJ_n, isJ_l, cs_nil, cs_i, cs_r, cs_l, kF, List.getElem?_cons_succ, List.getElem?_cons_zero, List.set_cons_zero, List.set_cons_succ, GC_s, GC_n, GK_nil, GK_no, GK_yes, not_false_eq_true, back_eq, back_hp, inI_eq, inA_eq, true_and, and_true, and_self, if_true, if_false, bI_0, bI_1, bI_in, bI_T, bI_F, fitF, jmpF, nlF, pjA, iVal.eta, iYr.eta, List.getElem?_toArray, List.length_cons, List.length_nil, true_or, or_true, or_false, false_or, Classical.not_not, Bool.false_eq_true, hp_2, Nat.zero_le, Nat.le_refl, Option.some.injEq, Sum.inl.injEq, Sum.inr.injEq, not_true_eq_false, true_implies, false_implies, implies_true, rd_o, rd_o_s, hr, row_len, inA_one, inA_lik, inA_cpl, isOne_eq hO hr, isCouple_eq hO hr, isIn_eq, atOne_eq, atLike_eq, atCouple_eq, r_num, q_n0, q_n1, r_cp, r_dy, r_sl, r_who, q_kind, q_fig, q_dep, q_bnd, q_lik, q_man, q_wom, q_sta, q_dds, orNoneR_eq, Int.zero_add, gX12_leaving, e1, rd_o_he, lh, f_he, q2, z0, q3, mo, w1, w2]
            exact k1 (by omega)
          · have em : mOf hb w = gt0 hb w := by unfold mOf; rw [if_neg p2]
            rw [em] at mo
            have r2 : 0 ≤ gt0 hb w := by omega
            have lk3 := hO.lik 1 w (gt0 hb w) (by omega) (by omega) h2 (by omega) (by omega) (by omega)
            by_cases p3 : X.lik 1 w (gt0 hb w) < X.lik 1 w m
            · have w2 : ¬ X.lik 1 w m ≤ X.lik 1 w (gt0 hb w) := by omega
              rw [if_pos ⟨Or.inr p4, Or.inr p3⟩] at k1
              simp (disch := first | assumption | rfl | exact inI_of (by omega) (by omega) | omega | decide | (simp only [sv_ext, sv_mc, Nat.le_refl]; done) | with_unfolding_all (refine @id _ ?_; first | exact Eq.refl _ | exact Nat.le_refl _ | assumption)) only [Nat.reduceAdd, Nat.reduceMul, Nat.reduceLeDiff, Nat.reduceLT, Int.reduceAdd, Int.reduceSub, Int.reduceMul, Int.reduceNeg, Int.reduceLE, Int.reduceLT, Int.reduceToNat, Int.reduceEq, reduceCtorEq, ld_z, ld_s, st1_0, st1_1, st1_s, st2_0, st2_1, st2_s, isJ_i, isJ_r, isJ_n, isJ_l, cs_nil, cs_i, cs_r, cs_l, kF, List.getElem?_cons_succ, List.getElem?_cons_zero, List.set_cons_zero, List.set_cons_succ, GC_s, GC_n, GK_nil, GK_no, GK_yes, not_false_eq_true, back_eq, back_hp, inI_eq, inA_eq, true_and, and_true, and_self, if_true, if_false, bI_0, bI_1, bI_in, bI_T, bI_F, fitF, jmpF, nlF, pjA, iVal.eta, iYr.eta, List.getElem?_toArray, List.length_cons, List.length_nil, true_or, or_true, or_false, false_or, Classical.not_not, Bool.false_eq_true, hp_2, Nat.zero_le, Nat.le_refl, Option.some.injEq, Sum.inl.injEq, Sum.inr.injEq, not_true_eq_false, true_implies, false_implies, implies_true, rd_o, rd_o_s, hr, row_len, inA_one, inA_lik, inA_cpl, isOne_eq hO hr, isCouple_eq hO hr, isIn_eq, atOne_eq, atLike_eq, atCouple_eq, r_num, q_n0, q_n1, r_cp, r_dy, r_sl, r_who, q_kind, q_fig, q_dep, q_bnd, q_lik, q_man, q_wom, q_sta, q_dds, orNoneR_eq, Int.zero_add, gX12_leaving, e1, rd_o_he, lh, f_he, q2, z0, q3, mo, r2, w1, w2]
              exact k1 (by omega)
            · have w2 : X.lik 1 w m ≤ X.lik 1 w (gt0 hb w) := by omega
              rw [if_neg (fun y => y.2.elim p2 p3)] at k1 k2
              simp (disch := first | assumption | rfl | exact inI_of (by omega) (by omega) | omega | decide | (simp only [sv_ext, sv_mc, Nat.le_refl]; done) | with_unfolding_all (refine @id _ ?_; first | exact Eq.refl _ | exact Nat.le_refl _ | assumption)) only [Nat.reduceAdd, Nat.reduceMul, Nat.reduceLeDiff, Nat.reduceLT, Int.reduceAdd, Int.reduceSub, Int.reduceMul, Int.reduceNeg, Int.reduceLE, Int.reduceLT, Int.reduceToNat, Int.reduceEq, reduceCtorEq, ld_z, ld_s, st1_0, st1_1, st1_s, st2_0, st2_1, st2_s, isJ_i, isJ_r, isJ_n, isJ_l, cs_nil, cs_i, cs_r, cs_l, kF, List.getElem?_cons_succ, List.getElem?_cons_zero, List.set_cons_zero, List.set_cons_succ, GC_s, GC_n, GK_nil, GK_no, GK_yes, not_false_eq_true, back_eq, back_hp, inI_eq, inA_eq, true_and, and_true, and_self, if_true, if_false, bI_0, bI_1, bI_in, bI_T, bI_F, fitF, jmpF, nlF, pjA, iVal.eta, iYr.eta, List.getElem?_toArray, List.length_cons, List.length_nil, true_or, or_true, or_false, false_or, Classical.not_not, Bool.false_eq_true, hp_2, Nat.zero_le, Nat.le_refl, Option.some.injEq, Sum.inl.injEq, Sum.inr.injEq, not_true_eq_false, true_implies, false_implies, implies_true, rd_o, rd_o_s, hr, row_len, inA_one, inA_lik, inA_cpl, isOne_eq hO hr, isCouple_eq hO hr, isIn_eq, atOne_eq, atLike_eq, atCouple_eq, r_num, q_n0, q_n1, r_cp, r_dy, r_sl, r_who, q_kind, q_fig, q_dep, q_bnd, q_lik, q_man, q_wom, q_sta, q_dds, orNoneR_eq, Int.zero_add, gX12_leaving, e1, rd_o_he, lh, f_he, q2, z0, q3, mo, r2, w1, w2]
              exact ih _ _ _ k1 k2
        · have w1 : X.lik 0 m w ≤ X.lik 0 m (gt0 wv m) := by omega
          rw [if_neg (fun y => y.1.elim p1 p4)] at k1 k2
          by_cases p2 : gt0 hb w = -1
          · have em : mOf hb w = -4 := by unfold mOf; rw [if_pos p2]
            rw [em] at mo
            simp (disch := first | assumption | rfl | exact inI_of (by omega) (by omega) | omega | decide | (simp only [sv_ext, sv_mc, Nat.le_refl]; done) | with_unfolding_all (refine @id _ ?_; first | exact Eq.refl _ | exact Nat.le_refl _ | assumption)) only [Nat.reduceAdd, Nat.reduceMul, Nat.reduceLeDiff, Nat.reduceLT, Int.reduceAdd, Int.reduceSub, Int.reduceMul, Int.reduceNeg, Int.reduceLE, Int.reduceLT, Int.reduceToNat, Int.reduceEq, reduceCtorEq, ld_z, ld_s, st1_0, st1_1, st1_s, st2_0, st2_1, st2_s, isJ_i, isJ_r, isJ_n, isJ_l, cs_nil, cs_i, cs_r, cs_l, kF, List.getElem?_cons_succ, List.getElem?_cons_zero, List.set_cons_zero, List.set_cons_succ, GC_s, GC_n, GK_nil, GK_no, GK_yes, not_false_eq_true, back_eq, back_hp, inI_eq, inA_eq, true_and, and_true, and_self, if_true, if_false, bI_0, bI_1, bI_in, bI_T, bI_F, fitF, jmpF, nlF, pjA, iVal.eta, iYr.eta, List.getElem?_toArray, List.length_cons, List.length_nil, true_or, or_true, or_false, false_or, Classical.not_not, Bool.false_eq_true, hp_2, Nat.zero_le, Nat.le_refl, Option.some.injEq, Sum.inl.injEq, Sum.inr.injEq, not_true_eq_false, true_implies, false_implies, implies_true, rd_o, rd_o_s, hr, row_len, inA_one, inA_lik, inA_cpl, isOne_eq hO hr, isCouple_eq hO hr, isIn_eq, atOne_eq, atLike_eq, atCouple_eq, r_num, q_n0, q_n1, r_cp, r_dy, r_sl, r_who, q_kind, q_fig, q_dep, q_bnd, q_lik, q_man, q_wom, q_sta, q_dds, orNoneR_eq, Int.zero_add, gX12_leaving, e1, rd_o_he, lh, f_he, q2, z0, q3, mo, w1]
            exact ih _ _ _ k1 k2
          · have em : mOf hb w = gt0 hb w := by unfold mOf; rw [if_neg p2]
            rw [em] at mo
            have r2 : 0 ≤ gt0 hb w := by omega
            simp (disch := first | assumption | rfl | exact inI_of (by omega) (by omega) | omega | decide | (simp only [sv_ext, sv_mc, Nat.le_refl]; done) | with_unfolding_all (refine @id _ ?_; first | exact Eq.refl _ | exact Nat.le_refl _ | assumption)) only [Nat.reduceAdd, Nat.reduceMul, Nat.reduceLeDiff, Nat.reduceLT, Int.reduceAdd, Int.reduceSub, Int.reduceMul, Int.reduceNeg, Int.reduceLE, Int.reduceLT, Int.reduceToNat, Int.reduceEq, reduceCtorEq, ld_z, ld_s, st1_0, st1_1, st1_s, st2_0, st2_1, st2_s, isJ_i, isJ_r, isJ_n, isJ_l, cs_nil, cs_i, cs_r, cs_l, kF, List.getElem?_cons_succ, List.getElem?_cons_zero, List.set_cons_zero, List.set_cons_succ, GC_s, GC_n, GK_nil, GK_no, GK_yes, not_false_eq_true, back_eq, back_hp, inI_eq, inA_eq, true_and, and_true, and_self, if_true, if_false, bI_0, bI_1, bI_in, bI_T, bI_F, fitF, jmpF, nlF, pjA, iVal.eta, iYr.eta, List.getElem?_toArray, List.length_cons, List.length_nil, true_or, or_true, or_false, false_or, Classical.not_not, Bool.false_eq_true, hp_2, Nat.zero_le, Nat.le_refl, Option.some.injEq, Sum.inl.injEq, Sum.inr.injEq, not_true_eq_false, true_implies, false_implies, implies_true, rd_o, rd_o_s, hr, row_len, inA_one, inA_lik, inA_cpl, isOne_eq hO hr, isCouple_eq hO hr, isIn_eq, atOne_eq, atLike_eq, atCouple_eq, r_num, q_n0, q_n1, r_cp, r_dy, r_sl, r_who, q_kind, q_fig, q_dep, q_bnd, q_lik, q_man, q_wom, q_sta, q_dds, orNoneR_eq, Int.zero_add, gX12_leaving, e1, rd_o_he, lh, f_he, q2, z0, q3, mo, r2, w1]
            exact ih _ _ _ k1 k2
theorem flR_out (hO : OkV X) (hr : A.mo.s = rowOf X e) (hM : OkM X wv hb) (hH : sameH X wv A.mo.he) : ∀ (k : Nat) (m : Int) (o2 o3 o4 o5 : Option iV), 0 ≤ m → m + k = X.num 0 → Q (some (.inl (X.flO wv hb k m))) (hp A) → Run sp sc (d + 3) mX12_leaving 2 [some (.inr (.inr 140)), some (.inl m), o2, o3, o4, o5] [] (hp A) Q := by
  have n0 := hO.n0
  have n1 := hO.n1
  intro k
  induction k with
  | zero =>
    intro m o2 o3 o4 o5 h2 h3 hq
    refine G_run (B := [2, 14]) 60 _ _ _ _ ?_
    have e1 : X.num 0 ≤ m := by omega
    simp (disch := first | assumption | rfl | exact inI_of (by omega) (by omega) | omega | decide | (simp only [sv_ext, sv_mc, Nat.le_refl]; done) | with_unfolding_all (refine @id _ ?_; first | exact Eq.refl _ | exact Nat.le_refl _ | assumption)) only [Nat.reduceAdd, Nat.reduceMul, Nat.reduceLeDiff, Nat.reduceLT, Int.reduceAdd, Int.reduceSub, Int.reduceMul, Int.reduceNeg, Int.reduceLE, Int.reduceLT, Int.reduceToNat, Int.reduceEq, reduceCtorEq, ld_z, ld_s, st1_0, st1_1, st1_s, st2_0, st2_1, st2_s, isJ_i, isJ_r, isJ_n, isJ_l, cs_nil, cs_i, cs_r, cs_l, kF, List.getElem?_cons_succ, List.getElem?_cons_zero, List.set_cons_zero, List.set_cons_succ, GC_s, GC_n, GK_nil, GK_no, GK_yes, not_false_eq_true, back_eq, back_hp, inI_eq, inA_eq, true_and, and_true, and_self, if_true, if_false, bI_0, bI_1, bI_in, bI_T, bI_F, fitF, jmpF, nlF, pjA, iVal.eta, iYr.eta, List.getElem?_toArray, List.length_cons, List.length_nil, true_or, or_true, or_false, false_or, Classical.not_not, Bool.false_eq_true, hp_2, Nat.zero_le, Nat.le_refl, Option.some.injEq, Sum.inl.injEq, Sum.inr.injEq, not_true_eq_false, true_implies, false_implies, implies_true, rd_o, rd_o_s, hr, row_len, inA_one, inA_lik, inA_cpl, isOne_eq hO hr, isCouple_eq hO hr, isIn_eq, atOne_eq, atLike_eq, atCouple_eq, r_num, q_n0, q_n1, r_cp, r_dy, r_sl, r_who, q_kind, q_fig, q_dep, q_bnd, q_lik, q_man, q_wom, q_sta, q_dds, orNoneR_eq, Int.zero_add, gX12_leaving, e1]
    exact hq
  | succ k ih =>
    intro m o2 o3 o4 o5 h2 h3 hq
    have e1 : ¬ X.num 0 ≤ m := by omega
    unfold iVal.flO at hq
    refine G_run (B := [2, 14]) 60 _ _ _ _ ?_
    simp (disch := first | assumption | rfl | exact inI_of (by omega) (by omega) | omega | decide | (simp only [sv_ext, sv_mc, Nat.le_refl]; done) | with_unfolding_all (refine @id _ ?_; first | exact Eq.refl _ | exact Nat.le_refl _ | assumption)) only [Nat.reduceAdd, Nat.reduceMul, Nat.reduceLeDiff, Nat.reduceLT, Int.reduceAdd, Int.reduceSub, Int.reduceMul, Int.reduceNeg, Int.reduceLE, Int.reduceLT, Int.reduceToNat, Int.reduceEq, reduceCtorEq, ld_z, ld_s, st1_0, st1_1, st1_s, st2_0, st2_1, st2_s, isJ_i, isJ_r, isJ_n, isJ_l, cs_nil, cs_i, cs_r, cs_l, kF, List.getElem?_cons_succ, List.getElem?_cons_zero, List.set_cons_zero, List.set_cons_succ, GC_s, GC_n, GK_nil, GK_no, GK_yes, not_false_eq_true, back_eq, back_hp, inI_eq, inA_eq, true_and, and_true, and_self, if_true, if_false, bI_0, bI_1, bI_in, bI_T, bI_F, fitF, jmpF, nlF, pjA, iVal.eta, iYr.eta, List.getElem?_toArray, List.length_cons, List.length_nil, true_or, or_true, or_false, false_or, Classical.not_not, Bool.false_eq_true, hp_2, Nat.zero_le, Nat.le_refl, Option.some.injEq, Sum.inl.injEq, Sum.inr.injEq, not_true_eq_false, true_implies, false_implies, implies_true, rd_o, rd_o_s, hr, row_len, inA_one, inA_lik, inA_cpl, isOne_eq hO hr, isCouple_eq hO hr, isIn_eq, atOne_eq, atLike_eq, atCouple_eq, r_num, q_n0, q_n1, r_cp, r_dy, r_sl, r_who, q_kind, q_fig, q_dep, q_bnd, q_lik, q_man, q_wom, q_sta, q_dds, orNoneR_eq, Int.zero_add, gX12_leaving, e1]
    refine flR_in hO hr hM hH h2 (by omega) (X.num 1).toNat 0 _ _ _ (by omega) (by omega) (fun z => ?_) (fun z o2 o3 o4 o5 => ?_)
    · rw [if_neg z] at hq; exact hq
    · rw [if_pos z] at hq; exact ih (m + 1) _ _ _ _ (by omega) (by omega) hq
theorem leaving_eq (hO : OkV X) (hr : A.mo.s = rowOf X e) (hM : OkM X wv hb) (hH : sameH X wv A.mo.he) : Call sp sc (d + 3) mX12_leaving [.inr (.inr 140)] (hp A) Q = Q (some (.inl (X.fl wv hb))) (hp A) := Call_eq (by
  have n0 := hO.n0
  apply eX12_leaving 40; simp (disch := first | assumption | rfl | exact inI_of (by omega) (by omega) | omega | decide | (simp only [sv_ext, sv_mc, Nat.le_refl]; done) | with_unfolding_all (refine @id _ ?_; first | exact Eq.refl _ | exact Nat.le_refl _ | assumption)) only [Nat.reduceAdd, Nat.reduceMul, Nat.reduceLeDiff, Nat.reduceLT, Int.reduceAdd, Int.reduceSub, Int.reduceMul, Int.reduceNeg, Int.reduceLE, Int.reduceLT, Int.reduceToNat, Int.reduceEq, reduceCtorEq, ld_z, ld_s, st1_0, st1_1, st1_s, st2_0, st2_1, st2_s, isJ_i, isJ_r, isJ_n, isJ_l, cs_nil, cs_i, cs_r, cs_l, kF, List.getElem?_cons_succ, List.getElem?_cons_zero, List.set_cons_zero, List.set_cons_succ, GC_s, GC_n, GK_nil, GK_no, GK_yes, not_false_eq_true, back_eq, back_hp, inI_eq, inA_eq, true_and, and_true, and_self, if_true, if_false, bI_0, bI_1, bI_in, bI_T, bI_F, fitF, jmpF, nlF, pjA, iVal.eta, iYr.eta, List.getElem?_toArray, List.length_cons, List.length_nil, true_or, or_true, or_false, false_or, Classical.not_not, Bool.false_eq_true, hp_2, Nat.zero_le, Nat.le_refl, Option.some.injEq, Sum.inl.injEq, Sum.inr.injEq, not_true_eq_false, true_implies, false_implies, implies_true, gX12_leaving]
  exact flR_out hO hr hM hH (X.num 0).toNat 0 _ _ _ _ (by omega) (by omega) ⟨rfl, rfl⟩)
end OPS
