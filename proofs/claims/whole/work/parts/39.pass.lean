set_option maxRecDepth 16384
/-! ===== the class: days that go by ===== -/
def metF : Nat → Int → iXY → Int → Int
  | 0, _, _, m => m
  | k + 1, i, S, m => if S.1.sta (S.2.ord i) = 0 then metF k (i + 1) (turnA S (S.2.ord i)) (if metA S (S.2.ord i) then 1 else m) else metF k (i + 1) S m
def passA : Nat → iXY → iXY
  | 0, S => S
  | n + 1, S => if metF S.1.cp.toNat 0 (dawn S) 0 = 0 then waitA n (dayA S) else passA n (dayA S)
theorem metF_b : ∀ (k : Nat) (i : Int) (S : iXY) (m : Int), (m = 0 ∨ m = 1) → metF k i S m = 0 ∨ metF k i S m = 1 := by
  intro k
  induction k with
  | zero => intro i S m h; exact h
  | succ k ih =>
    intro i S m h
    unfold metF
    split
    · refine ih _ _ _ ?_
      split
      · right; rfl
      · exact h
    · exact ih _ _ _ h
section OKS
variable {S : iXY} {B : Int}
theorem okS_dawn (h : OkS S B) : OkS (dawn S) (B + 1) := by
  refine ⟨okV_dy h.1, ?_⟩
  have e := h.2.ps
  exact OkY.cpc (X := S.1) (OkY.mk (h.2.mono (by omega : B ≤ B + 1)).lod (by show (List.replicate 10 (0 : Int)).length = 10; rfl) (h.2.mono (by omega : B ≤ B + 1)).lwt (h.2.mono (by omega : B ≤ B + 1)).len (h.2.mono (by omega : B ≤ B + 1)).ord (h.2.mono (by omega : B ≤ B + 1)).inj (fun i a b => by
      left
      show (List.replicate 10 (0 : Int)).getD i.toNat 0 = 0
      rw [List.getD_eq_getElem?_getD, List.getElem?_replicate]
      split <;> rfl) (h.2.mono (by omega : B ≤ B + 1)).wai (h.2.mono (by omega : B ≤ B + 1)).fin (by show 0 ≤ S.2.ps + 1 ∧ S.2.ps + 1 ≤ B + 1; omega) (h.2.mono (by omega : B ≤ B + 1)).dn (h.2.mono (by omega : B ≤ B + 1)).sp (h.2.mono (by omega : B ≤ B + 1)).fs) rfl
theorem dayF_ok : ∀ (k : Nat) (i : Int) (S : iXY) (B : Int), OkS S B → 0 ≤ i → i + k = S.1.cp → OkS (dayF k i S) (B + k) ∧ sameT S (dayF k i S) := by
  intro k
  induction k with
  | zero => intro i S B h h0 h1; exact ⟨by rw [Int.ofNat_zero, Int.add_zero]; exact h, .refl⟩
  | succ k ih =>
    intro i S B h h0 h1
    have o := h.2.ord i h0 (by omega)
    unfold dayF
    split
    · rename_i g
      have t := sameT_turn (S := S) (c := S.2.ord i)
      have e := ih (i + 1) (turnA S (S.2.ord i)) (B + 1) (okS_turn h o.1 o.2 g) (by omega) (by rw [t.1]; omega)
      refine ⟨?_, t.trans e.2⟩
      have : B + 1 + (k : Int) = B + ((k + 1 : Nat) : Int) := by omega
      rw [← this]; exact e.1
    · have e := ih (i + 1) S B h (by omega) (by omega)
      refine ⟨⟨e.1.1, e.1.2.mono (by omega)⟩, e.2⟩
theorem okS_day (h : OkS S B) : OkS (dayA S) (B + 5) ∧ (dayA S).1.cp = S.1.cp := by
  have hcp := h.1.cp
  have e := dayF_ok S.1.cp.toNat 0 (dawn S) (B + 1) (okS_dawn h) (by omega) (by show 0 + (S.1.cp.toNat : Int) = S.1.cp; omega)
  exact ⟨⟨e.1.1, e.1.2.mono (by omega)⟩, e.2.1⟩
end OKS
section PASS
variable {sp : Nat → List iV → iH → Option (Option iV × iH)} {sc : List Int} {d : Nat} {A : iA} {Q : Option iV → iH → Prop} {B : Int} {S T : iXY}
theorem rep_set {k m : Nat} {l : List Int} (hl : l.length = m + 1) : (List.replicate k (0 : Int) ++ l).set k 0 = List.replicate (k + 1) 0 ++ l.drop 1 := by
  match l, hl with
  | x :: l, _ =>
    rw [List.set_append_right _ _ (by simp)]
    simp [List.replicate_succ']
theorem busy_loop {n i : Int} {o4 : Option iV} : ∀ (m k : Nat) (l : List Int), k + m = 10 → l.length = m → Run sp sc d mX10_pass 9 [some (.inr (.inr 31)), some (.inl n), some (.inl i), some (.inl 10), o4] [] (hp (A.sxy (S.1, (iYr.mk S.2.od (List.replicate 10 0) S.2.wt S.2.en S.2.ps S.2.dn S.2.sp S.2.fs)))) Q → Run sp sc d mX10_pass 9 [some (.inr (.inr 31)), some (.inl n), some (.inl i), some (.inl (k : Int)), o4] [] (hp (A.sxy (S.1, (iYr.mk S.2.od (List.replicate k 0 ++ l) S.2.wt S.2.en S.2.ps S.2.dn S.2.sp S.2.fs)))) Q := by
  intro m
  induction m with
  | zero =>
    intro k l h0 h1 hq
    have : k = 10 := by omega
    subst this
    have : l = [] := List.eq_nil_of_length_eq_zero h1
    subst this
    rw [List.append_nil]
    exact hq
  | succ m ih =>
    intro k l h0 h1 hq
    have ih := ih (k + 1) (l.drop 1) (by omega) (by rw [List.length_drop]; omega) hq
    refine G_run (B := [2, 9, 59]) 60 _ _ _ _ ?_
    have e : (List.replicate k (0 : Int) ++ l).length = 10 := by rw [List.length_append, List.length_replicate]; omega
    have e2 : ¬ (10 : Int) ≤ (k : Int) := by omega
    simp (disch := first | assumption | rfl | exact inI_of (by omega) (by omega) | omega | decide | (simp only [sv_ext, sv_mc, Nat.le_refl]; done) | with_unfolding_all (refine @id _ ?_; first | exact Eq.refl _ | exact Nat.le_refl _ | assumption)) only [Nat.reduceAdd, Nat.reduceMul, Nat.reduceLeDiff, Nat.reduceLT, Int.reduceAdd, Int.reduceSub, Int.reduceMul, Int.reduceNeg, Int.reduceLE, Int.reduceLT, Int.reduceToNat, Int.reduceEq, reduceCtorEq, ld_z, ld_s, st1_0, st1_1, st1_s, st2_0, st2_1, st2_s, isJ_i, isJ_r, isJ_n, isJ_l, cs_nil, cs_i, cs_r, cs_l, kF, List.getElem?_cons_succ, List.getElem?_cons_zero, List.set_cons_zero, List.set_cons_succ, GC_s, GC_n, GK_nil, GK_no, GK_yes, not_false_eq_true, back_eq, back_hp, inI_eq, inA_eq, true_and, and_true, and_self, if_true, if_false, bI_0, bI_1, bI_in, bI_T, bI_F, fitF, jmpF, nlF, pjA, iVal.eta, iYr.eta, List.getElem?_toArray, List.length_cons, List.length_nil, true_or, or_true, or_false, false_or, Classical.not_not, Bool.false_eq_true, hp_2, Nat.zero_le, Nat.le_refl, Option.some.injEq, Sum.inl.injEq, Sum.inr.injEq, not_true_eq_false, true_implies, false_implies, implies_true, rd_v, f_num, f_lik, f_dep, f_bnd, f_man, f_wom, f_sta, f_dds, f_who, rd_y, rd_y1, rd_y2, rd_y3, rd_y4, wy, wy1, wy2, wy3, wy4, sxy_mnd, sxy_now, sxy_img, sxy_yr, sxy_xy, sxy_sxy, sv_sxy, f_ord, f_bus, f_wai, f_fin, gX10_pass, lt6s, e, e2, Int.toNat_natCast, rep_set h1]
    exact ih
theorem day_loop {n i0 : Int} : ∀ (k : Nat) (i : Int) (S : iXY) (m B : Int), OkS S B → B + k ≤ 100000 → (m = 0 ∨ m = 1) → 0 ≤ i → i + k = S.1.cp → Run sp sc (d + 6) mX10_pass 59 [some (.inr (.inr 31)), some (.inl n), some (.inl i0), some (.inl (metF k i S m)), some (.inl S.1.cp)] [] (hp (A.sxy (dayF k i S))) Q → Run sp sc (d + 6) mX10_pass 59 [some (.inr (.inr 31)), some (.inl n), some (.inl i0), some (.inl m), some (.inl i)] [] (hp (A.sxy S)) Q := by
  intro k
  induction k with
  | zero =>
    intro i S m B hS hB hm h0 h1 hq
    have : i = S.1.cp := by omega
    rw [this]
    exact hq
  | succ k ih =>
    intro i S m B hS hB hm h0 h1 hq
    have hO := hS.1
    have hY := hS.2
    have hcp := hO.cp
    have lo := hY.lod
    have eo := hY.ord i h0 (by omega)
    refine G_run (B := [2, 9, 59]) 60 _ _ _ _ ?_
    have e : ¬ S.1.cp ≤ i := by omega
    unfold metF dayF at hq
    by_cases g : S.1.sta (S.2.ord i) = 0
    · rw [if_pos g, if_pos g] at hq
      have t := sameT_turn (S := S) (c := S.2.ord i)
      have ih := fun m hm => ih (i + 1) (turnA S (S.2.ord i)) m (B + 1) (okS_turn hS eo.1 eo.2 g) (by omega) hm (by omega) (by rw [t.1]; omega)
      rw [t.1] at ih
      by_cases mm : metA S (S.2.ord i)
      · rw [if_pos mm] at hq
        simp (disch := first | assumption | rfl | exact inI_of (by omega) (by omega) | omega | decide | (simp only [sv_ext, sv_mc, Nat.le_refl]; done) | with_unfolding_all (refine @id _ ?_; first | exact Eq.refl _ | exact Nat.le_refl _ | assumption)) only [Nat.reduceAdd, Nat.reduceMul, Nat.reduceLeDiff, Nat.reduceLT, Int.reduceAdd, Int.reduceSub, Int.reduceMul, Int.reduceNeg, Int.reduceLE, Int.reduceLT, Int.reduceToNat, Int.reduceEq, reduceCtorEq, ld_z, ld_s, st1_0, st1_1, st1_s, st2_0, st2_1, st2_s, isJ_i, isJ_r, isJ_n, isJ_l, cs_nil, cs_i, cs_r, cs_l, kF, List.getElem?_cons_succ, List.getElem?_cons_zero, List.set_cons_zero, List.set_cons_succ, GC_s, GC_n, GK_nil, GK_no, GK_yes, not_false_eq_true, back_eq, back_hp, inI_eq, inA_eq, true_and, and_true, and_self, if_true, if_false, bI_0, bI_1, bI_in, bI_T, bI_F, fitF, jmpF, nlF, pjA, iVal.eta, iYr.eta, List.getElem?_toArray, List.length_cons, List.length_nil, true_or, or_true, or_false, false_or, Classical.not_not, Bool.false_eq_true, hp_2, Nat.zero_le, Nat.le_refl, Option.some.injEq, Sum.inl.injEq, Sum.inr.injEq, not_true_eq_false, true_implies, false_implies, implies_true, rd_v, f_num, f_lik, f_dep, f_bnd, f_man, f_wom, f_sta, f_dds, f_who, rd_y, rd_y1, rd_y2, rd_y3, rd_y4, wy, wy1, wy2, wy3, wy4, sxy_mnd, sxy_now, sxy_img, sxy_yr, sxy_xy, sxy_sxy, sv_sxy, f_ord, f_bus, f_wai, f_fin, gX10_pass, e, lo, goesOn_eq, g, takeTurn_eq hS, bI_t mm]
        exact ih 1 (Or.inr rfl) hq
      · rw [if_neg mm] at hq
        simp (disch := first | assumption | rfl | exact inI_of (by omega) (by omega) | omega | decide | (simp only [sv_ext, sv_mc, Nat.le_refl]; done) | with_unfolding_all (refine @id _ ?_; first | exact Eq.refl _ | exact Nat.le_refl _ | assumption)) only [Nat.reduceAdd, Nat.reduceMul, Nat.reduceLeDiff, Nat.reduceLT, Int.reduceAdd, Int.reduceSub, Int.reduceMul, Int.reduceNeg, Int.reduceLE, Int.reduceLT, Int.reduceToNat, Int.reduceEq, reduceCtorEq, ld_z, ld_s, st1_0, st1_1, st1_s, st2_0, st2_1, st2_s, isJ_i, isJ_r, isJ_n, isJ_l, cs_nil, cs_i, cs_r, cs_l, kF, List.getElem?_cons_succ, List.getElem?_cons_zero, List.set_cons_zero, List.set_cons_succ, GC_s, GC_n, GK_nil, GK_no, GK_yes, not_false_eq_true, back_eq, back_hp, inI_eq, inA_eq, true_and, and_true, and_self, if_true, if_false, bI_0, bI_1, bI_in, bI_T, bI_F, fitF, jmpF, nlF, pjA, iVal.eta, iYr.eta, List.getElem?_toArray, List.length_cons, List.length_nil, true_or, or_true, or_false, false_or, Classical.not_not, Bool.false_eq_true, hp_2, Nat.zero_le, Nat.le_refl, Option.some.injEq, Sum.inl.injEq, Sum.inr.injEq, not_true_eq_false, true_implies, false_implies, implies_true, rd_v, f_num, f_lik, f_dep, f_bnd, f_man, f_wom, f_sta, f_dds, f_who, rd_y, rd_y1, rd_y2, rd_y3, rd_y4, wy, wy1, wy2, wy3, wy4, sxy_mnd, sxy_now, sxy_img, sxy_yr, sxy_xy, sxy_sxy, sv_sxy, f_ord, f_bus, f_wai, f_fin, gX10_pass, e, lo, goesOn_eq, g, takeTurn_eq hS, bI_f mm]
        exact ih m hm hq
    · rw [if_neg g, if_neg g] at hq
      have ih := ih (i + 1) S m B hS (by omega) hm (by omega) (by omega)
      simp (disch := first | assumption | rfl | exact inI_of (by omega) (by omega) | omega | decide | (simp only [sv_ext, sv_mc, Nat.le_refl]; done) | with_unfolding_all (refine @id _ ?_; first | exact Eq.refl _ | exact Nat.le_refl _ | assumption)) only [Nat.reduceAdd, Nat.reduceMul, Nat.reduceLeDiff, Nat.reduceLT, Int.reduceAdd, Int.reduceSub, Int.reduceMul, Int.reduceNeg, Int.reduceLE, Int.reduceLT, Int.reduceToNat, Int.reduceEq, reduceCtorEq, ld_z, ld_s, st1_0, st1_1, st1_s, st2_0, st2_1, st2_s, isJ_i, isJ_r, isJ_n, isJ_l, cs_nil, cs_i, cs_r, cs_l, kF, List.getElem?_cons_succ, List.getElem?_cons_zero, List.set_cons_zero, List.set_cons_succ, GC_s, GC_n, GK_nil, GK_no, GK_yes, not_false_eq_true, back_eq, back_hp, inI_eq, inA_eq, true_and, and_true, and_self, if_true, if_false, bI_0, bI_1, bI_in, bI_T, bI_F, fitF, jmpF, nlF, pjA, iVal.eta, iYr.eta, List.getElem?_toArray, List.length_cons, List.length_nil, true_or, or_true, or_false, false_or, Classical.not_not, Bool.false_eq_true, hp_2, Nat.zero_le, Nat.le_refl, Option.some.injEq, Sum.inl.injEq, Sum.inr.injEq, not_true_eq_false, true_implies, false_implies, implies_true, rd_v, f_num, f_lik, f_dep, f_bnd, f_man, f_wom, f_sta, f_dds, f_who, rd_y, rd_y1, rd_y2, rd_y3, rd_y4, wy, wy1, wy2, wy3, wy4, sxy_mnd, sxy_now, sxy_img, sxy_yr, sxy_xy, sxy_sxy, sv_sxy, f_ord, f_bus, f_wai, f_fin, gX10_pass, e, lo, goesOn_eq, g]
      exact ih hq
theorem pass_loop {n : Int} (hn : n ≤ 1000) : ∀ (m : Nat) (i : Int) (S : iXY) (B : Int) (o3 o4 : Option iV), OkS S B → B + 5 * m ≤ 100000 → 0 ≤ i → i + m = n → Q none (hp (A.sxy (passA m S))) → Run sp sc (d + 6) mX10_pass 2 [some (.inr (.inr 31)), some (.inl n), some (.inl i), o3, o4] [] (hp (A.sxy S)) Q := by
  intro m
  induction m with
  | zero =>
    intro i S B o3 o4 hS hB h0 h1 hq
    refine G_run (B := [2, 9, 59]) 60 _ _ _ _ ?_
    have e : n ≤ i := by omega
    simp (disch := first | assumption | rfl | exact inI_of (by omega) (by omega) | omega | decide | (simp only [sv_ext, sv_mc, Nat.le_refl]; done) | with_unfolding_all (refine @id _ ?_; first | exact Eq.refl _ | exact Nat.le_refl _ | assumption)) only [Nat.reduceAdd, Nat.reduceMul, Nat.reduceLeDiff, Nat.reduceLT, Int.reduceAdd, Int.reduceSub, Int.reduceMul, Int.reduceNeg, Int.reduceLE, Int.reduceLT, Int.reduceToNat, Int.reduceEq, reduceCtorEq, ld_z, ld_s, st1_0, st1_1, st1_s, st2_0, st2_1, st2_s, isJ_i, isJ_r, isJ_n, isJ_l, cs_nil, cs_i, cs_r, cs_l, kF, List.getElem?_cons_succ, List.getElem?_cons_zero, List.set_cons_zero, List.set_cons_succ, GC_s, GC_n, GK_nil, GK_no, GK_yes, not_false_eq_true, back_eq, back_hp, inI_eq, inA_eq, true_and, and_true, and_self, if_true, if_false, bI_0, bI_1, bI_in, bI_T, bI_F, fitF, jmpF, nlF, pjA, iVal.eta, iYr.eta, List.getElem?_toArray, List.length_cons, List.length_nil, true_or, or_true, or_false, false_or, Classical.not_not, Bool.false_eq_true, hp_2, Nat.zero_le, Nat.le_refl, Option.some.injEq, Sum.inl.injEq, Sum.inr.injEq, not_true_eq_false, true_implies, false_implies, implies_true, rd_v, f_num, f_lik, f_dep, f_bnd, f_man, f_wom, f_sta, f_dds, f_who, rd_y, rd_y1, rd_y2, rd_y3, rd_y4, wy, wy1, wy2, wy3, wy4, sxy_mnd, sxy_now, sxy_img, sxy_yr, sxy_xy, sxy_sxy, sv_sxy, f_ord, f_bus, f_wai, f_fin, gX10_pass, e]
    exact hq
  | succ m ih =>
    intro i S B o3 o4 hS hB h0 h1 hq
    have hO := hS.1
    have hY := hS.2
    have hcp := hO.cp
    refine G_run (B := [2, 9, 59]) 60 _ _ _ _ ?_
    have e : ¬ n ≤ i := by omega
    simp (disch := first | assumption | rfl | exact inI_of (by omega) (by omega) | omega | decide | (simp only [sv_ext, sv_mc, Nat.le_refl]; done) | with_unfolding_all (refine @id _ ?_; first | exact Eq.refl _ | exact Nat.le_refl _ | assumption)) only [Nat.reduceAdd, Nat.reduceMul, Nat.reduceLeDiff, Nat.reduceLT, Int.reduceAdd, Int.reduceSub, Int.reduceMul, Int.reduceNeg, Int.reduceLE, Int.reduceLT, Int.reduceToNat, Int.reduceEq, reduceCtorEq, ld_z, ld_s, st1_0, st1_1, st1_s, st2_0, st2_1, st2_s, isJ_i, isJ_r, isJ_n, isJ_l, cs_nil, cs_i, cs_r, cs_l, kF, List.getElem?_cons_succ, List.getElem?_cons_zero, List.set_cons_zero, List.set_cons_succ, GC_s, GC_n, GK_nil, GK_no, GK_yes, not_false_eq_true, back_eq, back_hp, inI_eq, inA_eq, true_and, and_true, and_self, if_true, if_false, bI_0, bI_1, bI_in, bI_T, bI_F, fitF, jmpF, nlF, pjA, iVal.eta, iYr.eta, List.getElem?_toArray, List.length_cons, List.length_nil, true_or, or_true, or_false, false_or, Classical.not_not, Bool.false_eq_true, hp_2, Nat.zero_le, Nat.le_refl, Option.some.injEq, Sum.inl.injEq, Sum.inr.injEq, not_true_eq_false, true_implies, false_implies, implies_true, rd_v, f_num, f_lik, f_dep, f_bnd, f_man, f_wom, f_sta, f_dds, f_who, rd_y, rd_y1, rd_y2, rd_y3, rd_y4, wy, wy1, wy2, wy3, wy4, sxy_mnd, sxy_now, sxy_img, sxy_yr, sxy_xy, sxy_sxy, sv_sxy, f_ord, f_bus, f_wai, f_fin, gX10_pass, e]
    refine busy_loop (S := S) 10 0 S.2.bz rfl hY.lbz ?_
    refine G_run (B := [2, 9, 59]) 60 _ _ _ _ ?_
    have e2 : (List.replicate 10 (0 : Int)).length = 10 := rfl
    have e3 : ((10 : Nat) : Int) = 10 := rfl
    simp (disch := first | assumption | rfl | exact inI_of (by omega) (by omega) | omega | decide | (simp only [sv_ext, sv_mc, Nat.le_refl]; done) | with_unfolding_all (refine @id _ ?_; first | exact Eq.refl _ | exact Nat.le_refl _ | assumption)) only [Nat.reduceAdd, Nat.reduceMul, Nat.reduceLeDiff, Nat.reduceLT, Int.reduceAdd, Int.reduceSub, Int.reduceMul, Int.reduceNeg, Int.reduceLE, Int.reduceLT, Int.reduceToNat, Int.reduceEq, reduceCtorEq, ld_z, ld_s, st1_0, st1_1, st1_s, st2_0, st2_1, st2_s, isJ_i, isJ_r, isJ_n, isJ_l, cs_nil, cs_i, cs_r, cs_l, kF, List.getElem?_cons_succ, List.getElem?_cons_zero, List.set_cons_zero, List.set_cons_succ, GC_s, GC_n, GK_nil, GK_no, GK_yes, not_false_eq_true, back_eq, back_hp, inI_eq, inA_eq, true_and, and_true, and_self, if_true, if_false, bI_0, bI_1, bI_in, bI_T, bI_F, fitF, jmpF, nlF, pjA, iVal.eta, iYr.eta, List.getElem?_toArray, List.length_cons, List.length_nil, true_or, or_true, or_false, false_or, Classical.not_not, Bool.false_eq_true, hp_2, Nat.zero_le, Nat.le_refl, Option.some.injEq, Sum.inl.injEq, Sum.inr.injEq, not_true_eq_false, true_implies, false_implies, implies_true, rd_v, f_num, f_lik, f_dep, f_bnd, f_man, f_wom, f_sta, f_dds, f_who, rd_y, rd_y1, rd_y2, rd_y3, rd_y4, wy, wy1, wy2, wy3, wy4, sxy_mnd, sxy_now, sxy_img, sxy_yr, sxy_xy, sxy_sxy, sv_sxy, f_ord, f_bus, f_wai, f_fin, gX10_pass, e2, e3, lt6s, wr_v]
    refine day_loop S.1.cp.toNat 0 (dawn S) 0 (B + 1) (okS_dawn hS) (by omega) (Or.inl rfl) (by omega) (by show 0 + (S.1.cp.toNat : Int) = S.1.cp; omega) ?_
    have d1 := okS_day hS
    have ih := fun o3 o4 => ih (i + 1) (dayA S) (B + 5) o3 o4 d1.1 (by omega) (by omega) (by omega)
    have mb := metF_b S.1.cp.toNat 0 (dawn S) 0 (Or.inl rfl)
    unfold passA at hq
    have d2 : (dawn S).1.cp = (dayA S).1.cp := d1.2.symm
    have lw := d1.1.2.lwt
    have hO1 := d1.1.1
    rw [d2]
    show Run sp sc (d + 6) mX10_pass 59 [some (.inr (.inr 31)), some (.inl n), some (.inl i), some (.inl (metF S.1.cp.toNat 0 (dawn S) 0)), some (.inl (dayA S).1.cp)] [] (hp (A.sxy (dayA S))) Q
    refine G_run (B := [2, 9, 59]) 60 _ _ _ _ ?_
    rcases mb with mb | mb
    · rw [if_pos mb] at hq
      simp (disch := first | assumption | rfl | exact inI_of (by omega) (by omega) | omega | decide | (simp only [sv_ext, sv_mc, Nat.le_refl]; done) | with_unfolding_all (refine @id _ ?_; first | exact Eq.refl _ | exact Nat.le_refl _ | assumption)) only [Nat.reduceAdd, Nat.reduceMul, Nat.reduceLeDiff, Nat.reduceLT, Int.reduceAdd, Int.reduceSub, Int.reduceMul, Int.reduceNeg, Int.reduceLE, Int.reduceLT, Int.reduceToNat, Int.reduceEq, reduceCtorEq, ld_z, ld_s, st1_0, st1_1, st1_s, st2_0, st2_1, st2_s, isJ_i, isJ_r, isJ_n, isJ_l, cs_nil, cs_i, cs_r, cs_l, kF, List.getElem?_cons_succ, List.getElem?_cons_zero, List.set_cons_zero, List.set_cons_succ, GC_s, GC_n, GK_nil, GK_no, GK_yes, not_false_eq_true, back_eq, back_hp, inI_eq, inA_eq, true_and, and_true, and_self, if_true, if_false, bI_0, bI_1, bI_in, bI_T, bI_F, fitF, jmpF, nlF, pjA, iVal.eta, iYr.eta, List.getElem?_toArray, List.length_cons, List.length_nil, true_or, or_true, or_false, false_or, Classical.not_not, Bool.false_eq_true, hp_2, Nat.zero_le, Nat.le_refl, Option.some.injEq, Sum.inl.injEq, Sum.inr.injEq, not_true_eq_false, true_implies, false_implies, implies_true, rd_v, f_num, f_lik, f_dep, f_bnd, f_man, f_wom, f_sta, f_dds, f_who, rd_y, rd_y1, rd_y2, rd_y3, rd_y4, wy, wy1, wy2, wy3, wy4, sxy_mnd, sxy_now, sxy_img, sxy_yr, sxy_xy, sxy_sxy, sv_sxy, f_ord, f_bus, f_wai, f_fin, gX10_pass, mb, waitAll_eq]
      refine ⟨fun _ => ?_, fun z => absurd (Int.le_refl _) z⟩
      have en : n - i - 1 = (m : Int) := by omega
      rw [en]; exact hq
    · rw [if_neg (by omega)] at hq
      simp (disch := first | assumption | rfl | exact inI_of (by omega) (by omega) | omega | decide | (simp only [sv_ext, sv_mc, Nat.le_refl]; done) | with_unfolding_all (refine @id _ ?_; first | exact Eq.refl _ | exact Nat.le_refl _ | assumption)) only [Nat.reduceAdd, Nat.reduceMul, Nat.reduceLeDiff, Nat.reduceLT, Int.reduceAdd, Int.reduceSub, Int.reduceMul, Int.reduceNeg, Int.reduceLE, Int.reduceLT, Int.reduceToNat, Int.reduceEq, reduceCtorEq, ld_z, ld_s, st1_0, st1_1, st1_s, st2_0, st2_1, st2_s, isJ_i, isJ_r, isJ_n, isJ_l, cs_nil, cs_i, cs_r, cs_l, kF, List.getElem?_cons_succ, List.getElem?_cons_zero, List.set_cons_zero, List.set_cons_succ, GC_s, GC_n, GK_nil, GK_no, GK_yes, not_false_eq_true, back_eq, back_hp, inI_eq, inA_eq, true_and, and_true, and_self, if_true, if_false, bI_0, bI_1, bI_in, bI_T, bI_F, fitF, jmpF, nlF, pjA, iVal.eta, iYr.eta, List.getElem?_toArray, List.length_cons, List.length_nil, true_or, or_true, or_false, false_or, Classical.not_not, Bool.false_eq_true, hp_2, Nat.zero_le, Nat.le_refl, Option.some.injEq, Sum.inl.injEq, Sum.inr.injEq, not_true_eq_false, true_implies, false_implies, implies_true, rd_v, f_num, f_lik, f_dep, f_bnd, f_man, f_wom, f_sta, f_dds, f_who, rd_y, rd_y1, rd_y2, rd_y3, rd_y4, wy, wy1, wy2, wy3, wy4, sxy_mnd, sxy_now, sxy_img, sxy_yr, sxy_xy, sxy_sxy, sv_sxy, f_ord, f_bus, f_wai, f_fin, gX10_pass, mb]
      exact ⟨fun _ => ih _ _ hq, fun z => absurd (Int.le_refl _) z⟩
theorem pass_eq (hS : OkS S B) {n : Nat} (hB : B + 5 * n ≤ 100000) (hn : (n : Int) ≤ 1000) : Call sp sc (d + 6) mX10_pass [.inr (.inr 31), .inl (n : Int)] (hp (A.sxy S)) Q = Q none (hp (A.sxy (passA n S))) := Call_eq (by
  apply eX10_pass 40; simp (disch := first | assumption | rfl | exact inI_of (by omega) (by omega) | omega | decide | (simp only [sv_ext, sv_mc, Nat.le_refl]; done) | with_unfolding_all (refine @id _ ?_; first | exact Eq.refl _ | exact Nat.le_refl _ | assumption)) only [Nat.reduceAdd, Nat.reduceMul, Nat.reduceLeDiff, Nat.reduceLT, Int.reduceAdd, Int.reduceSub, Int.reduceMul, Int.reduceNeg, Int.reduceLE, Int.reduceLT, Int.reduceToNat, Int.reduceEq, reduceCtorEq, ld_z, ld_s, st1_0, st1_1, st1_s, st2_0, st2_1, st2_s, isJ_i, isJ_r, isJ_n, isJ_l, cs_nil, cs_i, cs_r, cs_l, kF, List.getElem?_cons_succ, List.getElem?_cons_zero, List.set_cons_zero, List.set_cons_succ, GC_s, GC_n, GK_nil, GK_no, GK_yes, not_false_eq_true, back_eq, back_hp, inI_eq, inA_eq, true_and, and_true, and_self, if_true, if_false, bI_0, bI_1, bI_in, bI_T, bI_F, fitF, jmpF, nlF, pjA, iVal.eta, iYr.eta, List.getElem?_toArray, List.length_cons, List.length_nil, true_or, or_true, or_false, false_or, Classical.not_not, Bool.false_eq_true, hp_2, Nat.zero_le, Nat.le_refl, Option.some.injEq, Sum.inl.injEq, Sum.inr.injEq, not_true_eq_false, true_implies, false_implies, implies_true, rd_v, f_num, f_lik, f_dep, f_bnd, f_man, f_wom, f_sta, f_dds, f_who, rd_y, rd_y1, rd_y2, rd_y3, rd_y4, wy, wy1, wy2, wy3, wy4, sxy_mnd, sxy_now, sxy_img, sxy_yr, sxy_xy, sxy_sxy, sv_sxy, f_ord, f_bus, f_wai, f_fin, gX10_pass]
  exact pass_loop hn n 0 S B _ _ hS hB (by omega) (by omega) ⟨rfl, rfl⟩)
end PASS
