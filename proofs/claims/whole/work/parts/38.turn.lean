set_option maxRecDepth 16384
/-! ===== the class: a turn, a day, days ===== -/
theorem sk_at {X : iVal} {a b : Int} : (X.meet a b).sulk a b = (iVal.mk X.on X.na X.de X.bo (((X.meet a b).sulk a b).li) X.cp X.me X.wo X.sa X.dd X.wh X.sl X.dy) := sameL_all
theorem sk_man {X : iVal} {a b c : Int} : ((X.meet a b).sulk a b).man c = X.man c := by rw [sk_at]; rfl
theorem sk_wom {X : iVal} {a b c : Int} : ((X.meet a b).sulk a b).wom c = X.wom c := by rw [sk_at]; rfl
theorem sk_me {X : iVal} {a b : Int} : ((X.meet a b).sulk a b).me = X.me := by rw [sk_at] <;> rfl
theorem sk_wo {X : iVal} {a b : Int} : ((X.meet a b).sulk a b).wo = X.wo := by rw [sk_at] <;> rfl
theorem f_busy {Y : iYr} {a b : Int} : ((iYr.mk (Y.od) ((Y.bz.set a.toNat 1).set (5 + b).toNat 1) (Y.wt) (Y.en) (Y.ps) (Y.dn) (Y.sp) (Y.fs)) : iYr) = busyY Y a b := rfl
theorem f_wait {Y : iYr} {c : Int} : ((iYr.mk (Y.od) (Y.bz) (Y.wt.set c.toNat (Y.wai c + 1)) (Y.en) (Y.ps) (Y.dn) (Y.sp) (Y.fs)) : iYr) = waitY Y c := rfl
section YR
variable {sp : Nat → List iV → iH → Option (Option iV × iH)} {sc : List Int} {d : Nat} {A : iA} {Q : Option iV → iH → Prop} {B : Int} {S T : iXY}
theorem meet_sxy {X : iVal} {Y : iYr} (hO : OkV X) {a b : Int} (h0 : 0 ≤ a) (h1 : a < X.num 0) (h2 : 0 ≤ b) (h3 : b < X.num 1) : Call sp sc (d + 3) mX10_meet [.inr (.inr 31), .inl a, .inl b] (hp (A.sxy (X, Y))) Q = Q none (hp (A.sxy (X.meet a b, Y))) := meet_eq (A := A.sxy (X, Y)) hO h0 h1 h2 h3
theorem sulkOver_sxy {X : iVal} {Y : iYr} (hO : OkV X) {a b : Int} (ha : inI a = true) (hb : inI b = true) : Call sp sc (d + 3) mX10_sulkOver [.inr (.inr 31), .inl a, .inl b] (hp (A.sxy (X, Y))) Q = Q none (hp (A.sxy (X.sulk a b, Y))) := sulkOver_eq (A := A.sxy (X, Y)) hO ha hb
theorem takeTurn_eq (hS : OkS S B) (hB : B ≤ 100000) {c : Int} (h0 : 0 ≤ c) (h1 : c < S.1.cp) (hs : S.1.sta c = 0) : Call sp sc (d + 5) mX10_takeTurn [.inr (.inr 31), .inl c] (hp (A.sxy S)) Q = Q (some (.inl (bI (metA S c)))) (hp (A.sxy (turnA S c))) := Call_eq (by
  have hO := hS.1
  have hY := hS.2
  have hcp := hO.cp
  have n0 := hO.n0
  have n1 := hO.n1
  have lw := hY.lwt
  have lb := hY.lbz
  have lme := hO.lme
  have lwo := hO.lwo
  have em := hO.man c h0 h1
  have ew := hO.wom c h0 h1
  have da := doer_b hO (s := 0) (c := c) (by omega) (by omega) h0 h1
  have db := doer_b hO (s := 1) (c := c) (by omega) (by omega) h0 h1
  have hY2 : OkY ((A.sxy S).v .mnd) (A.sxy S).yr B := hY
  have hO2 : OkV ((A.sxy S).v .mnd) := hO
  apply eX10_takeTurn 120
  by_cases m : metA S c
  · have m2 := m
    unfold metA at m2
    have t1 : ¬ isTak S 0 (S.1.doer 0 c) := fun z => m2 (Or.inl z)
    have t2 : ¬ isTak S 1 (S.1.doer 1 c) := fun z => m2 (Or.inr z)
    have hM := okV_meet hO da.1 da.2 db.1 db.2
    have hK := (okV_sulk hM (a := S.1.doer 0 c) (b := S.1.doer 1 c)).1
    have hT : OkS ((S.1.meet (S.1.doer 0 c) (S.1.doer 1 c)).sulk (S.1.doer 0 c) (S.1.doer 1 c), busyY S.2 (S.1.doer 0 c) (S.1.doer 1 c)) B :=
      ⟨hK, (okY_busy hY da.1 (by omega) db.1 (by omega)).cpc (by rw [sk_at] <;> rfl)⟩
    have et : turnA S c = (if ¬ (S.1.doer 0 c = S.1.man c ∧ S.1.doer 1 c = S.1.wom c) ∧ ((S.1.meet (S.1.doer 0 c) (S.1.doer 1 c)).sulk (S.1.doer 0 c) (S.1.doer 1 c)).sl < ((S.1.meet (S.1.doer 0 c) (S.1.doer 1 c)).sulk (S.1.doer 0 c) (S.1.doer 1 c)).lik 0 (S.1.doer 0 c) (S.1.doer 1 c) ∧ ((S.1.meet (S.1.doer 0 c) (S.1.doer 1 c)).sulk (S.1.doer 0 c) (S.1.doer 1 c)).sl < ((S.1.meet (S.1.doer 0 c) (S.1.doer 1 c)).sulk (S.1.doer 0 c) (S.1.doer 1 c)).lik 1 (S.1.doer 1 c) (S.1.doer 0 c) then slipA ((S.1.meet (S.1.doer 0 c) (S.1.doer 1 c)).sulk (S.1.doer 0 c) (S.1.doer 1 c), busyY S.2 (S.1.doer 0 c) (S.1.doer 1 c)) c (S.1.doer 0 c) (S.1.doer 1 c) else deedA ((S.1.meet (S.1.doer 0 c) (S.1.doer 1 c)).sulk (S.1.doer 0 c) (S.1.doer 1 c), busyY S.2 (S.1.doer 0 c) (S.1.doer 1 c)) c) := by
      unfold turnA; rw [if_pos m]
    rw [et]
    have c1 : c < ((S.1.meet (S.1.doer 0 c) (S.1.doer 1 c)).sulk (S.1.doer 0 c) (S.1.doer 1 c)).cp := by rw [sk_at]; exact h1
    have c2 : ((S.1.meet (S.1.doer 0 c) (S.1.doer 1 c)).sulk (S.1.doer 0 c) (S.1.doer 1 c)).sta c = 0 := by rw [sk_at]; exact hs
    have c3 : S.1.doer 0 c < ((S.1.meet (S.1.doer 0 c) (S.1.doer 1 c)).sulk (S.1.doer 0 c) (S.1.doer 1 c)).num 0 := by rw [sk_at]; exact da.2
    have c4 : S.1.doer 1 c < ((S.1.meet (S.1.doer 0 c) (S.1.doer 1 c)).sulk (S.1.doer 0 c) (S.1.doer 1 c)).num 1 := by rw [sk_at]; exact db.2
    generalize hX : (S.1.meet (S.1.doer 0 c) (S.1.doer 1 c)).sulk (S.1.doer 0 c) (S.1.doer 1 c) = X at *
    have x1 : X.man c = S.1.man c := by rw [← hX, sk_man]
    have x2 : X.wom c = S.1.wom c := by rw [← hX, sk_wom]
    have x3 : X.me = S.1.me := by rw [← hX, sk_me]
    have x4 : X.wo = S.1.wo := by rw [← hX, sk_wo]
    simp (disch := first | assumption | rfl | exact inI_of (by omega) (by omega) | omega | decide | (simp only [sv_ext, sv_mc, Nat.le_refl]; done) | with_unfolding_all (refine @id _ ?_; first | exact Eq.refl _ | exact Nat.le_refl _ | assumption)) only [Nat.reduceAdd, Nat.reduceMul, Nat.reduceLeDiff, Nat.reduceLT, Int.reduceAdd, Int.reduceSub, Int.reduceMul, Int.reduceNeg, Int.reduceLE, Int.reduceLT, Int.reduceToNat, Int.reduceEq, reduceCtorEq, ld_z, ld_s, st1_0, st1_1, st1_s, st2_0, st2_1, st2_s, isJ_i, isJ_r, isJ_n, isJ_l, cs_nil, cs_i, cs_r, cs_l, kF, List.getElem?_cons_succ, List.getElem?_cons_zero, List.set_cons_zero, List.set_cons_succ, GC_s, GC_n, GK_nil, GK_no, GK_yes, not_false_eq_true, back_eq, back_hp, inI_eq, inA_eq, true_and, and_true, and_self, if_true, if_false, bI_0, bI_1, bI_in, bI_T, bI_F, fitF, jmpF, nlF, pjA, iVal.eta, iYr.eta, List.getElem?_toArray, List.length_cons, List.length_nil, true_or, or_true, or_false, false_or, Classical.not_not, Bool.false_eq_true, hp_2, Nat.zero_le, Nat.le_refl, Option.some.injEq, Sum.inl.injEq, Sum.inr.injEq, not_true_eq_false, true_implies, false_implies, implies_true, rd_v, f_num, f_lik, f_dep, f_bnd, f_man, f_wom, f_sta, f_dds, f_who, rd_y, rd_y1, rd_y2, rd_y3, rd_y4, wy, wy1, wy2, wy3, wy4, sxy_mnd, sxy_now, sxy_img, sxy_yr, sxy_xy, sxy_sxy, sv_sxy, f_ord, f_bus, f_wai, f_fin, gX10_takeTurn, doer_eq, isTaken_eq hO2 hY2, t1, t2, place_eq, lb, List.length_set, Int.zero_mul, Int.zero_add, Int.one_mul, f_busy, meet_sxy, sulkOver_sxy, hX, rd_v6, rd_v7, x1, x2, x3, x4, lme, lwo, likeAboveSlip_eq, bindBySlip_eq hT, doDeed_eq hT, bI_t m]
    refine ⟨fun g => ⟨fun k => ?_, fun k => ?_⟩, fun g => ⟨fun k => ⟨fun l => ?_, fun l => ?_⟩, fun k => ?_⟩⟩
    · rw [if_neg (fun z => k z.2)]
    · rw [if_pos ⟨fun z => g z.1, k⟩]
    · rw [if_neg (fun z => l z.2)]
    · rw [if_pos ⟨fun z => k z.2, l⟩]
    · rw [if_neg (fun z => z.1 ⟨g, k⟩)]
  · have et : turnA S c = (S.1, waitY S.2 c) := by unfold turnA; rw [if_neg m]
    have m2 := m
    unfold metA at m2
    rw [et]
    by_cases t1 : isTak S 0 (S.1.doer 0 c)
    · simp (disch := first | assumption | rfl | exact inI_of (by omega) (by omega) | omega | decide | (simp only [sv_ext, sv_mc, Nat.le_refl]; done) | with_unfolding_all (refine @id _ ?_; first | exact Eq.refl _ | exact Nat.le_refl _ | assumption)) only [Nat.reduceAdd, Nat.reduceMul, Nat.reduceLeDiff, Nat.reduceLT, Int.reduceAdd, Int.reduceSub, Int.reduceMul, Int.reduceNeg, Int.reduceLE, Int.reduceLT, Int.reduceToNat, Int.reduceEq, reduceCtorEq, ld_z, ld_s, st1_0, st1_1, st1_s, st2_0, st2_1, st2_s, isJ_i, isJ_r, isJ_n, isJ_l, cs_nil, cs_i, cs_r, cs_l, kF, List.getElem?_cons_succ, List.getElem?_cons_zero, List.set_cons_zero, List.set_cons_succ, GC_s, GC_n, GK_nil, GK_no, GK_yes, not_false_eq_true, back_eq, back_hp, inI_eq, inA_eq, true_and, and_true, and_self, if_true, if_false, bI_0, bI_1, bI_in, bI_T, bI_F, fitF, jmpF, nlF, pjA, iVal.eta, iYr.eta, List.getElem?_toArray, List.length_cons, List.length_nil, true_or, or_true, or_false, false_or, Classical.not_not, Bool.false_eq_true, hp_2, Nat.zero_le, Nat.le_refl, Option.some.injEq, Sum.inl.injEq, Sum.inr.injEq, not_true_eq_false, true_implies, false_implies, implies_true, rd_v, f_num, f_lik, f_dep, f_bnd, f_man, f_wom, f_sta, f_dds, f_who, rd_y, rd_y1, rd_y2, rd_y3, rd_y4, wy, wy1, wy2, wy3, wy4, sxy_mnd, sxy_now, sxy_img, sxy_yr, sxy_xy, sxy_sxy, sv_sxy, f_ord, f_bus, f_wai, f_fin, gX10_takeTurn, doer_eq, isTaken_eq hO2 hY2, t1, lw, f_wait, bI_f m]
    · have t2 : isTak S 1 (S.1.doer 1 c) := by
        by_cases t2 : isTak S 1 (S.1.doer 1 c)
        · exact t2
        · exact absurd (fun z => z.elim t1 t2) m2
      simp (disch := first | assumption | rfl | exact inI_of (by omega) (by omega) | omega | decide | (simp only [sv_ext, sv_mc, Nat.le_refl]; done) | with_unfolding_all (refine @id _ ?_; first | exact Eq.refl _ | exact Nat.le_refl _ | assumption)) only [Nat.reduceAdd, Nat.reduceMul, Nat.reduceLeDiff, Nat.reduceLT, Int.reduceAdd, Int.reduceSub, Int.reduceMul, Int.reduceNeg, Int.reduceLE, Int.reduceLT, Int.reduceToNat, Int.reduceEq, reduceCtorEq, ld_z, ld_s, st1_0, st1_1, st1_s, st2_0, st2_1, st2_s, isJ_i, isJ_r, isJ_n, isJ_l, cs_nil, cs_i, cs_r, cs_l, kF, List.getElem?_cons_succ, List.getElem?_cons_zero, List.set_cons_zero, List.set_cons_succ, GC_s, GC_n, GK_nil, GK_no, GK_yes, not_false_eq_true, back_eq, back_hp, inI_eq, inA_eq, true_and, and_true, and_self, if_true, if_false, bI_0, bI_1, bI_in, bI_T, bI_F, fitF, jmpF, nlF, pjA, iVal.eta, iYr.eta, List.getElem?_toArray, List.length_cons, List.length_nil, true_or, or_true, or_false, false_or, Classical.not_not, Bool.false_eq_true, hp_2, Nat.zero_le, Nat.le_refl, Option.some.injEq, Sum.inl.injEq, Sum.inr.injEq, not_true_eq_false, true_implies, false_implies, implies_true, rd_v, f_num, f_lik, f_dep, f_bnd, f_man, f_wom, f_sta, f_dds, f_who, rd_y, rd_y1, rd_y2, rd_y3, rd_y4, wy, wy1, wy2, wy3, wy4, sxy_mnd, sxy_now, sxy_img, sxy_yr, sxy_xy, sxy_sxy, sv_sxy, f_ord, f_bus, f_wai, f_fin, gX10_takeTurn, doer_eq, isTaken_eq hO2 hY2, t1, t2, lw, f_wait, bI_f m])
end YR
