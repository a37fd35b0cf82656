set_option maxRecDepth 16384
/-! ===== the class: days ===== -/
def iA.xy (A : iA) : iXY := (A.v .mnd, A.yr)
def iA.sxy (A : iA) (S : iXY) : iA := (iA.mk A.now A.img (S.1) A.imd (S.2) A.mt A.sh A.pt A.mo A.out A.ext A.mc)
section YR
variable {sp : Nat → List iV → iH → Option (Option iV × iH)} {sc : List Int} {d : Nat} {A : iA} {Q : Option iV → iH → Prop} {B : Int} {S T : iXY}
theorem sxy_mnd : (A.sxy S).v .mnd = S.1 := rfl
theorem sxy_now : (A.sxy S).v .now = A.v .now := rfl
theorem sxy_img : (A.sxy S).v .img = A.v .img := rfl
theorem sxy_yr : (A.sxy S).yr = S.2 := rfl
theorem sxy_xy : (A.sxy S).xy = S := rfl
theorem sxy_sxy : (A.sxy S).sxy T = A.sxy T := rfl
theorem sxy_mc : (A.sxy S).mc = A.mc := rfl
theorem sv_sxy {x : iVal} : A.sv .mnd x = A.sxy (x, A.yr) := rfl
theorem sxy_id : A.sxy (A.v .mnd, A.yr) = A := rfl
theorem wy {a b c e : Int} : ((hp A).1.set 29 (.inl (10, [.inr (.inr (vb .mnd + 2)), .inr (.inr 43), .inr (.inr 44), .inr (.inr 45), .inr (.inr 46), .inl a, .inl b, .inl c, .inl e])), A.mc) = hp (A.sxy (A.v .mnd, (iYr.mk A.yr.od A.yr.bz A.yr.wt A.yr.en (a) (b) (c) (e)))) := rfl
theorem wy1 {l : List Int} : ((hp A).1.set 41 (.inr (.inl (0, l))), A.mc) = hp (A.sxy (A.v .mnd, (iYr.mk (l) A.yr.bz A.yr.wt A.yr.en A.yr.ps A.yr.dn A.yr.sp A.yr.fs))) := rfl
theorem wy2 {l : List Int} : ((hp A).1.set 42 (.inr (.inl (2, l))), A.mc) = hp (A.sxy (A.v .mnd, (iYr.mk A.yr.od (l) A.yr.wt A.yr.en A.yr.ps A.yr.dn A.yr.sp A.yr.fs))) := rfl
theorem wy3 {l : List Int} : ((hp A).1.set 43 (.inr (.inl (0, l))), A.mc) = hp (A.sxy (A.v .mnd, (iYr.mk A.yr.od A.yr.bz (l) A.yr.en A.yr.ps A.yr.dn A.yr.sp A.yr.fs))) := rfl
theorem wy4 {l : List Int} : ((hp A).1.set 44 (.inr (.inl (0, l))), A.mc) = hp (A.sxy (A.v .mnd, (iYr.mk A.yr.od A.yr.bz A.yr.wt (l) A.yr.ps A.yr.dn A.yr.sp A.yr.fs))) := rfl
theorem f_ord {Y : iYr} {c : Int} : Y.od.getD c.toNat 0 = Y.ord c := rfl
theorem f_bus {Y : iYr} {c : Int} : Y.bz.getD c.toNat 0 = Y.bus c := rfl
theorem f_wai {Y : iYr} {c : Int} : Y.wt.getD c.toNat 0 = Y.wai c := rfl
theorem f_fin {Y : iYr} {c : Int} : Y.en.getD c.toNat 0 = Y.fin c := rfl
theorem nx_alk {X : iVal} {s a b v s' k : Int} : (X.alk s a b v).nx s' k = X.nx s' k := rfl
theorem f_inc {X : iVal} {c : Int} : ((iVal.mk (X.on) (X.na) (X.de) (X.bo) (X.li) (X.cp) (X.me) (X.wo) (X.sa) (X.dd.set c.toNat (X.dds c + 1)) (X.wh) (X.sl) (X.dy)) : iVal) = X.inc c := rfl
theorem en_man {S : iXY} {c v c' : Int} : (endA S c v).1.man c' = S.1.man c' := rfl
theorem en_wom {S : iXY} {c v c' : Int} : (endA S c v).1.wom c' = S.1.wom c' := rfl
theorem en_me {S : iXY} {c v : Int} : (endA S c v).1.me = S.1.me := rfl
theorem en_wo {S : iXY} {c v : Int} : (endA S c v).1.wo = S.1.wo := rfl
theorem inc_man {X : iVal} {c c' : Int} : (X.inc c).man c' = X.man c' := rfl
theorem inc_wom {X : iVal} {c c' : Int} : (X.inc c).wom c' = X.wom c' := rfl
theorem inc_me {X : iVal} {c : Int} : (X.inc c).me = X.me := rfl
theorem inc_ddl {X : iVal} {c : Int} : (X.inc c).dd.length = X.dd.length := List.length_set ..
theorem bd_man {X : iVal} {a b c : Int} : (X.bind a b).man c = X.man c := rfl
theorem bd_wom {X : iVal} {a b c : Int} : (X.bind a b).wom c = X.wom c := rfl
theorem bd_me {X : iVal} {a b : Int} : (X.bind a b).me = X.me := rfl
theorem bd_wo {X : iVal} {a b : Int} : (X.bind a b).wo = X.wo := rfl
theorem okV_dy {X : iVal} {y : Int} (h : OkV X) : OkV (iVal.mk X.on X.na X.de X.bo X.li X.cp X.me X.wo X.sa X.dd X.wh X.sl (y)) := (OkV.mk h.lon h.lna h.lde h.lbo h.lli h.lme h.lwo h.lsa h.ldd h.lwh h.n0 h.n1 h.cp h.sl h.nat h.man h.wom h.sta h.dds h.ddg h.who h.lik h.dep h.bnd h.unat h.udep h.ubnd h.ulik h.ucpl)
theorem inc_wo {X : iVal} {c : Int} : (X.inc c).wo = X.wo := rfl
/-- n days without a meeting -/
def waitF (X : iVal) (n : Int) : Nat → Int → iYr → iYr
  | 0, _, Y => Y
  | k + 1, c, Y => waitF X n k (c + 1) (if X.sta c = 0 then (iYr.mk Y.od Y.bz (Y.wt.set c.toNat (Y.wai c + n)) Y.en Y.ps Y.dn Y.sp Y.fs) else Y)
def waitA (n : Int) (S : iXY) : iXY := ((iVal.mk S.1.on S.1.na S.1.de S.1.bo S.1.li S.1.cp S.1.me S.1.wo S.1.sa S.1.dd S.1.wh S.1.sl (S.1.dy + n)), waitF (iVal.mk S.1.on S.1.na S.1.de S.1.bo S.1.li S.1.cp S.1.me S.1.wo S.1.sa S.1.dd S.1.wh S.1.sl (S.1.dy + n)) n S.1.cp.toNat 0 (iYr.mk S.2.od S.2.bz S.2.wt S.2.en (S.2.ps + n) S.2.dn S.2.sp S.2.fs))
theorem isTaken_eq (hO : OkV (A.v .mnd)) (hY : OkY (A.v .mnd) A.yr B) {s k : Int} (h0 : 0 ≤ s) (h1 : s < 2) (h2 : 0 ≤ k) (h3 : k < 5) : Call sp sc (d + 2) mX10_isTaken [.inr (.inr 31), .inl s, .inl k] (hp A) Q = Q (some (.inl (bI (isTak A.xy s k)))) (hp A) := Call_eq (by
  have e := hY.bus (s * 5 + k) (by omega) (by omega)
  apply eX10_isTaken 40; simp (disch := first | assumption | rfl | exact inI_of (by omega) (by omega) | omega | decide | (simp only [sv_ext, sv_mc, Nat.le_refl]; done) | with_unfolding_all (refine @id _ ?_; first | exact Eq.refl _ | exact Nat.le_refl _ | assumption)) only [Nat.reduceAdd, Nat.reduceMul, Nat.reduceLeDiff, Nat.reduceLT, Int.reduceAdd, Int.reduceSub, Int.reduceMul, Int.reduceNeg, Int.reduceLE, Int.reduceLT, Int.reduceToNat, Int.reduceEq, reduceCtorEq, ld_z, ld_s, st1_0, st1_1, st1_s, st2_0, st2_1, st2_s, isJ_i, isJ_r, isJ_n, isJ_l, cs_nil, cs_i, cs_r, cs_l, kF, List.getElem?_cons_succ, List.getElem?_cons_zero, List.set_cons_zero, List.set_cons_succ, GC_s, GC_n, GK_nil, GK_no, GK_yes, not_false_eq_true, back_eq, back_hp, inI_eq, inA_eq, true_and, and_true, and_self, if_true, if_false, bI_0, bI_1, bI_in, bI_T, bI_F, fitF, jmpF, nlF, pjA, iVal.eta, iYr.eta, List.getElem?_toArray, List.length_cons, List.length_nil, true_or, or_true, or_false, false_or, Classical.not_not, Bool.false_eq_true, hp_2, Nat.zero_le, Nat.le_refl, Option.some.injEq, Sum.inl.injEq, Sum.inr.injEq, not_true_eq_false, true_implies, false_implies, implies_true, rd_v, f_num, f_lik, f_dep, f_bnd, f_man, f_wom, f_sta, f_dds, f_who, rd_y, rd_y1, rd_y2, rd_y3, rd_y4, wy, wy1, wy2, wy3, wy4, sxy_mnd, sxy_now, sxy_img, sxy_yr, sxy_xy, sxy_sxy, sv_sxy, f_ord, f_bus, f_wai, f_fin, gX10_isTaken, isBound_eq, place_eq, hY.lbz]
  unfold isTak iA.xy
  dsimp only
  ((repeat' first | intro _ | refine And.intro ?_ ?_) <;> (first | assumption | exact inI_of (by omega) (by omega) | exact inA_of (by omega) (by omega) (by omega) | exact (bI_f (by omega)).symm | exact (bI_t (by omega)).symm | exact bI_f (by omega) | exact bI_t (by omega) | omega | rfl | (simp; done))))
theorem meet_eq (hO : OkV (A.v .mnd)) {a b : Int} (h0 : 0 ≤ a) (h1 : a < (A.v .mnd).num 0) (h2 : 0 ≤ b) (h3 : b < (A.v .mnd).num 1) : Call sp sc (d + 3) mX10_meet [.inr (.inr 31), .inl a, .inl b] (hp A) Q = Q none (hp (A.sxy ((A.v .mnd).meet a b, A.yr))) := Call_eq (by
  have n0 := hO.n0
  have n1 := hO.n1
  have hn := hO.nat 0 a (by omega) (by omega) h0 (by omega)
  have hm := hO.nat 1 b (by omega) (by omega) h2 (by omega)
  have g1 := grw_b hO (own := (A.v .mnd).own a b) (s := 0) (k := a) (by omega) (by omega) h0 (by omega)
  have g2 := grw_b hO (own := (A.v .mnd).own a b) (s := 1) (k := b) (by omega) (by omega) h2 (by omega)
  have ho : (A.v .mnd).own a b = 0 ∨ (A.v .mnd).own a b = 1 := ownF_b _ _
  have hO1 : OkV ((A.v .mnd).alk 0 a b ((A.v .mnd).grw 0 a ((A.v .mnd).own a b))) := okV_alk hO (by omega) (by omega) h0 h1 h2 h3
  have hm1 : NatOK (((A.v .mnd).alk 0 a b ((A.v .mnd).grw 0 a ((A.v .mnd).own a b))).nx 1 b) := hm.2
  unfold iVal.grw at *
  have hn1 := hn.2
  apply eX10_meet 60; simp (disch := first | assumption | rfl | exact inI_of (by omega) (by omega) | omega | decide | (simp only [sv_ext, sv_mc, Nat.le_refl]; done) | with_unfolding_all (refine @id _ ?_; first | exact Eq.refl _ | exact Nat.le_refl _ | assumption)) only [Nat.reduceAdd, Nat.reduceMul, Nat.reduceLeDiff, Nat.reduceLT, Int.reduceAdd, Int.reduceSub, Int.reduceMul, Int.reduceNeg, Int.reduceLE, Int.reduceLT, Int.reduceToNat, Int.reduceEq, reduceCtorEq, ld_z, ld_s, st1_0, st1_1, st1_s, st2_0, st2_1, st2_s, isJ_i, isJ_r, isJ_n, isJ_l, cs_nil, cs_i, cs_r, cs_l, kF, List.getElem?_cons_succ, List.getElem?_cons_zero, List.set_cons_zero, List.set_cons_succ, GC_s, GC_n, GK_nil, GK_no, GK_yes, not_false_eq_true, back_eq, back_hp, inI_eq, inA_eq, true_and, and_true, and_self, if_true, if_false, bI_0, bI_1, bI_in, bI_T, bI_F, fitF, jmpF, nlF, pjA, iVal.eta, iYr.eta, List.getElem?_toArray, List.length_cons, List.length_nil, true_or, or_true, or_false, false_or, Classical.not_not, Bool.false_eq_true, hp_2, Nat.zero_le, Nat.le_refl, Option.some.injEq, Sum.inl.injEq, Sum.inr.injEq, not_true_eq_false, true_implies, false_implies, implies_true, rd_v, f_num, f_lik, f_dep, f_bnd, f_man, f_wom, f_sta, f_dds, f_who, rd_y, rd_y1, rd_y2, rd_y3, rd_y4, wy, wy1, wy2, wy3, wy4, sxy_mnd, sxy_now, sxy_img, sxy_yr, sxy_xy, sxy_sxy, sv_sxy, f_ord, f_bus, f_wai, f_fin, gX10_meet, areOwn_eq, natureOf_eq, rd_nat, lkC_yg, kd3_ok, growth_eq, addLiking_eq, nx_alk]
  rfl)
theorem sulk_loop {a b : Int} (ha : inI a = true) (hb : inI b = true) : ∀ (k : Nat) (c : Int) (A : iA) (o1 o2 : Option iV), OkV (A.v .mnd) → 0 ≤ c → c + k = (A.v .mnd).cp → Q none (hp (A.sxy (iVal.sulkF a b k c (A.v .mnd), A.yr))) → Run sp sc (d + 3) mX10_sulkOver 2 [some (.inr (.inr 31)), some (.inl a), some (.inl b), some (.inl c), o1, o2] [] (hp A) Q := by
  intro k
  induction k with
  | zero =>
    intro c A o1 o2 hO h0 h1 hq
    have hcp := hO.cp
    refine G_run (B := [2]) 60 _ _ _ _ ?_
    have e : (A.v .mnd).cp ≤ c := by omega
    simp (disch := first | assumption | rfl | exact inI_of (by omega) (by omega) | omega | decide | (simp only [sv_ext, sv_mc, Nat.le_refl]; done) | with_unfolding_all (refine @id _ ?_; first | exact Eq.refl _ | exact Nat.le_refl _ | assumption)) only [Nat.reduceAdd, Nat.reduceMul, Nat.reduceLeDiff, Nat.reduceLT, Int.reduceAdd, Int.reduceSub, Int.reduceMul, Int.reduceNeg, Int.reduceLE, Int.reduceLT, Int.reduceToNat, Int.reduceEq, reduceCtorEq, ld_z, ld_s, st1_0, st1_1, st1_s, st2_0, st2_1, st2_s, isJ_i, isJ_r, isJ_n, isJ_l, cs_nil, cs_i, cs_r, cs_l, kF, List.getElem?_cons_succ, List.getElem?_cons_zero, List.set_cons_zero, List.set_cons_succ, GC_s, GC_n, GK_nil, GK_no, GK_yes, not_false_eq_true, back_eq, back_hp, inI_eq, inA_eq, true_and, and_true, and_self, if_true, if_false, bI_0, bI_1, bI_in, bI_T, bI_F, fitF, jmpF, nlF, pjA, iVal.eta, iYr.eta, List.getElem?_toArray, List.length_cons, List.length_nil, true_or, or_true, or_false, false_or, Classical.not_not, Bool.false_eq_true, hp_2, Nat.zero_le, Nat.le_refl, Option.some.injEq, Sum.inl.injEq, Sum.inr.injEq, not_true_eq_false, true_implies, false_implies, implies_true, rd_v, f_num, f_lik, f_dep, f_bnd, f_man, f_wom, f_sta, f_dds, f_who, rd_y, rd_y1, rd_y2, rd_y3, rd_y4, wy, wy1, wy2, wy3, wy4, sxy_mnd, sxy_now, sxy_img, sxy_yr, sxy_xy, sxy_sxy, sv_sxy, f_ord, f_bus, f_wai, f_fin, gX10_sulkOver, e]
    exact hq
  | succ k ih =>
    intro c A o1 o2 hO h0 h1 hq
    have hcp := hO.cp
    have n0 := hO.n0
    have n1 := hO.n1
    have em := hO.man c h0 (by omega)
    have ew := hO.wom c h0 (by omega)
    have s1 := slk1_b hO (s := 0) (k := (A.v .mnd).man c) (by omega) (by omega) em.1 (by omega)
    have s2 := slk1_b hO (s := 1) (k := (A.v .mnd).wom c) (by omega) (by omega) ew.1 (by omega)
    have m1 := (hO.nat 0 ((A.v .mnd).man c) (by omega) (by omega) em.1 (by omega)).2
    have m2 := (hO.nat 1 ((A.v .mnd).wom c) (by omega) (by omega) ew.1 (by omega)).2
    have hO2 := okV_sulk1 hO (a := a) (b := b) h0 (by omega)
    have sl : sameL (A.v .mnd) ((A.v .mnd).sulk1 a b c) := sameL_sulk1
    have e2 : ((A.v .mnd).sulk1 a b c).cp = (A.v .mnd).cp := by rw [sl] <;> rfl
    have ih1 := fun o1 o2 => ih (c + 1) (A.sxy ((A.v .mnd).sulk1 a b c, A.yr)) o1 o2 hO2 (by omega) (by show c + 1 + k = ((A.v .mnd).sulk1 a b c).cp; omega) hq
    refine G_run (B := [2]) 60 _ _ _ _ ?_
    have e : ¬ (A.v .mnd).cp ≤ c := by omega
    unfold iVal.slk1 at s1 s2
    simp (disch := first | assumption | rfl | exact inI_of (by omega) (by omega) | omega | decide | (simp only [sv_ext, sv_mc, Nat.le_refl]; done) | with_unfolding_all (refine @id _ ?_; first | exact Eq.refl _ | exact Nat.le_refl _ | assumption)) only [Nat.reduceAdd, Nat.reduceMul, Nat.reduceLeDiff, Nat.reduceLT, Int.reduceAdd, Int.reduceSub, Int.reduceMul, Int.reduceNeg, Int.reduceLE, Int.reduceLT, Int.reduceToNat, Int.reduceEq, reduceCtorEq, ld_z, ld_s, st1_0, st1_1, st1_s, st2_0, st2_1, st2_s, isJ_i, isJ_r, isJ_n, isJ_l, cs_nil, cs_i, cs_r, cs_l, kF, List.getElem?_cons_succ, List.getElem?_cons_zero, List.set_cons_zero, List.set_cons_succ, GC_s, GC_n, GK_nil, GK_no, GK_yes, not_false_eq_true, back_eq, back_hp, inI_eq, inA_eq, true_and, and_true, and_self, if_true, if_false, bI_0, bI_1, bI_in, bI_T, bI_F, fitF, jmpF, nlF, pjA, iVal.eta, iYr.eta, List.getElem?_toArray, List.length_cons, List.length_nil, true_or, or_true, or_false, false_or, Classical.not_not, Bool.false_eq_true, hp_2, Nat.zero_le, Nat.le_refl, Option.some.injEq, Sum.inl.injEq, Sum.inr.injEq, not_true_eq_false, true_implies, false_implies, implies_true, rd_v, f_num, f_lik, f_dep, f_bnd, f_man, f_wom, f_sta, f_dds, f_who, rd_y, rd_y1, rd_y2, rd_y3, rd_y4, wy, wy1, wy2, wy3, wy4, sxy_mnd, sxy_now, sxy_img, sxy_yr, sxy_xy, sxy_sxy, sv_sxy, f_ord, f_bus, f_wai, f_fin, gX10_sulkOver, e, goesOn_eq, rd_v6, rd_v7, hO.lme, hO.lwo]
    refine ⟨fun g => ?_, fun g => ?_⟩
    · have z : (A.v .mnd).sulk1 a b c = A.v .mnd := by unfold iVal.sulk1; rw [if_neg g]
      rw [z] at ih1
      exact ih1 _ _
    · by_cases gw : (A.v .mnd).wom c = b <;> by_cases gm : (A.v .mnd).man c = a
      · have z : (A.v .mnd).sulk1 a b c = A.v .mnd := by unfold iVal.sulk1; rw [if_pos g, if_neg (by omega), if_neg (by omega)]
        rw [z] at ih1
        simp (disch := first | assumption | rfl | exact inI_of (by omega) (by omega) | omega | decide | (simp only [sv_ext, sv_mc, Nat.le_refl]; done) | with_unfolding_all (refine @id _ ?_; first | exact Eq.refl _ | exact Nat.le_refl _ | assumption)) only [Nat.reduceAdd, Nat.reduceMul, Nat.reduceLeDiff, Nat.reduceLT, Int.reduceAdd, Int.reduceSub, Int.reduceMul, Int.reduceNeg, Int.reduceLE, Int.reduceLT, Int.reduceToNat, Int.reduceEq, reduceCtorEq, ld_z, ld_s, st1_0, st1_1, st1_s, st2_0, st2_1, st2_s, isJ_i, isJ_r, isJ_n, isJ_l, cs_nil, cs_i, cs_r, cs_l, kF, List.getElem?_cons_succ, List.getElem?_cons_zero, List.set_cons_zero, List.set_cons_succ, GC_s, GC_n, GK_nil, GK_no, GK_yes, not_false_eq_true, back_eq, back_hp, inI_eq, inA_eq, true_and, and_true, and_self, if_true, if_false, bI_0, bI_1, bI_in, bI_T, bI_F, fitF, jmpF, nlF, pjA, iVal.eta, iYr.eta, List.getElem?_toArray, List.length_cons, List.length_nil, true_or, or_true, or_false, false_or, Classical.not_not, Bool.false_eq_true, hp_2, Nat.zero_le, Nat.le_refl, Option.some.injEq, Sum.inl.injEq, Sum.inr.injEq, not_true_eq_false, true_implies, false_implies, implies_true, rd_v, f_num, f_lik, f_dep, f_bnd, f_man, f_wom, f_sta, f_dds, f_who, rd_y, rd_y1, rd_y2, rd_y3, rd_y4, wy, wy1, wy2, wy3, wy4, sxy_mnd, sxy_now, sxy_img, sxy_yr, sxy_xy, sxy_sxy, sv_sxy, f_ord, f_bus, f_wai, f_fin, gw, gm, gX10_sulkOver]
        ((repeat' refine And.intro ?_ ?_) <;> first | exact ha | exact hb | exact ih1 _ _)
      · have z : (A.v .mnd).sulk1 a b c = (A.v .mnd).alk 0 ((A.v .mnd).man c) ((A.v .mnd).wom c) (-(sB (nK ((A.v .mnd).nx 0 ((A.v .mnd).man c))) (nF ((A.v .mnd).nx 0 ((A.v .mnd).man c))))) := by unfold iVal.sulk1; rw [if_pos g, if_pos ⟨gw, gm⟩]; rfl
        rw [z] at ih1
        simp (disch := first | assumption | rfl | exact inI_of (by omega) (by omega) | omega | decide | (simp only [sv_ext, sv_mc, Nat.le_refl]; done) | with_unfolding_all (refine @id _ ?_; first | exact Eq.refl _ | exact Nat.le_refl _ | assumption)) only [Nat.reduceAdd, Nat.reduceMul, Nat.reduceLeDiff, Nat.reduceLT, Int.reduceAdd, Int.reduceSub, Int.reduceMul, Int.reduceNeg, Int.reduceLE, Int.reduceLT, Int.reduceToNat, Int.reduceEq, reduceCtorEq, ld_z, ld_s, st1_0, st1_1, st1_s, st2_0, st2_1, st2_s, isJ_i, isJ_r, isJ_n, isJ_l, cs_nil, cs_i, cs_r, cs_l, kF, List.getElem?_cons_succ, List.getElem?_cons_zero, List.set_cons_zero, List.set_cons_succ, GC_s, GC_n, GK_nil, GK_no, GK_yes, not_false_eq_true, back_eq, back_hp, inI_eq, inA_eq, true_and, and_true, and_self, if_true, if_false, bI_0, bI_1, bI_in, bI_T, bI_F, fitF, jmpF, nlF, pjA, iVal.eta, iYr.eta, List.getElem?_toArray, List.length_cons, List.length_nil, true_or, or_true, or_false, false_or, Classical.not_not, Bool.false_eq_true, hp_2, Nat.zero_le, Nat.le_refl, Option.some.injEq, Sum.inl.injEq, Sum.inr.injEq, not_true_eq_false, true_implies, false_implies, implies_true, rd_v, f_num, f_lik, f_dep, f_bnd, f_man, f_wom, f_sta, f_dds, f_who, rd_y, rd_y1, rd_y2, rd_y3, rd_y4, wy, wy1, wy2, wy3, wy4, sxy_mnd, sxy_now, sxy_img, sxy_yr, sxy_xy, sxy_sxy, sv_sxy, f_ord, f_bus, f_wai, f_fin, gw, gm, natureOf_eq, rd_nat, lkC_ys, kd3_ok, sulk_eq, addLiking_eq, gX10_sulkOver]
        rw [gw] at ih1
        ((repeat' refine And.intro ?_ ?_) <;> first | exact ha | exact hb | exact ih1 _ _)
      · have z : (A.v .mnd).sulk1 a b c = (A.v .mnd).alk 1 ((A.v .mnd).wom c) ((A.v .mnd).man c) (-(sB (nK ((A.v .mnd).nx 1 ((A.v .mnd).wom c))) (nF ((A.v .mnd).nx 1 ((A.v .mnd).wom c))))) := by unfold iVal.sulk1; rw [if_pos g, if_neg (by omega), if_pos ⟨gm, gw⟩]; rfl
        rw [z] at ih1
        simp (disch := first | assumption | rfl | exact inI_of (by omega) (by omega) | omega | decide | (simp only [sv_ext, sv_mc, Nat.le_refl]; done) | with_unfolding_all (refine @id _ ?_; first | exact Eq.refl _ | exact Nat.le_refl _ | assumption)) only [Nat.reduceAdd, Nat.reduceMul, Nat.reduceLeDiff, Nat.reduceLT, Int.reduceAdd, Int.reduceSub, Int.reduceMul, Int.reduceNeg, Int.reduceLE, Int.reduceLT, Int.reduceToNat, Int.reduceEq, reduceCtorEq, ld_z, ld_s, st1_0, st1_1, st1_s, st2_0, st2_1, st2_s, isJ_i, isJ_r, isJ_n, isJ_l, cs_nil, cs_i, cs_r, cs_l, kF, List.getElem?_cons_succ, List.getElem?_cons_zero, List.set_cons_zero, List.set_cons_succ, GC_s, GC_n, GK_nil, GK_no, GK_yes, not_false_eq_true, back_eq, back_hp, inI_eq, inA_eq, true_and, and_true, and_self, if_true, if_false, bI_0, bI_1, bI_in, bI_T, bI_F, fitF, jmpF, nlF, pjA, iVal.eta, iYr.eta, List.getElem?_toArray, List.length_cons, List.length_nil, true_or, or_true, or_false, false_or, Classical.not_not, Bool.false_eq_true, hp_2, Nat.zero_le, Nat.le_refl, Option.some.injEq, Sum.inl.injEq, Sum.inr.injEq, not_true_eq_false, true_implies, false_implies, implies_true, rd_v, f_num, f_lik, f_dep, f_bnd, f_man, f_wom, f_sta, f_dds, f_who, rd_y, rd_y1, rd_y2, rd_y3, rd_y4, wy, wy1, wy2, wy3, wy4, sxy_mnd, sxy_now, sxy_img, sxy_yr, sxy_xy, sxy_sxy, sv_sxy, f_ord, f_bus, f_wai, f_fin, gw, gm, natureOf_eq, rd_nat, lkC_ys, kd3_ok, sulk_eq, addLiking_eq, gX10_sulkOver]
        rw [gm] at ih1
        ((repeat' refine And.intro ?_ ?_) <;> first | exact ha | exact hb | exact ih1 _ _)
      · have z : (A.v .mnd).sulk1 a b c = A.v .mnd := by unfold iVal.sulk1; rw [if_pos g, if_neg (by omega), if_neg (by omega)]
        rw [z] at ih1
        simp (disch := first | assumption | rfl | exact inI_of (by omega) (by omega) | omega | decide | (simp only [sv_ext, sv_mc, Nat.le_refl]; done) | with_unfolding_all (refine @id _ ?_; first | exact Eq.refl _ | exact Nat.le_refl _ | assumption)) only [Nat.reduceAdd, Nat.reduceMul, Nat.reduceLeDiff, Nat.reduceLT, Int.reduceAdd, Int.reduceSub, Int.reduceMul, Int.reduceNeg, Int.reduceLE, Int.reduceLT, Int.reduceToNat, Int.reduceEq, reduceCtorEq, ld_z, ld_s, st1_0, st1_1, st1_s, st2_0, st2_1, st2_s, isJ_i, isJ_r, isJ_n, isJ_l, cs_nil, cs_i, cs_r, cs_l, kF, List.getElem?_cons_succ, List.getElem?_cons_zero, List.set_cons_zero, List.set_cons_succ, GC_s, GC_n, GK_nil, GK_no, GK_yes, not_false_eq_true, back_eq, back_hp, inI_eq, inA_eq, true_and, and_true, and_self, if_true, if_false, bI_0, bI_1, bI_in, bI_T, bI_F, fitF, jmpF, nlF, pjA, iVal.eta, iYr.eta, List.getElem?_toArray, List.length_cons, List.length_nil, true_or, or_true, or_false, false_or, Classical.not_not, Bool.false_eq_true, hp_2, Nat.zero_le, Nat.le_refl, Option.some.injEq, Sum.inl.injEq, Sum.inr.injEq, not_true_eq_false, true_implies, false_implies, implies_true, rd_v, f_num, f_lik, f_dep, f_bnd, f_man, f_wom, f_sta, f_dds, f_who, rd_y, rd_y1, rd_y2, rd_y3, rd_y4, wy, wy1, wy2, wy3, wy4, sxy_mnd, sxy_now, sxy_img, sxy_yr, sxy_xy, sxy_sxy, sv_sxy, f_ord, f_bus, f_wai, f_fin, gw, gm, gX10_sulkOver]
        ((repeat' refine And.intro ?_ ?_) <;> first | exact ha | exact hb | exact ih1 _ _)
theorem sulkOver_eq (hO : OkV (A.v .mnd)) {a b : Int} (ha : inI a = true) (hb : inI b = true) : Call sp sc (d + 3) mX10_sulkOver [.inr (.inr 31), .inl a, .inl b] (hp A) Q = Q none (hp (A.sxy ((A.v .mnd).sulk a b, A.yr))) := Call_eq (by
  have := hO.cp
  apply eX10_sulkOver 40; simp (disch := first | assumption | rfl | exact inI_of (by omega) (by omega) | omega | decide | (simp only [sv_ext, sv_mc, Nat.le_refl]; done) | with_unfolding_all (refine @id _ ?_; first | exact Eq.refl _ | exact Nat.le_refl _ | assumption)) only [Nat.reduceAdd, Nat.reduceMul, Nat.reduceLeDiff, Nat.reduceLT, Int.reduceAdd, Int.reduceSub, Int.reduceMul, Int.reduceNeg, Int.reduceLE, Int.reduceLT, Int.reduceToNat, Int.reduceEq, reduceCtorEq, ld_z, ld_s, st1_0, st1_1, st1_s, st2_0, st2_1, st2_s, isJ_i, isJ_r, isJ_n, isJ_l, cs_nil, cs_i, cs_r, cs_l, kF, List.getElem?_cons_succ, List.getElem?_cons_zero, List.set_cons_zero, List.set_cons_succ, GC_s, GC_n, GK_nil, GK_no, GK_yes, not_false_eq_true, back_eq, back_hp, inI_eq, inA_eq, true_and, and_true, and_self, if_true, if_false, bI_0, bI_1, bI_in, bI_T, bI_F, fitF, jmpF, nlF, pjA, iVal.eta, iYr.eta, List.getElem?_toArray, List.length_cons, List.length_nil, true_or, or_true, or_false, false_or, Classical.not_not, Bool.false_eq_true, hp_2, Nat.zero_le, Nat.le_refl, Option.some.injEq, Sum.inl.injEq, Sum.inr.injEq, not_true_eq_false, true_implies, false_implies, implies_true, gX10_sulkOver]
  exact sulk_loop ha hb (A.v .mnd).cp.toNat 0 A _ _ hO (by omega) (by omega) ⟨rfl, rfl⟩)
theorem end_eq (h1 : (A.v .mnd).sa.length = 4) (h2 : A.yr.en.length = 4) {c v : Int} (g0 : 0 ≤ c) (g1 : c < 4) : Call sp sc d mX10_end [.inr (.inr 31), .inl c, .inl v] (hp A) Q = Q none (hp (A.sxy (endA A.xy c v))) := Call_eq (by
  apply eX10_end 40; simp (disch := first | assumption | rfl | exact inI_of (by omega) (by omega) | omega | decide | (simp only [sv_ext, sv_mc, Nat.le_refl]; done) | with_unfolding_all (refine @id _ ?_; first | exact Eq.refl _ | exact Nat.le_refl _ | assumption)) only [Nat.reduceAdd, Nat.reduceMul, Nat.reduceLeDiff, Nat.reduceLT, Int.reduceAdd, Int.reduceSub, Int.reduceMul, Int.reduceNeg, Int.reduceLE, Int.reduceLT, Int.reduceToNat, Int.reduceEq, reduceCtorEq, ld_z, ld_s, st1_0, st1_1, st1_s, st2_0, st2_1, st2_s, isJ_i, isJ_r, isJ_n, isJ_l, cs_nil, cs_i, cs_r, cs_l, kF, List.getElem?_cons_succ, List.getElem?_cons_zero, List.set_cons_zero, List.set_cons_succ, GC_s, GC_n, GK_nil, GK_no, GK_yes, not_false_eq_true, back_eq, back_hp, inI_eq, inA_eq, true_and, and_true, and_self, if_true, if_false, bI_0, bI_1, bI_in, bI_T, bI_F, fitF, jmpF, nlF, pjA, iVal.eta, iYr.eta, List.getElem?_toArray, List.length_cons, List.length_nil, true_or, or_true, or_false, false_or, Classical.not_not, Bool.false_eq_true, hp_2, Nat.zero_le, Nat.le_refl, Option.some.injEq, Sum.inl.injEq, Sum.inr.injEq, not_true_eq_false, true_implies, false_implies, implies_true, rd_v, f_num, f_lik, f_dep, f_bnd, f_man, f_wom, f_sta, f_dds, f_who, rd_y, rd_y1, rd_y2, rd_y3, rd_y4, wy, wy1, wy2, wy3, wy4, sxy_mnd, sxy_now, sxy_img, sxy_yr, sxy_xy, sxy_sxy, sv_sxy, f_ord, f_bus, f_wai, f_fin, gX10_end, rd_v8, wr_v8, h1, h2]
  rfl)
theorem lose_loop {a b : Int} (ha : inI a = true) (hb : inI b = true) : ∀ (k : Nat) (c : Int) (S : iXY), OkS S B → 0 ≤ c → c + k = S.1.cp → Q none (hp (A.sxy (loseF a b k c S))) → Run sp sc (d + 3) mX10_loseCouplesWith 2 [some (.inr (.inr 31)), some (.inl a), some (.inl b), some (.inl c)] [] (hp (A.sxy S)) Q := by
  intro k
  induction k with
  | zero =>
    intro c S hS h0 h1 hq
    have hcp := hS.1.cp
    refine G_run (B := [2]) 60 _ _ _ _ ?_
    have e : S.1.cp ≤ c := by omega
    simp (disch := first | assumption | rfl | exact inI_of (by omega) (by omega) | omega | decide | (simp only [sv_ext, sv_mc, Nat.le_refl]; done) | with_unfolding_all (refine @id _ ?_; first | exact Eq.refl _ | exact Nat.le_refl _ | assumption)) only [Nat.reduceAdd, Nat.reduceMul, Nat.reduceLeDiff, Nat.reduceLT, Int.reduceAdd, Int.reduceSub, Int.reduceMul, Int.reduceNeg, Int.reduceLE, Int.reduceLT, Int.reduceToNat, Int.reduceEq, reduceCtorEq, ld_z, ld_s, st1_0, st1_1, st1_s, st2_0, st2_1, st2_s, isJ_i, isJ_r, isJ_n, isJ_l, cs_nil, cs_i, cs_r, cs_l, kF, List.getElem?_cons_succ, List.getElem?_cons_zero, List.set_cons_zero, List.set_cons_succ, GC_s, GC_n, GK_nil, GK_no, GK_yes, not_false_eq_true, back_eq, back_hp, inI_eq, inA_eq, true_and, and_true, and_self, if_true, if_false, bI_0, bI_1, bI_in, bI_T, bI_F, fitF, jmpF, nlF, pjA, iVal.eta, iYr.eta, List.getElem?_toArray, List.length_cons, List.length_nil, true_or, or_true, or_false, false_or, Classical.not_not, Bool.false_eq_true, hp_2, Nat.zero_le, Nat.le_refl, Option.some.injEq, Sum.inl.injEq, Sum.inr.injEq, not_true_eq_false, true_implies, false_implies, implies_true, rd_v, f_num, f_lik, f_dep, f_bnd, f_man, f_wom, f_sta, f_dds, f_who, rd_y, rd_y1, rd_y2, rd_y3, rd_y4, wy, wy1, wy2, wy3, wy4, sxy_mnd, sxy_now, sxy_img, sxy_yr, sxy_xy, sxy_sxy, sv_sxy, f_ord, f_bus, f_wai, f_fin, gX10_loseCouplesWith, e]
    exact hq
  | succ k ih =>
    intro c S hS h0 h1 hq
    have hO := hS.1
    have hcp := hO.cp
    have n0 := hO.n0
    have n1 := hO.n1
    have em := hO.man c h0 (by omega)
    have ew := hO.wom c h0 (by omega)
    refine G_run (B := [2]) 60 _ _ _ _ ?_
    have e : ¬ S.1.cp ≤ c := by omega
    have ls := hO.lsa
    have le := hS.2.len
    unfold loseF at hq
    simp (disch := first | assumption | rfl | exact inI_of (by omega) (by omega) | omega | decide | (simp only [sv_ext, sv_mc, Nat.le_refl]; done) | with_unfolding_all (refine @id _ ?_; first | exact Eq.refl _ | exact Nat.le_refl _ | assumption)) only [Nat.reduceAdd, Nat.reduceMul, Nat.reduceLeDiff, Nat.reduceLT, Int.reduceAdd, Int.reduceSub, Int.reduceMul, Int.reduceNeg, Int.reduceLE, Int.reduceLT, Int.reduceToNat, Int.reduceEq, reduceCtorEq, ld_z, ld_s, st1_0, st1_1, st1_s, st2_0, st2_1, st2_s, isJ_i, isJ_r, isJ_n, isJ_l, cs_nil, cs_i, cs_r, cs_l, kF, List.getElem?_cons_succ, List.getElem?_cons_zero, List.set_cons_zero, List.set_cons_succ, GC_s, GC_n, GK_nil, GK_no, GK_yes, not_false_eq_true, back_eq, back_hp, inI_eq, inA_eq, true_and, and_true, and_self, if_true, if_false, bI_0, bI_1, bI_in, bI_T, bI_F, fitF, jmpF, nlF, pjA, iVal.eta, iYr.eta, List.getElem?_toArray, List.length_cons, List.length_nil, true_or, or_true, or_false, false_or, Classical.not_not, Bool.false_eq_true, hp_2, Nat.zero_le, Nat.le_refl, Option.some.injEq, Sum.inl.injEq, Sum.inr.injEq, not_true_eq_false, true_implies, false_implies, implies_true, rd_v, f_num, f_lik, f_dep, f_bnd, f_man, f_wom, f_sta, f_dds, f_who, rd_y, rd_y1, rd_y2, rd_y3, rd_y4, wy, wy1, wy2, wy3, wy4, sxy_mnd, sxy_now, sxy_img, sxy_yr, sxy_xy, sxy_sxy, sv_sxy, f_ord, f_bus, f_wai, f_fin, gX10_loseCouplesWith, e, goesOn_eq, rd_v6, rd_v7, hO.lme, hO.lwo, end_eq]
    refine ⟨fun g => ?_, fun g => ?_⟩
    · rw [if_neg (by omega)] at hq
      exact ih _ _ hS (by omega) (by omega) hq
    · have h4 := okS_end hS h0 (by omega) (by omega : (1 : Int) ≤ 2) (by omega)
      by_cases gm : S.1.man c = a
      · rw [if_pos ⟨g, Or.inl gm⟩] at hq
        simp (disch := first | assumption | rfl | exact inI_of (by omega) (by omega) | omega | decide | (simp only [sv_ext, sv_mc, Nat.le_refl]; done) | with_unfolding_all (refine @id _ ?_; first | exact Eq.refl _ | exact Nat.le_refl _ | assumption)) only [Nat.reduceAdd, Nat.reduceMul, Nat.reduceLeDiff, Nat.reduceLT, Int.reduceAdd, Int.reduceSub, Int.reduceMul, Int.reduceNeg, Int.reduceLE, Int.reduceLT, Int.reduceToNat, Int.reduceEq, reduceCtorEq, ld_z, ld_s, st1_0, st1_1, st1_s, st2_0, st2_1, st2_s, isJ_i, isJ_r, isJ_n, isJ_l, cs_nil, cs_i, cs_r, cs_l, kF, List.getElem?_cons_succ, List.getElem?_cons_zero, List.set_cons_zero, List.set_cons_succ, GC_s, GC_n, GK_nil, GK_no, GK_yes, not_false_eq_true, back_eq, back_hp, inI_eq, inA_eq, true_and, and_true, and_self, if_true, if_false, bI_0, bI_1, bI_in, bI_T, bI_F, fitF, jmpF, nlF, pjA, iVal.eta, iYr.eta, List.getElem?_toArray, List.length_cons, List.length_nil, true_or, or_true, or_false, false_or, Classical.not_not, Bool.false_eq_true, hp_2, Nat.zero_le, Nat.le_refl, Option.some.injEq, Sum.inl.injEq, Sum.inr.injEq, not_true_eq_false, true_implies, false_implies, implies_true, rd_v, f_num, f_lik, f_dep, f_bnd, f_man, f_wom, f_sta, f_dds, f_who, rd_y, rd_y1, rd_y2, rd_y3, rd_y4, wy, wy1, wy2, wy3, wy4, sxy_mnd, sxy_now, sxy_img, sxy_yr, sxy_xy, sxy_sxy, sv_sxy, f_ord, f_bus, f_wai, f_fin, gm, ha, gX10_loseCouplesWith, end_eq]
        exact ih _ _ h4 (by omega) (by show c + 1 + k = S.1.cp; omega) hq
      · by_cases gw : S.1.wom c = b
        · rw [if_pos ⟨g, Or.inr gw⟩] at hq
          simp (disch := first | assumption | rfl | exact inI_of (by omega) (by omega) | omega | decide | (simp only [sv_ext, sv_mc, Nat.le_refl]; done) | with_unfolding_all (refine @id _ ?_; first | exact Eq.refl _ | exact Nat.le_refl _ | assumption)) only [Nat.reduceAdd, Nat.reduceMul, Nat.reduceLeDiff, Nat.reduceLT, Int.reduceAdd, Int.reduceSub, Int.reduceMul, Int.reduceNeg, Int.reduceLE, Int.reduceLT, Int.reduceToNat, Int.reduceEq, reduceCtorEq, ld_z, ld_s, st1_0, st1_1, st1_s, st2_0, st2_1, st2_s, isJ_i, isJ_r, isJ_n, isJ_l, cs_nil, cs_i, cs_r, cs_l, kF, List.getElem?_cons_succ, List.getElem?_cons_zero, List.set_cons_zero, List.set_cons_succ, GC_s, GC_n, GK_nil, GK_no, GK_yes, not_false_eq_true, back_eq, back_hp, inI_eq, inA_eq, true_and, and_true, and_self, if_true, if_false, bI_0, bI_1, bI_in, bI_T, bI_F, fitF, jmpF, nlF, pjA, iVal.eta, iYr.eta, List.getElem?_toArray, List.length_cons, List.length_nil, true_or, or_true, or_false, false_or, Classical.not_not, Bool.false_eq_true, hp_2, Nat.zero_le, Nat.le_refl, Option.some.injEq, Sum.inl.injEq, Sum.inr.injEq, not_true_eq_false, true_implies, false_implies, implies_true, rd_v, f_num, f_lik, f_dep, f_bnd, f_man, f_wom, f_sta, f_dds, f_who, rd_y, rd_y1, rd_y2, rd_y3, rd_y4, wy, wy1, wy2, wy3, wy4, sxy_mnd, sxy_now, sxy_img, sxy_yr, sxy_xy, sxy_sxy, sv_sxy, f_ord, f_bus, f_wai, f_fin, gm, ha, gw, hb, gX10_loseCouplesWith, end_eq]
          exact ih _ _ h4 (by omega) (by show c + 1 + k = S.1.cp; omega) hq
        · rw [if_neg (by omega)] at hq
          simp (disch := first | assumption | rfl | exact inI_of (by omega) (by omega) | omega | decide | (simp only [sv_ext, sv_mc, Nat.le_refl]; done) | with_unfolding_all (refine @id _ ?_; first | exact Eq.refl _ | exact Nat.le_refl _ | assumption)) only [Nat.reduceAdd, Nat.reduceMul, Nat.reduceLeDiff, Nat.reduceLT, Int.reduceAdd, Int.reduceSub, Int.reduceMul, Int.reduceNeg, Int.reduceLE, Int.reduceLT, Int.reduceToNat, Int.reduceEq, reduceCtorEq, ld_z, ld_s, st1_0, st1_1, st1_s, st2_0, st2_1, st2_s, isJ_i, isJ_r, isJ_n, isJ_l, cs_nil, cs_i, cs_r, cs_l, kF, List.getElem?_cons_succ, List.getElem?_cons_zero, List.set_cons_zero, List.set_cons_succ, GC_s, GC_n, GK_nil, GK_no, GK_yes, not_false_eq_true, back_eq, back_hp, inI_eq, inA_eq, true_and, and_true, and_self, if_true, if_false, bI_0, bI_1, bI_in, bI_T, bI_F, fitF, jmpF, nlF, pjA, iVal.eta, iYr.eta, List.getElem?_toArray, List.length_cons, List.length_nil, true_or, or_true, or_false, false_or, Classical.not_not, Bool.false_eq_true, hp_2, Nat.zero_le, Nat.le_refl, Option.some.injEq, Sum.inl.injEq, Sum.inr.injEq, not_true_eq_false, true_implies, false_implies, implies_true, rd_v, f_num, f_lik, f_dep, f_bnd, f_man, f_wom, f_sta, f_dds, f_who, rd_y, rd_y1, rd_y2, rd_y3, rd_y4, wy, wy1, wy2, wy3, wy4, sxy_mnd, sxy_now, sxy_img, sxy_yr, sxy_xy, sxy_sxy, sv_sxy, f_ord, f_bus, f_wai, f_fin, gm, ha, gw, hb, gX10_loseCouplesWith, end_eq]
          exact ih _ _ hS (by omega) (by omega) hq
theorem lose_eq (hS : OkS S B) {a b : Int} (ha : inI a = true) (hb : inI b = true) : Call sp sc (d + 3) mX10_loseCouplesWith [.inr (.inr 31), .inl a, .inl b] (hp (A.sxy S)) Q = Q none (hp (A.sxy (loseA S a b))) := Call_eq (by
  have := hS.1.cp
  apply eX10_loseCouplesWith 40; simp (disch := first | assumption | rfl | exact inI_of (by omega) (by omega) | omega | decide | (simp only [sv_ext, sv_mc, Nat.le_refl]; done) | with_unfolding_all (refine @id _ ?_; first | exact Eq.refl _ | exact Nat.le_refl _ | assumption)) only [Nat.reduceAdd, Nat.reduceMul, Nat.reduceLeDiff, Nat.reduceLT, Int.reduceAdd, Int.reduceSub, Int.reduceMul, Int.reduceNeg, Int.reduceLE, Int.reduceLT, Int.reduceToNat, Int.reduceEq, reduceCtorEq, ld_z, ld_s, st1_0, st1_1, st1_s, st2_0, st2_1, st2_s, isJ_i, isJ_r, isJ_n, isJ_l, cs_nil, cs_i, cs_r, cs_l, kF, List.getElem?_cons_succ, List.getElem?_cons_zero, List.set_cons_zero, List.set_cons_succ, GC_s, GC_n, GK_nil, GK_no, GK_yes, not_false_eq_true, back_eq, back_hp, inI_eq, inA_eq, true_and, and_true, and_self, if_true, if_false, bI_0, bI_1, bI_in, bI_T, bI_F, fitF, jmpF, nlF, pjA, iVal.eta, iYr.eta, List.getElem?_toArray, List.length_cons, List.length_nil, true_or, or_true, or_false, false_or, Classical.not_not, Bool.false_eq_true, hp_2, Nat.zero_le, Nat.le_refl, Option.some.injEq, Sum.inl.injEq, Sum.inr.injEq, not_true_eq_false, true_implies, false_implies, implies_true, gX10_loseCouplesWith]
  exact lose_loop ha hb S.1.cp.toNat 0 S hS (by omega) (by omega) ⟨rfl, rfl⟩)
theorem gs1 {l : List Int} {i v : Int} (hi : 0 ≤ i) (hl : i < l.length) : (l.set i.toNat v).getD i.toNat 0 = v := by rw [gs hi hi hl, if_pos rfl]
theorem bindBySlip_eq (hS : OkS S B) (hB : B ≤ 1000000) {c a b : Int} (h0 : 0 ≤ c) (h1 : c < S.1.cp) (g0 : 0 ≤ a) (g1 : a < S.1.num 0) (g2 : 0 ≤ b) (g3 : b < S.1.num 1) : Call sp sc (d + 4) mX10_bindBySlip [.inr (.inr 31), .inl c, .inl a, .inl b] (hp (A.sxy S)) Q = Q none (hp (A.sxy (slipA S c a b))) := Call_eq (by
  have hO := hS.1
  have hY := hS.2
  have hcp := hO.cp
  have n0 := hO.n0
  have n1 := hO.n1
  have ls := hO.lsa
  have le := hY.len
  have hsp := hY.sp
  have hps := hY.ps
  have s1 : OkS (S.1, slipY S.2) (B + 1) := ⟨hO, (OkY.mk (hY.mono (by omega : B ≤ B + 1)).lod (hY.mono (by omega : B ≤ B + 1)).lbz (hY.mono (by omega : B ≤ B + 1)).lwt (hY.mono (by omega : B ≤ B + 1)).len (hY.mono (by omega : B ≤ B + 1)).ord (hY.mono (by omega : B ≤ B + 1)).inj (hY.mono (by omega : B ≤ B + 1)).bus (hY.mono (by omega : B ≤ B + 1)).wai (hY.mono (by omega : B ≤ B + 1)).fin (hY.mono (by omega : B ≤ B + 1)).ps (hY.mono (by omega : B ≤ B + 1)).dn (by show 0 ≤ S.2.sp + 1 ∧ S.2.sp + 1 ≤ B + 1; omega) (by have := hY.fs; show 0 ≤ (if S.2.sp + 1 = 1 then S.2.ps else S.2.fs) ∧ (if S.2.sp + 1 = 1 then S.2.ps else S.2.fs) ≤ B + 1; split <;> omega))⟩
  have s2 := okS_end s1 h0 h1 (by omega : (1 : Int) ≤ 2) (by omega)
  have s3 : OkS ((endA (S.1, slipY S.2) c 2).1.bind a b, (endA (S.1, slipY S.2) c 2).2) (B + 1) := ⟨okV_bind s2.1 g0 g1 g2 g3, s2.2.cpc rfl⟩
  have hO2 := s2.1
  apply eX10_bindBySlip 80
  have hO3 := s1.1
  have l3 : (slipY S.2).en.length = 4 := le
  unfold slipA bindA
  by_cases z : S.2.sp + 1 = 1
  · have ez : slipY S.2 = (iYr.mk S.2.od S.2.bz S.2.wt S.2.en S.2.ps S.2.dn (1) (S.2.ps)) := by unfold slipY; rw [if_pos z, z]
    rw [ez] at s1 s2 s3 hO2 l3 ⊢
    simp (disch := first | assumption | rfl | exact inI_of (by omega) (by omega) | omega | decide | (simp only [sv_ext, sv_mc, Nat.le_refl]; done) | with_unfolding_all (refine @id _ ?_; first | exact Eq.refl _ | exact Nat.le_refl _ | assumption)) only [Nat.reduceAdd, Nat.reduceMul, Nat.reduceLeDiff, Nat.reduceLT, Int.reduceAdd, Int.reduceSub, Int.reduceMul, Int.reduceNeg, Int.reduceLE, Int.reduceLT, Int.reduceToNat, Int.reduceEq, reduceCtorEq, ld_z, ld_s, st1_0, st1_1, st1_s, st2_0, st2_1, st2_s, isJ_i, isJ_r, isJ_n, isJ_l, cs_nil, cs_i, cs_r, cs_l, kF, List.getElem?_cons_succ, List.getElem?_cons_zero, List.set_cons_zero, List.set_cons_succ, GC_s, GC_n, GK_nil, GK_no, GK_yes, not_false_eq_true, back_eq, back_hp, inI_eq, inA_eq, true_and, and_true, and_self, if_true, if_false, bI_0, bI_1, bI_in, bI_T, bI_F, fitF, jmpF, nlF, pjA, iVal.eta, iYr.eta, List.getElem?_toArray, List.length_cons, List.length_nil, true_or, or_true, or_false, false_or, Classical.not_not, Bool.false_eq_true, hp_2, Nat.zero_le, Nat.le_refl, Option.some.injEq, Sum.inl.injEq, Sum.inr.injEq, not_true_eq_false, true_implies, false_implies, implies_true, rd_v, f_num, f_lik, f_dep, f_bnd, f_man, f_wom, f_sta, f_dds, f_who, rd_y, rd_y1, rd_y2, rd_y3, rd_y4, wy, wy1, wy2, wy3, wy4, sxy_mnd, sxy_now, sxy_img, sxy_yr, sxy_xy, sxy_sxy, sv_sxy, f_ord, f_bus, f_wai, f_fin, gX10_bindBySlip, z, end_eq, bind_eq, lose_eq s3]
  · have ez : slipY S.2 = (iYr.mk S.2.od S.2.bz S.2.wt S.2.en S.2.ps S.2.dn (S.2.sp + 1) S.2.fs) := by unfold slipY; rw [if_neg z]
    rw [ez] at s1 s2 s3 hO2 l3 ⊢
    simp (disch := first | assumption | rfl | exact inI_of (by omega) (by omega) | omega | decide | (simp only [sv_ext, sv_mc, Nat.le_refl]; done) | with_unfolding_all (refine @id _ ?_; first | exact Eq.refl _ | exact Nat.le_refl _ | assumption)) only [Nat.reduceAdd, Nat.reduceMul, Nat.reduceLeDiff, Nat.reduceLT, Int.reduceAdd, Int.reduceSub, Int.reduceMul, Int.reduceNeg, Int.reduceLE, Int.reduceLT, Int.reduceToNat, Int.reduceEq, reduceCtorEq, ld_z, ld_s, st1_0, st1_1, st1_s, st2_0, st2_1, st2_s, isJ_i, isJ_r, isJ_n, isJ_l, cs_nil, cs_i, cs_r, cs_l, kF, List.getElem?_cons_succ, List.getElem?_cons_zero, List.set_cons_zero, List.set_cons_succ, GC_s, GC_n, GK_nil, GK_no, GK_yes, not_false_eq_true, back_eq, back_hp, inI_eq, inA_eq, true_and, and_true, and_self, if_true, if_false, bI_0, bI_1, bI_in, bI_T, bI_F, fitF, jmpF, nlF, pjA, iVal.eta, iYr.eta, List.getElem?_toArray, List.length_cons, List.length_nil, true_or, or_true, or_false, false_or, Classical.not_not, Bool.false_eq_true, hp_2, Nat.zero_le, Nat.le_refl, Option.some.injEq, Sum.inl.injEq, Sum.inr.injEq, not_true_eq_false, true_implies, false_implies, implies_true, rd_v, f_num, f_lik, f_dep, f_bnd, f_man, f_wom, f_sta, f_dds, f_who, rd_y, rd_y1, rd_y2, rd_y3, rd_y4, wy, wy1, wy2, wy3, wy4, sxy_mnd, sxy_now, sxy_img, sxy_yr, sxy_xy, sxy_sxy, sv_sxy, f_ord, f_bus, f_wai, f_fin, gX10_bindBySlip, z, end_eq, bind_eq, lose_eq s3])
theorem doDeed_eq (hS : OkS S B) (hB : B ≤ 1000000) {c : Int} (h0 : 0 ≤ c) (h1 : c < S.1.cp) (hs : S.1.sta c = 0) : Call sp sc (d + 4) mX10_doDeed [.inr (.inr 31), .inl c] (hp (A.sxy S)) Q = Q none (hp (A.sxy (deedA S c))) := Call_eq (by
  have hO := hS.1
  have hY := hS.2
  have hcp := hO.cp
  have n0 := hO.n0
  have n1 := hO.n1
  have ls := hO.lsa
  have le := hY.len
  have em := hO.man c h0 h1
  have ew := hO.wom c h0 h1
  have ld := hO.ldd
  have lm := hO.lme
  have lw := hO.lwo
  have ed := hO.dds c h0 (by omega)
  have eg := hO.ddg c h0 (by omega) hs
  have sd := okS_deed hS h0 h1 hs
  have zi : (S.1.inc c).dds c = S.1.dds c + 1 := by rw [dds_inc ld h0 (by omega) h0, if_pos rfl]
  apply eX10_doDeed 80
  unfold deedA at *
  by_cases z : S.1.dds c + 1 < 6
  · rw [if_pos z] at sd ⊢
    simp (disch := first | assumption | rfl | exact inI_of (by omega) (by omega) | omega | decide | (simp only [sv_ext, sv_mc, Nat.le_refl]; done) | with_unfolding_all (refine @id _ ?_; first | exact Eq.refl _ | exact Nat.le_refl _ | assumption)) only [Nat.reduceAdd, Nat.reduceMul, Nat.reduceLeDiff, Nat.reduceLT, Int.reduceAdd, Int.reduceSub, Int.reduceMul, Int.reduceNeg, Int.reduceLE, Int.reduceLT, Int.reduceToNat, Int.reduceEq, reduceCtorEq, ld_z, ld_s, st1_0, st1_1, st1_s, st2_0, st2_1, st2_s, isJ_i, isJ_r, isJ_n, isJ_l, cs_nil, cs_i, cs_r, cs_l, kF, List.getElem?_cons_succ, List.getElem?_cons_zero, List.set_cons_zero, List.set_cons_succ, GC_s, GC_n, GK_nil, GK_no, GK_yes, not_false_eq_true, back_eq, back_hp, inI_eq, inA_eq, true_and, and_true, and_self, if_true, if_false, bI_0, bI_1, bI_in, bI_T, bI_F, fitF, jmpF, nlF, pjA, iVal.eta, iYr.eta, List.getElem?_toArray, List.length_cons, List.length_nil, true_or, or_true, or_false, false_or, Classical.not_not, Bool.false_eq_true, hp_2, Nat.zero_le, Nat.le_refl, Option.some.injEq, Sum.inl.injEq, Sum.inr.injEq, not_true_eq_false, true_implies, false_implies, implies_true, rd_v, f_num, f_lik, f_dep, f_bnd, f_man, f_wom, f_sta, f_dds, f_who, rd_y, rd_y1, rd_y2, rd_y3, rd_y4, wy, wy1, wy2, wy3, wy4, sxy_mnd, sxy_now, sxy_img, sxy_yr, sxy_xy, sxy_sxy, sv_sxy, f_ord, f_bus, f_wai, f_fin, gX10_doDeed, rd_v9, wr_v9, ld, zi, z, inc_ddl, f_inc]
  · rw [if_neg z] at sd ⊢
    unfold bindA at *
    have hO2 : OkV (endA (S.1.inc c, (iYr.mk S.2.od S.2.bz S.2.wt S.2.en S.2.ps (S.2.dn + 1) S.2.sp S.2.fs)) c 1).1 := okV_inc6 hO h0 h1 (by omega)
    have hO3 : OkV ((endA (S.1.inc c, (iYr.mk S.2.od S.2.bz S.2.wt S.2.en S.2.ps (S.2.dn + 1) S.2.sp S.2.fs)) c 1).1.bind (S.1.man c) (S.1.wom c)) := okV_bind hO2 em.1 em.2 ew.1 ew.2
    have hdn := hY.dn
    have s3 : OkS ((endA (S.1.inc c, (iYr.mk S.2.od S.2.bz S.2.wt S.2.en S.2.ps (S.2.dn + 1) S.2.sp S.2.fs)) c 1).1.bind (S.1.man c) (S.1.wom c), (endA (S.1.inc c, (iYr.mk S.2.od S.2.bz S.2.wt S.2.en S.2.ps (S.2.dn + 1) S.2.sp S.2.fs)) c 1).2) (B + 1) := by
      have e0 : OkS (S.1, (iYr.mk S.2.od S.2.bz S.2.wt S.2.en S.2.ps (S.2.dn + 1) S.2.sp S.2.fs)) (B + 1) := ⟨hO, (OkY.mk (hY.mono (by omega : B ≤ B + 1)).lod (hY.mono (by omega : B ≤ B + 1)).lbz (hY.mono (by omega : B ≤ B + 1)).lwt (hY.mono (by omega : B ≤ B + 1)).len (hY.mono (by omega : B ≤ B + 1)).ord (hY.mono (by omega : B ≤ B + 1)).inj (hY.mono (by omega : B ≤ B + 1)).bus (hY.mono (by omega : B ≤ B + 1)).wai (hY.mono (by omega : B ≤ B + 1)).fin (hY.mono (by omega : B ≤ B + 1)).ps (by show 0 ≤ S.2.dn + 1 ∧ S.2.dn + 1 ≤ B + 1; omega) (hY.mono (by omega : B ≤ B + 1)).sp (hY.mono (by omega : B ≤ B + 1)).fs)⟩
      have e1 := okS_end e0 h0 h1 (by omega : (1 : Int) ≤ 1) (by omega)
      exact ⟨hO3, e1.2.cpc rfl⟩
    simp (disch := first | assumption | rfl | exact inI_of (by omega) (by omega) | omega | decide | (simp only [sv_ext, sv_mc, Nat.le_refl]; done) | with_unfolding_all (refine @id _ ?_; first | exact Eq.refl _ | exact Nat.le_refl _ | assumption)) only [Nat.reduceAdd, Nat.reduceMul, Nat.reduceLeDiff, Nat.reduceLT, Int.reduceAdd, Int.reduceSub, Int.reduceMul, Int.reduceNeg, Int.reduceLE, Int.reduceLT, Int.reduceToNat, Int.reduceEq, reduceCtorEq, ld_z, ld_s, st1_0, st1_1, st1_s, st2_0, st2_1, st2_s, isJ_i, isJ_r, isJ_n, isJ_l, cs_nil, cs_i, cs_r, cs_l, kF, List.getElem?_cons_succ, List.getElem?_cons_zero, List.set_cons_zero, List.set_cons_succ, GC_s, GC_n, GK_nil, GK_no, GK_yes, not_false_eq_true, back_eq, back_hp, inI_eq, inA_eq, true_and, and_true, and_self, if_true, if_false, bI_0, bI_1, bI_in, bI_T, bI_F, fitF, jmpF, nlF, pjA, iVal.eta, iYr.eta, List.getElem?_toArray, List.length_cons, List.length_nil, true_or, or_true, or_false, false_or, Classical.not_not, Bool.false_eq_true, hp_2, Nat.zero_le, Nat.le_refl, Option.some.injEq, Sum.inl.injEq, Sum.inr.injEq, not_true_eq_false, true_implies, false_implies, implies_true, rd_v, f_num, f_lik, f_dep, f_bnd, f_man, f_wom, f_sta, f_dds, f_who, rd_y, rd_y1, rd_y2, rd_y3, rd_y4, wy, wy1, wy2, wy3, wy4, sxy_mnd, sxy_now, sxy_img, sxy_yr, sxy_xy, sxy_sxy, sv_sxy, f_ord, f_bus, f_wai, f_fin, gX10_doDeed, rd_v9, wr_v9, ld, zi, inc_ddl, z, end_eq, bind_eq, lose_eq s3, rd_v6, rd_v7, lm, lw, f_inc, en_man, en_wom, en_me, en_wo, inc_man, inc_wom, inc_me, inc_wo, bd_man, bd_wom, bd_me, bd_wo])
theorem waitAll_loop (hO : OkV (A.v .mnd)) {n : Int} : ∀ (k : Nat) (c : Int) (Y : iYr), Y.wt.length = 4 → 0 ≤ c → c + k = (A.v .mnd).cp → Q none (hp (A.sxy (A.v .mnd, waitF (A.v .mnd) n k c Y))) → Run sp sc (d + 1) mX10_waitAll 25 [some (.inr (.inr 31)), some (.inl n), some (.inl c)] [] (hp (A.sxy (A.v .mnd, Y))) Q := by
  have hcp := hO.cp
  intro k
  induction k with
  | zero =>
    intro c Y hl h0 h1 hq
    refine G_run (B := [25]) 60 _ _ _ _ ?_
    have e : (A.v .mnd).cp ≤ c := by omega
    simp (disch := first | assumption | rfl | exact inI_of (by omega) (by omega) | omega | decide | (simp only [sv_ext, sv_mc, Nat.le_refl]; done) | with_unfolding_all (refine @id _ ?_; first | exact Eq.refl _ | exact Nat.le_refl _ | assumption)) only [Nat.reduceAdd, Nat.reduceMul, Nat.reduceLeDiff, Nat.reduceLT, Int.reduceAdd, Int.reduceSub, Int.reduceMul, Int.reduceNeg, Int.reduceLE, Int.reduceLT, Int.reduceToNat, Int.reduceEq, reduceCtorEq, ld_z, ld_s, st1_0, st1_1, st1_s, st2_0, st2_1, st2_s, isJ_i, isJ_r, isJ_n, isJ_l, cs_nil, cs_i, cs_r, cs_l, kF, List.getElem?_cons_succ, List.getElem?_cons_zero, List.set_cons_zero, List.set_cons_succ, GC_s, GC_n, GK_nil, GK_no, GK_yes, not_false_eq_true, back_eq, back_hp, inI_eq, inA_eq, true_and, and_true, and_self, if_true, if_false, bI_0, bI_1, bI_in, bI_T, bI_F, fitF, jmpF, nlF, pjA, iVal.eta, iYr.eta, List.getElem?_toArray, List.length_cons, List.length_nil, true_or, or_true, or_false, false_or, Classical.not_not, Bool.false_eq_true, hp_2, Nat.zero_le, Nat.le_refl, Option.some.injEq, Sum.inl.injEq, Sum.inr.injEq, not_true_eq_false, true_implies, false_implies, implies_true, rd_v, f_num, f_lik, f_dep, f_bnd, f_man, f_wom, f_sta, f_dds, f_who, rd_y, rd_y1, rd_y2, rd_y3, rd_y4, wy, wy1, wy2, wy3, wy4, sxy_mnd, sxy_now, sxy_img, sxy_yr, sxy_xy, sxy_sxy, sv_sxy, f_ord, f_bus, f_wai, f_fin, gX10_waitAll, e]
    exact hq
  | succ k ih =>
    intro c Y hl h0 h1 hq
    refine G_run (B := [25]) 60 _ _ _ _ ?_
    have e : ¬ (A.v .mnd).cp ≤ c := by omega
    have hO2 : OkV ((A.sxy (A.v .mnd, Y)).v .mnd) := hO
    unfold waitF at hq
    simp (disch := first | assumption | rfl | exact inI_of (by omega) (by omega) | omega | decide | (simp only [sv_ext, sv_mc, Nat.le_refl]; done) | with_unfolding_all (refine @id _ ?_; first | exact Eq.refl _ | exact Nat.le_refl _ | assumption)) only [Nat.reduceAdd, Nat.reduceMul, Nat.reduceLeDiff, Nat.reduceLT, Int.reduceAdd, Int.reduceSub, Int.reduceMul, Int.reduceNeg, Int.reduceLE, Int.reduceLT, Int.reduceToNat, Int.reduceEq, reduceCtorEq, ld_z, ld_s, st1_0, st1_1, st1_s, st2_0, st2_1, st2_s, isJ_i, isJ_r, isJ_n, isJ_l, cs_nil, cs_i, cs_r, cs_l, kF, List.getElem?_cons_succ, List.getElem?_cons_zero, List.set_cons_zero, List.set_cons_succ, GC_s, GC_n, GK_nil, GK_no, GK_yes, not_false_eq_true, back_eq, back_hp, inI_eq, inA_eq, true_and, and_true, and_self, if_true, if_false, bI_0, bI_1, bI_in, bI_T, bI_F, fitF, jmpF, nlF, pjA, iVal.eta, iYr.eta, List.getElem?_toArray, List.length_cons, List.length_nil, true_or, or_true, or_false, false_or, Classical.not_not, Bool.false_eq_true, hp_2, Nat.zero_le, Nat.le_refl, Option.some.injEq, Sum.inl.injEq, Sum.inr.injEq, not_true_eq_false, true_implies, false_implies, implies_true, rd_v, f_num, f_lik, f_dep, f_bnd, f_man, f_wom, f_sta, f_dds, f_who, rd_y, rd_y1, rd_y2, rd_y3, rd_y4, wy, wy1, wy2, wy3, wy4, sxy_mnd, sxy_now, sxy_img, sxy_yr, sxy_xy, sxy_sxy, sv_sxy, f_ord, f_bus, f_wai, f_fin, gX10_waitAll, e, goesOn_eq, hl]
    refine ⟨fun g => ?_, fun g => ?_⟩
    · rw [if_neg g] at hq
      exact ih _ Y hl (by omega) (by omega) hq
    · rw [if_pos g] at hq
      exact ih _ _ (by show (Y.wt.set _ _).length = 4; rw [List.length_set]; exact hl) (by omega) (by omega) hq
theorem waitAll_eq (hO : OkV (A.v .mnd)) (hl : A.yr.wt.length = 4) {n : Int} : Call sp sc (d + 1) mX10_waitAll [.inr (.inr 31), .inl n] (hp A) Q = Q none (hp (A.sxy (waitA n A.xy))) := Call_eq (by
  have hcp := hO.cp
  apply eX10_waitAll 40; simp (disch := first | assumption | rfl | exact inI_of (by omega) (by omega) | omega | decide | (simp only [sv_ext, sv_mc, Nat.le_refl]; done) | with_unfolding_all (refine @id _ ?_; first | exact Eq.refl _ | exact Nat.le_refl _ | assumption)) only [Nat.reduceAdd, Nat.reduceMul, Nat.reduceLeDiff, Nat.reduceLT, Int.reduceAdd, Int.reduceSub, Int.reduceMul, Int.reduceNeg, Int.reduceLE, Int.reduceLT, Int.reduceToNat, Int.reduceEq, reduceCtorEq, ld_z, ld_s, st1_0, st1_1, st1_s, st2_0, st2_1, st2_s, isJ_i, isJ_r, isJ_n, isJ_l, cs_nil, cs_i, cs_r, cs_l, kF, List.getElem?_cons_succ, List.getElem?_cons_zero, List.set_cons_zero, List.set_cons_succ, GC_s, GC_n, GK_nil, GK_no, GK_yes, not_false_eq_true, back_eq, back_hp, inI_eq, inA_eq, true_and, and_true, and_self, if_true, if_false, bI_0, bI_1, bI_in, bI_T, bI_F, fitF, jmpF, nlF, pjA, iVal.eta, iYr.eta, List.getElem?_toArray, List.length_cons, List.length_nil, true_or, or_true, or_false, false_or, Classical.not_not, Bool.false_eq_true, hp_2, Nat.zero_le, Nat.le_refl, Option.some.injEq, Sum.inl.injEq, Sum.inr.injEq, not_true_eq_false, true_implies, false_implies, implies_true, rd_v, f_num, f_lik, f_dep, f_bnd, f_man, f_wom, f_sta, f_dds, f_who, rd_y, rd_y1, rd_y2, rd_y3, rd_y4, wy, wy1, wy2, wy3, wy4, sxy_mnd, sxy_now, sxy_img, sxy_yr, sxy_xy, sxy_sxy, sv_sxy, f_ord, f_bus, f_wai, f_fin, gX10_waitAll, wr_v]
  exact waitAll_loop (A := A.sxy ((iVal.mk (A.v .mnd).on (A.v .mnd).na (A.v .mnd).de (A.v .mnd).bo (A.v .mnd).li (A.v .mnd).cp (A.v .mnd).me (A.v .mnd).wo (A.v .mnd).sa (A.v .mnd).dd (A.v .mnd).wh (A.v .mnd).sl ((A.v .mnd).dy + n)), A.yr)) (okV_dy hO) (A.v .mnd).cp.toNat 0 (iYr.mk A.yr.od A.yr.bz A.yr.wt A.yr.en (A.yr.ps + n) A.yr.dn A.yr.sp A.yr.fs) hl (by omega) (by show 0 + ((A.v .mnd).cp.toNat : Int) = (A.v .mnd).cp; omega) ⟨rfl, rfl⟩)
end YR
