set_option maxRecDepth 16384
/-! ===== calls in mind: soonest, who best ===== -/
def iA.mr (A : iA) (S : iXY) (e : Int) : iA := A.sro .m (rowOf S.1 (e + S.2.ps)) (ryOf S.2 S.2.ps)
def LR (A : iA) : Prop := (A.mo.m.length = 117 ∧ A.mo.wt.length = 4 ∧ A.mo.en.length = 4 ∧ A.mo.od.length = 4) ∨ False
def z10 : List Int := List.replicate 10 0
theorem z10_ok : z10.length = 10 ∧ ∀ i, 0 ≤ i → i < 10 → gt0 z10 i = 0 ∨ gt0 z10 i = 1 := by
  refine ⟨rfl, fun i a b => Or.inl ?_⟩
  unfold gt0 z10
  rw [List.getD_eq_getElem?_getD, List.getElem?_replicate]
  split <;> rfl
def soonV : Nat → Int → iXY → Int
  | 0, _, _ => -4
  | k + 1, n, S => if S.1.many 0 = 0 then n else soonV k (n + 1) (dayA S)
def soonT : Nat → iXY → iXY
  | 0, S => S
  | k + 1, S => if S.1.many 0 = 0 then S else soonT k (dayA S)
section OPS
variable {sp : Nat → List iV → iH → Option (Option iV × iH)} {sc : List Int} {d : Nat} {A : iA} {Q : Option iV → iH → Prop} {h : iH} {X : iVal} {e g B : Int} {w : iW} {S T : iXY}
theorem dayA_bz {X : iVal} {Y Y' : iYr} (h : Y' = (iYr.mk Y.od (Y'.bz) Y.wt Y.en Y.ps Y.dn Y.sp Y.fs)) : dayA (X, Y') = dayA (X, Y) := by
  unfold dayA
  have : dawn (X, Y') = dawn (X, Y) := by
    unfold dawn
    dsimp only
    rw [h]
    rfl
  rw [this]
theorem daysA_bz {X : iVal} {n : Nat} {od bz bz' : List Int} (hn : 1 ≤ n) : daysA n (X, yr0 od bz) = daysA n (X, yr0 od bz') := by
  obtain ⟨m, rfl⟩ : ∃ m, n = m + 1 := ⟨n - 1, by omega⟩
  show daysA m (dayA (X, yr0 od bz)) = daysA m (dayA (X, yr0 od bz'))
  rw [dayA_bz (Y := yr0 od bz') (Y' := yr0 od bz) rfl]
theorem mr_m : (A.mr S e).mo.m = rowOf S.1 (e + S.2.ps) := rfl
theorem mr_s : (A.mr S e).mo.s = A.mo.s := rfl
theorem mr_mr : (A.mr S e).mr T e = A.mr T e := rfl
theorem mr_sS {l : List Int} : (A.mr S e).sS l = (A.sS l).mr S e := rfl
theorem back_mr {L : List (Option iV)} {rest : List iV} : back (hp (A.mr S e)) (hp (A.mr T e)) L rest = True := back_hp rfl (Nat.le_refl _)
theorem back_mr1 {L : List (Option iV)} {rest : List iV} : back (hp A) (hp (A.mr T e)) L rest = True := back_hp rfl (Nat.le_refl _)
theorem LR.mr (hS : OkS S B) : LR (A.mr S e) := Or.inl ⟨row_len, hS.2.lwt, by show (enR S.2.en).length = 4; rw [enR_len]; exact hS.2.len, hS.2.lod⟩
theorem LR.of (hR : Rel A) : LR A := Or.inl ⟨hR.lm, hR.lwt, hR.len, hR.lod⟩
theorem LR.sS {l : List Int} (h : LR A) : LR (A.sS l) := h
theorem LR.sxy (h : LR A) : LR (A.sxy S) := h
theorem mr_goes (hS : OkS S B) (hB : B ≤ 90000) : Call sp sc (d + 5) mX12_goes [.inr (.inr 140), .inr (.inr 142)] (hp (A.mr S e)) Q = Q none (hp (A.mr (dayA S) e)) := by
  have k := @goes_eq sp sc d A iR.m Q (e + S.2.ps) S.2.ps B S hS hB rfl hS.2.ps.1
  have e1 : e + S.2.ps + 1 = e + (dayA S).2.ps := by rw [dayA_ps hS]; omega
  rw [e1, ← dayA_ps hS] at k
  exact k
theorem mr_many (hS : OkS S B) {z : Int} (hz : inI z = true) : Call sp sc (d + 1) mX12_manySuch [.inr (.inr 142), .inl z] (hp (A.mr S e)) Q = Q (some (.inl (S.1.many z))) (hp (A.mr S e)) := manySuch_eq (r := iR.m) hS.1 hz
theorem mr_mind (hO : OkV X) (hs : A.mo.s = rowOf X e) (hl : LR A) {bz : List Int} (lb : bz.length = 10) (hb : ∀ i, 0 ≤ i → i < 10 → gt0 bz i = 0 ∨ gt0 bz i = 1) {n : Nat} (hn : n ≤ 60) : Call sp sc (d + 6) mX12_inMind [.inr (.inr 140), .inl (n : Int)] (hp A) Q = Q none (hp (A.mr (daysA n (X, yr0 [0, 1, 2, 3] bz)) e)) := by
  have h := hl.elim id False.elim
  have k := @inMind_eq sp sc d A Q X e hO hs h.1 h.2.1 h.2.2.1 h.2.2.2 bz lb hb n hn
  have ep : (daysA n (X, yr0 [0, 1, 2, 3] bz)).2.ps = n := by
    rw [(okS_days n _ 0 (okS_yr0 hO lb hb)).2.1]
    show (0 : Int) + n = n
    omega
  unfold iA.mr
  rw [ep]
  exact k
theorem rel_mr (hR : Rel A) (hS : OkS S B) : Rel (A.mr S e) := rel_sro hR hS
theorem soonT_ok : ∀ (k : Nat) (S : iXY) (B : Int), OkS S B → OkS (soonT k S) (B + 5 * k) := by
  intro k
  induction k with
  | zero => intro S B h; exact ⟨h.1, h.2.mono (by omega)⟩
  | succ k ih =>
    intro S B h
    unfold soonT
    split
    · exact ⟨h.1, h.2.mono (by omega)⟩
    · have := ih (dayA S) (B + 5) (okS_day h).1
      exact ⟨this.1, this.2.mono (by omega)⟩
theorem soonV_b : ∀ (k : Nat) (n : Int) (S : iXY), 0 ≤ n → -4 ≤ soonV k n S ∧ soonV k n S ≤ n + k := by
  intro k
  induction k with
  | zero => intro n S h; exact ⟨Int.le_refl _, by show -4 ≤ n + ((0 : Nat) : Int); omega⟩
  | succ k ih =>
    intro n S h
    unfold soonV
    split
    · omega
    · have := ih (n + 1) (dayA S) (by omega); omega
theorem soonC_loop : ∀ (k : Nat) (n : Int) (S : iXY) (B : Int), OkS S B → B + 5 * k ≤ 1000 → 0 ≤ n → n + k = 61 → Q (some (.inl (soonV k n S))) (hp (A.sxy (soonT k S))) → Run sp sc (d + 7) mX11_soonest 13 [some (.inr (.inr 2)), some (.inl n)] [] (hp (A.sxy S)) Q := by
  intro k
  induction k with
  | zero =>
    intro n S B hS hB h0 h1 hq
    refine G_run (B := [13]) 40 _ _ _ _ ?_
    have e1 : 60 < n := by omega
    simp (disch := first | assumption | rfl | exact inI_of (by omega) (by omega) | omega | decide | (simp only [sv_ext, sv_mc, Nat.le_refl]; done) | with_unfolding_all (refine @id _ ?_; first | exact Eq.refl _ | exact Nat.le_refl _ | assumption)) only [Nat.reduceAdd, Nat.reduceMul, Nat.reduceLeDiff, Nat.reduceLT, Int.reduceAdd, Int.reduceSub, Int.reduceMul, Int.reduceNeg, Int.reduceLE, Int.reduceLT, Int.reduceToNat, Int.reduceEq, reduceCtorEq, ld_z, ld_s, st1_0, st1_1, st1_s, st2_0, st2_1, st2_s, isJ_i, isJ_r, isJ_n, isJ_l, cs_nil, cs_i, cs_r, cs_l, kF, List.getElem?_cons_succ, List.getElem?_cons_zero, List.set_cons_zero, List.set_cons_succ, GC_s, GC_n, GK_nil, GK_no, GK_yes, not_false_eq_true, back_eq, inI_eq, inA_eq, true_and, and_true, and_self, if_true, if_false, bI_0, bI_1, bI_in, bI_T, bI_F, fitF, jmpF, nlF, pjA, iVal.eta, iYr.eta, List.getElem?_toArray, List.length_cons, List.length_nil, true_or, or_true, or_false, false_or, Classical.not_not, Bool.false_eq_true, hp_2, Nat.zero_le, Nat.le_refl, Option.some.injEq, Sum.inl.injEq, Sum.inr.injEq, not_true_eq_false, true_implies, false_implies, implies_true, rd_v, f_num, f_lik, f_dep, f_bnd, f_man, f_wom, f_sta, f_dds, f_who, rd_y, rd_y1, rd_y2, rd_y3, rd_y4, wy, wy1, wy2, wy3, wy4, sxy_mnd, sxy_now, sxy_img, sxy_yr, sxy_xy, sxy_sxy, sv_sxy, f_ord, f_bus, f_wai, f_fin, rd_e, v_now, hasOne_eq, hasTwo_eq, hasCouple_eq, orNone_eq, natureOf_eq, rd_nat, place_eq, rd_v1, rd_v3, rd_v4, rd_v6, rd_v7, rd_v8, rd_v9, rd_v10, isShelf_eq, isSide_eq, isDeed_eq, isKind_eq, isMindSpan_eq, back_sxy, back_sxy1, f_orN, gX11_soonest, e1]
    exact hq
  | succ k ih =>
    intro n S B hS hB h0 h1 hq
    refine G_run (B := [13]) 40 _ _ _ _ ?_
    have e1 : ¬ 60 < n := by omega
    have hS1 : OkV ((A.sxy S).v .mnd) := hS.1
    have hp1 : ∀ Q, Call sp sc (d + 6) mX10_pass [.inr (.inr 31), .inl 1] (hp (A.sxy S)) Q = Q none (hp (A.sxy (dayA S))) := fun Q => passC (n := 1) hS (by omega) (by omega)
    have hm := @many_b S.1 hS.1 0
    unfold soonV soonT at hq
    by_cases z : S.1.many 0 = 0
    · rw [if_pos z, if_pos z] at hq
      simp (disch := first | assumption | rfl | exact inI_of (by omega) (by omega) | omega | decide | (simp only [sv_ext, sv_mc, Nat.le_refl]; done) | with_unfolding_all (refine @id _ ?_; first | exact Eq.refl _ | exact Nat.le_refl _ | assumption)) only [Nat.reduceAdd, Nat.reduceMul, Nat.reduceLeDiff, Nat.reduceLT, Int.reduceAdd, Int.reduceSub, Int.reduceMul, Int.reduceNeg, Int.reduceLE, Int.reduceLT, Int.reduceToNat, Int.reduceEq, reduceCtorEq, ld_z, ld_s, st1_0, st1_1, st1_s, st2_0, st2_1, st2_s, isJ_i, isJ_r, isJ_n, isJ_l, cs_nil, cs_i, cs_r, cs_l, kF, List.getElem?_cons_succ, List.getElem?_cons_zero, List.set_cons_zero, List.set_cons_succ, GC_s, GC_n, GK_nil, GK_no, GK_yes, not_false_eq_true, back_eq, inI_eq, inA_eq, true_and, and_true, and_self, if_true, if_false, bI_0, bI_1, bI_in, bI_T, bI_F, fitF, jmpF, nlF, pjA, iVal.eta, iYr.eta, List.getElem?_toArray, List.length_cons, List.length_nil, true_or, or_true, or_false, false_or, Classical.not_not, Bool.false_eq_true, hp_2, Nat.zero_le, Nat.le_refl, Option.some.injEq, Sum.inl.injEq, Sum.inr.injEq, not_true_eq_false, true_implies, false_implies, implies_true, rd_v, f_num, f_lik, f_dep, f_bnd, f_man, f_wom, f_sta, f_dds, f_who, rd_y, rd_y1, rd_y2, rd_y3, rd_y4, wy, wy1, wy2, wy3, wy4, sxy_mnd, sxy_now, sxy_img, sxy_yr, sxy_xy, sxy_sxy, sv_sxy, f_ord, f_bus, f_wai, f_fin, rd_e, v_now, hasOne_eq, hasTwo_eq, hasCouple_eq, orNone_eq, natureOf_eq, rd_nat, place_eq, rd_v1, rd_v3, rd_v4, rd_v6, rd_v7, rd_v8, rd_v9, rd_v10, isShelf_eq, isSide_eq, isDeed_eq, isKind_eq, isMindSpan_eq, back_sxy, back_sxy1, f_orN, gX11_soonest, e1, howMany_eq, z]
      exact hq
    · rw [if_neg z, if_neg z] at hq
      simp (disch := first | assumption | rfl | exact inI_of (by omega) (by omega) | omega | decide | (simp only [sv_ext, sv_mc, Nat.le_refl]; done) | with_unfolding_all (refine @id _ ?_; first | exact Eq.refl _ | exact Nat.le_refl _ | assumption)) only [Nat.reduceAdd, Nat.reduceMul, Nat.reduceLeDiff, Nat.reduceLT, Int.reduceAdd, Int.reduceSub, Int.reduceMul, Int.reduceNeg, Int.reduceLE, Int.reduceLT, Int.reduceToNat, Int.reduceEq, reduceCtorEq, ld_z, ld_s, st1_0, st1_1, st1_s, st2_0, st2_1, st2_s, isJ_i, isJ_r, isJ_n, isJ_l, cs_nil, cs_i, cs_r, cs_l, kF, List.getElem?_cons_succ, List.getElem?_cons_zero, List.set_cons_zero, List.set_cons_succ, GC_s, GC_n, GK_nil, GK_no, GK_yes, not_false_eq_true, back_eq, inI_eq, inA_eq, true_and, and_true, and_self, if_true, if_false, bI_0, bI_1, bI_in, bI_T, bI_F, fitF, jmpF, nlF, pjA, iVal.eta, iYr.eta, List.getElem?_toArray, List.length_cons, List.length_nil, true_or, or_true, or_false, false_or, Classical.not_not, Bool.false_eq_true, hp_2, Nat.zero_le, Nat.le_refl, Option.some.injEq, Sum.inl.injEq, Sum.inr.injEq, not_true_eq_false, true_implies, false_implies, implies_true, rd_v, f_num, f_lik, f_dep, f_bnd, f_man, f_wom, f_sta, f_dds, f_who, rd_y, rd_y1, rd_y2, rd_y3, rd_y4, wy, wy1, wy2, wy3, wy4, sxy_mnd, sxy_now, sxy_img, sxy_yr, sxy_xy, sxy_sxy, sv_sxy, f_ord, f_bus, f_wai, f_fin, rd_e, v_now, hasOne_eq, hasTwo_eq, hasCouple_eq, orNone_eq, natureOf_eq, rd_nat, place_eq, rd_v1, rd_v3, rd_v4, rd_v6, rd_v7, rd_v8, rd_v9, rd_v10, isShelf_eq, isSide_eq, isDeed_eq, isKind_eq, isMindSpan_eq, back_sxy, back_sxy1, f_orN, gX11_soonest, e1, howMany_eq, z, hp1]
      exact ih (n + 1) (dayA S) (B + 5) (okS_day hS).1 (by omega) (by omega) (by omega) hq
theorem soonR_loop : ∀ (k : Nat) (n : Int) (S : iXY) (B : Int), OkS S B → B + 5 * k ≤ 1000 → 0 ≤ n → n + k = 61 → Q (some (.inl (soonV k n S))) (hp (A.mr (soonT k S) e)) → Run sp sc (d + 7) mX12_soonest 7 [some (.inr (.inr 140)), some (.inl n)] [] (hp (A.mr S e)) Q := by
  intro k
  induction k with
  | zero =>
    intro n S B hS hB h0 h1 hq
    refine G_run (B := [7]) 40 _ _ _ _ ?_
    have e1 : 60 < n := by omega
    simp (disch := first | assumption | rfl | exact inI_of (by omega) (by omega) | omega | decide | (simp only [sv_ext, sv_mc, Nat.le_refl]; done) | with_unfolding_all (refine @id _ ?_; first | exact Eq.refl _ | exact Nat.le_refl _ | assumption)) only [Nat.reduceAdd, Nat.reduceMul, Nat.reduceLeDiff, Nat.reduceLT, Int.reduceAdd, Int.reduceSub, Int.reduceMul, Int.reduceNeg, Int.reduceLE, Int.reduceLT, Int.reduceToNat, Int.reduceEq, reduceCtorEq, ld_z, ld_s, st1_0, st1_1, st1_s, st2_0, st2_1, st2_s, isJ_i, isJ_r, isJ_n, isJ_l, cs_nil, cs_i, cs_r, cs_l, kF, List.getElem?_cons_succ, List.getElem?_cons_zero, List.set_cons_zero, List.set_cons_succ, GC_s, GC_n, GK_nil, GK_no, GK_yes, not_false_eq_true, back_eq, back_hp, inI_eq, inA_eq, true_and, and_true, and_self, if_true, if_false, bI_0, bI_1, bI_in, bI_T, bI_F, fitF, jmpF, nlF, pjA, iVal.eta, iYr.eta, List.getElem?_toArray, List.length_cons, List.length_nil, true_or, or_true, or_false, false_or, Classical.not_not, Bool.false_eq_true, hp_2, Nat.zero_le, Nat.le_refl, Option.some.injEq, Sum.inl.injEq, Sum.inr.injEq, not_true_eq_false, true_implies, false_implies, implies_true, gX12_soonest, e1]
    exact hq
  | succ k ih =>
    intro n S B hS hB h0 h1 hq
    refine G_run (B := [7]) 40 _ _ _ _ ?_
    have e1 : ¬ 60 < n := by omega
    have hm := @many_b S.1 hS.1 0
    unfold soonV soonT at hq
    have mm := fun Q => @mr_many sp sc (d + 5) A Q e B S hS 0 rfl
    have mg := fun Q => @mr_goes sp sc (d + 1) A Q e B S hS (by omega)
    by_cases z : S.1.many 0 = 0
    · rw [if_pos z, if_pos z] at hq
      simp (disch := first | assumption | rfl | exact inI_of (by omega) (by omega) | omega | decide | (simp only [sv_ext, sv_mc, Nat.le_refl]; done) | with_unfolding_all (refine @id _ ?_; first | exact Eq.refl _ | exact Nat.le_refl _ | assumption)) only [Nat.reduceAdd, Nat.reduceMul, Nat.reduceLeDiff, Nat.reduceLT, Int.reduceAdd, Int.reduceSub, Int.reduceMul, Int.reduceNeg, Int.reduceLE, Int.reduceLT, Int.reduceToNat, Int.reduceEq, reduceCtorEq, ld_z, ld_s, st1_0, st1_1, st1_s, st2_0, st2_1, st2_s, isJ_i, isJ_r, isJ_n, isJ_l, cs_nil, cs_i, cs_r, cs_l, kF, List.getElem?_cons_succ, List.getElem?_cons_zero, List.set_cons_zero, List.set_cons_succ, GC_s, GC_n, GK_nil, GK_no, GK_yes, not_false_eq_true, back_eq, back_hp, inI_eq, inA_eq, true_and, and_true, and_self, if_true, if_false, bI_0, bI_1, bI_in, bI_T, bI_F, fitF, jmpF, nlF, pjA, iVal.eta, iYr.eta, List.getElem?_toArray, List.length_cons, List.length_nil, true_or, or_true, or_false, false_or, Classical.not_not, Bool.false_eq_true, hp_2, Nat.zero_le, Nat.le_refl, Option.some.injEq, Sum.inl.injEq, Sum.inr.injEq, not_true_eq_false, true_implies, false_implies, implies_true, gX12_soonest, e1, rd_o, mm, z]
      exact hq
    · rw [if_neg z, if_neg z] at hq
      simp (disch := first | assumption | rfl | exact inI_of (by omega) (by omega) | omega | decide | (simp only [sv_ext, sv_mc, Nat.le_refl]; done) | with_unfolding_all (refine @id _ ?_; first | exact Eq.refl _ | exact Nat.le_refl _ | assumption)) only [Nat.reduceAdd, Nat.reduceMul, Nat.reduceLeDiff, Nat.reduceLT, Int.reduceAdd, Int.reduceSub, Int.reduceMul, Int.reduceNeg, Int.reduceLE, Int.reduceLT, Int.reduceToNat, Int.reduceEq, reduceCtorEq, ld_z, ld_s, st1_0, st1_1, st1_s, st2_0, st2_1, st2_s, isJ_i, isJ_r, isJ_n, isJ_l, cs_nil, cs_i, cs_r, cs_l, kF, List.getElem?_cons_succ, List.getElem?_cons_zero, List.set_cons_zero, List.set_cons_succ, GC_s, GC_n, GK_nil, GK_no, GK_yes, not_false_eq_true, back_eq, back_hp, inI_eq, inA_eq, true_and, and_true, and_self, if_true, if_false, bI_0, bI_1, bI_in, bI_T, bI_F, fitF, jmpF, nlF, pjA, iVal.eta, iYr.eta, List.getElem?_toArray, List.length_cons, List.length_nil, true_or, or_true, or_false, false_or, Classical.not_not, Bool.false_eq_true, hp_2, Nat.zero_le, Nat.le_refl, Option.some.injEq, Sum.inl.injEq, Sum.inr.injEq, not_true_eq_false, true_implies, false_implies, implies_true, gX12_soonest, e1, rd_o, mm, z, mg, back_mr]
      exact ih (n + 1) (dayA S) (B + 5) (okS_day hS).1 (by omega) (by omega) (by omega) hq
theorem ag_soonest (hR : Rel A) : Agree sp sc mX11_soonest mX12_soonest [] A := by
  have hO := hR.now
  have h0 := okS_s0 hR
  obtain ⟨k, hk⟩ : ∃ k : Nat, k = 61 := ⟨61, rfl⟩
  have hT := soonT_ok k A.s0 0 h0
  have hV := soonV_b k 0 A.s0 (by omega)
  have hb := fun Q => @beginC sp sc 15 A Q hR
  have hr : (A.sxy (soonT k A.s0)).mo.s = rowOf A.now A.now.dy := hR.row
  have L := LR.sxy (S := soonT k A.s0) (LR.of hR)
  have kC := fun Q => @soonC_loop sp sc 12 A Q k 0 A.s0 0 h0 (by omega) (by omega) (by omega)
  have kR := fun (A1 : iA) Q => @soonR_loop sp sc 12 A1 Q A.now.dy k 0 A.s0 0 h0 (by omega) (by omega) (by omega)
  generalize soonT k A.s0 = T at *
  generalize soonV k 0 A.s0 = v at *
  have hm : ∀ Q, Call sp sc 18 mX12_inMind [.inr (.inr 140), .inl 0] (hp (A.sxy T)) Q = Q none (hp ((A.sxy T).mr A.s0 A.now.dy)) := fun Q => mr_mind (d := 12) (n := 0) hO hr L hR.yr.lbz hR.yr.bus (by omega)
  refine Agree.of v (A.sxy T) ((A.sxy T).mr T A.now.dy) (inI_of (by omega) (by omega)) (fun Q => Call_eq ?_) (fun Q => Call_eq ?_) rfl rfl (rel_mr (rel_sxy hR hT) hT)
  · apply eX11_soonest 60; simp (disch := first | assumption | rfl | exact inI_of (by omega) (by omega) | omega | decide | (simp only [sv_ext, sv_mc, Nat.le_refl]; done) | with_unfolding_all (refine @id _ ?_; first | exact Eq.refl _ | exact Nat.le_refl _ | assumption)) only [Nat.reduceAdd, Nat.reduceMul, Nat.reduceLeDiff, Nat.reduceLT, Int.reduceAdd, Int.reduceSub, Int.reduceMul, Int.reduceNeg, Int.reduceLE, Int.reduceLT, Int.reduceToNat, Int.reduceEq, reduceCtorEq, ld_z, ld_s, st1_0, st1_1, st1_s, st2_0, st2_1, st2_s, isJ_i, isJ_r, isJ_n, isJ_l, cs_nil, cs_i, cs_r, cs_l, kF, List.getElem?_cons_succ, List.getElem?_cons_zero, List.set_cons_zero, List.set_cons_succ, GC_s, GC_n, GK_nil, GK_no, GK_yes, not_false_eq_true, back_eq, inI_eq, inA_eq, true_and, and_true, and_self, if_true, if_false, bI_0, bI_1, bI_in, bI_T, bI_F, fitF, jmpF, nlF, pjA, iVal.eta, iYr.eta, List.getElem?_toArray, List.length_cons, List.length_nil, true_or, or_true, or_false, false_or, Classical.not_not, Bool.false_eq_true, hp_2, Nat.zero_le, Nat.le_refl, Option.some.injEq, Sum.inl.injEq, Sum.inr.injEq, not_true_eq_false, true_implies, false_implies, implies_true, rd_v, f_num, f_lik, f_dep, f_bnd, f_man, f_wom, f_sta, f_dds, f_who, rd_y, rd_y1, rd_y2, rd_y3, rd_y4, wy, wy1, wy2, wy3, wy4, sxy_mnd, sxy_now, sxy_img, sxy_yr, sxy_xy, sxy_sxy, sv_sxy, f_ord, f_bus, f_wai, f_fin, rd_e, v_now, hasOne_eq, hasTwo_eq, hasCouple_eq, orNone_eq, natureOf_eq, rd_nat, place_eq, rd_v1, rd_v3, rd_v4, rd_v6, rd_v7, rd_v8, rd_v9, rd_v10, isShelf_eq, isSide_eq, isDeed_eq, isKind_eq, isMindSpan_eq, back_sxy, back_sxy1, f_orN, gX11_soonest, hb]
    exact kC _ ⟨rfl, rfl⟩
  · apply eX12_soonest 60; simp (disch := first | assumption | rfl | exact inI_of (by omega) (by omega) | omega | decide | (simp only [sv_ext, sv_mc, Nat.le_refl]; done) | with_unfolding_all (refine @id _ ?_; first | exact Eq.refl _ | exact Nat.le_refl _ | assumption)) only [Nat.reduceAdd, Nat.reduceMul, Nat.reduceLeDiff, Nat.reduceLT, Int.reduceAdd, Int.reduceSub, Int.reduceMul, Int.reduceNeg, Int.reduceLE, Int.reduceLT, Int.reduceToNat, Int.reduceEq, reduceCtorEq, ld_z, ld_s, st1_0, st1_1, st1_s, st2_0, st2_1, st2_s, isJ_i, isJ_r, isJ_n, isJ_l, cs_nil, cs_i, cs_r, cs_l, kF, List.getElem?_cons_succ, List.getElem?_cons_zero, List.set_cons_zero, List.set_cons_succ, GC_s, GC_n, GK_nil, GK_no, GK_yes, not_false_eq_true, back_eq, back_hp, inI_eq, inA_eq, true_and, and_true, and_self, if_true, if_false, bI_0, bI_1, bI_in, bI_T, bI_F, fitF, jmpF, nlF, pjA, iVal.eta, iYr.eta, List.getElem?_toArray, List.length_cons, List.length_nil, true_or, or_true, or_false, false_or, Classical.not_not, Bool.false_eq_true, hp_2, Nat.zero_le, Nat.le_refl, Option.some.injEq, Sum.inl.injEq, Sum.inr.injEq, not_true_eq_false, true_implies, false_implies, implies_true, gX12_soonest, rd_o, hm, back_mr1]
    exact kR _ _ ⟨rfl, rfl⟩
/-- the days with another way for a deed -/
def mW (n : Nat) (X : iVal) (k w : Int) : iXY := daysA n (X.swh k w, yr0 [0, 1, 2, 3] z10)
def bwM (u m : Int) : Int := if m < u then u else m
def bwB (u w m b : Int) : Int := if m < u then w else b
theorem okS_mW (hO : OkV X) {n : Nat} (hn : n = 60) {k w : Int} (h0 : 0 ≤ k) (h1 : k < 6) (h2 : 0 ≤ w) (h3 : w ≤ 2) : OkS (mW n X k w) 300 := by
  have := (okS_days n _ 0 (okS_yr0 (okV_swh hO h0 h1 h2 h3) z10_ok.1 z10_ok.2)).1
  exact ⟨this.1, this.2.mono (by omega)⟩
theorem bwC_iter {M : iXY} (hO : OkV A.now) {k w m b : Int} (h0 : 0 ≤ k) (h1 : k < 6) (h2 : 0 ≤ w) (h3 : w ≤ 2) (hm : -1 ≤ m) (hm2 : m ≤ 4) {o5 : Option iV} (hM : OkS M 300) (hb : ∀ Q, Call sp sc (d + 6) mX10_begin [.inr (.inr 31), .inr (.inr (vb .now + 2))] (hp (A.sxy S)) Q = Q none (hp (A.sxy (A.now, T.2)))) (hp1 : ∀ Q, Call sp sc (d + 6) mX10_pass [.inr (.inr 31), .inl 60] (hp (A.sxy (A.now.swh k w, T.2))) Q = Q none (hp (A.sxy M))) (hq : ∀ o5, Run sp sc (d + 7) mX11_bestWho 16 [some (.inr (.inr 2)), some (.inl k), some (.inl (bwM (M.1.many 1) m)), some (.inl (bwB (M.1.many 1) w m b)), some (.inl (w + 1)), o5] [] (hp (A.sxy M)) Q) : Run sp sc (d + 7) mX11_bestWho 16 [some (.inr (.inr 2)), some (.inl k), some (.inl m), some (.inl b), some (.inl w), o5] [] (hp (A.sxy S)) Q := by
  have mb := @many_b _ hM.1 1
  have hM1 : OkV ((A.sxy M).v .mnd) := hM.1
  have ew : iVal.mk A.now.on A.now.na A.now.de A.now.bo A.now.li A.now.cp A.now.me A.now.wo A.now.sa A.now.dd (A.now.wh.set k.toNat w) A.now.sl A.now.dy = A.now.swh k w := rfl
  refine G_run (B := [16]) 60 _ _ _ _ ?_
  have e1 : ¬ 2 < w := by omega
  have lw := hO.lwh
  clear hO
  unfold bwM bwB at hq
  by_cases z : m < M.1.many 1
  · rw [if_pos z, if_pos z] at hq
    have z2 : ¬ M.1.many 1 ≤ m := by omega
    simp (disch := first | assumption | rfl | exact inI_of (by omega) (by omega) | omega | decide | (simp only [sv_ext, sv_mc, Nat.le_refl]; done) | with_unfolding_all (refine @id _ ?_; first | exact Eq.refl _ | exact Nat.le_refl _ | assumption)) only [Nat.reduceAdd, Nat.reduceMul, Nat.reduceLeDiff, Nat.reduceLT, Int.reduceAdd, Int.reduceSub, Int.reduceMul, Int.reduceNeg, Int.reduceLE, Int.reduceLT, Int.reduceToNat, Int.reduceEq, reduceCtorEq, ld_z, ld_s, st1_0, st1_1, st1_s, st2_0, st2_1, st2_s, isJ_i, isJ_r, isJ_n, isJ_l, cs_nil, cs_i, cs_r, cs_l, kF, List.getElem?_cons_succ, List.getElem?_cons_zero, List.set_cons_zero, List.set_cons_succ, GC_s, GC_n, GK_nil, GK_no, GK_yes, not_false_eq_true, back_eq, inI_eq, inA_eq, true_and, and_true, and_self, if_true, if_false, bI_0, bI_1, bI_in, bI_T, bI_F, fitF, jmpF, nlF, pjA, iVal.eta, iYr.eta, List.getElem?_toArray, List.length_cons, List.length_nil, true_or, or_true, or_false, false_or, Classical.not_not, Bool.false_eq_true, hp_2, Nat.zero_le, Nat.le_refl, Option.some.injEq, Sum.inl.injEq, Sum.inr.injEq, not_true_eq_false, true_implies, false_implies, implies_true, rd_v, f_num, f_lik, f_dep, f_bnd, f_man, f_wom, f_sta, f_dds, f_who, rd_y, rd_y1, rd_y2, rd_y3, rd_y4, wy, wy1, wy2, wy3, wy4, sxy_mnd, sxy_now, sxy_img, sxy_yr, sxy_xy, sxy_sxy, sv_sxy, f_ord, f_bus, f_wai, f_fin, rd_e, v_now, hasOne_eq, hasTwo_eq, hasCouple_eq, orNone_eq, natureOf_eq, rd_nat, place_eq, rd_v1, rd_v3, rd_v4, rd_v6, rd_v7, rd_v8, rd_v9, rd_v10, isShelf_eq, isSide_eq, isDeed_eq, isKind_eq, isMindSpan_eq, back_sxy, back_sxy1, f_orN, gX11_bestWho, e1, hb, lw, wr_v10, ew, hp1, howMany_eq, z2]
    exact hq _
  · rw [if_neg z, if_neg z] at hq
    have z2 : M.1.many 1 ≤ m := by omega
    simp (disch := first | assumption | rfl | exact inI_of (by omega) (by omega) | omega | decide | (simp only [sv_ext, sv_mc, Nat.le_refl]; done) | with_unfolding_all (refine @id _ ?_; first | exact Eq.refl _ | exact Nat.le_refl _ | assumption)) only [Nat.reduceAdd, Nat.reduceMul, Nat.reduceLeDiff, Nat.reduceLT, Int.reduceAdd, Int.reduceSub, Int.reduceMul, Int.reduceNeg, Int.reduceLE, Int.reduceLT, Int.reduceToNat, Int.reduceEq, reduceCtorEq, ld_z, ld_s, st1_0, st1_1, st1_s, st2_0, st2_1, st2_s, isJ_i, isJ_r, isJ_n, isJ_l, cs_nil, cs_i, cs_r, cs_l, kF, List.getElem?_cons_succ, List.getElem?_cons_zero, List.set_cons_zero, List.set_cons_succ, GC_s, GC_n, GK_nil, GK_no, GK_yes, not_false_eq_true, back_eq, inI_eq, inA_eq, true_and, and_true, and_self, if_true, if_false, bI_0, bI_1, bI_in, bI_T, bI_F, fitF, jmpF, nlF, pjA, iVal.eta, iYr.eta, List.getElem?_toArray, List.length_cons, List.length_nil, true_or, or_true, or_false, false_or, Classical.not_not, Bool.false_eq_true, hp_2, Nat.zero_le, Nat.le_refl, Option.some.injEq, Sum.inl.injEq, Sum.inr.injEq, not_true_eq_false, true_implies, false_implies, implies_true, rd_v, f_num, f_lik, f_dep, f_bnd, f_man, f_wom, f_sta, f_dds, f_who, rd_y, rd_y1, rd_y2, rd_y3, rd_y4, wy, wy1, wy2, wy3, wy4, sxy_mnd, sxy_now, sxy_img, sxy_yr, sxy_xy, sxy_sxy, sv_sxy, f_ord, f_bus, f_wai, f_fin, rd_e, v_now, hasOne_eq, hasTwo_eq, hasCouple_eq, orNone_eq, natureOf_eq, rd_nat, place_eq, rd_v1, rd_v3, rd_v4, rd_v6, rd_v7, rd_v8, rd_v9, rd_v10, isShelf_eq, isSide_eq, isDeed_eq, isKind_eq, isMindSpan_eq, back_sxy, back_sxy1, f_orN, gX11_bestWho, e1, hb, lw, wr_v10, ew, hp1, howMany_eq, z2]
    exact hq _
theorem bwR_iter {M : iXY} (hM : OkS M 300) {k w m b : Int} (h0 : 0 ≤ k) (h1 : k < 6) (h2 : 0 ≤ w) (h3 : w ≤ 2) (hm : -1 ≤ m) (hm2 : m ≤ 4) {own : Int} {l l' : List Int} (hr : A.mo.s = l) (ll : l.length = 117) (hw : l.set (5 + k).toNat w = l') (hi : ∀ Q, Call sp sc (d + 6) mX12_inMind [.inr (.inr 140), .inl 60] (hp (A.sS l')) Q = Q none (hp ((A.sS l').mr M e))) (hq : Run sp sc (d + 7) mX12_bestWho 28 [some (.inr (.inr 140)), some (.inl k), some (.inl own), some (.inl (bwB (M.1.many 1) w m b)), some (.inl (bwM (M.1.many 1) m)), some (.inl (w + 1))] [] (hp ((A.sS l').mr M e)) Q) : Run sp sc (d + 7) mX12_bestWho 28 [some (.inr (.inr 140)), some (.inl k), some (.inl own), some (.inl b), some (.inl m), some (.inl w)] [] (hp A) Q := by
  have mb := @many_b _ hM.1 1
  have mm := fun Q => @mr_many sp sc (d + 5) (A.sS l') Q e 300 M hM 1 rfl
  refine G_run (B := [28]) 60 _ _ _ _ ?_
  have e1 : ¬ 3 ≤ w := by omega
  unfold bwM bwB at hq
  by_cases z : m < M.1.many 1
  · rw [if_pos z, if_pos z] at hq
    simp (disch := first | assumption | rfl | exact inI_of (by omega) (by omega) | omega | decide | (simp only [sv_ext, sv_mc, Nat.le_refl]; done) | with_unfolding_all (refine @id _ ?_; first | exact Eq.refl _ | exact Nat.le_refl _ | assumption)) only [Nat.reduceAdd, Nat.reduceMul, Nat.reduceLeDiff, Nat.reduceLT, Int.reduceAdd, Int.reduceSub, Int.reduceMul, Int.reduceNeg, Int.reduceLE, Int.reduceLT, Int.reduceToNat, Int.reduceEq, reduceCtorEq, ld_z, ld_s, st1_0, st1_1, st1_s, st2_0, st2_1, st2_s, isJ_i, isJ_r, isJ_n, isJ_l, cs_nil, cs_i, cs_r, cs_l, kF, List.getElem?_cons_succ, List.getElem?_cons_zero, List.set_cons_zero, List.set_cons_succ, GC_s, GC_n, GK_nil, GK_no, GK_yes, not_false_eq_true, back_eq, back_hp, inI_eq, inA_eq, true_and, and_true, and_self, if_true, if_false, bI_0, bI_1, bI_in, bI_T, bI_F, fitF, jmpF, nlF, pjA, iVal.eta, iYr.eta, List.getElem?_toArray, List.length_cons, List.length_nil, true_or, or_true, or_false, false_or, Classical.not_not, Bool.false_eq_true, hp_2, Nat.zero_le, Nat.le_refl, Option.some.injEq, Sum.inl.injEq, Sum.inr.injEq, not_true_eq_false, true_implies, false_implies, implies_true, gX12_bestWho, e1, rd_o, rd_o_s, hr, ll, hw, wr_sS, hi, mm, z, back_mr1]
    exact hq
  · rw [if_neg z, if_neg z] at hq
    simp (disch := first | assumption | rfl | exact inI_of (by omega) (by omega) | omega | decide | (simp only [sv_ext, sv_mc, Nat.le_refl]; done) | with_unfolding_all (refine @id _ ?_; first | exact Eq.refl _ | exact Nat.le_refl _ | assumption)) only [Nat.reduceAdd, Nat.reduceMul, Nat.reduceLeDiff, Nat.reduceLT, Int.reduceAdd, Int.reduceSub, Int.reduceMul, Int.reduceNeg, Int.reduceLE, Int.reduceLT, Int.reduceToNat, Int.reduceEq, reduceCtorEq, ld_z, ld_s, st1_0, st1_1, st1_s, st2_0, st2_1, st2_s, isJ_i, isJ_r, isJ_n, isJ_l, cs_nil, cs_i, cs_r, cs_l, kF, List.getElem?_cons_succ, List.getElem?_cons_zero, List.set_cons_zero, List.set_cons_succ, GC_s, GC_n, GK_nil, GK_no, GK_yes, not_false_eq_true, back_eq, back_hp, inI_eq, inA_eq, true_and, and_true, and_self, if_true, if_false, bI_0, bI_1, bI_in, bI_T, bI_F, fitF, jmpF, nlF, pjA, iVal.eta, iYr.eta, List.getElem?_toArray, List.length_cons, List.length_nil, true_or, or_true, or_false, false_or, Classical.not_not, Bool.false_eq_true, hp_2, Nat.zero_le, Nat.le_refl, Option.some.injEq, Sum.inl.injEq, Sum.inr.injEq, not_true_eq_false, true_implies, false_implies, implies_true, gX12_bestWho, e1, rd_o, rd_o_s, hr, ll, hw, wr_sS, hi, mm, z, back_mr1]
    exact hq
theorem bwR_end {k own b m : Int} (h0 : 0 ≤ k) (h1 : k < 6) {l l' : List Int} (hr : A.mo.s = l) (ll : l.length = 117) (hw : l.set (5 + k).toNat own = l') (hq : Q (some (.inl b)) (hp (A.sS l'))) : Run sp sc (d + 7) mX12_bestWho 28 [some (.inr (.inr 140)), some (.inl k), some (.inl own), some (.inl b), some (.inl m), some (.inl 3)] [] (hp A) Q := by
  refine G_run (B := [28]) 60 _ _ _ _ ?_
  simp (disch := first | assumption | rfl | exact inI_of (by omega) (by omega) | omega | decide | (simp only [sv_ext, sv_mc, Nat.le_refl]; done) | with_unfolding_all (refine @id _ ?_; first | exact Eq.refl _ | exact Nat.le_refl _ | assumption)) only [Nat.reduceAdd, Nat.reduceMul, Nat.reduceLeDiff, Nat.reduceLT, Int.reduceAdd, Int.reduceSub, Int.reduceMul, Int.reduceNeg, Int.reduceLE, Int.reduceLT, Int.reduceToNat, Int.reduceEq, reduceCtorEq, ld_z, ld_s, st1_0, st1_1, st1_s, st2_0, st2_1, st2_s, isJ_i, isJ_r, isJ_n, isJ_l, cs_nil, cs_i, cs_r, cs_l, kF, List.getElem?_cons_succ, List.getElem?_cons_zero, List.set_cons_zero, List.set_cons_succ, GC_s, GC_n, GK_nil, GK_no, GK_yes, not_false_eq_true, back_eq, back_hp, inI_eq, inA_eq, true_and, and_true, and_self, if_true, if_false, bI_0, bI_1, bI_in, bI_T, bI_F, fitF, jmpF, nlF, pjA, iVal.eta, iYr.eta, List.getElem?_toArray, List.length_cons, List.length_nil, true_or, or_true, or_false, false_or, Classical.not_not, Bool.false_eq_true, hp_2, Nat.zero_le, Nat.le_refl, Option.some.injEq, Sum.inl.injEq, Sum.inr.injEq, not_true_eq_false, true_implies, false_implies, implies_true, gX12_bestWho, rd_o, rd_o_s, hr, ll, hw, wr_sS]
  exact hq
theorem swh_swh {k v u : Int} (hl : X.wh.length = 6) (h0 : 0 ≤ k) (h1 : k < 6) : (rowOf (X.swh k u) e).set (5 + k).toNat v = rowOf (X.swh k v) e := by
  rw [w_who (X := X.swh k u) (by show (X.wh.set _ _).length = 6; rw [List.length_set]; exact hl) h0 h1]
  have : (X.swh k u).swh k v = X.swh k v := by
    show iVal.mk X.on X.na X.de X.bo X.li X.cp X.me X.wo X.sa X.dd ((X.wh.set k.toNat u).set k.toNat v) X.sl X.dy = iVal.mk X.on X.na X.de X.bo X.li X.cp X.me X.wo X.sa X.dd (X.wh.set k.toNat v) X.sl X.dy
    rw [List.set_set]
  rw [this]
theorem swh_self {k : Int} (hl : X.wh.length = 6) (h0 : 0 ≤ k) (h1 : k < 6) : X.swh k (X.who k) = X := by
  have : X.wh.set k.toNat (X.who k) = X.wh := by
    apply List.ext_getElem
    · rw [List.length_set]
    · intro i a b
      rw [List.getElem_set]
      split
      · rename_i c
        subst c
        unfold iVal.who
        rw [List.getD_eq_getElem?_getD, List.getElem?_eq_getElem b]; rfl
      · rfl
  show iVal.mk X.on X.na X.de X.bo X.li X.cp X.me X.wo X.sa X.dd (X.wh.set k.toNat (X.who k)) X.sl X.dy = X
  rw [this]
  exact iVal.eta X
theorem ag_bestWho (hR : Rel A) {k : Int} (ik : inI k = true) : Agree sp sc mX11_bestWho mX12_bestWho [.inl k] A := by
  have hO := hR.now
  have hr := hR.row
  by_cases c : 0 ≤ k ∧ k < 6
  · have c5 : k ≤ 5 := by omega
    have wb := hO.who k c.1 c.2
    obtain ⟨n, hn⟩ : ∃ n : Nat, n = 60 := ⟨60, rfl⟩
    have en : ((n : Nat) : Int) = 60 := by omega
    have M0 := okS_mW hO hn c.1 c.2 (w := 0) (by omega) (by omega)
    have M1 := okS_mW hO hn c.1 c.2 (w := 1) (by omega) (by omega)
    have M2 := okS_mW hO hn c.1 c.2 (w := 2) (by omega) (by omega)
    have pass : ∀ (bz : List Int) (w : Int), 0 ≤ w → w ≤ 2 → bz.length = 10 → (∀ i, 0 ≤ i → i < 10 → gt0 bz i = 0 ∨ gt0 bz i = 1) → ∀ Q, Call sp sc 18 mX10_pass [.inr (.inr 31), .inl 60] (hp (A.sxy (A.now.swh k w, yr0 [0, 1, 2, 3] bz))) Q = Q none (hp (A.sxy (mW n A.now k w))) := fun bz w h2 h3 lb hbz Q => by
      have := @passC sp sc 12 A Q 0 _ (okS_yr0 (okV_swh hO c.1 c.2 h2 h3) lb hbz) (by omega) n (by omega)
      rw [daysA_bz (bz' := z10) (by omega), en] at this
      exact this
    have beg : ∀ S : iXY, LenV S.1 → LenY S.2 → ∀ Q, Call sp sc 18 mX10_begin [.inr (.inr 31), .inr (.inr (vb .now + 2))] (hp (A.sxy S)) Q = Q none (hp (A.sxy (A.now, yr0 [0, 1, 2, 3] S.2.bz))) := fun S hL hY Q => begin_eq (d := 15) (A := A.sxy S) hO hL hY
    have mind : ∀ (A1 : iA) (w : Int), 0 ≤ w → w ≤ 2 → LR A1 → ∀ Q, Call sp sc 18 mX12_inMind [.inr (.inr 140), .inl 60] (hp (A1.sS (rowOf (A.now.swh k w) A.now.dy))) Q = Q none (hp ((A1.sS (rowOf (A.now.swh k w) A.now.dy)).mr (mW n A.now k w) A.now.dy)) := fun A1 w h2 h3 hl Q => by
      have := @mr_mind sp sc 12 (A1.sS (rowOf (A.now.swh k w) A.now.dy)) Q (A.now.swh k w) A.now.dy (okV_swh hO c.1 c.2 h2 h3) rfl hl z10 z10_ok.1 z10_ok.2 n (by omega)
      rw [en] at this
      exact this
    have p0 := pass A.yr.bz 0 (by omega) (by omega) hR.yr.lbz hR.yr.bus
    have p1 := pass (mW n A.now k 0).2.bz 1 (by omega) (by omega) M0.2.lbz M0.2.bus
    have p2 := pass (mW n A.now k 1).2.bz 2 (by omega) (by omega) M1.2.lbz M1.2.bus
    have i0 := fun A1 => mind A1 0 (by omega) (by omega)
    have i1 := fun A1 => mind A1 1 (by omega) (by omega)
    have i2 := fun A1 => mind A1 2 (by omega) (by omega)
    clear pass mind
    generalize mW n A.now k 0 = N0 at *
    generalize mW n A.now k 1 = N1 at *
    generalize mW n A.now k 2 = N2 at *
    have m0 := @many_b _ M0.1 1
    have m1 := @many_b _ M1.1 1
    have b0 : -1 ≤ bwM (N0.1.many 1) (-1) ∧ bwM (N0.1.many 1) (-1) ≤ 4 := by unfold bwM; split <;> omega
    have b1 : -1 ≤ bwM (N1.1.many 1) (bwM (N0.1.many 1) (-1)) ∧ bwM (N1.1.many 1) (bwM (N0.1.many 1) (-1)) ≤ 4 := by
      generalize bwM (N0.1.many 1) (-1) = z at *
      unfold bwM; split <;> omega
    have f0 : 0 ≤ bwB (N0.1.many 1) 0 (-1) 0 ∧ bwB (N0.1.many 1) 0 (-1) 0 ≤ 2 := by unfold bwB; split <;> omega
    have f1 : 0 ≤ bwB (N1.1.many 1) 1 (bwM (N0.1.many 1) (-1)) (bwB (N0.1.many 1) 0 (-1) 0) ∧ bwB (N1.1.many 1) 1 (bwM (N0.1.many 1) (-1)) (bwB (N0.1.many 1) 0 (-1) 0) ≤ 2 := by
      generalize bwB (N0.1.many 1) 0 (-1) 0 = z at *
      unfold bwB; split <;> omega
    have f2 : 0 ≤ bwB (N2.1.many 1) 2 (bwM (N1.1.many 1) (bwM (N0.1.many 1) (-1))) (bwB (N1.1.many 1) 1 (bwM (N0.1.many 1) (-1)) (bwB (N0.1.many 1) 0 (-1) 0)) ∧ bwB (N2.1.many 1) 2 (bwM (N1.1.many 1) (bwM (N0.1.many 1) (-1))) (bwB (N1.1.many 1) 1 (bwM (N0.1.many 1) (-1)) (bwB (N0.1.many 1) 0 (-1) 0)) ≤ 2 := by
      generalize bwB (N1.1.many 1) 1 (bwM (N0.1.many 1) (-1)) (bwB (N0.1.many 1) 0 (-1) 0) = z at *
      unfold bwB; split <;> omega
    refine Agree.of (bwB (N2.1.many 1) 2 (bwM (N1.1.many 1) (bwM (N0.1.many 1) (-1))) (bwB (N1.1.many 1) 1 (bwM (N0.1.many 1) (-1)) (bwB (N0.1.many 1) 0 (-1) 0))) (A.sxy N2) (((A.sxy N2).sS (rowOf A.now A.now.dy)).mr N2 A.now.dy) (inI_of (by omega) (by omega)) (fun Q => Call_eq ?_) (fun Q => Call_eq ?_) rfl rfl ?_
    · apply eX11_bestWho 60; simp (disch := first | assumption | rfl | exact inI_of (by omega) (by omega) | omega | decide | (simp only [sv_ext, sv_mc, Nat.le_refl]; done) | with_unfolding_all (refine @id _ ?_; first | exact Eq.refl _ | exact Nat.le_refl _ | assumption)) only [Nat.reduceAdd, Nat.reduceMul, Nat.reduceLeDiff, Nat.reduceLT, Int.reduceAdd, Int.reduceSub, Int.reduceMul, Int.reduceNeg, Int.reduceLE, Int.reduceLT, Int.reduceToNat, Int.reduceEq, reduceCtorEq, ld_z, ld_s, st1_0, st1_1, st1_s, st2_0, st2_1, st2_s, isJ_i, isJ_r, isJ_n, isJ_l, cs_nil, cs_i, cs_r, cs_l, kF, List.getElem?_cons_succ, List.getElem?_cons_zero, List.set_cons_zero, List.set_cons_succ, GC_s, GC_n, GK_nil, GK_no, GK_yes, not_false_eq_true, back_eq, inI_eq, inA_eq, true_and, and_true, and_self, if_true, if_false, bI_0, bI_1, bI_in, bI_T, bI_F, fitF, jmpF, nlF, pjA, iVal.eta, iYr.eta, List.getElem?_toArray, List.length_cons, List.length_nil, true_or, or_true, or_false, false_or, Classical.not_not, Bool.false_eq_true, hp_2, Nat.zero_le, Nat.le_refl, Option.some.injEq, Sum.inl.injEq, Sum.inr.injEq, not_true_eq_false, true_implies, false_implies, implies_true, rd_v, f_num, f_lik, f_dep, f_bnd, f_man, f_wom, f_sta, f_dds, f_who, rd_y, rd_y1, rd_y2, rd_y3, rd_y4, wy, wy1, wy2, wy3, wy4, sxy_mnd, sxy_now, sxy_img, sxy_yr, sxy_xy, sxy_sxy, sv_sxy, f_ord, f_bus, f_wai, f_fin, rd_e, v_now, hasOne_eq, hasTwo_eq, hasCouple_eq, orNone_eq, natureOf_eq, rd_nat, place_eq, rd_v1, rd_v3, rd_v4, rd_v6, rd_v7, rd_v8, rd_v9, rd_v10, isShelf_eq, isSide_eq, isDeed_eq, isKind_eq, isMindSpan_eq, back_sxy, back_sxy1, f_orN, gX11_bestWho, c]
      refine bwC_iter (d := 12) (A := A) (S := (A.v .mnd, A.yr)) (T := (A.now, yr0 [0, 1, 2, 3] A.yr.bz)) hO c.1 c.2 (by omega) (by omega) (by omega) (by omega) M0 (beg (A.v .mnd, A.yr) hR.mnd hR.yr) p0 (fun o5 => ?_)
      refine bwC_iter (d := 12) (A := A) (S := N0) (T := (A.now, yr0 [0, 1, 2, 3] N0.2.bz)) hO c.1 c.2 (by omega) (by omega) b0.1 b0.2 M1 (beg N0 M0.1.len M0.2.len') p1 (fun o5 => ?_)
      refine bwC_iter (d := 12) (A := A) (S := N1) (T := (A.now, yr0 [0, 1, 2, 3] N1.2.bz)) hO c.1 c.2 (by omega) (by omega) b1.1 b1.2 M2 (beg N1 M1.1.len M1.2.len') p2 (fun o5 => ?_)
      refine G_run (B := [16]) 60 _ _ _ _ ?_
      simp (disch := first | assumption | rfl | exact inI_of (by omega) (by omega) | omega | decide | (simp only [sv_ext, sv_mc, Nat.le_refl]; done) | with_unfolding_all (refine @id _ ?_; first | exact Eq.refl _ | exact Nat.le_refl _ | assumption)) only [Nat.reduceAdd, Nat.reduceMul, Nat.reduceLeDiff, Nat.reduceLT, Int.reduceAdd, Int.reduceSub, Int.reduceMul, Int.reduceNeg, Int.reduceLE, Int.reduceLT, Int.reduceToNat, Int.reduceEq, reduceCtorEq, ld_z, ld_s, st1_0, st1_1, st1_s, st2_0, st2_1, st2_s, isJ_i, isJ_r, isJ_n, isJ_l, cs_nil, cs_i, cs_r, cs_l, kF, List.getElem?_cons_succ, List.getElem?_cons_zero, List.set_cons_zero, List.set_cons_succ, GC_s, GC_n, GK_nil, GK_no, GK_yes, not_false_eq_true, back_eq, inI_eq, inA_eq, true_and, and_true, and_self, if_true, if_false, bI_0, bI_1, bI_in, bI_T, bI_F, fitF, jmpF, nlF, pjA, iVal.eta, iYr.eta, List.getElem?_toArray, List.length_cons, List.length_nil, true_or, or_true, or_false, false_or, Classical.not_not, Bool.false_eq_true, hp_2, Nat.zero_le, Nat.le_refl, Option.some.injEq, Sum.inl.injEq, Sum.inr.injEq, not_true_eq_false, true_implies, false_implies, implies_true, rd_v, f_num, f_lik, f_dep, f_bnd, f_man, f_wom, f_sta, f_dds, f_who, rd_y, rd_y1, rd_y2, rd_y3, rd_y4, wy, wy1, wy2, wy3, wy4, sxy_mnd, sxy_now, sxy_img, sxy_yr, sxy_xy, sxy_sxy, sv_sxy, f_ord, f_bus, f_wai, f_fin, rd_e, v_now, hasOne_eq, hasTwo_eq, hasCouple_eq, orNone_eq, natureOf_eq, rd_nat, place_eq, rd_v1, rd_v3, rd_v4, rd_v6, rd_v7, rd_v8, rd_v9, rd_v10, isShelf_eq, isSide_eq, isDeed_eq, isKind_eq, isMindSpan_eq, back_sxy, back_sxy1, f_orN, gX11_bestWho]
    · have hr : (A.sxy N2).mo.s = rowOf A.now A.now.dy := hR.row
      have L := (LR.sxy (S := N2) (LR.of hR))
      have e3 := @swh_swh A.now A.now.dy k (A.now.who k) 2 hO.lwh c.1 c.2
      rw [swh_self hO.lwh c.1 c.2] at e3
      apply eX12_bestWho 60; simp (disch := first | assumption | rfl | exact inI_of (by omega) (by omega) | omega | decide | (simp only [sv_ext, sv_mc, Nat.le_refl]; done) | with_unfolding_all (refine @id _ ?_; first | exact Eq.refl _ | exact Nat.le_refl _ | assumption)) only [Nat.reduceAdd, Nat.reduceMul, Nat.reduceLeDiff, Nat.reduceLT, Int.reduceAdd, Int.reduceSub, Int.reduceMul, Int.reduceNeg, Int.reduceLE, Int.reduceLT, Int.reduceToNat, Int.reduceEq, reduceCtorEq, ld_z, ld_s, st1_0, st1_1, st1_s, st2_0, st2_1, st2_s, isJ_i, isJ_r, isJ_n, isJ_l, cs_nil, cs_i, cs_r, cs_l, kF, List.getElem?_cons_succ, List.getElem?_cons_zero, List.set_cons_zero, List.set_cons_succ, GC_s, GC_n, GK_nil, GK_no, GK_yes, not_false_eq_true, back_eq, back_hp, inI_eq, inA_eq, true_and, and_true, and_self, if_true, if_false, bI_0, bI_1, bI_in, bI_T, bI_F, fitF, jmpF, nlF, pjA, iVal.eta, iYr.eta, List.getElem?_toArray, List.length_cons, List.length_nil, true_or, or_true, or_false, false_or, Classical.not_not, Bool.false_eq_true, hp_2, Nat.zero_le, Nat.le_refl, Option.some.injEq, Sum.inl.injEq, Sum.inr.injEq, not_true_eq_false, true_implies, false_implies, implies_true, rd_o, rd_o_s, hr, row_len, inA_one, inA_lik, inA_cpl, isOne_eq hO hr, isCouple_eq hO hr, isIn_eq, atOne_eq, atLike_eq, atCouple_eq, r_num, q_n0, q_n1, r_cp, r_dy, r_sl, r_who, q_kind, q_fig, q_dep, q_bnd, q_lik, q_man, q_wom, q_sta, q_dds, orNoneR_eq, Int.zero_add, gX12_bestWho, c, c5]
      refine bwR_iter (d := 12) (e := A.now.dy) M0 c.1 c.2 (by omega) (by omega) (by omega) (by omega) hr row_len (w_who hO.lwh c.1 c.2) (i0 _ L) ?_
      refine bwR_iter (d := 12) (e := A.now.dy) M1 c.1 c.2 (by omega) (by omega) b0.1 b0.2 rfl row_len (swh_swh hO.lwh c.1 c.2) (i1 _ (LR.mr M0)) ?_
      refine bwR_iter (d := 12) (e := A.now.dy) M2 c.1 c.2 (by omega) (by omega) b1.1 b1.2 rfl row_len (swh_swh hO.lwh c.1 c.2) (i2 _ (LR.mr M1)) ?_
      refine bwR_end (d := 12) c.1 c.2 rfl row_len e3 ⟨rfl, ?_⟩
      simp only [mr_sS, mr_mr, sS_sS]
    · exact rel_mr (e := A.now.dy) ((Rel.mk ((rel_sxy hR M2)).now ((rel_sxy hR M2)).img ((rel_sxy hR M2)).mnd ((rel_sxy hR M2)).mok ((rel_sxy hR M2)).yr ((rel_sxy hR M2)).ndy ((rel_sxy hR M2)).idy (rfl) ((rel_sxy hR M2)).imd ((rel_sxy hR M2)).him ((rel_sxy hR M2)).imr ((rel_sxy hR M2)).lim ((rel_sxy hR M2)).lm ((rel_sxy hR M2)).lwas ((rel_sxy hR M2)).lwt ((rel_sxy hR M2)).len ((rel_sxy hR M2)).lod ((rel_sxy hR M2)).lnu ((rel_sxy hR M2)).lhe ((rel_sxy hR M2)).lbh ((rel_sxy hR M2)).lak ((rel_sxy hR M2)).lfi ((rel_sxy hR M2)).lth ((rel_sxy hR M2)).lke ((rel_sxy hR M2)).lkk ((rel_sxy hR M2)).lkf ((rel_sxy hR M2)).lso ((rel_sxy hR M2)).lsz ((rel_sxy hR M2)).lel ((rel_sxy hR M2)).lwv ((rel_sxy hR M2)).lhb ((rel_sxy hR M2)).lfm ((rel_sxy hR M2)).lmk ((rel_sxy hR M2)).lpt ((rel_sxy hR M2)).lout ((rel_sxy hR M2)).shs ((rel_sxy hR M2)).inj) : Rel ((A.sxy N2).sS (rowOf A.now A.now.dy))) M2
  · have c5 : ¬ (0 ≤ k ∧ k ≤ 5) := by omega
    refine Agree.of (-1) A A rfl (fun Q => Call_eq ?_) (fun Q => Call_eq ?_) rfl rfl hR
    · apply eX11_bestWho 60; simp (disch := first | assumption | rfl | exact inI_of (by omega) (by omega) | omega | decide | (simp only [sv_ext, sv_mc, Nat.le_refl]; done) | with_unfolding_all (refine @id _ ?_; first | exact Eq.refl _ | exact Nat.le_refl _ | assumption)) only [Nat.reduceAdd, Nat.reduceMul, Nat.reduceLeDiff, Nat.reduceLT, Int.reduceAdd, Int.reduceSub, Int.reduceMul, Int.reduceNeg, Int.reduceLE, Int.reduceLT, Int.reduceToNat, Int.reduceEq, reduceCtorEq, ld_z, ld_s, st1_0, st1_1, st1_s, st2_0, st2_1, st2_s, isJ_i, isJ_r, isJ_n, isJ_l, cs_nil, cs_i, cs_r, cs_l, kF, List.getElem?_cons_succ, List.getElem?_cons_zero, List.set_cons_zero, List.set_cons_succ, GC_s, GC_n, GK_nil, GK_no, GK_yes, not_false_eq_true, back_eq, inI_eq, inA_eq, true_and, and_true, and_self, if_true, if_false, bI_0, bI_1, bI_in, bI_T, bI_F, fitF, jmpF, nlF, pjA, iVal.eta, iYr.eta, List.getElem?_toArray, List.length_cons, List.length_nil, true_or, or_true, or_false, false_or, Classical.not_not, Bool.false_eq_true, hp_2, Nat.zero_le, Nat.le_refl, Option.some.injEq, Sum.inl.injEq, Sum.inr.injEq, not_true_eq_false, true_implies, false_implies, implies_true, rd_v, f_num, f_lik, f_dep, f_bnd, f_man, f_wom, f_sta, f_dds, f_who, rd_y, rd_y1, rd_y2, rd_y3, rd_y4, wy, wy1, wy2, wy3, wy4, sxy_mnd, sxy_now, sxy_img, sxy_yr, sxy_xy, sxy_sxy, sv_sxy, f_ord, f_bus, f_wai, f_fin, rd_e, v_now, hasOne_eq, hasTwo_eq, hasCouple_eq, orNone_eq, natureOf_eq, rd_nat, place_eq, rd_v1, rd_v3, rd_v4, rd_v6, rd_v7, rd_v8, rd_v9, rd_v10, isShelf_eq, isSide_eq, isDeed_eq, isKind_eq, isMindSpan_eq, back_sxy, back_sxy1, f_orN, gX11_bestWho, c]
    · apply eX12_bestWho 60; simp (disch := first | assumption | rfl | exact inI_of (by omega) (by omega) | omega | decide | (simp only [sv_ext, sv_mc, Nat.le_refl]; done) | with_unfolding_all (refine @id _ ?_; first | exact Eq.refl _ | exact Nat.le_refl _ | assumption)) only [Nat.reduceAdd, Nat.reduceMul, Nat.reduceLeDiff, Nat.reduceLT, Int.reduceAdd, Int.reduceSub, Int.reduceMul, Int.reduceNeg, Int.reduceLE, Int.reduceLT, Int.reduceToNat, Int.reduceEq, reduceCtorEq, ld_z, ld_s, st1_0, st1_1, st1_s, st2_0, st2_1, st2_s, isJ_i, isJ_r, isJ_n, isJ_l, cs_nil, cs_i, cs_r, cs_l, kF, List.getElem?_cons_succ, List.getElem?_cons_zero, List.set_cons_zero, List.set_cons_succ, GC_s, GC_n, GK_nil, GK_no, GK_yes, not_false_eq_true, back_eq, back_hp, inI_eq, inA_eq, true_and, and_true, and_self, if_true, if_false, bI_0, bI_1, bI_in, bI_T, bI_F, fitF, jmpF, nlF, pjA, iVal.eta, iYr.eta, List.getElem?_toArray, List.length_cons, List.length_nil, true_or, or_true, or_false, false_or, Classical.not_not, Bool.false_eq_true, hp_2, Nat.zero_le, Nat.le_refl, Option.some.injEq, Sum.inl.injEq, Sum.inr.injEq, not_true_eq_false, true_implies, false_implies, implies_true, rd_o, rd_o_s, hr, row_len, inA_one, inA_lik, inA_cpl, isOne_eq hO hr, isCouple_eq hO hr, isIn_eq, atOne_eq, atLike_eq, atCouple_eq, r_num, q_n0, q_n1, r_cp, r_dy, r_sl, r_who, q_kind, q_fig, q_dep, q_bnd, q_lik, q_man, q_wom, q_sta, q_dds, orNoneR_eq, Int.zero_add, gX12_bestWho, c5]
end OPS
