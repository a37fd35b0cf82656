set_option maxRecDepth 16384
/-! ===== a call: valley ===== -/
/-- the reference's place in the row: at, where the row lies, its end -/
def iA.sHd (A : iA) (p q r : Int) : iA := (iA.mk A.now A.img A.mnd A.imd A.yr A.mt A.sh A.pt ((iMo.mk A.mo.s A.mo.m A.mo.im A.mo.was A.mo.hi A.mo.wt A.mo.en A.mo.od A.mo.dn A.mo.sm A.mo.sf A.mo.go (p) (q) (r) A.mo.nu A.mo.bd A.mo.bg A.mo.he A.mo.bh A.mo.ak A.mo.st A.mo.ml A.mo.fi A.mo.th A.mo.se A.mo.ke A.mo.kk A.mo.kf A.mo.so A.mo.sz A.mo.el A.mo.tn)) A.out A.ext A.mc)
theorem fbF_b {l : List Int} {z : Int} : ∀ (f : Nat) (p : Int), 0 ≤ p → fbF l z f p = -1 ∨ (0 ≤ fbF l z f p ∧ fbF l z f p ≤ p + 7 * f + 10) := by
  intro f
  induction f with
  | zero => intro p h0; left; rfl
  | succ f ih =>
    intro p h0
    have kb := @dbF_b (bFc l z p)
    have sc := stm_cases (l := l) (z := z) h0
    rw [fbF]
    by_cases c : 0 ≤ stmF l z p
    · rw [if_pos c]; right; omega
    · rw [if_neg c]
      have kn : ¬ dbF (bFc l z p) < 0 := fun y => by rw [stm_no rfl y] at c; exact c h0
      by_cases c2 : p + (dbF (bFc l z p) + 2) < z
      · rw [if_pos c2]
        have := ih (p + (dbF (bFc l z p) + 2)) (by omega)
        omega
      · rw [if_neg c2]; left; rfl
theorem cntF_b {l : List Int} {z : Int} : ∀ (f : Nat) (p : Int), 0 ≤ cntF l z f p ∧ cntF l z f p ≤ f := by
  intro f
  induction f with
  | zero => intro p; unfold cntF; omega
  | succ f ih =>
    intro p
    have := ih (p + (dbF (bFc l z p) + 2))
    unfold cntF
    split <;> omega
section OPS
variable {sp : Nat → List iV → iH → Option (Option iV × iH)} {sc : List Int} {d : Nat} {A A' : iA} {Q : Option iV → iH → Prop} {h : iH} {X : iVal} {D : Nat} {l nu nu2 : List Int} {z i x p p2 q q2 r r2 B e : Int} {w : iW} {S T : iXY} {R : iRy}
theorem sHd_at : (A.sHd p q r).mo.at_ = p := rfl
theorem sHd_ra : (A.sHd p q r).mo.ra = q := rfl
theorem sHd_re : (A.sHd p q r).mo.re = r := rfl
theorem sHd_sz : (A.sHd p q r).mo.sz = A.mo.sz := rfl
theorem wr_Hd : ((hp (A.sHd p q r)).1.set (138) (.inl (12, [.inr (.inr (139 + 2)), .inr (.inr (140 + 2)), .inr (.inr (141 + 2)), .inr (.inr (142 + 2)), .inl (A.sHd p q r).mo.hi, .inr (.inr (143 + 2)), .inr (.inr (144 + 2)), .inr (.inr (145 + 2)), .inl (A.sHd p q r).mo.dn, .inl (A.sHd p q r).mo.sm, .inl (A.sHd p q r).mo.sf, .inl (A.sHd p q r).mo.go, .inl p2, .inl q2, .inl r2, .inr (.inr (146 + 2)), .inl (A.sHd p q r).mo.bd, .inl (A.sHd p q r).mo.bg, .inr (.inr (147 + 2)), .inr (.inr (148 + 2)), .inr (.inr (149 + 2)), .inl (A.sHd p q r).mo.st, .inl (A.sHd p q r).mo.ml, .inr (.inr (150 + 2)), .inr (.inr (151 + 2)), .inl (A.sHd p q r).mo.se, .inr (.inr (152 + 2)), .inr (.inr (153 + 2)), .inr (.inr (154 + 2)), .inr (.inr (155 + 2)), .inr (.inr (156 + 2)), .inr (.inr (157 + 2)), .inl (A.sHd p q r).mo.tn])), (A.sHd p q r).mc) = hp (A.sHd p2 q2 r2) := wr_o
theorem sro_sRd {l1 : List Int} : (A.sRd p nu).sro .s l1 R = (A.sro .s l1 R).sRd p nu := rfl
theorem laysS {l1 : List Int} (lw : A'.mo.was.length = 117) (ls : l1.length = 117) : Call sp sc d mX12_lays [.inr (.inr 144), .inr (.inr 141)] (hp ((A'.sro .s l1 R).sRd p nu)) Q = Q none (hp ((A'.sro .s A'.mo.was R).sRd p nu)) := by
  have k := lays_eq (sp := sp) (sc := sc) (d := d) (Q := Q) (h := hp ((A'.sro .s l1 R).sRd p nu)) (a := 142) (b := 139) (xs := A'.mo.was) (ys := l1) (by decide) rfl rfl lw ls
  have k : Call sp sc d mX12_lays [.inr (.inr 144), .inr (.inr 141)] (hp ((A'.sro .s l1 R).sRd p nu)) Q = Q none ((hp ((A'.sro .s l1 R).sRd p nu)).1.set 139 (.inr (.inl (0, A'.mo.was))), ((A'.sro .s l1 R).sRd p nu).mc) := k
  rw [k]
  have e := wr_sS (A := (A'.sro .s l1 R).sRd p nu) (l := A'.mo.was)
  have e2 : ((A'.sro .s l1 R).sRd p nu).sS A'.mo.was = (A'.sro .s A'.mo.was R).sRd p nu := by rw [← sro_sRd, sro_sS, sro_sRd]
  rw [e2] at e
  exact congrArg (Q none) e
theorem sxy_sh : (A.sxy S).sh = A.sh := rfl
theorem wrongRow0_eq {a : Int} (ia : inI a = true) (lk : A.mo.ke.length = 8) (lo : A.mo.so.length = 8) (hv : ∀ a : Int, 0 ≤ a → a < 8 → A.mo.ke.getD a.toNat 0 = 0 ∨ A.mo.ke.getD a.toNat 0 = 1 ∨ A.mo.ke.getD a.toNat 0 = 2) (hs : ∀ a : Int, 0 ≤ a → a < 8 → A.mo.ke.getD a.toNat 0 = 2 → 0 ≤ A.mo.so.getD a.toNat 0 ∧ A.mo.so.getD a.toNat 0 ≤ 2) : Call sp sc (d + 2) mX12_wrongRow [.inr (.inr 140), .inl a, .inl 0] (hp A) Q = Q (some (.inl (if 0 ≤ a ∧ a < 8 then (if A.mo.ke.getD a.toNat 0 = 0 then -11 else if A.mo.ke.getD a.toNat 0 = 2 ∧ A.mo.so.getD a.toNat 0 = 0 then 0 else -12) else -1))) (hp A) := Call_eq (by
  apply eX12_wrongRow 40
  by_cases c : 0 ≤ a ∧ a < 8
  · rw [if_pos c]
    rcases hv a c.1 c.2 with y | y | y
    · rw [if_pos y]
      simp (disch := first | assumption | rfl | exact inI_of (by omega) (by omega) | omega | decide | (simp only [sv_ext, sv_mc, Nat.le_refl]; done) | with_unfolding_all (refine @id _ ?_; first | exact Eq.refl _ | exact Nat.le_refl _ | assumption)) only [Nat.reduceAdd, Nat.reduceMul, Nat.reduceLeDiff, Nat.reduceLT, Int.reduceAdd, Int.reduceSub, Int.reduceMul, Int.reduceNeg, Int.reduceLE, Int.reduceLT, Int.reduceToNat, Int.reduceEq, reduceCtorEq, ld_z, ld_s, st1_0, st1_1, st1_s, st2_0, st2_1, st2_s, isJ_i, isJ_r, isJ_n, isJ_l, cs_nil, cs_i, cs_r, cs_l, kF, List.getElem?_cons_succ, List.getElem?_cons_zero, List.set_cons_zero, List.set_cons_succ, GC_s, GC_n, GK_nil, GK_no, GK_yes, not_false_eq_true, back_eq, back_hp, inI_eq, inA_eq, true_and, and_true, and_self, if_true, if_false, bI_0, bI_1, bI_in, bI_T, bI_F, fitF, jmpF, nlF, pjA, iVal.eta, iYr.eta, List.getElem?_toArray, List.length_cons, List.length_nil, true_or, or_true, or_false, false_or, Classical.not_not, Bool.false_eq_true, hp_2, Nat.zero_le, Nat.le_refl, Option.some.injEq, Sum.inl.injEq, Sum.inr.injEq, not_true_eq_false, true_implies, false_implies, implies_true, Int.le_refl, gX12_wrongRow, isShelfR_eq, c, rd_o, rd_o_ke, lk, y]
    · rw [if_neg (by omega), if_neg (by omega)]
      simp (disch := first | assumption | rfl | exact inI_of (by omega) (by omega) | omega | decide | (simp only [sv_ext, sv_mc, Nat.le_refl]; done) | with_unfolding_all (refine @id _ ?_; first | exact Eq.refl _ | exact Nat.le_refl _ | assumption)) only [Nat.reduceAdd, Nat.reduceMul, Nat.reduceLeDiff, Nat.reduceLT, Int.reduceAdd, Int.reduceSub, Int.reduceMul, Int.reduceNeg, Int.reduceLE, Int.reduceLT, Int.reduceToNat, Int.reduceEq, reduceCtorEq, ld_z, ld_s, st1_0, st1_1, st1_s, st2_0, st2_1, st2_s, isJ_i, isJ_r, isJ_n, isJ_l, cs_nil, cs_i, cs_r, cs_l, kF, List.getElem?_cons_succ, List.getElem?_cons_zero, List.set_cons_zero, List.set_cons_succ, GC_s, GC_n, GK_nil, GK_no, GK_yes, not_false_eq_true, back_eq, back_hp, inI_eq, inA_eq, true_and, and_true, and_self, if_true, if_false, bI_0, bI_1, bI_in, bI_T, bI_F, fitF, jmpF, nlF, pjA, iVal.eta, iYr.eta, List.getElem?_toArray, List.length_cons, List.length_nil, true_or, or_true, or_false, false_or, Classical.not_not, Bool.false_eq_true, hp_2, Nat.zero_le, Nat.le_refl, Option.some.injEq, Sum.inl.injEq, Sum.inr.injEq, not_true_eq_false, true_implies, false_implies, implies_true, Int.le_refl, gX12_wrongRow, isShelfR_eq, c, rd_o, rd_o_ke, lk, y]
    · have b := hs a c.1 c.2 y
      rw [if_neg (by omega)]
      by_cases o : A.mo.so.getD a.toNat 0 = 0
      · rw [if_pos ⟨y, o⟩]
        simp (disch := first | assumption | rfl | exact inI_of (by omega) (by omega) | omega | decide | (simp only [sv_ext, sv_mc, Nat.le_refl]; done) | with_unfolding_all (refine @id _ ?_; first | exact Eq.refl _ | exact Nat.le_refl _ | assumption)) only [Nat.reduceAdd, Nat.reduceMul, Nat.reduceLeDiff, Nat.reduceLT, Int.reduceAdd, Int.reduceSub, Int.reduceMul, Int.reduceNeg, Int.reduceLE, Int.reduceLT, Int.reduceToNat, Int.reduceEq, reduceCtorEq, ld_z, ld_s, st1_0, st1_1, st1_s, st2_0, st2_1, st2_s, isJ_i, isJ_r, isJ_n, isJ_l, cs_nil, cs_i, cs_r, cs_l, kF, List.getElem?_cons_succ, List.getElem?_cons_zero, List.set_cons_zero, List.set_cons_succ, GC_s, GC_n, GK_nil, GK_no, GK_yes, not_false_eq_true, back_eq, back_hp, inI_eq, inA_eq, true_and, and_true, and_self, if_true, if_false, bI_0, bI_1, bI_in, bI_T, bI_F, fitF, jmpF, nlF, pjA, iVal.eta, iYr.eta, List.getElem?_toArray, List.length_cons, List.length_nil, true_or, or_true, or_false, false_or, Classical.not_not, Bool.false_eq_true, hp_2, Nat.zero_le, Nat.le_refl, Option.some.injEq, Sum.inl.injEq, Sum.inr.injEq, not_true_eq_false, true_implies, false_implies, implies_true, Int.le_refl, gX12_wrongRow, isShelfR_eq, c, rd_o, rd_o_ke, rd_o_so, lk, lo, y, eq_true o, o]
      · rw [if_neg (fun u => o u.2)]
        simp (disch := first | assumption | rfl | exact inI_of (by omega) (by omega) | omega | decide | (simp only [sv_ext, sv_mc, Nat.le_refl]; done) | with_unfolding_all (refine @id _ ?_; first | exact Eq.refl _ | exact Nat.le_refl _ | assumption)) only [Nat.reduceAdd, Nat.reduceMul, Nat.reduceLeDiff, Nat.reduceLT, Int.reduceAdd, Int.reduceSub, Int.reduceMul, Int.reduceNeg, Int.reduceLE, Int.reduceLT, Int.reduceToNat, Int.reduceEq, reduceCtorEq, ld_z, ld_s, st1_0, st1_1, st1_s, st2_0, st2_1, st2_s, isJ_i, isJ_r, isJ_n, isJ_l, cs_nil, cs_i, cs_r, cs_l, kF, List.getElem?_cons_succ, List.getElem?_cons_zero, List.set_cons_zero, List.set_cons_succ, GC_s, GC_n, GK_nil, GK_no, GK_yes, not_false_eq_true, back_eq, back_hp, inI_eq, inA_eq, true_and, and_true, and_self, if_true, if_false, bI_0, bI_1, bI_in, bI_T, bI_F, fitF, jmpF, nlF, pjA, iVal.eta, iYr.eta, List.getElem?_toArray, List.length_cons, List.length_nil, true_or, or_true, or_false, false_or, Classical.not_not, Bool.false_eq_true, hp_2, Nat.zero_le, Nat.le_refl, Option.some.injEq, Sum.inl.injEq, Sum.inr.injEq, not_true_eq_false, true_implies, false_implies, implies_true, Int.le_refl, gX12_wrongRow, isShelfR_eq, c, rd_o, rd_o_ke, rd_o_so, lk, lo, y, o]
  · rw [if_neg c]
    simp (disch := first | assumption | rfl | exact inI_of (by omega) (by omega) | omega | decide | (simp only [sv_ext, sv_mc, Nat.le_refl]; done) | with_unfolding_all (refine @id _ ?_; first | exact Eq.refl _ | exact Nat.le_refl _ | assumption)) only [Nat.reduceAdd, Nat.reduceMul, Nat.reduceLeDiff, Nat.reduceLT, Int.reduceAdd, Int.reduceSub, Int.reduceMul, Int.reduceNeg, Int.reduceLE, Int.reduceLT, Int.reduceToNat, Int.reduceEq, reduceCtorEq, ld_z, ld_s, st1_0, st1_1, st1_s, st2_0, st2_1, st2_s, isJ_i, isJ_r, isJ_n, isJ_l, cs_nil, cs_i, cs_r, cs_l, kF, List.getElem?_cons_succ, List.getElem?_cons_zero, List.set_cons_zero, List.set_cons_succ, GC_s, GC_n, GK_nil, GK_no, GK_yes, not_false_eq_true, back_eq, back_hp, inI_eq, inA_eq, true_and, and_true, and_self, if_true, if_false, bI_0, bI_1, bI_in, bI_T, bI_F, fitF, jmpF, nlF, pjA, iVal.eta, iYr.eta, List.getElem?_toArray, List.length_cons, List.length_nil, true_or, or_true, or_false, false_or, Classical.not_not, Bool.false_eq_true, hp_2, Nat.zero_le, Nat.le_refl, Option.some.injEq, Sum.inl.injEq, Sum.inr.injEq, not_true_eq_false, true_implies, false_implies, implies_true, Int.le_refl, gX12_wrongRow, isShelfR_eq, c])
theorem back_W {A2 : iA} {l1 l2 nu1 nu2 : List Int} {R1 R2 : iRy} {p1 p2 : Int} {L : List (Option iV)} {rest : List iV} : back (hp ((A2.sro .s l1 R1).sRd p1 nu1)) (hp ((A2.sro .s l2 R2).sRd p2 nu2)) L rest = True := back_hp rfl (Nat.le_refl _)
/-- behind a statement's letter there is no letter till the statement's end: the class goes on place by place -/
theorem sk_let {D0 : Int} (hk : dbF (bFc l z p) = D0) (es : stmF l z p = -1) (h0 : 0 ≤ p) : p + (D0 + 2) ≤ z ∧ ∀ j : Int, p + 1 ≤ j → j < p + (D0 + 2) → dbF (bFc l z j) = -1 := by
  have c : ¬ D0 < 0 := fun y => by rw [stm_no hk y] at es; omega
  have g : ndF l z D0.toNat (p + 1) = p + 1 + D0 ∧ bFc l z (p + 1 + D0) = 59 := by
    by_cases c2 : ndF l z D0.toNat (p + 1) = p + 1 + D0 ∧ bFc l z (p + 1 + D0) = 59
    · exact c2
    · have nb := @ndF_b l z D0.toNat (p + 1)
      rw [stm_bad hk c c2] at es; omega
  have fu := ndF_full D0.toNat (p + 1) (by rw [g.1]; omega)
  refine ⟨?_, fun j a b => ?_⟩
  · by_cases y : p + 1 + D0 < z
    · omega
    · have e : bFc l z (p + 1 + D0) = 0 := by unfold bFc; rw [if_neg (fun u => y u.2)]
      omega
  · by_cases y : j = p + 1 + D0
    · rw [y, g.2]; decide
    · have u := fu (j - (p + 1)) (by omega) (by omega)
      have ej : p + 1 + (j - (p + 1)) = j := by omega
      rw [ej] at u
      exact dbF_no (by omega)
theorem sk_loop (hd : D < 8) (hT : okT A D l z) (hb : okB l z) (hz : (A.sh D).sz = z) (z0 : 0 ≤ z ∧ z ≤ 100) {ad bad m : Int} : ∀ (n : Nat) (p e : Int) (S : iXY) (Q : Option iV → iH → Prop), p + (n : Int) = e → 0 ≤ p → e ≤ z → (∀ j : Int, p ≤ j → j < e → dbF (bFc l z j) = -1) → Run sp sc 19 mX11_valley 76 [some (.inr (.inr 2)), some (.inl ad), some (.inr (.inr (107 + 2 * D + 2))), some (.inl bad), some (.inl m), some (.inl e)] [] (hp (A.sxy S)) Q → Run sp sc 19 mX11_valley 76 [some (.inr (.inr 2)), some (.inl ad), some (.inr (.inr (107 + 2 * D + 2))), some (.inl bad), some (.inl m), some (.inl p)] [] (hp (A.sxy S)) Q := by
  intro n
  induction n with
  | zero =>
    intro p e S Q h0 h1 h2 h3 hq
    have : p = e := by omega
    rw [this]; exact hq
  | succ n ih =>
    intro p e S Q h0 h1 h2 h3 hq
    have k := ih (p + 1) e S Q (by omega) (by omega) h2 (fun j a b => h3 j (by omega) b) hq
    have ip : inI p = true := inI_of (by omega) (by omega)
    have iz : inI z = true := inI_of (by omega) (by omega)
    have e1 : ¬ z ≤ p := by omega
    have hz2 : ((A.sxy S).sh D).sz = z := hz
    have ba : ∀ Q, Call sp sc 18 mX5_byteAt [.inr (.inr (107 + 2 * D + 2)), .inl p] (hp (A.sxy S)) Q = Q (some (.inl (bFc l z p))) (hp (A.sxy S)) := (hT sp sc 17 p S ip).1
    have bb := bFc_b (l := l) (z := z) (i := p) hb
    have db : ∀ Q, Call sp sc 18 mX11_digitsBehind [.inl (bFc l z p)] (hp (A.sxy S)) Q = Q (some (.inl (dbF (bFc l z p)))) (hp (A.sxy S)) := fun Q => digitsBehind_eq (inI_of (by omega) (by omega))
    have hk := h3 p (by omega) (by omega)
    have kp : dbF (bFc l z p) ≤ 0 := by omega
    have ik : inI (dbF (bFc l z p)) = true := inI_of (by omega) (by omega)
    refine G_run (B := [76]) 60 _ _ _ _ ?_
    simp (disch := first | assumption | rfl | exact inI_of (by omega) (by omega) | omega | decide | (simp only [sv_ext, sv_mc, Nat.le_refl]; done) | with_unfolding_all (refine @id _ ?_; first | exact Eq.refl _ | exact Nat.le_refl _ | assumption)) only [Nat.reduceAdd, Nat.reduceMul, Nat.reduceLeDiff, Nat.reduceLT, Int.reduceAdd, Int.reduceSub, Int.reduceMul, Int.reduceNeg, Int.reduceLE, Int.reduceLT, Int.reduceToNat, Int.reduceEq, reduceCtorEq, ld_z, ld_s, st1_0, st1_1, st1_s, st2_0, st2_1, st2_s, isJ_i, isJ_r, isJ_n, isJ_l, cs_nil, cs_i, cs_r, cs_l, kF, List.getElem?_cons_succ, List.getElem?_cons_zero, List.set_cons_zero, List.set_cons_succ, GC_s, GC_n, GK_nil, GK_no, GK_yes, not_false_eq_true, back_eq, back_hp, inI_eq, inA_eq, true_and, and_true, and_self, if_true, if_false, bI_0, bI_1, bI_in, bI_T, bI_F, fitF, jmpF, nlF, pjA, iVal.eta, iYr.eta, List.getElem?_toArray, List.length_cons, List.length_nil, true_or, or_true, or_false, false_or, Classical.not_not, Bool.false_eq_true, hp_2, Nat.zero_le, Nat.le_refl, Option.some.injEq, Sum.inl.injEq, Sum.inr.injEq, not_true_eq_false, true_implies, false_implies, implies_true, Int.le_refl, rd_v, f_num, f_lik, f_dep, f_bnd, f_man, f_wom, f_sta, f_dds, f_who, rd_y, rd_y1, rd_y2, rd_y3, rd_y4, wy, wy1, wy2, wy3, wy4, sxy_mnd, sxy_now, sxy_img, sxy_yr, sxy_xy, sxy_sxy, sv_sxy, f_ord, f_bus, f_wai, f_fin, gX11_valley, rd_e, rd_s, hz2, e1, ip, iz, ba, db, kp, ik, back_sxy]
    exact k
theorem v2_loop (hd : D < 8) (hT : okT A D l z) (hb : okB l z) (hz : (A.sh D).sz = z) (z0 : 0 ≤ z ∧ z ≤ 100) (hL : LenV A.now) {ad bad wr : Int} : ∀ (f : Nat) (p m : Int) (S : iXY) (B : Int), 0 ≤ p → p < z → z ≤ p + 4 * f → fbF l z f p = -1 → OkS S B → B + 300 * f ≤ 80000 → S.2.od = [0, 1, 2, 3] → dyOK S → 0 ≤ m → m + f ≤ 1000 →
    ∃ (r v : Int) (T : iXY) (B' : Int), (r = 0 ∨ r = 1) ∧ OkS T B' ∧ dyOK T ∧ -3000 ≤ v ∧ v ≤ 3000 ∧
      (∀ Q, Q (some (.inl v)) (hp (if r = 1 then (A.sxy T).sv .now T.1 else A.sxy T)) → Run sp sc 19 mX11_valley 76 [some (.inr (.inr 2)), some (.inl ad), some (.inr (.inr (107 + 2 * D + 2))), some (.inl bad), some (.inl m), some (.inl p)] [] (hp (A.sxy S)) Q) ∧
      (∀ (A2 : iA) (R : iRy) (nu : List Int) (o5 o6 o7 : Option iV), (∀ l1 R1, okR (A2.sro .s l1 R1) l z) → A2.mo.re = z → A2.mo.was.length = 117 → lenR R → nu.length = 4 → ∃ (R' : iRy) (nu' : List Int) (q : Int), lenR R' ∧ nu'.length = 4 ∧ ∀ Q, Q (some (.inl v)) (hp ((A2.sro .s (if r = 1 then rowOf T.1 T.1.dy else A2.mo.was) R').sRd q nu')) → Run sp sc 19 mX12_valley 93 [some (.inr (.inr 140)), some (.inl ad), some (.inl wr), some (.inl (m + cntF l z f p)), some (.inl 0), o5, o6, o7] [] (hp ((A2.sro .s (rowOf S.1 S.1.dy) R).sRd p nu)) Q) := by
  intro f
  induction f with
  | zero => intro p m S B h0 h1 h2; omega
  | succ f ih =>
    intro p m S B h0 h1 h2 hf hS hB ho hy m0 mf
    have cb := cntF_b (l := l) (z := z) (f + 1) p
    have es : stmF l z p = -1 := by
      rcases stm_cases (l := l) (z := z) h0 with y | y
      · exact y
      · rw [fbF, if_pos y.1] at hf; omega
    have kn : ¬ dbF (bFc l z p) < 0 := fun y => by rw [stm_no rfl y] at es; omega
    have kb := @dbF_b (bFc l z p)
    have hlet := dbF_let (b := bFc l z p) (by omega)
    have er := (bFc_rFc (l := l) (z := z) hb h0 (b := bFc l z p) (by omega) (by omega)).mp rfl
    have eR : rdR l z p = 1 := by unfold rdR; rw [if_pos es]
    have eP : rdP l z p = p + (dbF (bFc l z p) + 2) := by unfold rdP; rw [if_pos es]
    rw [fbF, if_neg (by omega)] at hf
    obtain ⟨r1, T1, hr1, hS1, ho1, hy1, k1, k2⟩ := both_all (sp := sp) (sc := sc) hd hT hS (by omega) ho hy h0 (by omega) es
    have ip : inI p = true := inI_of (by omega) (by omega)
    have iz : inI z = true := inI_of (by omega) (by omega)
    have e1 : ¬ z ≤ p := by omega
    have baS : ∀ Q, Call sp sc 18 mX5_byteAt [.inr (.inr (107 + 2 * D + 2)), .inl p] (hp (A.sxy S)) Q = Q (some (.inl (bFc l z p))) (hp (A.sxy S)) := (hT sp sc 17 p S ip).1
    have bbS := bFc_b (l := l) (z := z) (i := p) hb
    have dbS : ∀ Q, Call sp sc 18 mX11_digitsBehind [.inl (bFc l z p)] (hp (A.sxy S)) Q = Q (some (.inl (dbF (bFc l z p)))) (hp (A.sxy S)) := fun Q => digitsBehind_eq (inI_of (by omega) (by omega))
    have kp : ¬ dbF (bFc l z p) ≤ 0 := by omega
    have ik : inI (dbF (bFc l z p)) = true := inI_of (by omega) (by omega)
    have skl := sk_let rfl es h0
    -- the reference's statement
    have ref : ∀ (A2 : iA) (R : iRy) (nu : List Int), (∀ l1 R1, okR (A2.sro .s l1 R1) l z) → lenR R → nu.length = 4 → ∃ (R1 : iRy) (nu1 : List Int), lenR R1 ∧ nu1.length = 4 ∧ (∀ Q, Call sp sc 18 mX12_here [.inr (.inr 140)] (hp ((A2.sro .s (rowOf S.1 S.1.dy) R).sRd p nu)) Q = Q (some (.inl (bFc l z p))) (hp ((A2.sro .s (rowOf S.1 S.1.dy) R).sRd p nu))) ∧ (∀ Q, Call sp sc 18 mX12_readsStatement [.inr (.inr 140)] (hp ((A2.sro .s (rowOf S.1 S.1.dy) R).sRd p nu)) Q = Q (some (.inl 1)) (hp ((A2.sro .s (rowOf S.1 S.1.dy) R).sRd (p + (dbF (bFc l z p) + 2)) nu1))) ∧ (∀ Q, Call sp sc 18 mX12_isDone [.inr (.inr 140), .inl (bFc l z p)] (hp ((A2.sro .s (rowOf S.1 S.1.dy) R).sRd (p + (dbF (bFc l z p) + 2)) nu1)) Q = Q (some (.inl r1)) (hp ((A2.sro .s (rowOf T1.1 T1.1.dy) R1).sRd (p + (dbF (bFc l z p) + 2)) nu1))) := fun A2 R nu hH hR ln => by
      have hH1 := hH (rowOf S.1 S.1.dy) R
      obtain ⟨nu1, ln1, hu, rd⟩ := @rs_ok sp sc 16 (A2.sro .s (rowOf S.1 S.1.dy) R) l nu z p hH1 hb h0 (by omega) ln
      rw [eR, eP] at rd
      obtain ⟨R1, hR1, k3⟩ := k2 (A2.sRd (p + (dbF (bFc l z p) + 2)) nu1) R hR ln1 (hu es)
      refine ⟨R1, nu1, hR1, ln1, fun Q => ?_, rd, fun Q => ?_⟩
      · have := hH1 sp sc 18 p nu Q h0 (by omega)
        rw [er] at this; exact this
      · have := k3 Q
        rw [sro_sRd, sro_sRd] at this
        exact this
    rcases hr1 with rfl | rfl
    · -- it can't be done
      refine ⟨0, -2000 - p, T1, B + 300, Or.inl rfl, hS1, hy1, by omega, by omega, fun Q hq => ?_, fun A2 R nu o5 o6 o7 hH hre lw hR ln => ?_⟩
      · rw [if_neg (by omega)] at hq
        have hz2 : ((A.sxy S).sh D).sz = z := hz
        refine G_run (B := [76]) 60 _ _ _ _ ?_
        simp (disch := first | assumption | rfl | exact inI_of (by omega) (by omega) | omega | decide | (simp only [sv_ext, sv_mc, Nat.le_refl]; done) | with_unfolding_all (refine @id _ ?_; first | exact Eq.refl _ | exact Nat.le_refl _ | assumption)) only [Nat.reduceAdd, Nat.reduceMul, Nat.reduceLeDiff, Nat.reduceLT, Int.reduceAdd, Int.reduceSub, Int.reduceMul, Int.reduceNeg, Int.reduceLE, Int.reduceLT, Int.reduceToNat, Int.reduceEq, reduceCtorEq, ld_z, ld_s, st1_0, st1_1, st1_s, st2_0, st2_1, st2_s, isJ_i, isJ_r, isJ_n, isJ_l, cs_nil, cs_i, cs_r, cs_l, kF, List.getElem?_cons_succ, List.getElem?_cons_zero, List.set_cons_zero, List.set_cons_succ, GC_s, GC_n, GK_nil, GK_no, GK_yes, not_false_eq_true, back_eq, back_hp, inI_eq, inA_eq, true_and, and_true, and_self, if_true, if_false, bI_0, bI_1, bI_in, bI_T, bI_F, fitF, jmpF, nlF, pjA, iVal.eta, iYr.eta, List.getElem?_toArray, List.length_cons, List.length_nil, true_or, or_true, or_false, false_or, Classical.not_not, Bool.false_eq_true, hp_2, Nat.zero_le, Nat.le_refl, Option.some.injEq, Sum.inl.injEq, Sum.inr.injEq, not_true_eq_false, true_implies, false_implies, implies_true, Int.le_refl, rd_v, f_num, f_lik, f_dep, f_bnd, f_man, f_wom, f_sta, f_dds, f_who, rd_y, rd_y1, rd_y2, rd_y3, rd_y4, wy, wy1, wy2, wy3, wy4, sxy_mnd, sxy_now, sxy_img, sxy_yr, sxy_xy, sxy_sxy, sv_sxy, f_ord, f_bus, f_wai, f_fin, gX11_valley, rd_e, rd_s, hz2, e1, ip, iz, baS, dbS, kp, ik, k1, back_sxy]
        exact hq
      · obtain ⟨R1, nu1, hR1, ln1, hh, rd, dn⟩ := ref A2 R nu hH hR ln
        refine ⟨R1, nu1, p + (dbF (bFc l z p) + 2), hR1, ln1, fun Q hq => ?_⟩
        rw [if_neg (by omega)] at hq
        have hz2 : ((A2.sro .s (rowOf S.1 S.1.dy) R).sRd p nu).mo.re = z := hre
        have hl := fun Q => @laysS sp sc 18 A2 Q nu1 (p + (dbF (bFc l z p) + 2)) R1 (rowOf T1.1 T1.1.dy) lw row_len
        have i1 : inI (-2000 - p) = true := inI_of (by omega) (by omega)
        have f1 : ¬ -2000 - p = 0 := by omega
        refine G_run (B := [41, 93]) 90 _ _ _ _ ?_
        simp (disch := first | assumption | rfl | exact inI_of (by omega) (by omega) | omega | decide | (simp only [sv_ext, sv_mc, Nat.le_refl]; done) | with_unfolding_all (refine @id _ ?_; first | exact Eq.refl _ | exact Nat.le_refl _ | assumption)) only [Nat.reduceAdd, Nat.reduceMul, Nat.reduceLeDiff, Nat.reduceLT, Int.reduceAdd, Int.reduceSub, Int.reduceMul, Int.reduceNeg, Int.reduceLE, Int.reduceLT, Int.reduceToNat, Int.reduceEq, reduceCtorEq, ld_z, ld_s, st1_0, st1_1, st1_s, st2_0, st2_1, st2_s, isJ_i, isJ_r, isJ_n, isJ_l, cs_nil, cs_i, cs_r, cs_l, kF, List.getElem?_cons_succ, List.getElem?_cons_zero, List.set_cons_zero, List.set_cons_succ, GC_s, GC_n, GK_nil, GK_no, GK_yes, not_false_eq_true, back_eq, back_hp, inI_eq, inA_eq, true_and, and_true, and_self, if_true, if_false, bI_0, bI_1, bI_in, bI_T, bI_F, fitF, jmpF, nlF, pjA, iVal.eta, iYr.eta, List.getElem?_toArray, List.length_cons, List.length_nil, true_or, or_true, or_false, false_or, Classical.not_not, Bool.false_eq_true, hp_2, Nat.zero_le, Nat.le_refl, Option.some.injEq, Sum.inl.injEq, Sum.inr.injEq, not_true_eq_false, true_implies, false_implies, implies_true, Int.le_refl, gX12_valley, rd_o, sRd_at, hz2, e1, ip, iz, hh, rd, dn, hl, back_W]
        refine G_run (B := [41, 93]) 90 _ _ _ _ ?_
        simp (disch := first | assumption | rfl | exact inI_of (by omega) (by omega) | omega | decide | (simp only [sv_ext, sv_mc, Nat.le_refl]; done) | with_unfolding_all (refine @id _ ?_; first | exact Eq.refl _ | exact Nat.le_refl _ | assumption)) only [Nat.reduceAdd, Nat.reduceMul, Nat.reduceLeDiff, Nat.reduceLT, Int.reduceAdd, Int.reduceSub, Int.reduceMul, Int.reduceNeg, Int.reduceLE, Int.reduceLT, Int.reduceToNat, Int.reduceEq, reduceCtorEq, ld_z, ld_s, st1_0, st1_1, st1_s, st2_0, st2_1, st2_s, isJ_i, isJ_r, isJ_n, isJ_l, cs_nil, cs_i, cs_r, cs_l, kF, List.getElem?_cons_succ, List.getElem?_cons_zero, List.set_cons_zero, List.set_cons_succ, GC_s, GC_n, GK_nil, GK_no, GK_yes, not_false_eq_true, back_eq, back_hp, inI_eq, inA_eq, true_and, and_true, and_self, if_true, if_false, bI_0, bI_1, bI_in, bI_T, bI_F, fitF, jmpF, nlF, pjA, iVal.eta, iYr.eta, List.getElem?_toArray, List.length_cons, List.length_nil, true_or, or_true, or_false, false_or, Classical.not_not, Bool.false_eq_true, hp_2, Nat.zero_le, Nat.le_refl, Option.some.injEq, Sum.inl.injEq, Sum.inr.injEq, not_true_eq_false, true_implies, false_implies, implies_true, Int.le_refl, gX12_valley, f1, i1]
        exact hq
    · have step : ∀ Q, Run sp sc 19 mX11_valley 76 [some (.inr (.inr 2)), some (.inl ad), some (.inr (.inr (107 + 2 * D + 2))), some (.inl bad), some (.inl (m + 1)), some (.inl (p + (dbF (bFc l z p) + 2)))] [] (hp (A.sxy T1)) Q → Run sp sc 19 mX11_valley 76 [some (.inr (.inr 2)), some (.inl ad), some (.inr (.inr (107 + 2 * D + 2))), some (.inl bad), some (.inl m), some (.inl p)] [] (hp (A.sxy S)) Q := fun Q hq => by
        have hz2 : ((A.sxy S).sh D).sz = z := hz
        have st := sk_loop (sp := sp) (sc := sc) (ad := ad) (bad := bad) (m := m + 1) hd hT hb hz z0 (dbF (bFc l z p) + 1).toNat (p + 1) (p + (dbF (bFc l z p) + 2)) T1 Q (by omega) (by omega) skl.1 skl.2 hq
        refine G_run (B := [76]) 60 _ _ _ _ ?_
        simp (disch := first | assumption | rfl | exact inI_of (by omega) (by omega) | omega | decide | (simp only [sv_ext, sv_mc, Nat.le_refl]; done) | with_unfolding_all (refine @id _ ?_; first | exact Eq.refl _ | exact Nat.le_refl _ | assumption)) only [Nat.reduceAdd, Nat.reduceMul, Nat.reduceLeDiff, Nat.reduceLT, Int.reduceAdd, Int.reduceSub, Int.reduceMul, Int.reduceNeg, Int.reduceLE, Int.reduceLT, Int.reduceToNat, Int.reduceEq, reduceCtorEq, ld_z, ld_s, st1_0, st1_1, st1_s, st2_0, st2_1, st2_s, isJ_i, isJ_r, isJ_n, isJ_l, cs_nil, cs_i, cs_r, cs_l, kF, List.getElem?_cons_succ, List.getElem?_cons_zero, List.set_cons_zero, List.set_cons_succ, GC_s, GC_n, GK_nil, GK_no, GK_yes, not_false_eq_true, back_eq, back_hp, inI_eq, inA_eq, true_and, and_true, and_self, if_true, if_false, bI_0, bI_1, bI_in, bI_T, bI_F, fitF, jmpF, nlF, pjA, iVal.eta, iYr.eta, List.getElem?_toArray, List.length_cons, List.length_nil, true_or, or_true, or_false, false_or, Classical.not_not, Bool.false_eq_true, hp_2, Nat.zero_le, Nat.le_refl, Option.some.injEq, Sum.inl.injEq, Sum.inr.injEq, not_true_eq_false, true_implies, false_implies, implies_true, Int.le_refl, rd_v, f_num, f_lik, f_dep, f_bnd, f_man, f_wom, f_sta, f_dds, f_who, rd_y, rd_y1, rd_y2, rd_y3, rd_y4, wy, wy1, wy2, wy3, wy4, sxy_mnd, sxy_now, sxy_img, sxy_yr, sxy_xy, sxy_sxy, sv_sxy, f_ord, f_bus, f_wai, f_fin, gX11_valley, rd_e, rd_s, hz2, e1, ip, iz, baS, dbS, kp, ik, k1, back_sxy]
        exact st
      have stepR : ∀ (A2 : iA) (R : iRy) (nu : List Int) (o5 o6 o7 : Option iV) (g : Int), (∀ l1 R1, okR (A2.sro .s l1 R1) l z) → A2.mo.re = z → lenR R → nu.length = 4 → ∃ (R1 : iRy) (nu1 : List Int) (p5 p6 p7 : Option iV), lenR R1 ∧ nu1.length = 4 ∧ ∀ Q, Run sp sc 19 mX12_valley 93 [some (.inr (.inr 140)), some (.inl ad), some (.inl wr), some (.inl g), some (.inl 0), p5, p6, p7] [] (hp ((A2.sro .s (rowOf T1.1 T1.1.dy) R1).sRd (p + (dbF (bFc l z p) + 2)) nu1)) Q → Run sp sc 19 mX12_valley 93 [some (.inr (.inr 140)), some (.inl ad), some (.inl wr), some (.inl g), some (.inl 0), o5, o6, o7] [] (hp ((A2.sro .s (rowOf S.1 S.1.dy) R).sRd p nu)) Q := fun A2 R nu o5 o6 o7 g hH hre hR ln => by
        obtain ⟨R1, nu1, hR1, ln1, hh, rd, dn⟩ := ref A2 R nu hH hR ln
        refine ⟨R1, nu1, some (.inl p), some (.inl (bFc l z p)), some (.inl 1), hR1, ln1, fun Q hq => ?_⟩
        have hz2 : ((A2.sro .s (rowOf S.1 S.1.dy) R).sRd p nu).mo.re = z := hre
        refine G_run (B := [41, 93]) 90 _ _ _ _ ?_
        simp (disch := first | assumption | rfl | exact inI_of (by omega) (by omega) | omega | decide | (simp only [sv_ext, sv_mc, Nat.le_refl]; done) | with_unfolding_all (refine @id _ ?_; first | exact Eq.refl _ | exact Nat.le_refl _ | assumption)) only [Nat.reduceAdd, Nat.reduceMul, Nat.reduceLeDiff, Nat.reduceLT, Int.reduceAdd, Int.reduceSub, Int.reduceMul, Int.reduceNeg, Int.reduceLE, Int.reduceLT, Int.reduceToNat, Int.reduceEq, reduceCtorEq, ld_z, ld_s, st1_0, st1_1, st1_s, st2_0, st2_1, st2_s, isJ_i, isJ_r, isJ_n, isJ_l, cs_nil, cs_i, cs_r, cs_l, kF, List.getElem?_cons_succ, List.getElem?_cons_zero, List.set_cons_zero, List.set_cons_succ, GC_s, GC_n, GK_nil, GK_no, GK_yes, not_false_eq_true, back_eq, back_hp, inI_eq, inA_eq, true_and, and_true, and_self, if_true, if_false, bI_0, bI_1, bI_in, bI_T, bI_F, fitF, jmpF, nlF, pjA, iVal.eta, iYr.eta, List.getElem?_toArray, List.length_cons, List.length_nil, true_or, or_true, or_false, false_or, Classical.not_not, Bool.false_eq_true, hp_2, Nat.zero_le, Nat.le_refl, Option.some.injEq, Sum.inl.injEq, Sum.inr.injEq, not_true_eq_false, true_implies, false_implies, implies_true, Int.le_refl, gX12_valley, rd_o, sRd_at, hz2, e1, ip, iz, hh, rd, dn, back_W]
        exact hq
      by_cases c : p + (dbF (bFc l z p) + 2) < z
      · rw [if_pos c] at hf
        obtain ⟨r, v, T, B', g1, g2, g3, g4, g5, g6, g7⟩ := ih (p + (dbF (bFc l z p) + 2)) (m + 1) T1 (B + 300) (by omega) c (by omega) hf hS1 (by omega) ho1 hy1 (by omega) (by omega)
        refine ⟨r, v, T, B', g1, g2, g3, g4, g5, fun Q hq => step Q (g6 Q hq), fun A2 R nu o5 o6 o7 hH hre lw hR ln => ?_⟩
        obtain ⟨R1, nu1, p5, p6, p7, hR1, ln1, st⟩ := stepR A2 R nu o5 o6 o7 (m + cntF l z (f + 1) p) hH hre hR ln
        obtain ⟨R', nu', q, a1, a2, a3⟩ := g7 A2 R1 nu1 p5 p6 p7 hH hre lw hR1 ln1
        refine ⟨R', nu', q, a1, a2, fun Q hq => st Q ?_⟩
        have ec : m + cntF l z (f + 1) p = m + 1 + cntF l z f (p + (dbF (bFc l z p) + 2)) := by rw [cntF, if_pos ⟨es, c⟩]; omega
        rw [ec]
        exact a3 Q hq
      · have c2 : z ≤ p + (dbF (bFc l z p) + 2) := by omega
        have i2 : inI (p + (dbF (bFc l z p) + 2)) = true := inI_of (by omega) (by omega)
        have ec : cntF l z (f + 1) p = 1 := by rw [cntF, if_neg (fun y => c y.2)]
        have mb := hS1.1
        have ht : ∀ Q, Call sp sc 18 mX8_takeFrom [.inr (.inr (vb .now + 2)), .inr (.inr (vb .mnd + 2))] (hp (A.sxy T1)) Q = Q none (hp ((A.sxy T1).sv .now T1.1)) := fun Q => takeMN (d := 17) (A := A.sxy T1) hS1.1 hL
        refine ⟨1, m + 1, T1, B + 300, Or.inr rfl, hS1, hy1, by omega, by omega, fun Q hq => step Q ?_, fun A2 R nu o5 o6 o7 hH hre lw hR ln => ?_⟩
        · rw [if_pos rfl] at hq
          have hz2 : ((A.sxy T1).sh D).sz = z := hz
          refine G_run (B := [76]) 60 _ _ _ _ ?_
          simp (disch := first | assumption | rfl | exact inI_of (by omega) (by omega) | omega | decide | (simp only [sv_ext, sv_mc, Nat.le_refl]; done) | with_unfolding_all (refine @id _ ?_; first | exact Eq.refl _ | exact Nat.le_refl _ | assumption)) only [Nat.reduceAdd, Nat.reduceMul, Nat.reduceLeDiff, Nat.reduceLT, Int.reduceAdd, Int.reduceSub, Int.reduceMul, Int.reduceNeg, Int.reduceLE, Int.reduceLT, Int.reduceToNat, Int.reduceEq, reduceCtorEq, ld_z, ld_s, st1_0, st1_1, st1_s, st2_0, st2_1, st2_s, isJ_i, isJ_r, isJ_n, isJ_l, cs_nil, cs_i, cs_r, cs_l, kF, List.getElem?_cons_succ, List.getElem?_cons_zero, List.set_cons_zero, List.set_cons_succ, GC_s, GC_n, GK_nil, GK_no, GK_yes, not_false_eq_true, back_eq, back_hp, inI_eq, inA_eq, true_and, and_true, and_self, if_true, if_false, bI_0, bI_1, bI_in, bI_T, bI_F, fitF, jmpF, nlF, pjA, iVal.eta, iYr.eta, List.getElem?_toArray, List.length_cons, List.length_nil, true_or, or_true, or_false, false_or, Classical.not_not, Bool.false_eq_true, hp_2, Nat.zero_le, Nat.le_refl, Option.some.injEq, Sum.inl.injEq, Sum.inr.injEq, not_true_eq_false, true_implies, false_implies, implies_true, Int.le_refl, rd_v, f_num, f_lik, f_dep, f_bnd, f_man, f_wom, f_sta, f_dds, f_who, rd_y, rd_y1, rd_y2, rd_y3, rd_y4, wy, wy1, wy2, wy3, wy4, sxy_mnd, sxy_now, sxy_img, sxy_yr, sxy_xy, sxy_sxy, sv_sxy, f_ord, f_bus, f_wai, f_fin, gX11_valley, rd_e, rd_s, hz2, c2, i2, iz, ht, back_sv]
          exact hq
        · obtain ⟨R1, nu1, p5, p6, p7, hR1, ln1, st⟩ := stepR A2 R nu o5 o6 o7 (m + cntF l z (f + 1) p) hH hre hR ln
          refine ⟨R1, nu1, p + (dbF (bFc l z p) + 2), hR1, ln1, fun Q hq => st Q ?_⟩
          rw [if_pos rfl] at hq
          rw [ec]
          have hz2 : ((A2.sro .s (rowOf T1.1 T1.1.dy) R1).sRd (p + (dbF (bFc l z p) + 2)) nu1).mo.re = z := hre
          refine G_run (B := [41, 93]) 90 _ _ _ _ ?_
          simp (disch := first | assumption | rfl | exact inI_of (by omega) (by omega) | omega | decide | (simp only [sv_ext, sv_mc, Nat.le_refl]; done) | with_unfolding_all (refine @id _ ?_; first | exact Eq.refl _ | exact Nat.le_refl _ | assumption)) only [Nat.reduceAdd, Nat.reduceMul, Nat.reduceLeDiff, Nat.reduceLT, Int.reduceAdd, Int.reduceSub, Int.reduceMul, Int.reduceNeg, Int.reduceLE, Int.reduceLT, Int.reduceToNat, Int.reduceEq, reduceCtorEq, ld_z, ld_s, st1_0, st1_1, st1_s, st2_0, st2_1, st2_s, isJ_i, isJ_r, isJ_n, isJ_l, cs_nil, cs_i, cs_r, cs_l, kF, List.getElem?_cons_succ, List.getElem?_cons_zero, List.set_cons_zero, List.set_cons_succ, GC_s, GC_n, GK_nil, GK_no, GK_yes, not_false_eq_true, back_eq, back_hp, inI_eq, inA_eq, true_and, and_true, and_self, if_true, if_false, bI_0, bI_1, bI_in, bI_T, bI_F, fitF, jmpF, nlF, pjA, iVal.eta, iYr.eta, List.getElem?_toArray, List.length_cons, List.length_nil, true_or, or_true, or_false, false_or, Classical.not_not, Bool.false_eq_true, hp_2, Nat.zero_le, Nat.le_refl, Option.some.injEq, Sum.inl.injEq, Sum.inr.injEq, not_true_eq_false, true_implies, false_implies, implies_true, Int.le_refl, gX12_valley, rd_o, sRd_at, hz2, c2, i2, iz]
          exact hq
end OPS
