set_option maxRecDepth 16384
/-! ===== orders: the reference ===== -/
def iA.sO (A : iA) (x y : Int) : iA := (iA.mk A.now A.img A.mnd A.imd A.yr A.mt A.sh A.pt ((iMo.mk A.mo.s A.mo.m A.mo.im A.mo.was A.mo.hi A.mo.wt A.mo.en A.mo.od A.mo.dn A.mo.sm A.mo.sf A.mo.go A.mo.at_ A.mo.ra A.mo.re A.mo.nu (x) (y) A.mo.he A.mo.bh A.mo.ak A.mo.st A.mo.ml A.mo.fi A.mo.th A.mo.se A.mo.ke A.mo.kk A.mo.kf A.mo.so A.mo.sz A.mo.el A.mo.tn)) A.out A.ext A.mc)
section OPS
variable {sp : Nat → List iV → iH → Option (Option iV × iH)} {sc : List Int} {d : Nat} {A : iA} {Q : Option iV → iH → Prop} {h : iH} {X : iVal} {e g B : Int} {S T : iXY}
theorem wr_bO {x y : Int} : ((hp A).1.set 138 (.inl (12, [.inr (.inr 141), .inr (.inr 142), .inr (.inr 143), .inr (.inr 144), .inl A.mo.hi, .inr (.inr 145), .inr (.inr 146), .inr (.inr 147), .inl A.mo.dn, .inl A.mo.sm, .inl A.mo.sf, .inl A.mo.go, .inl A.mo.at_, .inl A.mo.ra, .inl A.mo.re, .inr (.inr 148), .inl x, .inl y, .inr (.inr 149), .inr (.inr 150), .inr (.inr 151), .inl A.mo.st, .inl A.mo.ml, .inr (.inr 152), .inr (.inr 153), .inl A.mo.se, .inr (.inr 154), .inr (.inr 155), .inr (.inr 156), .inr (.inr 157), .inr (.inr 158), .inr (.inr 159), .inl A.mo.tn])), A.mc) = hp (A.sO x y) := wr_o
theorem sO_bd {x y : Int} : (A.sO x y).mo.bd = x := rfl
theorem sO_bg {x y : Int} : (A.sO x y).mo.bg = y := rfl
theorem rel_sO {x y : Int} (hR : Rel A) : Rel (A.sO x y) := (Rel.mk (hR.now) hR.img hR.mnd hR.mok hR.yr hR.ndy hR.idy hR.row hR.imd hR.him hR.imr hR.lim hR.lm hR.lwas hR.lwt hR.len hR.lod hR.lnu hR.lhe hR.lbh hR.lak hR.lfi hR.lth hR.lke hR.lkk hR.lkf hR.lso hR.lsz hR.lel hR.lwv hR.lhb hR.lfm hR.lmk hR.lpt hR.lout hR.shs hR.inj)
theorem sO_sO {x y u v : Int} : (A.sO x y).sO u v = A.sO u v := rfl
theorem mr_sO {x y : Int} : (A.mr S e).sO x y = (A.sO x y).mr S e := rfl
theorem mr_bd : (A.mr S e).mo.bd = A.mo.bd := rfl
theorem mr_bg : (A.mr S e).mo.bg = A.mo.bg := rfl
theorem back_sO {x y : Int} {L : List (Option iV)} {rest : List iV} : back (hp A) (hp (A.sO x y)) L rest = True := back_hp rfl (Nat.le_refl _)
theorem back_mO {x y u v : Int} {L : List (Option iV)} {rest : List iV} : back (hp ((A.sO x y).mr S e)) (hp ((A.sO u v).mr T e)) L rest = True := back_hp rfl (Nat.le_refl _)
theorem twR_eq (hO : OkV X) (hs : A.mo.s = rowOf X e) (hS : OkS S B) (hB : B ≤ 1000) {c : Int} (h0 : 0 ≤ c) (h1 : c < 4) (k1 : X.sta c = 1 → S.1.sta c = 1 ∧ S.2.fin c = 0) (k2 : ¬ X.sta c = 1 → S.1.sta c = 1 → ¬ S.2.fin c = 0) : Call sp sc (d + 1) mX12_daysTillWed [.inr (.inr 140), .inl c] (hp (A.mr S e)) Q = Q (some (.inl (if S.1.sta c = 1 then S.2.fin c else 61))) (hp (A.mr S e)) := Call_eq (by
  have hr : (A.mr S e).mo.s = rowOf X e := hs
  have s0 := hO.sta c h0 h1
  have s1 := hS.1.sta c h0 h1
  have f1 := hS.2.fin c h0 h1
  have en : (A.mr S e).mo.en = enR S.2.en := rfl
  have le : (enR S.2.en).length = 4 := by rw [enR_len]; exact hS.2.len
  have ef := enR_get (l := S.2.en) h0 (by have := hS.2.len; omega)
  apply eX12_daysTillWed 40
  by_cases z : X.sta c = 1
  · have k := k1 z
    rw [if_pos k.1, k.2]
    simp (disch := first | assumption | rfl | exact inI_of (by omega) (by omega) | omega | decide | (simp only [sv_ext, sv_mc, Nat.le_refl]; done) | with_unfolding_all (refine @id _ ?_; first | exact Eq.refl _ | exact Nat.le_refl _ | assumption)) only [Nat.reduceAdd, Nat.reduceMul, Nat.reduceLeDiff, Nat.reduceLT, Int.reduceAdd, Int.reduceSub, Int.reduceMul, Int.reduceNeg, Int.reduceLE, Int.reduceLT, Int.reduceToNat, Int.reduceEq, reduceCtorEq, ld_z, ld_s, st1_0, st1_1, st1_s, st2_0, st2_1, st2_s, isJ_i, isJ_r, isJ_n, isJ_l, cs_nil, cs_i, cs_r, cs_l, kF, List.getElem?_cons_succ, List.getElem?_cons_zero, List.set_cons_zero, List.set_cons_succ, GC_s, GC_n, GK_nil, GK_no, GK_yes, not_false_eq_true, back_eq, back_hp, inI_eq, inA_eq, true_and, and_true, and_self, if_true, if_false, bI_0, bI_1, bI_in, bI_T, bI_F, fitF, jmpF, nlF, pjA, iVal.eta, iYr.eta, List.getElem?_toArray, List.length_cons, List.length_nil, true_or, or_true, or_false, false_or, Classical.not_not, Bool.false_eq_true, hp_2, Nat.zero_le, Nat.le_refl, Option.some.injEq, Sum.inl.injEq, Sum.inr.injEq, not_true_eq_false, true_implies, false_implies, implies_true, Int.le_refl, rd_o, rd_o_s, hr, row_len, inA_one, inA_lik, inA_cpl, isOne_eq hO hr, isCouple_eq hO hr, isIn_eq, atOne_eq, atLike_eq, atCouple_eq, r_num, q_n0, q_n1, r_cp, r_dy, r_sl, r_who, q_kind, q_fig, q_dep, q_bnd, q_lik, q_man, q_wom, q_sta, q_dds, orNoneR_eq, Int.zero_add, gX12_daysTillWed, eq_true z]
  · by_cases y : S.1.sta c = 1
    · rw [if_pos y]
      have k := k2 z y
      have f2 : S.2.en.getD c.toNat 0 = S.2.fin c := rfl
      rw [f2, if_neg k] at ef
      simp (disch := first | assumption | rfl | exact inI_of (by omega) (by omega) | omega | decide | (simp only [sv_ext, sv_mc, Nat.le_refl]; done) | with_unfolding_all (refine @id _ ?_; first | exact Eq.refl _ | exact Nat.le_refl _ | assumption)) only [Nat.reduceAdd, Nat.reduceMul, Nat.reduceLeDiff, Nat.reduceLT, Int.reduceAdd, Int.reduceSub, Int.reduceMul, Int.reduceNeg, Int.reduceLE, Int.reduceLT, Int.reduceToNat, Int.reduceEq, reduceCtorEq, ld_z, ld_s, st1_0, st1_1, st1_s, st2_0, st2_1, st2_s, isJ_i, isJ_r, isJ_n, isJ_l, cs_nil, cs_i, cs_r, cs_l, kF, List.getElem?_cons_succ, List.getElem?_cons_zero, List.set_cons_zero, List.set_cons_succ, GC_s, GC_n, GK_nil, GK_no, GK_yes, not_false_eq_true, back_eq, back_hp, inI_eq, inA_eq, true_and, and_true, and_self, if_true, if_false, bI_0, bI_1, bI_in, bI_T, bI_F, fitF, jmpF, nlF, pjA, iVal.eta, iYr.eta, List.getElem?_toArray, List.length_cons, List.length_nil, true_or, or_true, or_false, false_or, Classical.not_not, Bool.false_eq_true, hp_2, Nat.zero_le, Nat.le_refl, Option.some.injEq, Sum.inl.injEq, Sum.inr.injEq, not_true_eq_false, true_implies, false_implies, implies_true, Int.le_refl, rd_o, rd_o_s, hr, row_len, inA_one, inA_lik, inA_cpl, isOne_eq hO hr, isCouple_eq hO hr, isIn_eq, atOne_eq, atLike_eq, atCouple_eq, r_num, q_n0, q_n1, r_cp, r_dy, r_sl, r_who, q_kind, q_fig, q_dep, q_bnd, q_lik, q_man, q_wom, q_sta, q_dds, orNoneR_eq, Int.zero_add, gX12_daysTillWed, z, rd_o_m, mr_m, eq_true y, rd_o_en, en, le, ef]
    · rw [if_neg y]
      simp (disch := first | assumption | rfl | exact inI_of (by omega) (by omega) | omega | decide | (simp only [sv_ext, sv_mc, Nat.le_refl]; done) | with_unfolding_all (refine @id _ ?_; first | exact Eq.refl _ | exact Nat.le_refl _ | assumption)) only [Nat.reduceAdd, Nat.reduceMul, Nat.reduceLeDiff, Nat.reduceLT, Int.reduceAdd, Int.reduceSub, Int.reduceMul, Int.reduceNeg, Int.reduceLE, Int.reduceLT, Int.reduceToNat, Int.reduceEq, reduceCtorEq, ld_z, ld_s, st1_0, st1_1, st1_s, st2_0, st2_1, st2_s, isJ_i, isJ_r, isJ_n, isJ_l, cs_nil, cs_i, cs_r, cs_l, kF, List.getElem?_cons_succ, List.getElem?_cons_zero, List.set_cons_zero, List.set_cons_succ, GC_s, GC_n, GK_nil, GK_no, GK_yes, not_false_eq_true, back_eq, back_hp, inI_eq, inA_eq, true_and, and_true, and_self, if_true, if_false, bI_0, bI_1, bI_in, bI_T, bI_F, fitF, jmpF, nlF, pjA, iVal.eta, iYr.eta, List.getElem?_toArray, List.length_cons, List.length_nil, true_or, or_true, or_false, false_or, Classical.not_not, Bool.false_eq_true, hp_2, Nat.zero_le, Nat.le_refl, Option.some.injEq, Sum.inl.injEq, Sum.inr.injEq, not_true_eq_false, true_implies, false_implies, implies_true, Int.le_refl, rd_o, rd_o_s, hr, row_len, inA_one, inA_lik, inA_cpl, isOne_eq hO hr, isCouple_eq hO hr, isIn_eq, atOne_eq, atLike_eq, atCouple_eq, r_num, q_n0, q_n1, r_cp, r_dy, r_sl, r_who, q_kind, q_fig, q_dep, q_bnd, q_lik, q_man, q_wom, q_sta, q_dds, orNoneR_eq, Int.zero_add, gX12_daysTillWed, z, rd_o_m, mr_m, y])
theorem odR_loop {l0 k0 dg : Int} (hs : A.mo.s = rowOf X e) : ∀ (k : Nat) (r : Int) (l bz : List Int) (o6 : Option iV), k ≤ 4 → l.length = 4 → 0 ≤ r → r < 10000 → (∀ r', Run sp sc d mX12_eachOrder 32 [some (.inr (.inr 140)), some (.inl k0), some (.inl l0), some (.inl dg), some (.inl r'), some (.inl (-1)), o6] [] (hp (A.sro .m (rowOf X e) (ryOf (yr0 (odF k r l) bz) 0))) Q) → Run sp sc d mX12_eachOrder 32 [some (.inr (.inr 140)), some (.inl k0), some (.inl l0), some (.inl dg), some (.inl r), some (.inl ((k : Int) - 1)), o6] [] (hp (A.sro .m (rowOf X e) (ryOf (yr0 l bz) 0))) Q := by
  intro k
  induction k with
  | zero => intro r l bz o6 hk hl h0 h1 hq; exact hq r
  | succ k ih =>
    intro r l bz o6 hk hl h0 h1 hq
    refine G_run (B := [32, 65, 92, 145]) 40 _ _ _ _ ?_
    have e1 : ¬ ((k + 1 : Nat) : Int) - 1 < 0 := by omega
    have e2 : ((k + 1 : Nat) : Int) - 1 + (-1) = (k : Int) - 1 := by omega
    have e3 : (((k + 1 : Nat) : Int) - 1).toNat = k := by omega
    have lo : (ryOf (yr0 l bz) 0).od.length = 4 := hl
    have eo : (ryOf (yr0 l bz) 0).od = l := rfl
    have ew : ∀ w : List Int, (iRy.mk (ryOf (yr0 l bz) 0).wt (ryOf (yr0 l bz) 0).en w (ryOf (yr0 l bz) 0).dn (ryOf (yr0 l bz) 0).sm (ryOf (yr0 l bz) 0).sf (ryOf (yr0 l bz) 0).go) = ryOf (yr0 w bz) 0 := fun w => rfl
    have b1 : 0 ≤ r.tmod 10 := Int.tmod_nonneg _ h0
    have b2 : 0 ≤ r.tdiv 10 := Int.tdiv_nonneg h0 (by omega)
    have b3 : r.tdiv 10 < 10000 := by rw [Int.tdiv_eq_ediv_of_nonneg h0]; omega
    simp (disch := first | assumption | rfl | exact inI_of (by omega) (by omega) | omega | decide | (simp only [sv_ext, sv_mc, Nat.le_refl]; done) | with_unfolding_all (refine @id _ ?_; first | exact Eq.refl _ | exact Nat.le_refl _ | assumption)) only [Nat.reduceAdd, Nat.reduceMul, Nat.reduceLeDiff, Nat.reduceLT, Int.reduceAdd, Int.reduceSub, Int.reduceMul, Int.reduceNeg, Int.reduceLE, Int.reduceLT, Int.reduceToNat, Int.reduceEq, reduceCtorEq, ld_z, ld_s, st1_0, st1_1, st1_s, st2_0, st2_1, st2_s, isJ_i, isJ_r, isJ_n, isJ_l, cs_nil, cs_i, cs_r, cs_l, kF, List.getElem?_cons_succ, List.getElem?_cons_zero, List.set_cons_zero, List.set_cons_succ, GC_s, GC_n, GK_nil, GK_no, GK_yes, not_false_eq_true, back_eq, inI_eq, inA_eq, true_and, and_true, and_self, if_true, if_false, bI_0, bI_1, bI_in, bI_T, bI_F, fitF, jmpF, nlF, pjA, iVal.eta, iYr.eta, List.getElem?_toArray, List.length_cons, List.length_nil, true_or, or_true, or_false, false_or, Classical.not_not, Bool.false_eq_true, hp_2, Nat.zero_le, Nat.le_refl, Option.some.injEq, Sum.inl.injEq, Sum.inr.injEq, not_true_eq_false, true_implies, false_implies, implies_true, Int.le_refl, iRy.pj, back_sro, back_sro1, rd_r, rd_o, rd_o_wt, rd_o_en, rd_o_od, sro_rr, sro_srr, sro_sro, sro_wt, sro_en, sro_od, sro_dn, sro_sm, sro_sf, sro_go, wro_wt, wro_en, wro_od, wro_r, wro_o, row_len, inA_one, inA_lik, inA_cpl, gX12_eachOrder, e1, e2, e3, eo, hl, ew]
    exact ih (r.tdiv 10) (l.set k (r.tmod 10)) bz o6 (by omega) (by rw [List.length_set]; exact hl) b2 b3 hq
theorem odG_loop {l0 k0 dg r : Int} {o6 : Option iV} : ∀ (m : Nat) (k : Int) (S : iXY) (e g B : Int), OkS S B → B + 5 * m ≤ 90000 → S.2.ps = g → 0 ≤ g → 0 ≤ k → k + m = 60 → Run sp sc (d + 6) mX12_eachOrder 65 [some (.inr (.inr 140)), some (.inl k0), some (.inl l0), some (.inl dg), some (.inl r), some (.inl 60), o6] [] (hp (A.sro .m (rowOf (daysA m S).1 (e + m)) (ryOf (daysA m S).2 (g + m)))) Q → Run sp sc (d + 6) mX12_eachOrder 65 [some (.inr (.inr 140)), some (.inl k0), some (.inl l0), some (.inl dg), some (.inl r), some (.inl k), o6] [] (hp (A.sro .m (rowOf S.1 e) (ryOf S.2 g))) Q := by
  intro m
  induction m with
  | zero =>
    intro k S e g B hS hB hg hg0 h0 h1 hq
    have e2 : e + ((0 : Nat) : Int) = e := by omega
    have e3 : g + ((0 : Nat) : Int) = g := by omega
    have e4 : k = 60 := by omega
    rw [e2, e3] at hq
    rw [e4]
    exact hq
  | succ m ih =>
    intro k S e g B hS hB hg hg0 h0 h1 hq
    refine G_run (B := [32, 65, 92, 145]) 40 _ _ _ _ ?_
    have e1 : ¬ 60 ≤ k := by omega
    have go : ∀ Q, Call sp sc (d + 5) mX12_goes [.inr (.inr 140), .inr (.inr 142)] (hp (A.sro .m (rowOf S.1 e) (ryOf S.2 g))) Q = Q none (hp (A.sro .m (rowOf (dayA S).1 (e + 1)) (ryOf (dayA S).2 (g + 1)))) := fun Q => goes_eq (r := iR.m) hS (by omega) hg hg0
    simp (disch := first | assumption | rfl | exact inI_of (by omega) (by omega) | omega | decide | (simp only [sv_ext, sv_mc, Nat.le_refl]; done) | with_unfolding_all (refine @id _ ?_; first | exact Eq.refl _ | exact Nat.le_refl _ | assumption)) only [Nat.reduceAdd, Nat.reduceMul, Nat.reduceLeDiff, Nat.reduceLT, Int.reduceAdd, Int.reduceSub, Int.reduceMul, Int.reduceNeg, Int.reduceLE, Int.reduceLT, Int.reduceToNat, Int.reduceEq, reduceCtorEq, ld_z, ld_s, st1_0, st1_1, st1_s, st2_0, st2_1, st2_s, isJ_i, isJ_r, isJ_n, isJ_l, cs_nil, cs_i, cs_r, cs_l, kF, List.getElem?_cons_succ, List.getElem?_cons_zero, List.set_cons_zero, List.set_cons_succ, GC_s, GC_n, GK_nil, GK_no, GK_yes, not_false_eq_true, back_eq, inI_eq, inA_eq, true_and, and_true, and_self, if_true, if_false, bI_0, bI_1, bI_in, bI_T, bI_F, fitF, jmpF, nlF, pjA, iVal.eta, iYr.eta, List.getElem?_toArray, List.length_cons, List.length_nil, true_or, or_true, or_false, false_or, Classical.not_not, Bool.false_eq_true, hp_2, Nat.zero_le, Nat.le_refl, Option.some.injEq, Sum.inl.injEq, Sum.inr.injEq, not_true_eq_false, true_implies, false_implies, implies_true, Int.le_refl, iRy.pj, back_sro, back_sro1, rd_r, rd_o, rd_o_wt, rd_o_en, rd_o_od, sro_rr, sro_srr, sro_sro, sro_wt, sro_en, sro_od, sro_dn, sro_sm, sro_sf, sro_go, wro_wt, wro_en, wro_od, wro_r, wro_o, row_len, inA_one, inA_lik, inA_cpl, gX12_eachOrder, e1, go]
    have e2 : e + ((m + 1 : Nat) : Int) = e + 1 + (m : Int) := by omega
    have e3 : g + ((m + 1 : Nat) : Int) = g + 1 + (m : Int) := by omega
    rw [e2, e3] at hq
    exact ih (k + 1) (dayA S) (e + 1) (g + 1) (B + 5) (okS_day hS).1 (by omega) (by rw [dayA_ps hS, hg]) (by omega) (by omega) (by omega) hq
theorem odW_loop (hO : OkV X) (hs : A.mo.s = rowOf X e) (hS : OkS S B) (hB : B ≤ 1000) (hcp : S.1.cp = X.cp) (hk : ∀ c, 0 ≤ c → c < 4 → (X.sta c = 1 → S.1.sta c = 1 ∧ S.2.fin c = 0) ∧ (¬ X.sta c = 1 → S.1.sta c = 1 → ¬ S.2.fin c = 0)) {l0 k0 dg r : Int} : ∀ (k : Nat) (c t : Int), 0 ≤ c → c + k = X.cp → 0 ≤ t → t + 1000 * k ≤ 10000 → Run sp sc (d + 2) mX12_eachOrder 92 [some (.inr (.inr 140)), some (.inl k0), some (.inl l0), some (.inl dg), some (.inl r), some (.inl (twF S k c t)), some (.inl X.cp)] [] (hp (A.mr S e)) Q → Run sp sc (d + 2) mX12_eachOrder 92 [some (.inr (.inr 140)), some (.inl k0), some (.inl l0), some (.inl dg), some (.inl r), some (.inl t), some (.inl c)] [] (hp (A.mr S e)) Q := by
  have c4 := hO.cp
  intro k
  induction k with
  | zero =>
    intro c t h0 h1 h2 h3 hq
    have e1 : c = X.cp := by omega
    rw [e1]; exact hq
  | succ k ih =>
    intro c t h0 h1 h2 h3 hq
    refine G_run (B := [32, 65, 92, 145]) 40 _ _ _ _ ?_
    have e1 : ¬ X.cp ≤ c := by omega
    have hr : (A.mr S e).mo.s = rowOf X e := hs
    have f1 := hS.2.fin c h0 (by omega)
    have kc := hk c h0 (by omega)
    have tw := fun Q => @twR_eq sp sc d A Q X e B S hO hs hS hB c h0 (by omega) kc.1 kc.2
    unfold twF at hq
    have b : 0 ≤ (if S.1.sta c = 1 then S.2.fin c else 61) ∧ (if S.1.sta c = 1 then S.2.fin c else 61) ≤ 1000 := by split <;> omega
    generalize (if S.1.sta c = 1 then S.2.fin c else 61) = v at *
    simp (disch := first | assumption | rfl | exact inI_of (by omega) (by omega) | omega | decide | (simp only [sv_ext, sv_mc, Nat.le_refl]; done) | with_unfolding_all (refine @id _ ?_; first | exact Eq.refl _ | exact Nat.le_refl _ | assumption)) only [Nat.reduceAdd, Nat.reduceMul, Nat.reduceLeDiff, Nat.reduceLT, Int.reduceAdd, Int.reduceSub, Int.reduceMul, Int.reduceNeg, Int.reduceLE, Int.reduceLT, Int.reduceToNat, Int.reduceEq, reduceCtorEq, ld_z, ld_s, st1_0, st1_1, st1_s, st2_0, st2_1, st2_s, isJ_i, isJ_r, isJ_n, isJ_l, cs_nil, cs_i, cs_r, cs_l, kF, List.getElem?_cons_succ, List.getElem?_cons_zero, List.set_cons_zero, List.set_cons_succ, GC_s, GC_n, GK_nil, GK_no, GK_yes, not_false_eq_true, back_eq, back_hp, inI_eq, inA_eq, true_and, and_true, and_self, if_true, if_false, bI_0, bI_1, bI_in, bI_T, bI_F, fitF, jmpF, nlF, pjA, iVal.eta, iYr.eta, List.getElem?_toArray, List.length_cons, List.length_nil, true_or, or_true, or_false, false_or, Classical.not_not, Bool.false_eq_true, hp_2, Nat.zero_le, Nat.le_refl, Option.some.injEq, Sum.inl.injEq, Sum.inr.injEq, not_true_eq_false, true_implies, false_implies, implies_true, Int.le_refl, rd_o, rd_o_s, hr, row_len, inA_one, inA_lik, inA_cpl, isOne_eq hO hr, isCouple_eq hO hr, isIn_eq, atOne_eq, atLike_eq, atCouple_eq, r_num, q_n0, q_n1, r_cp, r_dy, r_sl, r_who, q_kind, q_fig, q_dep, q_bnd, q_lik, q_man, q_wom, q_sta, q_dds, orNoneR_eq, Int.zero_add, gX12_eachOrder, e1, tw]
    exact ih (c + 1) _ (by omega) (by omega) (by omega) (by omega) hq
/-- one order more -/
def stOA (n : Nat) (X : iVal) (e : Int) (cp : Nat) (A : iA) (g : Int) : iA :=
  (A.sO (if twF (oD n X (odOf cp g)) cp 0 0 < A.mo.bd then twF (oD n X (odOf cp g)) cp 0 0 else A.mo.bd) (if twF (oD n X (odOf cp g)) cp 0 0 < A.mo.bd then g else A.mo.bg)).mr (oD n X (odOf cp g)) e
theorem odLeaf {cp n : Nat} (hc : (cp : Int) = X.cp) (c1 : 1 ≤ cp) (c5 : cp < 5) (hO : OkV X) (hs : A.mo.s = rowOf X e) (hn : n = 60) (hl : LR A) (gd : gdO cp g = true) {k0 : Int} (ix : -1000000000 ≤ A.mo.bd ∧ A.mo.bd ≤ 1000000000) : Call sp sc (d + 6) mX12_eachOrder [.inr (.inr 140), .inl k0, .inl 0, .inl g] (hp A) Q = Q none (hp (stOA n X e cp A g)) := Call_eq (by
  unfold gdO at gd
  rw [Bool.and_eq_true, Bool.and_eq_true, decide_eq_true_eq, decide_eq_true_eq] at gd
  have D := oD_ok hO hc hn gd.1.2
  have k0S := okS_yrP hO hc gd.1.2 z10_ok.1 z10_ok.2
  have hl2 := hl.elim id False.elim
  have ll := fun Q => @laySM_eq sp sc (d + 5) A Q X e hs hl2.1
  have lb : ∀ Q, Call sp sc (d + 5) mX12_begins [.inr (.inr 140)] (hp (A.sro .m (rowOf X e) A.ry)) Q = Q none (hp (A.sro .m (rowOf X e) (ryOf (yr0 [0, 1, 2, 3] z10) 0))) := fun Q => beginsR_eq (R := A.ry) hl2.2.1 hl2.2.2.1 hl2.2.2.2
  have rs : (hp (A.sro .m (rowOf X e) (ryOf (yr0 [0, 1, 2, 3] z10) 0))).1[139]? = some (.inr (.inl (0, rowOf X e))) := by
    have := @rd_o_s (A.sro .m (rowOf X e) (ryOf (yr0 [0, 1, 2, 3] z10) 0))
    rw [this]; exact congrArg (fun l => some (Sum.inr (Sum.inl (0, l)))) hs
  have c4 := hO.cp
  apply eX12_eachOrder 60
  simp (disch := first | assumption | rfl | exact inI_of (by omega) (by omega) | omega | decide | (simp only [sv_ext, sv_mc, Nat.le_refl]; done) | with_unfolding_all (refine @id _ ?_; first | exact Eq.refl _ | exact Nat.le_refl _ | assumption)) only [Nat.reduceAdd, Nat.reduceMul, Nat.reduceLeDiff, Nat.reduceLT, Int.reduceAdd, Int.reduceSub, Int.reduceMul, Int.reduceNeg, Int.reduceLE, Int.reduceLT, Int.reduceToNat, Int.reduceEq, reduceCtorEq, ld_z, ld_s, st1_0, st1_1, st1_s, st2_0, st2_1, st2_s, isJ_i, isJ_r, isJ_n, isJ_l, cs_nil, cs_i, cs_r, cs_l, kF, List.getElem?_cons_succ, List.getElem?_cons_zero, List.set_cons_zero, List.set_cons_succ, GC_s, GC_n, GK_nil, GK_no, GK_yes, not_false_eq_true, back_eq, inI_eq, inA_eq, true_and, and_true, and_self, if_true, if_false, bI_0, bI_1, bI_in, bI_T, bI_F, fitF, jmpF, nlF, pjA, iVal.eta, iYr.eta, List.getElem?_toArray, List.length_cons, List.length_nil, true_or, or_true, or_false, false_or, Classical.not_not, Bool.false_eq_true, hp_2, Nat.zero_le, Nat.le_refl, Option.some.injEq, Sum.inl.injEq, Sum.inr.injEq, not_true_eq_false, true_implies, false_implies, implies_true, Int.le_refl, iRy.pj, back_sro, back_sro1, rd_r, rd_o, rd_o_wt, rd_o_en, rd_o_od, sro_rr, sro_srr, sro_sro, sro_wt, sro_en, sro_od, sro_dn, sro_sm, sro_sf, sro_go, wro_wt, wro_en, wro_od, wro_r, wro_o, row_len, inA_one, inA_lik, inA_cpl, gX12_eachOrder, ll, lb, rs, r_cp]
  have ecp : X.cp - 1 = (cp : Int) - 1 := by omega
  rw [ecp]
  refine odR_loop (A := A) (X := X) hs cp g [0, 1, 2, 3] z10 none (by omega) rfl gd.1.1.1 gd.1.1.2 (fun r' => ?_)
  refine G_run (B := [32, 65, 92, 145]) 40 _ _ _ _ ?_
  simp (disch := first | assumption | rfl | exact inI_of (by omega) (by omega) | omega | decide | (simp only [sv_ext, sv_mc, Nat.le_refl]; done) | with_unfolding_all (refine @id _ ?_; first | exact Eq.refl _ | exact Nat.le_refl _ | assumption)) only [Nat.reduceAdd, Nat.reduceMul, Nat.reduceLeDiff, Nat.reduceLT, Int.reduceAdd, Int.reduceSub, Int.reduceMul, Int.reduceNeg, Int.reduceLE, Int.reduceLT, Int.reduceToNat, Int.reduceEq, reduceCtorEq, ld_z, ld_s, st1_0, st1_1, st1_s, st2_0, st2_1, st2_s, isJ_i, isJ_r, isJ_n, isJ_l, cs_nil, cs_i, cs_r, cs_l, kF, List.getElem?_cons_succ, List.getElem?_cons_zero, List.set_cons_zero, List.set_cons_succ, GC_s, GC_n, GK_nil, GK_no, GK_yes, not_false_eq_true, back_eq, inI_eq, inA_eq, true_and, and_true, and_self, if_true, if_false, bI_0, bI_1, bI_in, bI_T, bI_F, fitF, jmpF, nlF, pjA, iVal.eta, iYr.eta, List.getElem?_toArray, List.length_cons, List.length_nil, true_or, or_true, or_false, false_or, Classical.not_not, Bool.false_eq_true, hp_2, Nat.zero_le, Nat.le_refl, Option.some.injEq, Sum.inl.injEq, Sum.inr.injEq, not_true_eq_false, true_implies, false_implies, implies_true, Int.le_refl, iRy.pj, back_sro, back_sro1, rd_r, rd_o, rd_o_wt, rd_o_en, rd_o_od, sro_rr, sro_srr, sro_sro, sro_wt, sro_en, sro_od, sro_dn, sro_sm, sro_sf, sro_go, wro_wt, wro_en, wro_od, wro_r, wro_o, row_len, inA_one, inA_lik, inA_cpl, gX12_eachOrder]
  have en : ((n : Nat) : Int) = 60 := by omega
  refine odG_loop (A := A) (d := d) n 0 (X, yr0 (odOf cp g) z10) e 0 0 k0S (by omega) rfl (by omega) (by omega) (by omega) ?_
  refine G_run (B := [32, 65, 92, 145]) 40 _ _ _ _ ?_
  simp (disch := first | assumption | rfl | exact inI_of (by omega) (by omega) | omega | decide | (simp only [sv_ext, sv_mc, Nat.le_refl]; done) | with_unfolding_all (refine @id _ ?_; first | exact Eq.refl _ | exact Nat.le_refl _ | assumption)) only [Nat.reduceAdd, Nat.reduceMul, Nat.reduceLeDiff, Nat.reduceLT, Int.reduceAdd, Int.reduceSub, Int.reduceMul, Int.reduceNeg, Int.reduceLE, Int.reduceLT, Int.reduceToNat, Int.reduceEq, reduceCtorEq, ld_z, ld_s, st1_0, st1_1, st1_s, st2_0, st2_1, st2_s, isJ_i, isJ_r, isJ_n, isJ_l, cs_nil, cs_i, cs_r, cs_l, kF, List.getElem?_cons_succ, List.getElem?_cons_zero, List.set_cons_zero, List.set_cons_succ, GC_s, GC_n, GK_nil, GK_no, GK_yes, not_false_eq_true, back_eq, inI_eq, inA_eq, true_and, and_true, and_self, if_true, if_false, bI_0, bI_1, bI_in, bI_T, bI_F, fitF, jmpF, nlF, pjA, iVal.eta, iYr.eta, List.getElem?_toArray, List.length_cons, List.length_nil, true_or, or_true, or_false, false_or, Classical.not_not, Bool.false_eq_true, hp_2, Nat.zero_le, Nat.le_refl, Option.some.injEq, Sum.inl.injEq, Sum.inr.injEq, not_true_eq_false, true_implies, false_implies, implies_true, Int.le_refl, iRy.pj, back_sro, back_sro1, rd_r, rd_o, rd_o_wt, rd_o_en, rd_o_od, sro_rr, sro_srr, sro_sro, sro_wt, sro_en, sro_od, sro_dn, sro_sm, sro_sf, sro_go, wro_wt, wro_en, wro_od, wro_r, wro_o, row_len, inA_one, inA_lik, inA_cpl, gX12_eachOrder]
  have em : A.sro .m (rowOf (daysA n (X, yr0 (odOf cp g) z10)).1 (e + n)) (ryOf (daysA n (X, yr0 (odOf cp g) z10)).2 (0 + n)) = A.mr (oD n X (odOf cp g)) e := by
    have e1 : (e + n : Int) = e + (oD n X (odOf cp g)).2.ps := by rw [D.2.2.2.1]; omega
    have e2 : (0 + n : Int) = (oD n X (odOf cp g)).2.ps := by rw [D.2.2.2.1]; omega
    rw [e1, e2]; rfl
  have em2 : A.sro .m (rowOf (daysA n (X, yr0 (odOf cp g) z10)).1 (e + n)) (ryOf (daysA n (X, yr0 (odOf cp g) z10)).2 n) = A.mr (oD n X (odOf cp g)) e := by
    rw [← em, Int.zero_add]
  first | rw [em] | rw [em2]
  refine odW_loop (A := A) (d := d + 4) hO hs D.1 (by omega) D.2.1 D.2.2.2.2.2 cp 0 0 (by omega) (by omega) (by omega) (by omega) ?_
  have vb := twF_b D.2.2.2.2.1 cp 0 0 (by omega) (by omega)
  have hr : (A.mr (oD n X (odOf cp g)) e).mo.s = rowOf X e := hs
  unfold stOA
  generalize twF (oD n X (odOf cp g)) cp 0 0 = v at *
  refine G_run (B := [32, 65, 92, 145]) 40 _ _ _ _ ?_
  by_cases z : v < A.mo.bd
  · rw [if_pos z, if_pos z]
    simp (disch := first | assumption | rfl | exact inI_of (by omega) (by omega) | omega | decide | (simp only [sv_ext, sv_mc, Nat.le_refl]; done) | with_unfolding_all (refine @id _ ?_; first | exact Eq.refl _ | exact Nat.le_refl _ | assumption)) only [Nat.reduceAdd, Nat.reduceMul, Nat.reduceLeDiff, Nat.reduceLT, Int.reduceAdd, Int.reduceSub, Int.reduceMul, Int.reduceNeg, Int.reduceLE, Int.reduceLT, Int.reduceToNat, Int.reduceEq, reduceCtorEq, ld_z, ld_s, st1_0, st1_1, st1_s, st2_0, st2_1, st2_s, isJ_i, isJ_r, isJ_n, isJ_l, cs_nil, cs_i, cs_r, cs_l, kF, List.getElem?_cons_succ, List.getElem?_cons_zero, List.set_cons_zero, List.set_cons_succ, GC_s, GC_n, GK_nil, GK_no, GK_yes, not_false_eq_true, back_eq, back_hp, inI_eq, inA_eq, true_and, and_true, and_self, if_true, if_false, bI_0, bI_1, bI_in, bI_T, bI_F, fitF, jmpF, nlF, pjA, iVal.eta, iYr.eta, List.getElem?_toArray, List.length_cons, List.length_nil, true_or, or_true, or_false, false_or, Classical.not_not, Bool.false_eq_true, hp_2, Nat.zero_le, Nat.le_refl, Option.some.injEq, Sum.inl.injEq, Sum.inr.injEq, not_true_eq_false, true_implies, false_implies, implies_true, Int.le_refl, rd_o, rd_o_s, hr, row_len, inA_one, inA_lik, inA_cpl, isOne_eq hO hr, isCouple_eq hO hr, isIn_eq, atOne_eq, atLike_eq, atCouple_eq, r_num, q_n0, q_n1, r_cp, r_dy, r_sl, r_who, q_kind, q_fig, q_dep, q_bnd, q_lik, q_man, q_wom, q_sta, q_dds, orNoneR_eq, Int.zero_add, gX12_eachOrder, mr_bd, sO_bd, z, wr_bO, mr_sO, mr_bg, sO_bg, sO_sO]
  · rw [if_neg z, if_neg z]
    simp (disch := first | assumption | rfl | exact inI_of (by omega) (by omega) | omega | decide | (simp only [sv_ext, sv_mc, Nat.le_refl]; done) | with_unfolding_all (refine @id _ ?_; first | exact Eq.refl _ | exact Nat.le_refl _ | assumption)) only [Nat.reduceAdd, Nat.reduceMul, Nat.reduceLeDiff, Nat.reduceLT, Int.reduceAdd, Int.reduceSub, Int.reduceMul, Int.reduceNeg, Int.reduceLE, Int.reduceLT, Int.reduceToNat, Int.reduceEq, reduceCtorEq, ld_z, ld_s, st1_0, st1_1, st1_s, st2_0, st2_1, st2_s, isJ_i, isJ_r, isJ_n, isJ_l, cs_nil, cs_i, cs_r, cs_l, kF, List.getElem?_cons_succ, List.getElem?_cons_zero, List.set_cons_zero, List.set_cons_succ, GC_s, GC_n, GK_nil, GK_no, GK_yes, not_false_eq_true, back_eq, back_hp, inI_eq, inA_eq, true_and, and_true, and_self, if_true, if_false, bI_0, bI_1, bI_in, bI_T, bI_F, fitF, jmpF, nlF, pjA, iVal.eta, iYr.eta, List.getElem?_toArray, List.length_cons, List.length_nil, true_or, or_true, or_false, false_or, Classical.not_not, Bool.false_eq_true, hp_2, Nat.zero_le, Nat.le_refl, Option.some.injEq, Sum.inl.injEq, Sum.inr.injEq, not_true_eq_false, true_implies, false_implies, implies_true, Int.le_refl, rd_o, rd_o_s, hr, row_len, inA_one, inA_lik, inA_cpl, isOne_eq hO hr, isCouple_eq hO hr, isIn_eq, atOne_eq, atLike_eq, atCouple_eq, r_num, q_n0, q_n1, r_cp, r_dy, r_sl, r_who, q_kind, q_fig, q_dep, q_bnd, q_lik, q_man, q_wom, q_sta, q_dds, orNoneR_eq, Int.zero_add, gX12_eachOrder, mr_bd, z]
    rfl)
def invO (A0 A : iA) : Prop := (Rel A ∧ A.now = A0.now ∧ (-1000000000 ≤ A.mo.bd ∧ A.mo.bd ≤ 1000000000) ∧ A.mc = A0.mc ∧ A.ext.length = A0.ext.length) ∨ False
theorem stA_inv {A0 : iA} {cp n : Nat} (hc : (cp : Int) = A0.now.cp) (c5 : cp < 5) (hn : n = 60) (h : invO A0 A) (gd : gdO cp g = true) (hO : OkV A0.now) : invO A0 (stOA n A0.now A0.now.dy cp A g) := by
  unfold gdO at gd
  rw [Bool.and_eq_true, Bool.and_eq_true, decide_eq_true_eq, decide_eq_true_eq] at gd
  have D := oD_ok hO hc hn gd.1.2
  have vb := twF_b D.2.2.2.2.1 cp 0 0 (by omega) (by omega)
  have h := h.elim id False.elim
  refine Or.inl ⟨rel_mr (rel_sO h.1) D.1, h.2.1, ?_, h.2.2.2.1, h.2.2.2.2⟩
  show -1000000000 ≤ (if twF (oD n A0.now (odOf cp g)) cp 0 0 < A.mo.bd then twF (oD n A0.now (odOf cp g)) cp 0 0 else A.mo.bd) ∧ (if twF (oD n A0.now (odOf cp g)) cp 0 0 < A.mo.bd then twF (oD n A0.now (odOf cp g)) cp 0 0 else A.mo.bd) ≤ 1000000000
  split <;> omega
theorem foldA_inv {A0 : iA} {cp n : Nat} (hc : (cp : Int) = A0.now.cp) (c5 : cp < 5) (hn : n = 60) (hO : OkV A0.now) : ∀ (l : List Int) (A : iA), invO A0 A → (∀ g ∈ l, gdO cp g = true) → invO A0 (l.foldl (stOA n A0.now A0.now.dy cp) A) := by
  intro l
  induction l with
  | nil => intro A h _; exact h
  | cons g l ih =>
    intro A h hg
    exact ih _ (stA_inv hc c5 hn h (hg g (List.mem_cons_self ..)) hO) (fun x hx => hg x (List.mem_cons_of_mem _ hx))
theorem foldA_O {X : iVal} {cp n : Nat} : ∀ (l : List Int) (A : iA) (T : iXY), ((l.foldl (stOA n X e cp) A).mo.bd, (l.foldl (stOA n X e cp) A).mo.bg) = (l.foldl (stO n X cp) (T, A.mo.bd, A.mo.bg)).2 := by
  intro l
  induction l with
  | nil => intro A T; rfl
  | cons g l ih =>
    intro A T
    exact ih (stOA n X e cp A g) (stO n X cp (T, A.mo.bd, A.mo.bg) g).1
theorem eachR {A0 : iA} {cp n : Nat} (hc : (cp : Int) = A0.now.cp) (c1 : 1 ≤ cp) (c5 : cp < 5) (hn : n = 60) (hO : OkV A0.now) : ∀ (f : Nat) (left dg k0 : Int) (A : iA) (Q : Option iV → iH → Prop), fuO cp f left = true → inI left = true → (∀ g ∈ lvO cp f left dg, gdO cp g = true) → invO A0 A → Call sp sc (d + 6 + f) mX12_eachOrder [.inr (.inr 140), .inl k0, .inl left, .inl dg] (hp A) Q = Q none (hp ((lvO cp f left dg).foldl (stOA n A0.now A0.now.dy cp) A)) := by
  intro f
  induction f with
  | zero => intro left dg k0 A Q hf; exact absurd hf (by show ¬ (false = true); decide)
  | succ f ih =>
    intro left dg k0 A Q hf il hg hA
    have h := hA.elim id False.elim
    have hs : A.mo.s = rowOf A0.now A0.now.dy := by rw [h.1.row, h.2.1]
    by_cases z : left = 0
    · have el : lvO cp (f + 1) left dg = [dg] := by
        show (if left = 0 then [dg] else _) = [dg]
        rw [if_pos z]
      rw [el] at hg ⊢
      subst z
      have ed : d + 6 + (f + 1) = (d + f + 1) + 6 := by omega
      rw [ed]
      exact odLeaf hc c1 c5 hO hs hn (LR.of h.1) (hg dg (List.mem_singleton.mpr rfl)) h.2.2.1
    · have el : lvO cp (f + 1) left dg = (List.range' 0 cp).flatMap fun (c : Nat) => if bAnd (bShr left (c : Int)) 1 = 1 then lvO cp f (bAnd left (bXor (bShl 1 (c : Int)) (-1))) (10 * dg + (c : Int)) else [] := by
        show (if left = 0 then [dg] else _) = _
        rw [if_neg z]
      have ef : (List.range' 0 cp).all (fun (c : Nat) => !(decide (bAnd (bShr left (c : Int)) 1 = 1)) || fuO cp f (bAnd left (bXor (bShl 1 (c : Int)) (-1)))) = true := by
        have hf : (decide (left = 0) || (List.range' 0 cp).all fun (c : Nat) => !(decide (bAnd (bShr left (c : Int)) 1 = 1)) || fuO cp f (bAnd left (bXor (bShl 1 (c : Int)) (-1)))) = true := hf
        rw [Bool.or_eq_true, decide_eq_true_eq] at hf
        exact hf.resolve_left z
      rw [el] at hg ⊢
      refine Call_eq ?_
      apply eX12_eachOrder 40
      simp (disch := first | assumption | rfl | exact inI_of (by omega) (by omega) | omega | decide | (simp only [sv_ext, sv_mc, Nat.le_refl]; done) | with_unfolding_all (refine @id _ ?_; first | exact Eq.refl _ | exact Nat.le_refl _ | assumption)) only [Nat.reduceAdd, Nat.reduceMul, Nat.reduceLeDiff, Nat.reduceLT, Int.reduceAdd, Int.reduceSub, Int.reduceMul, Int.reduceNeg, Int.reduceLE, Int.reduceLT, Int.reduceToNat, Int.reduceEq, reduceCtorEq, ld_z, ld_s, st1_0, st1_1, st1_s, st2_0, st2_1, st2_s, isJ_i, isJ_r, isJ_n, isJ_l, cs_nil, cs_i, cs_r, cs_l, kF, List.getElem?_cons_succ, List.getElem?_cons_zero, List.set_cons_zero, List.set_cons_succ, GC_s, GC_n, GK_nil, GK_no, GK_yes, not_false_eq_true, back_eq, back_hp, inI_eq, inA_eq, true_and, and_true, and_self, if_true, if_false, bI_0, bI_1, bI_in, bI_T, bI_F, fitF, jmpF, nlF, pjA, iVal.eta, iYr.eta, List.getElem?_toArray, List.length_cons, List.length_nil, true_or, or_true, or_false, false_or, Classical.not_not, Bool.false_eq_true, hp_2, Nat.zero_le, Nat.le_refl, Option.some.injEq, Sum.inl.injEq, Sum.inr.injEq, not_true_eq_false, true_implies, false_implies, implies_true, Int.le_refl, gX12_eachOrder, z, il]
      have L : ∀ (m c : Nat) (A : iA), c + m = cp → invO A0 A → (∀ x ∈ List.range' c m, x < cp ∧ (!(decide (bAnd (bShr left (x : Int)) 1 = 1)) || fuO cp f (bAnd left (bXor (bShl 1 (x : Int)) (-1)))) = true) → (∀ g ∈ (List.range' c m).flatMap (fun (c : Nat) => if bAnd (bShr left (c : Int)) 1 = 1 then lvO cp f (bAnd left (bXor (bShl 1 (c : Int)) (-1))) (10 * dg + (c : Int)) else []), gdO cp g = true) → ∀ Q : Option iV → iH → Prop, Q none (hp (((List.range' c m).flatMap (fun (c : Nat) => if bAnd (bShr left (c : Int)) 1 = 1 then lvO cp f (bAnd left (bXor (bShl 1 (c : Int)) (-1))) (10 * dg + (c : Int)) else [])).foldl (stOA n A0.now A0.now.dy cp) A)) → Run sp sc (d + 6 + f + 1) mX12_eachOrder 145 [some (.inr (.inr 140)), some (.inl k0), some (.inl left), some (.inl dg), some (.inl (c : Int)), none, none] [] (hp A) Q := by
        intro m
        induction m with
        | zero =>
          intro c A hcm hA hr hg Q hq
          have h := hA.elim id False.elim
          have hr : A.mo.s = rowOf A0.now A0.now.dy := by rw [h.1.row, h.2.1]
          refine G_run (B := [32, 65, 92, 145]) 40 _ _ _ _ ?_
          have e1 : A0.now.cp ≤ (c : Int) := by omega
          have c4 := hO.cp
          simp (disch := first | assumption | rfl | exact inI_of (by omega) (by omega) | omega | decide | (simp only [sv_ext, sv_mc, Nat.le_refl]; done) | with_unfolding_all (refine @id _ ?_; first | exact Eq.refl _ | exact Nat.le_refl _ | assumption)) only [Nat.reduceAdd, Nat.reduceMul, Nat.reduceLeDiff, Nat.reduceLT, Int.reduceAdd, Int.reduceSub, Int.reduceMul, Int.reduceNeg, Int.reduceLE, Int.reduceLT, Int.reduceToNat, Int.reduceEq, reduceCtorEq, ld_z, ld_s, st1_0, st1_1, st1_s, st2_0, st2_1, st2_s, isJ_i, isJ_r, isJ_n, isJ_l, cs_nil, cs_i, cs_r, cs_l, kF, List.getElem?_cons_succ, List.getElem?_cons_zero, List.set_cons_zero, List.set_cons_succ, GC_s, GC_n, GK_nil, GK_no, GK_yes, not_false_eq_true, back_eq, back_hp, inI_eq, inA_eq, true_and, and_true, and_self, if_true, if_false, bI_0, bI_1, bI_in, bI_T, bI_F, fitF, jmpF, nlF, pjA, iVal.eta, iYr.eta, List.getElem?_toArray, List.length_cons, List.length_nil, true_or, or_true, or_false, false_or, Classical.not_not, Bool.false_eq_true, hp_2, Nat.zero_le, Nat.le_refl, Option.some.injEq, Sum.inl.injEq, Sum.inr.injEq, not_true_eq_false, true_implies, false_implies, implies_true, Int.le_refl, rd_o, rd_o_s, hr, row_len, inA_one, inA_lik, inA_cpl, isOne_eq hO hr, isCouple_eq hO hr, isIn_eq, atOne_eq, atLike_eq, atCouple_eq, r_num, q_n0, q_n1, r_cp, r_dy, r_sl, r_who, q_kind, q_fig, q_dep, q_bnd, q_lik, q_man, q_wom, q_sta, q_dds, orNoneR_eq, Int.zero_add, gX12_eachOrder, e1]
          exact hq
        | succ m ihm =>
          intro c A hcm hA hall hg Q hq
          have h := hA.elim id False.elim
          have hr : A.mo.s = rowOf A0.now A0.now.dy := by rw [h.1.row, h.2.1]
          have c4 := hO.cp
          have e1 : ¬ A0.now.cp ≤ (c : Int) := by omega
          have e2 : (c : Int) + 1 = ((c + 1 : Nat) : Int) := by omega
          rw [List.range'_succ, List.flatMap_cons, List.foldl_append] at hq
          rw [List.range'_succ, List.flatMap_cons] at hg
          rw [List.range'_succ] at hall
          have hc0 := hall c (List.mem_cons_self ..)
          refine G_run (B := [32, 65, 92, 145]) 40 _ _ _ _ ?_
          by_cases y : bAnd (bShr left (c : Int)) 1 = 1
          · rw [if_pos y] at hq hg
            have fu : fuO cp f (bAnd left (bXor (bShl 1 (c : Int)) (-1))) = true := by
              have := hc0.2
              rw [decide_eq_true y] at this
              exact this
            have hA2 := foldA_inv hc c5 hn hO (lvO cp f (bAnd left (bXor (bShl 1 (c : Int)) (-1))) (10 * dg + (c : Int))) A hA (fun x hx => hg x (List.mem_append_left _ hx))
            have rcc := fun Q => ih (bAnd left (bXor (bShl 1 (c : Int)) (-1))) (10 * dg + (c : Int)) (k0 + 1) A Q fu bAnd_in (fun x hx => hg x (List.mem_append_left _ hx)) hA
            have h2 := hA2.elim id False.elim
            have bk : ∀ (L : List (Option iV)) (rest : List iV), back (hp A) (hp ((lvO cp f (bAnd left (bXor (bShl 1 (c : Int)) (-1))) (10 * dg + (c : Int))).foldl (stOA n A0.now A0.now.dy cp) A)) L rest = True := fun L rest => back_hp (by rw [h2.2.2.2.2, h.2.2.2.2]) (by rw [h2.2.2.2.1, h.2.2.2.1]; exact Nat.le_refl _)
            simp (disch := first | assumption | rfl | exact inI_of (by omega) (by omega) | omega | decide | (simp only [sv_ext, sv_mc, Nat.le_refl]; done) | with_unfolding_all (refine @id _ ?_; first | exact Eq.refl _ | exact Nat.le_refl _ | assumption)) only [Nat.reduceAdd, Nat.reduceMul, Nat.reduceLeDiff, Nat.reduceLT, Int.reduceAdd, Int.reduceSub, Int.reduceMul, Int.reduceNeg, Int.reduceLE, Int.reduceLT, Int.reduceToNat, Int.reduceEq, reduceCtorEq, ld_z, ld_s, st1_0, st1_1, st1_s, st2_0, st2_1, st2_s, isJ_i, isJ_r, isJ_n, isJ_l, cs_nil, cs_i, cs_r, cs_l, kF, List.getElem?_cons_succ, List.getElem?_cons_zero, List.set_cons_zero, List.set_cons_succ, GC_s, GC_n, GK_nil, GK_no, GK_yes, not_false_eq_true, back_eq, back_hp, inI_eq, inA_eq, true_and, and_true, and_self, if_true, if_false, bI_0, bI_1, bI_in, bI_T, bI_F, fitF, jmpF, nlF, pjA, iVal.eta, iYr.eta, List.getElem?_toArray, List.length_cons, List.length_nil, true_or, or_true, or_false, false_or, Classical.not_not, Bool.false_eq_true, hp_2, Nat.zero_le, Nat.le_refl, Option.some.injEq, Sum.inl.injEq, Sum.inr.injEq, not_true_eq_false, true_implies, false_implies, implies_true, Int.le_refl, rd_o, rd_o_s, hr, row_len, inA_one, inA_lik, inA_cpl, isOne_eq hO hr, isCouple_eq hO hr, isIn_eq, atOne_eq, atLike_eq, atCouple_eq, r_num, q_n0, q_n1, r_cp, r_dy, r_sl, r_who, q_kind, q_fig, q_dep, q_bnd, q_lik, q_man, q_wom, q_sta, q_dds, orNoneR_eq, Int.zero_add, gX12_eachOrder, e1, has_eq, eq_true y, rcc, bk, e2]
            exact ihm (c + 1) _ (by omega) hA2 (fun x hx => hall x (List.mem_cons_of_mem _ hx)) (fun x hx => hg x (List.mem_append_right _ hx)) Q hq
          · rw [if_neg y] at hq hg
            simp (disch := first | assumption | rfl | exact inI_of (by omega) (by omega) | omega | decide | (simp only [sv_ext, sv_mc, Nat.le_refl]; done) | with_unfolding_all (refine @id _ ?_; first | exact Eq.refl _ | exact Nat.le_refl _ | assumption)) only [Nat.reduceAdd, Nat.reduceMul, Nat.reduceLeDiff, Nat.reduceLT, Int.reduceAdd, Int.reduceSub, Int.reduceMul, Int.reduceNeg, Int.reduceLE, Int.reduceLT, Int.reduceToNat, Int.reduceEq, reduceCtorEq, ld_z, ld_s, st1_0, st1_1, st1_s, st2_0, st2_1, st2_s, isJ_i, isJ_r, isJ_n, isJ_l, cs_nil, cs_i, cs_r, cs_l, kF, List.getElem?_cons_succ, List.getElem?_cons_zero, List.set_cons_zero, List.set_cons_succ, GC_s, GC_n, GK_nil, GK_no, GK_yes, not_false_eq_true, back_eq, back_hp, inI_eq, inA_eq, true_and, and_true, and_self, if_true, if_false, bI_0, bI_1, bI_in, bI_T, bI_F, fitF, jmpF, nlF, pjA, iVal.eta, iYr.eta, List.getElem?_toArray, List.length_cons, List.length_nil, true_or, or_true, or_false, false_or, Classical.not_not, Bool.false_eq_true, hp_2, Nat.zero_le, Nat.le_refl, Option.some.injEq, Sum.inl.injEq, Sum.inr.injEq, not_true_eq_false, true_implies, false_implies, implies_true, Int.le_refl, rd_o, rd_o_s, hr, row_len, inA_one, inA_lik, inA_cpl, isOne_eq hO hr, isCouple_eq hO hr, isIn_eq, atOne_eq, atLike_eq, atCouple_eq, r_num, q_n0, q_n1, r_cp, r_dy, r_sl, r_who, q_kind, q_fig, q_dep, q_bnd, q_lik, q_man, q_wom, q_sta, q_dds, orNoneR_eq, Int.zero_add, gX12_eachOrder, e1, has_eq, y, e2]
            exact ihm (c + 1) A (by omega) hA (fun x hx => hall x (List.mem_cons_of_mem _ hx)) (fun x hx => hg x (List.mem_append_right _ hx)) Q hq
      refine L cp 0 A (by omega) hA ?_ hg _ ?_
      · intro x hx
        rw [List.all_eq_true] at ef
        have := List.mem_range'_1.mp hx
        exact ⟨by omega, ef x hx⟩
      · exact ⟨rfl, rfl⟩
theorem fold_b {X : iVal} {cp n : Nat} (hO : OkV X) (hc : (cp : Int) = X.cp) (c5 : cp < 5) (hn : n = 60) : ∀ (l : List Int) (t : iXY × Int × Int), (∀ g ∈ l, gdO cp g = true) → -1000 ≤ t.2.1 → t.2.1 ≤ 1000 → 0 ≤ t.2.2 → t.2.2 < 10000 → (-1000 ≤ (l.foldl (stO n X cp) t).2.1 ∧ (l.foldl (stO n X cp) t).2.1 ≤ 1000) ∧ 0 ≤ (l.foldl (stO n X cp) t).2.2 ∧ (l.foldl (stO n X cp) t).2.2 < 10000 := by
  intro l
  induction l with
  | nil => intro t _ a b c e; exact ⟨⟨a, b⟩, c, e⟩
  | cons g l ih =>
    intro t hg a b c e
    have gd := hg g (List.mem_cons_self ..)
    have sb := stO_b (n := n) (t := t) hO hc c5 hn gd b a
    unfold gdO at gd
    rw [Bool.and_eq_true, Bool.and_eq_true, decide_eq_true_eq, decide_eq_true_eq] at gd
    have dgb : 0 ≤ (stO n X cp t g).2.2 ∧ (stO n X cp t g).2.2 < 10000 := by
      unfold stO
      dsimp only
      split
      · exact gd.1.1
      · exact ⟨c, e⟩
    exact ih (stO n X cp t g) (fun x hx => hg x (List.mem_cons_of_mem _ hx)) sb.1 sb.2 dgb.1 dgb.2
theorem foldC_ok {X : iVal} {cp n : Nat} (hO : OkV X) (hc : (cp : Int) = X.cp) (hn : n = 60) : ∀ (l : List Int) (g : Int) (t : iXY × Int × Int), (∀ x ∈ g :: l, gdO cp x = true) → OkS ((g :: l).foldl (stO n X cp) t).1 300 := by
  intro l
  induction l with
  | nil =>
    intro g t hg
    have gd := hg g (List.mem_cons_self ..)
    unfold gdO at gd
    rw [Bool.and_eq_true, Bool.and_eq_true, decide_eq_true_eq, decide_eq_true_eq] at gd
    exact (oD_ok hO hc hn gd.1.2).1
  | cons g2 l ih =>
    intro g t hg
    exact ih g2 (stO n X cp t g) (fun x hx => hg x (List.mem_cons_of_mem _ hx))
theorem ag_orders (hR : Rel A) {w : Int} (iw : inI w = true) : Agree sp sc mX11_orders mX12_orders [.inl w] A := by
  have hO := hR.now
  have hr := hR.row
  have hcp := hO.cp
  by_cases c : 0 ≤ w ∧ w ≤ 1
  · have z1 : ¬ w < 0 := by omega
    by_cases c0 : A.now.cp = 0
    · refine Agree.of (-3) A A rfl (fun Q => Call_eq ?_) (fun Q => Call_eq ?_) rfl rfl hR
      · apply eX11_orders 60; simp (disch := first | assumption | rfl | exact inI_of (by omega) (by omega) | omega | decide | (simp only [sv_ext, sv_mc, Nat.le_refl]; done) | with_unfolding_all (refine @id _ ?_; first | exact Eq.refl _ | exact Nat.le_refl _ | assumption)) only [Nat.reduceAdd, Nat.reduceMul, Nat.reduceLeDiff, Nat.reduceLT, Int.reduceAdd, Int.reduceSub, Int.reduceMul, Int.reduceNeg, Int.reduceLE, Int.reduceLT, Int.reduceToNat, Int.reduceEq, reduceCtorEq, ld_z, ld_s, st1_0, st1_1, st1_s, st2_0, st2_1, st2_s, isJ_i, isJ_r, isJ_n, isJ_l, cs_nil, cs_i, cs_r, cs_l, kF, List.getElem?_cons_succ, List.getElem?_cons_zero, List.set_cons_zero, List.set_cons_succ, GC_s, GC_n, GK_nil, GK_no, GK_yes, not_false_eq_true, back_eq, inI_eq, inA_eq, true_and, and_true, and_self, if_true, if_false, bI_0, bI_1, bI_in, bI_T, bI_F, fitF, jmpF, nlF, pjA, iVal.eta, iYr.eta, List.getElem?_toArray, List.length_cons, List.length_nil, true_or, or_true, or_false, false_or, Classical.not_not, Bool.false_eq_true, hp_2, Nat.zero_le, Nat.le_refl, Option.some.injEq, Sum.inl.injEq, Sum.inr.injEq, not_true_eq_false, true_implies, false_implies, implies_true, Int.le_refl, rd_v, f_num, f_lik, f_dep, f_bnd, f_man, f_wom, f_sta, f_dds, f_who, rd_y, rd_y1, rd_y2, rd_y3, rd_y4, wy, wy1, wy2, wy3, wy4, sxy_mnd, sxy_now, sxy_img, sxy_yr, sxy_xy, sxy_sxy, sv_sxy, f_ord, f_bus, f_wai, f_fin, rd_e, v_now, hasOne_eq, hasTwo_eq, hasCouple_eq, orNone_eq, natureOf_eq, rd_nat, place_eq, rd_v1, rd_v3, rd_v4, rd_v6, rd_v7, rd_v8, rd_v9, rd_v10, isShelf_eq, isSide_eq, isDeed_eq, isKind_eq, isMindSpan_eq, back_sxy, back_sxy1, f_orN, gX11_orders, c, z1, iw, c0]
      · apply eX12_orders 60; simp (disch := first | assumption | rfl | exact inI_of (by omega) (by omega) | omega | decide | (simp only [sv_ext, sv_mc, Nat.le_refl]; done) | with_unfolding_all (refine @id _ ?_; first | exact Eq.refl _ | exact Nat.le_refl _ | assumption)) only [Nat.reduceAdd, Nat.reduceMul, Nat.reduceLeDiff, Nat.reduceLT, Int.reduceAdd, Int.reduceSub, Int.reduceMul, Int.reduceNeg, Int.reduceLE, Int.reduceLT, Int.reduceToNat, Int.reduceEq, reduceCtorEq, ld_z, ld_s, st1_0, st1_1, st1_s, st2_0, st2_1, st2_s, isJ_i, isJ_r, isJ_n, isJ_l, cs_nil, cs_i, cs_r, cs_l, kF, List.getElem?_cons_succ, List.getElem?_cons_zero, List.set_cons_zero, List.set_cons_succ, GC_s, GC_n, GK_nil, GK_no, GK_yes, not_false_eq_true, back_eq, back_hp, inI_eq, inA_eq, true_and, and_true, and_self, if_true, if_false, bI_0, bI_1, bI_in, bI_T, bI_F, fitF, jmpF, nlF, pjA, iVal.eta, iYr.eta, List.getElem?_toArray, List.length_cons, List.length_nil, true_or, or_true, or_false, false_or, Classical.not_not, Bool.false_eq_true, hp_2, Nat.zero_le, Nat.le_refl, Option.some.injEq, Sum.inl.injEq, Sum.inr.injEq, not_true_eq_false, true_implies, false_implies, implies_true, Int.le_refl, rd_o, rd_o_s, hr, row_len, inA_one, inA_lik, inA_cpl, isOne_eq hO hr, isCouple_eq hO hr, isIn_eq, atOne_eq, atLike_eq, atCouple_eq, r_num, q_n0, q_n1, r_cp, r_dy, r_sl, r_who, q_kind, q_fig, q_dep, q_bnd, q_lik, q_man, q_wom, q_sta, q_dds, orNoneR_eq, Int.zero_add, gX12_orders, isIn_eq, c, c0]
    · obtain ⟨cp, hc⟩ : ∃ cp : Nat, (cp : Int) = A.now.cp := ⟨A.now.cp.toNat, by omega⟩
      obtain ⟨n, hn⟩ : ∃ n : Nat, n = 60 := ⟨60, rfl⟩
      have c1 : 1 ≤ cp := by omega
      have c5 : cp < 5 := by omega
      have ok := oL_ok cp c5 c1
      have iz : inI A.now.cp = true := inI_of (by omega) (by omega)
      obtain ⟨g0, r, hl⟩ : ∃ g0 r, oL cp = g0 :: r := by
        cases h : oL cp with
        | nil => rw [h] at ok; exact absurd ok.2.2.2.2.1 (by intro z; cases z)
        | cons a b => exact ⟨a, b, rfl⟩
      have hgd : ∀ x ∈ g0 :: r, gdO cp x = true := by rw [← hl]; exact List.all_eq_true.mp ok.1
      have hch : chnO cp (g0 :: r) = true := by rw [← hl]; exact ok.2.1
      have hlen : r.length + 1 ≤ 24 := by have := ok.2.2.2.1; rw [hl] at this; exact this
      have hg0 : g0 = dgL [0, 1, 2, 3] cp 0 0 := by have := ok.2.2.2.2.1; rw [hl] at this; exact Option.some.inj this
      have hod0 : odOf cp g0 = [0, 1, 2, 3] := by rw [hg0]; exact ok.2.2.2.2.2.1
      have ob := fun Q => @orderByNumbers_eq sp sc 18 A Q hR.yr.lod
      have lC := fun o6 Q => @orC_loop sp sc 12 A Q cp n hc c1 c5 hO hn w iw r g0 0 245 0 (A.v .mnd, (iYr.mk ([0, 1, 2, 3]) A.yr.bz A.yr.wt A.yr.en A.yr.ps A.yr.dn A.yr.sp A.yr.fs)) o6 hR.mnd (LenY.mk rfl hR.yr.lbz hR.yr.lwt hR.yr.len hR.yr.bus) hod0.symm hgd hch (by omega) (by omega) (by omega) (by omega)
      have fC := foldC_ok hO hc hn r g0 ((A.v .mnd, (iYr.mk ([0, 1, 2, 3]) A.yr.bz A.yr.wt A.yr.en A.yr.ps A.yr.dn A.yr.sp A.yr.fs)), 245, 0) hgd
      have fb := fold_b hO hc c5 hn (g0 :: r) ((A.v .mnd, (iYr.mk ([0, 1, 2, 3]) A.yr.bz A.yr.wt A.yr.en A.yr.ps A.yr.dn A.yr.sp A.yr.fs)), 245, 0) hgd (show (-1000 : Int) ≤ 245 by omega) (show (245 : Int) ≤ 1000 by omega) (show (0 : Int) ≤ 0 by omega) (show (0 : Int) < 10000 by omega)
      have e2 : ((g0 :: r).foldl (stO n A.now cp) ((A.v .mnd, (iYr.mk ([0, 1, 2, 3]) A.yr.bz A.yr.wt A.yr.en A.yr.ps A.yr.dn A.yr.sp A.yr.fs)), 245, 0)).2 = ((g0 :: r).foldl (stO n A.now cp) ((A.v .mnd, (iYr.mk ([0, 1, 2, 3]) A.yr.bz A.yr.wt A.yr.en A.yr.ps A.yr.dn A.yr.sp A.yr.fs)), 1000000000, A.mo.bg)).2 := by
        refine fold_same r _ _ ?_
        have gd := hgd g0 (List.mem_cons_self ..)
        unfold gdO at gd
        rw [Bool.and_eq_true, Bool.and_eq_true, decide_eq_true_eq, decide_eq_true_eq] at gd
        have D := oD_ok hO hc hn gd.1.2
        have vb := twF_b D.2.2.2.2.1 cp 0 0 (by omega) (by omega)
        unfold stO
        dsimp only
        rw [if_pos (by omega), if_pos (by omega), if_pos (by omega), if_pos (by omega)]
      generalize hT : (g0 :: r).foldl (stO n A.now cp) ((A.v .mnd, (iYr.mk ([0, 1, 2, 3]) A.yr.bz A.yr.wt A.yr.en A.yr.ps A.yr.dn A.yr.sp A.yr.fs)), 245, 0) = T at *
      have hRx : Rel ((A.sxy T.1).sO 1000000000 A.mo.bg) := rel_sO (rel_sxy hR fC)
      have hinv : invO ((A.sxy T.1).sO 1000000000 A.mo.bg) ((A.sxy T.1).sO 1000000000 A.mo.bg) := Or.inl ⟨hRx, rfl, ⟨show (-1000000000 : Int) ≤ 1000000000 by omega, show (1000000000 : Int) ≤ 1000000000 by omega⟩, rfl, rfl⟩
      have eR := fun Q => @eachR sp sc 7 ((A.sxy T.1).sO 1000000000 A.mo.bg) cp n hc c1 c5 hn hO 5 (bShl 1 (cp : Int) - 1) 0 0 ((A.sxy T.1).sO 1000000000 A.mo.bg) Q ok.2.2.1 ok.2.2.2.2.2.2 (by
        have : lvO cp 5 (bShl 1 (cp : Int) - 1) 0 = g0 :: r := hl
        rw [this]; exact hgd) hinv
      have hl2 : lvO cp 5 (bShl 1 (cp : Int) - 1) 0 = g0 :: r := hl
      rw [hl2] at eR
      have fI := foldA_inv (A0 := ((A.sxy T.1).sO 1000000000 A.mo.bg)) hc c5 hn hO (g0 :: r) ((A.sxy T.1).sO 1000000000 A.mo.bg) hinv hgd
      have fO := @foldA_O A.now.dy A.now cp n (g0 :: r) ((A.sxy T.1).sO 1000000000 A.mo.bg) (A.v .mnd, (iYr.mk ([0, 1, 2, 3]) A.yr.bz A.yr.wt A.yr.en A.yr.ps A.yr.dn A.yr.sp A.yr.fs))
      have eRn : ((A.sxy T.1).sO 1000000000 A.mo.bg).now = A.now := rfl
      rw [eRn] at eR fI
      have fO : (((g0 :: r).foldl (stOA n A.now A.now.dy cp) ((A.sxy T.1).sO 1000000000 A.mo.bg)).mo.bd, ((g0 :: r).foldl (stOA n A.now A.now.dy cp) ((A.sxy T.1).sO 1000000000 A.mo.bg)).mo.bg) = T.2 := fO.trans e2.symm
      have eR : ∀ Q, Call sp sc 18 mX12_eachOrder [.inr (.inr 140), .inl 0, .inl (bShl 1 A.now.cp - 1), .inl 0] (hp ((A.sxy T.1).sO 1000000000 A.mo.bg)) Q = Q none (hp ((g0 :: r).foldl (stOA n A.now A.now.dy cp) ((A.sxy T.1).sO 1000000000 A.mo.bg))) := by rw [← hc]; exact eR
      generalize (g0 :: r).foldl (stOA n A.now A.now.dy cp) ((A.sxy T.1).sO 1000000000 A.mo.bg) = F at *
      have fI := fI.elim id False.elim
      have b1 : F.mo.bd = T.2.1 := congrArg Prod.fst fO
      have b2 : F.mo.bg = T.2.2 := congrArg Prod.snd fO
      have bk : ∀ (L : List (Option iV)) (rest : List iV), back (hp ((A.sxy T.1).sO 1000000000 A.mo.bg)) (hp F) L rest = True := fun L rest => back_hp fI.2.2.2.2 (by rw [fI.2.2.2.1]; exact Nat.le_refl _)
      have hr2 : (A.sxy T.1).mo.s = rowOf A.now A.now.dy := hr
      have hr3 : ((A.sxy T.1).sO 1000000000 A.mo.bg).mo.s = rowOf A.now A.now.dy := hr
      have wb : ((hp (A.sxy T.1)).1.set 138 _, (A.sxy T.1).mc) = hp ((A.sxy T.1).sO 1000000000 A.mo.bg) := @wr_bO (A.sxy T.1) 1000000000 A.mo.bg
      have ebg : (A.sxy T.1).mo.bg = A.mo.bg := rfl
      refine Agree.of (if w = 0 then T.2.2 else T.2.1) (A.sxy T.1) F (by split <;> exact inI_of (by omega) (by omega)) (fun Q => Call_eq ?_) (fun Q => Call_eq ?_) rfl fI.2.2.2.1 fI.1
      · apply eX11_orders 60; simp (disch := first | assumption | rfl | exact inI_of (by omega) (by omega) | omega | decide | (simp only [sv_ext, sv_mc, Nat.le_refl]; done) | with_unfolding_all (refine @id _ ?_; first | exact Eq.refl _ | exact Nat.le_refl _ | assumption)) only [Nat.reduceAdd, Nat.reduceMul, Nat.reduceLeDiff, Nat.reduceLT, Int.reduceAdd, Int.reduceSub, Int.reduceMul, Int.reduceNeg, Int.reduceLE, Int.reduceLT, Int.reduceToNat, Int.reduceEq, reduceCtorEq, ld_z, ld_s, st1_0, st1_1, st1_s, st2_0, st2_1, st2_s, isJ_i, isJ_r, isJ_n, isJ_l, cs_nil, cs_i, cs_r, cs_l, kF, List.getElem?_cons_succ, List.getElem?_cons_zero, List.set_cons_zero, List.set_cons_succ, GC_s, GC_n, GK_nil, GK_no, GK_yes, not_false_eq_true, back_eq, inI_eq, inA_eq, true_and, and_true, and_self, if_true, if_false, bI_0, bI_1, bI_in, bI_T, bI_F, fitF, jmpF, nlF, pjA, iVal.eta, iYr.eta, List.getElem?_toArray, List.length_cons, List.length_nil, true_or, or_true, or_false, false_or, Classical.not_not, Bool.false_eq_true, hp_2, Nat.zero_le, Nat.le_refl, Option.some.injEq, Sum.inl.injEq, Sum.inr.injEq, not_true_eq_false, true_implies, false_implies, implies_true, Int.le_refl, rd_v, f_num, f_lik, f_dep, f_bnd, f_man, f_wom, f_sta, f_dds, f_who, rd_y, rd_y1, rd_y2, rd_y3, rd_y4, wy, wy1, wy2, wy3, wy4, sxy_mnd, sxy_now, sxy_img, sxy_yr, sxy_xy, sxy_sxy, sv_sxy, f_ord, f_bus, f_wai, f_fin, rd_e, v_now, hasOne_eq, hasTwo_eq, hasCouple_eq, orNone_eq, natureOf_eq, rd_nat, place_eq, rd_v1, rd_v3, rd_v4, rd_v6, rd_v7, rd_v8, rd_v9, rd_v10, isShelf_eq, isSide_eq, isDeed_eq, isKind_eq, isMindSpan_eq, back_sxy, back_sxy1, f_orN, gX11_orders, c, z1, iw, c0, iz, ob]
        exact lC _ _ ⟨rfl, rfl⟩
      · apply eX12_orders 60
        by_cases y : w = 0
        · rw [if_pos y]
          have hr := hr2
          simp (disch := first | assumption | rfl | exact inI_of (by omega) (by omega) | omega | decide | (simp only [sv_ext, sv_mc, Nat.le_refl]; done) | with_unfolding_all (refine @id _ ?_; first | exact Eq.refl _ | exact Nat.le_refl _ | assumption)) only [Nat.reduceAdd, Nat.reduceMul, Nat.reduceLeDiff, Nat.reduceLT, Int.reduceAdd, Int.reduceSub, Int.reduceMul, Int.reduceNeg, Int.reduceLE, Int.reduceLT, Int.reduceToNat, Int.reduceEq, reduceCtorEq, ld_z, ld_s, st1_0, st1_1, st1_s, st2_0, st2_1, st2_s, isJ_i, isJ_r, isJ_n, isJ_l, cs_nil, cs_i, cs_r, cs_l, kF, List.getElem?_cons_succ, List.getElem?_cons_zero, List.set_cons_zero, List.set_cons_succ, GC_s, GC_n, GK_nil, GK_no, GK_yes, not_false_eq_true, back_eq, back_hp, inI_eq, inA_eq, true_and, and_true, and_self, if_true, if_false, bI_0, bI_1, bI_in, bI_T, bI_F, fitF, jmpF, nlF, pjA, iVal.eta, iYr.eta, List.getElem?_toArray, List.length_cons, List.length_nil, true_or, or_true, or_false, false_or, Classical.not_not, Bool.false_eq_true, hp_2, Nat.zero_le, Nat.le_refl, Option.some.injEq, Sum.inl.injEq, Sum.inr.injEq, not_true_eq_false, true_implies, false_implies, implies_true, Int.le_refl, rd_o, rd_o_s, hr, row_len, inA_one, inA_lik, inA_cpl, isOne_eq hO hr, isCouple_eq hO hr, isIn_eq, atOne_eq, atLike_eq, atCouple_eq, r_num, q_n0, q_n1, r_cp, r_dy, r_sl, r_who, q_kind, q_fig, q_dep, q_bnd, q_lik, q_man, q_wom, q_sta, q_dds, orNoneR_eq, Int.zero_add, gX12_orders, isIn_eq, c, c0, iz, wr_bO, ebg, hr3, eR, bk, eq_true y, b2]
        · rw [if_neg y]
          have hr := hr2
          simp (disch := first | assumption | rfl | exact inI_of (by omega) (by omega) | omega | decide | (simp only [sv_ext, sv_mc, Nat.le_refl]; done) | with_unfolding_all (refine @id _ ?_; first | exact Eq.refl _ | exact Nat.le_refl _ | assumption)) only [Nat.reduceAdd, Nat.reduceMul, Nat.reduceLeDiff, Nat.reduceLT, Int.reduceAdd, Int.reduceSub, Int.reduceMul, Int.reduceNeg, Int.reduceLE, Int.reduceLT, Int.reduceToNat, Int.reduceEq, reduceCtorEq, ld_z, ld_s, st1_0, st1_1, st1_s, st2_0, st2_1, st2_s, isJ_i, isJ_r, isJ_n, isJ_l, cs_nil, cs_i, cs_r, cs_l, kF, List.getElem?_cons_succ, List.getElem?_cons_zero, List.set_cons_zero, List.set_cons_succ, GC_s, GC_n, GK_nil, GK_no, GK_yes, not_false_eq_true, back_eq, back_hp, inI_eq, inA_eq, true_and, and_true, and_self, if_true, if_false, bI_0, bI_1, bI_in, bI_T, bI_F, fitF, jmpF, nlF, pjA, iVal.eta, iYr.eta, List.getElem?_toArray, List.length_cons, List.length_nil, true_or, or_true, or_false, false_or, Classical.not_not, Bool.false_eq_true, hp_2, Nat.zero_le, Nat.le_refl, Option.some.injEq, Sum.inl.injEq, Sum.inr.injEq, not_true_eq_false, true_implies, false_implies, implies_true, Int.le_refl, rd_o, rd_o_s, hr, row_len, inA_one, inA_lik, inA_cpl, isOne_eq hO hr, isCouple_eq hO hr, isIn_eq, atOne_eq, atLike_eq, atCouple_eq, r_num, q_n0, q_n1, r_cp, r_dy, r_sl, r_who, q_kind, q_fig, q_dep, q_bnd, q_lik, q_man, q_wom, q_sta, q_dds, orNoneR_eq, Int.zero_add, gX12_orders, isIn_eq, c, c0, iz, wr_bO, ebg, hr3, eR, bk, y, b1]
  · refine Agree.of (-1) A A rfl (fun Q => Call_eq ?_) (fun Q => Call_eq ?_) rfl rfl hR
    · by_cases z1 : w < 0
      · apply eX11_orders 60; simp (disch := first | assumption | rfl | exact inI_of (by omega) (by omega) | omega | decide | (simp only [sv_ext, sv_mc, Nat.le_refl]; done) | with_unfolding_all (refine @id _ ?_; first | exact Eq.refl _ | exact Nat.le_refl _ | assumption)) only [Nat.reduceAdd, Nat.reduceMul, Nat.reduceLeDiff, Nat.reduceLT, Int.reduceAdd, Int.reduceSub, Int.reduceMul, Int.reduceNeg, Int.reduceLE, Int.reduceLT, Int.reduceToNat, Int.reduceEq, reduceCtorEq, ld_z, ld_s, st1_0, st1_1, st1_s, st2_0, st2_1, st2_s, isJ_i, isJ_r, isJ_n, isJ_l, cs_nil, cs_i, cs_r, cs_l, kF, List.getElem?_cons_succ, List.getElem?_cons_zero, List.set_cons_zero, List.set_cons_succ, GC_s, GC_n, GK_nil, GK_no, GK_yes, not_false_eq_true, back_eq, inI_eq, inA_eq, true_and, and_true, and_self, if_true, if_false, bI_0, bI_1, bI_in, bI_T, bI_F, fitF, jmpF, nlF, pjA, iVal.eta, iYr.eta, List.getElem?_toArray, List.length_cons, List.length_nil, true_or, or_true, or_false, false_or, Classical.not_not, Bool.false_eq_true, hp_2, Nat.zero_le, Nat.le_refl, Option.some.injEq, Sum.inl.injEq, Sum.inr.injEq, not_true_eq_false, true_implies, false_implies, implies_true, Int.le_refl, rd_v, f_num, f_lik, f_dep, f_bnd, f_man, f_wom, f_sta, f_dds, f_who, rd_y, rd_y1, rd_y2, rd_y3, rd_y4, wy, wy1, wy2, wy3, wy4, sxy_mnd, sxy_now, sxy_img, sxy_yr, sxy_xy, sxy_sxy, sv_sxy, f_ord, f_bus, f_wai, f_fin, rd_e, v_now, hasOne_eq, hasTwo_eq, hasCouple_eq, orNone_eq, natureOf_eq, rd_nat, place_eq, rd_v1, rd_v3, rd_v4, rd_v6, rd_v7, rd_v8, rd_v9, rd_v10, isShelf_eq, isSide_eq, isDeed_eq, isKind_eq, isMindSpan_eq, back_sxy, back_sxy1, f_orN, gX11_orders, z1, iw]
      · have z2 : ¬ w ≤ 1 := by omega
        apply eX11_orders 60; simp (disch := first | assumption | rfl | exact inI_of (by omega) (by omega) | omega | decide | (simp only [sv_ext, sv_mc, Nat.le_refl]; done) | with_unfolding_all (refine @id _ ?_; first | exact Eq.refl _ | exact Nat.le_refl _ | assumption)) only [Nat.reduceAdd, Nat.reduceMul, Nat.reduceLeDiff, Nat.reduceLT, Int.reduceAdd, Int.reduceSub, Int.reduceMul, Int.reduceNeg, Int.reduceLE, Int.reduceLT, Int.reduceToNat, Int.reduceEq, reduceCtorEq, ld_z, ld_s, st1_0, st1_1, st1_s, st2_0, st2_1, st2_s, isJ_i, isJ_r, isJ_n, isJ_l, cs_nil, cs_i, cs_r, cs_l, kF, List.getElem?_cons_succ, List.getElem?_cons_zero, List.set_cons_zero, List.set_cons_succ, GC_s, GC_n, GK_nil, GK_no, GK_yes, not_false_eq_true, back_eq, inI_eq, inA_eq, true_and, and_true, and_self, if_true, if_false, bI_0, bI_1, bI_in, bI_T, bI_F, fitF, jmpF, nlF, pjA, iVal.eta, iYr.eta, List.getElem?_toArray, List.length_cons, List.length_nil, true_or, or_true, or_false, false_or, Classical.not_not, Bool.false_eq_true, hp_2, Nat.zero_le, Nat.le_refl, Option.some.injEq, Sum.inl.injEq, Sum.inr.injEq, not_true_eq_false, true_implies, false_implies, implies_true, Int.le_refl, rd_v, f_num, f_lik, f_dep, f_bnd, f_man, f_wom, f_sta, f_dds, f_who, rd_y, rd_y1, rd_y2, rd_y3, rd_y4, wy, wy1, wy2, wy3, wy4, sxy_mnd, sxy_now, sxy_img, sxy_yr, sxy_xy, sxy_sxy, sv_sxy, f_ord, f_bus, f_wai, f_fin, rd_e, v_now, hasOne_eq, hasTwo_eq, hasCouple_eq, orNone_eq, natureOf_eq, rd_nat, place_eq, rd_v1, rd_v3, rd_v4, rd_v6, rd_v7, rd_v8, rd_v9, rd_v10, isShelf_eq, isSide_eq, isDeed_eq, isKind_eq, isMindSpan_eq, back_sxy, back_sxy1, f_orN, gX11_orders, z1, z2, iw]
    · apply eX12_orders 60; simp (disch := first | assumption | rfl | exact inI_of (by omega) (by omega) | omega | decide | (simp only [sv_ext, sv_mc, Nat.le_refl]; done) | with_unfolding_all (refine @id _ ?_; first | exact Eq.refl _ | exact Nat.le_refl _ | assumption)) only [Nat.reduceAdd, Nat.reduceMul, Nat.reduceLeDiff, Nat.reduceLT, Int.reduceAdd, Int.reduceSub, Int.reduceMul, Int.reduceNeg, Int.reduceLE, Int.reduceLT, Int.reduceToNat, Int.reduceEq, reduceCtorEq, ld_z, ld_s, st1_0, st1_1, st1_s, st2_0, st2_1, st2_s, isJ_i, isJ_r, isJ_n, isJ_l, cs_nil, cs_i, cs_r, cs_l, kF, List.getElem?_cons_succ, List.getElem?_cons_zero, List.set_cons_zero, List.set_cons_succ, GC_s, GC_n, GK_nil, GK_no, GK_yes, not_false_eq_true, back_eq, back_hp, inI_eq, inA_eq, true_and, and_true, and_self, if_true, if_false, bI_0, bI_1, bI_in, bI_T, bI_F, fitF, jmpF, nlF, pjA, iVal.eta, iYr.eta, List.getElem?_toArray, List.length_cons, List.length_nil, true_or, or_true, or_false, false_or, Classical.not_not, Bool.false_eq_true, hp_2, Nat.zero_le, Nat.le_refl, Option.some.injEq, Sum.inl.injEq, Sum.inr.injEq, not_true_eq_false, true_implies, false_implies, implies_true, Int.le_refl, rd_o, rd_o_s, hr, row_len, inA_one, inA_lik, inA_cpl, isOne_eq hO hr, isCouple_eq hO hr, isIn_eq, atOne_eq, atLike_eq, atCouple_eq, r_num, q_n0, q_n1, r_cp, r_dy, r_sl, r_who, q_kind, q_fig, q_dep, q_bnd, q_lik, q_man, q_wom, q_sta, q_dds, orNoneR_eq, Int.zero_add, gX12_orders, isIn_eq, c]
end OPS
