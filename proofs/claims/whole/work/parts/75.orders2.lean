set_option maxRecDepth 16384
/-! ===== orders: the reference ===== -/
def iA.sO (A : iA) (x y : Int) : iA := (iA.mk A.now A.img A.mnd A.imd A.yr A.mt A.sh A.pt ((iMo.mk A.mo.s A.mo.m A.mo.im A.mo.was A.mo.hi A.mo.wt A.mo.en A.mo.od A.mo.dn A.mo.sm A.mo.sf A.mo.go A.mo.at_ A.mo.ra A.mo.re A.mo.nu (x) (y) A.mo.he A.mo.bh A.mo.ak A.mo.st A.mo.ml A.mo.fi A.mo.th A.mo.se A.mo.ke A.mo.kk A.mo.kf A.mo.so A.mo.sz A.mo.el A.mo.tn)) A.out A.ext A.mc)
section OPS
variable {sp : Nat → List iV → iH → Option (Option iV × iH)} {sc : List Int} {d : Nat} {A : iA} {Q : Option iV → iH → Prop} {h : iH} {X : iVal} {e g B : Int} {S T : iXY}
theorem wr_bO {x y : Int} : ((hp A).1.set 138 (.inl (12, [.inr (.inr 141), .inr (.inr 142), .inr (.inr 143), .inr (.inr 144), .inl A.mo.hi, .inr (.inr 145), .inr (.inr 146), .inr (.inr 147), .inl A.mo.dn, .inl A.mo.sm, .inl A.mo.sf, .inl A.mo.go, .inl A.mo.at_, .inl A.mo.ra, .inl A.mo.re, .inr (.inr 148), .inl x, .inl y, .inr (.inr 149), .inr (.inr 150), .inr (.inr 151), .inl A.mo.st, .inl A.mo.ml, .inr (.inr 152), .inr (.inr 153), .inl A.mo.se, .inr (.inr 154), .inr (.inr 155), .inr (.inr 156), .inr (.inr 157), .inr (.inr 158), .inr (.inr 159), .inl A.mo.tn])), A.mc) = hp (A.sO x y) := wr_o
theorem sO_bd {x y : Int} : (A.sO x y).mo.bd = x := rfl
theorem sO_bg {x y : Int} : (A.sO x y).mo.bg = y := rfl
theorem rel_sO {x y : Int} (hR : Rel A) : Rel (A.sO x y) := (Rel.mk (hR.now) hR.img hR.mnd hR.mok hR.yr hR.ndy hR.idy hR.row hR.imd hR.him hR.imr hR.lim hR.lm hR.lwas hR.lwt hR.len hR.lod hR.lnu hR.lhe hR.lbh hR.lak hR.lfi hR.lth hR.lke hR.lkk hR.lkf hR.lso hR.lsz hR.lel hR.lwv hR.lhb hR.lfm hR.lmk hR.lpt hR.lout hR.shs hR.inj)
theorem sO_sO {x y u v : Int} : (A.sO x y).sO u v = A.sO u v := rfl
theorem mr_sO {x y : Int} : (A.mr S e).sO x y = (A.sO x y).mr S e := rfl
theorem mr_bd : (A.mr S e).mo.bd = A.mo.bd := rfl
theorem mr_bg : (A.mr S e).mo.bg = A.mo.bg := rfl
theorem back_sO {x y : Int} {L : List (Option iV)} {rest : List iV} : back (hp A) (hp (A.sO x y)) L rest = True := back_hp rfl (Nat.le_refl _)
theorem back_mO {x y u v : Int} {L : List (Option iV)} {rest : List iV} : back (hp ((A.sO x y).mr S e)) (hp ((A.sO u v).mr T e)) L rest = True := back_hp rfl (Nat.le_refl _)
theorem twR_eq (hO : OkV X) (hs : A.mo.s = rowOf X e) (hS : OkS S B) (hB : B ≤ 1000) {c : Int} (h0 : 0 ≤ c) (h1 : c < 4) (k1 : X.sta c = 1 → S.1.sta c = 1 ∧ S.2.fin c = 0) (k2 : ¬ X.sta c = 1 → S.1.sta c = 1 → ¬ S.2.fin c = 0) : Call sp sc (d + 1) mX12_daysTillWed [.inr (.inr 140), .inl c] (hp (A.mr S e)) Q = Q (some (.inl (if S.1.sta c = 1 then S.2.fin c else 61))) (hp (A.mr S e)) := Call_eq (by
  have hr : (A.mr S e).mo.s = rowOf X e := hs
  have s0 := hO.sta c h0 h1
  have s1 := hS.1.sta c h0 h1
  have f1 := hS.2.fin c h0 h1
  have en : (A.mr S e).mo.en = enR S.2.en := rfl
  have le : (enR S.2.en).length = 4 := by rw [enR_len]; exact hS.2.len
  have ef := enR_get (l := S.2.en) h0 (by have := hS.2.len; omega)
  apply eX12_daysTillWed 40
  by_cases z : X.sta c = 1
  · have k := k1 z
    rw [if_pos k.1, k.2]
    simp (disch := first | assumption | rfl | exact inI_of (by omega) (by omega) | omega | decide | (simp only [sv_ext, sv_mc, Nat.le_refl]; done) | with_unfolding_all (refine @id _ ?_; first | exact Eq.refl _ | exact Nat.le_refl _ | assumption)) only [Nat.reduceAdd, Nat.reduceMul, Nat.reduceLeDiff, Nat.reduceLT, Int.reduceAdd, Int.reduceSub, Int.reduceMul, Int.reduceNeg, Int.reduceLE, Int.reduceLT, Int.reduceToNat, Int.reduceEq, reduceCtorEq, ld_z, ld_s, st1_0, st1_1, st1_s, st2_0, st2_1, st2_s, isJ_i, isJ_r, isJ_n, isJ_l, cs_nil, cs_i, cs_r, cs_l, kF, List.getElem?_cons_succ, List.getElem?_cons_zero, List.set_cons_zero, List.set_cons_succ, GC_s, GC_n, GK_nil, GK_no, GK_yes, not_false_eq_true, back_eq, back_hp, inI_eq, inA_eq, true_and, and_true, and_self, if_true, if_false, bI_0, bI_1, bI_in, bI_T, bI_F, fitF, jmpF, nlF, pjA, iVal.eta, iYr.eta, List.getElem?_toArray, List.length_cons, List.length_nil, true_or, or_true, or_false, false_or, Classical.not_not, Bool.false_eq_true, hp_2, Nat.zero_le, Nat.le_refl, Option.some.injEq, Sum.inl.injEq, Sum.inr.injEq, not_true_eq_false, true_implies, false_implies, implies_true, rd_o, rd_o_s, hr, row_len, inA_one, inA_lik, inA_cpl, isOne_eq hO hr, isCouple_eq hO hr, isIn_eq, atOne_eq, atLike_eq, atCouple_eq, r_num, q_n0, q_n1, r_cp, r_dy, r_sl, r_who, q_kind, q_fig, q_dep, q_bnd, q_lik, q_man, q_wom, q_sta, q_dds, orNoneR_eq, Int.zero_add, gX12_daysTillWed, eq_true z]
  · by_cases y : S.1.sta c = 1
    · rw [if_pos y]
      have k := k2 z y
      have f2 : S.2.en.getD c.toNat 0 = S.2.fin c := rfl
      rw [f2, if_neg k] at ef
      simp (disch := first | assumption | rfl | exact inI_of (by omega) (by omega) | omega | decide | (simp only [sv_ext, sv_mc, Nat.le_refl]; done) | with_unfolding_all (refine @id _ ?_; first | exact Eq.refl _ | exact Nat.le_refl _ | assumption)) only [Nat.reduceAdd, Nat.reduceMul, Nat.reduceLeDiff, Nat.reduceLT, Int.reduceAdd, Int.reduceSub, Int.reduceMul, Int.reduceNeg, Int.reduceLE, Int.reduceLT, Int.reduceToNat, Int.reduceEq, reduceCtorEq, ld_z, ld_s, st1_0, st1_1, st1_s, st2_0, st2_1, st2_s, isJ_i, isJ_r, isJ_n, isJ_l, cs_nil, cs_i, cs_r, cs_l, kF, List.getElem?_cons_succ, List.getElem?_cons_zero, List.set_cons_zero, List.set_cons_succ, GC_s, GC_n, GK_nil, GK_no, GK_yes, not_false_eq_true, back_eq, back_hp, inI_eq, inA_eq, true_and, and_true, and_self, if_true, if_false, bI_0, bI_1, bI_in, bI_T, bI_F, fitF, jmpF, nlF, pjA, iVal.eta, iYr.eta, List.getElem?_toArray, List.length_cons, List.length_nil, true_or, or_true, or_false, false_or, Classical.not_not, Bool.false_eq_true, hp_2, Nat.zero_le, Nat.le_refl, Option.some.injEq, Sum.inl.injEq, Sum.inr.injEq, not_true_eq_false, true_implies, false_implies, implies_true, rd_o, rd_o_s, hr, row_len, inA_one, inA_lik, inA_cpl, isOne_eq hO hr, isCouple_eq hO hr, isIn_eq, atOne_eq, atLike_eq, atCouple_eq, r_num, q_n0, q_n1, r_cp, r_dy, r_sl, r_who, q_kind, q_fig, q_dep, q_bnd, q_lik, q_man, q_wom, q_sta, q_dds, orNoneR_eq, Int.zero_add, gX12_daysTillWed, z, rd_o_m, mr_m, eq_true y, rd_o_en, en, le, ef]
    · rw [if_neg y]
      simp (disch := first | assumption | rfl | exact inI_of (by omega) (by omega) | omega | decide | (simp only [sv_ext, sv_mc, Nat.le_refl]; done) | with_unfolding_all (refine @id _ ?_; first | exact Eq.refl _ | exact Nat.le_refl _ | assumption)) only [Nat.reduceAdd, Nat.reduceMul, Nat.reduceLeDiff, Nat.reduceLT, Int.reduceAdd, Int.reduceSub, Int.reduceMul, Int.reduceNeg, Int.reduceLE, Int.reduceLT, Int.reduceToNat, Int.reduceEq, reduceCtorEq, ld_z, ld_s, st1_0, st1_1, st1_s, st2_0, st2_1, st2_s, isJ_i, isJ_r, isJ_n, isJ_l, cs_nil, cs_i, cs_r, cs_l, kF, List.getElem?_cons_succ, List.getElem?_cons_zero, List.set_cons_zero, List.set_cons_succ, GC_s, GC_n, GK_nil, GK_no, GK_yes, not_false_eq_true, back_eq, back_hp, inI_eq, inA_eq, true_and, and_true, and_self, if_true, if_false, bI_0, bI_1, bI_in, bI_T, bI_F, fitF, jmpF, nlF, pjA, iVal.eta, iYr.eta, List.getElem?_toArray, List.length_cons, List.length_nil, true_or, or_true, or_false, false_or, Classical.not_not, Bool.false_eq_true, hp_2, Nat.zero_le, Nat.le_refl, Option.some.injEq, Sum.inl.injEq, Sum.inr.injEq, not_true_eq_false, true_implies, false_implies, implies_true, rd_o, rd_o_s, hr, row_len, inA_one, inA_lik, inA_cpl, isOne_eq hO hr, isCouple_eq hO hr, isIn_eq, atOne_eq, atLike_eq, atCouple_eq, r_num, q_n0, q_n1, r_cp, r_dy, r_sl, r_who, q_kind, q_fig, q_dep, q_bnd, q_lik, q_man, q_wom, q_sta, q_dds, orNoneR_eq, Int.zero_add, gX12_daysTillWed, z, rd_o_m, mr_m, y])
theorem odR_loop {l0 k0 dg : Int} (hs : A.mo.s = rowOf X e) : ∀ (k : Nat) (r : Int) (l bz : List Int) (o6 : Option iV), k ≤ 4 → l.length = 4 → 0 ≤ r → r < 10000 → (∀ r', Run sp sc d mX12_eachOrder 32 [some (.inr (.inr 140)), some (.inl k0), some (.inl l0), some (.inl dg), some (.inl r'), some (.inl (-1)), o6] [] (hp (A.sro .m (rowOf X e) (ryOf (yr0 (odF k r l) bz) 0))) Q) → Run sp sc d mX12_eachOrder 32 [some (.inr (.inr 140)), some (.inl k0), some (.inl l0), some (.inl dg), some (.inl r), some (.inl ((k : Int) - 1)), o6] [] (hp (A.sro .m (rowOf X e) (ryOf (yr0 l bz) 0))) Q := by
  intro k
  induction k with
  | zero => intro r l bz o6 hk hl h0 h1 hq; exact hq r
  | succ k ih =>
    intro r l bz o6 hk hl h0 h1 hq
    refine G_run (B := [32, 65, 92, 145]) 40 _ _ _ _ ?_
    have e1 : ¬ ((k + 1 : Nat) : Int) - 1 < 0 := by omega
    have e2 : ((k + 1 : Nat) : Int) - 1 + (-1) = (k : Int) - 1 := by omega
    have e3 : (((k + 1 : Nat) : Int) - 1).toNat = k := by omega
    have lo : (ryOf (yr0 l bz) 0).od.length = 4 := hl
    have eo : (ryOf (yr0 l bz) 0).od = l := rfl
    have ew : ∀ w : List Int, (iRy.mk (ryOf (yr0 l bz) 0).wt (ryOf (yr0 l bz) 0).en w (ryOf (yr0 l bz) 0).dn (ryOf (yr0 l bz) 0).sm (ryOf (yr0 l bz) 0).sf (ryOf (yr0 l bz) 0).go) = ryOf (yr0 w bz) 0 := fun w => rfl
    have b1 : 0 ≤ r.tmod 10 := Int.tmod_nonneg _ h0
    have b2 : 0 ≤ r.tdiv 10 := Int.tdiv_nonneg h0 (by omega)
    have b3 : r.tdiv 10 < 10000 := by rw [Int.tdiv_eq_ediv_of_nonneg h0]; omega
    simp (disch := first | assumption | rfl | exact inI_of (by omega) (by omega) | omega | decide | (simp only [sv_ext, sv_mc, Nat.le_refl]; done) | with_unfolding_all (refine @id _ ?_; first | exact Eq.refl _ | exact Nat.le_refl _ | assumption)) only [Nat.reduceAdd, Nat.reduceMul, Nat.reduceLeDiff, Nat.reduceLT, Int.reduceAdd, Int.reduceSub, Int.reduceMul, Int.reduceNeg, Int.reduceLE, Int.reduceLT, Int.reduceToNat, Int.reduceEq, reduceCtorEq, ld_z, ld_s, st1_0, st1_1, st1_s, st2_0, st2_1, st2_s, isJ_i, isJ_r, isJ_n, isJ_l, cs_nil, cs_i, cs_r, cs_l, kF, List.getElem?_cons_succ, List.getElem?_cons_zero, List.set_cons_zero, List.set_cons_succ, GC_s, GC_n, GK_nil, GK_no, GK_yes, not_false_eq_true, back_eq, inI_eq, inA_eq, true_and, and_true, and_self, if_true, if_false, bI_0, bI_1, bI_in, bI_T, bI_F, fitF, jmpF, nlF, pjA, iVal.eta, iYr.eta, List.getElem?_toArray, List.length_cons, List.length_nil, true_or, or_true, or_false, false_or, Classical.not_not, Bool.false_eq_true, hp_2, Nat.zero_le, Nat.le_refl, Option.some.injEq, Sum.inl.injEq, Sum.inr.injEq, not_true_eq_false, true_implies, false_implies, implies_true, iRy.pj, back_sro, back_sro1, rd_r, rd_o, rd_o_wt, rd_o_en, rd_o_od, sro_rr, sro_srr, sro_sro, sro_wt, sro_en, sro_od, sro_dn, sro_sm, sro_sf, sro_go, wro_wt, wro_en, wro_od, wro_r, wro_o, row_len, inA_one, inA_lik, inA_cpl, gX12_eachOrder, e1, e2, e3, eo, hl, ew]
    exact ih (r.tdiv 10) (l.set k (r.tmod 10)) bz o6 (by omega) (by rw [List.length_set]; exact hl) b2 b3 hq
theorem odG_loop {l0 k0 dg r : Int} {o6 : Option iV} : ∀ (m : Nat) (k : Int) (S : iXY) (e g B : Int), OkS S B → B + 5 * m ≤ 90000 → S.2.ps = g → 0 ≤ g → 0 ≤ k → k + m = 60 → Run sp sc (d + 6) mX12_eachOrder 65 [some (.inr (.inr 140)), some (.inl k0), some (.inl l0), some (.inl dg), some (.inl r), some (.inl 60), o6] [] (hp (A.sro .m (rowOf (daysA m S).1 (e + m)) (ryOf (daysA m S).2 (g + m)))) Q → Run sp sc (d + 6) mX12_eachOrder 65 [some (.inr (.inr 140)), some (.inl k0), some (.inl l0), some (.inl dg), some (.inl r), some (.inl k), o6] [] (hp (A.sro .m (rowOf S.1 e) (ryOf S.2 g))) Q := by
  intro m
  induction m with
  | zero =>
    intro k S e g B hS hB hg hg0 h0 h1 hq
    have e2 : e + ((0 : Nat) : Int) = e := by omega
    have e3 : g + ((0 : Nat) : Int) = g := by omega
    have e4 : k = 60 := by omega
    rw [e2, e3] at hq
    rw [e4]
    exact hq
  | succ m ih =>
    intro k S e g B hS hB hg hg0 h0 h1 hq
    refine G_run (B := [32, 65, 92, 145]) 40 _ _ _ _ ?_
    have e1 : ¬ 60 ≤ k := by omega
    have go : ∀ Q, Call sp sc (d + 5) mX12_goes [.inr (.inr 140), .inr (.inr 142)] (hp (A.sro .m (rowOf S.1 e) (ryOf S.2 g))) Q = Q none (hp (A.sro .m (rowOf (dayA S).1 (e + 1)) (ryOf (dayA S).2 (g + 1)))) := fun Q => goes_eq (r := iR.m) hS (by omega) hg hg0
    simp (disch := first | assumption | rfl | exact inI_of (by omega) (by omega) | omega | decide | (simp only [sv_ext, sv_mc, Nat.le_refl]; done) | with_unfolding_all (refine @id _ ?_; first | exact Eq.refl _ | exact Nat.le_refl _ | assumption)) only [Nat.reduceAdd, Nat.reduceMul, Nat.reduceLeDiff, Nat.reduceLT, Int.reduceAdd, Int.reduceSub, Int.reduceMul, Int.reduceNeg, Int.reduceLE, Int.reduceLT, Int.reduceToNat, Int.reduceEq, reduceCtorEq, ld_z, ld_s, st1_0, st1_1, st1_s, st2_0, st2_1, st2_s, isJ_i, isJ_r, isJ_n, isJ_l, cs_nil, cs_i, cs_r, cs_l, kF, List.getElem?_cons_succ, List.getElem?_cons_zero, List.set_cons_zero, List.set_cons_succ, GC_s, GC_n, GK_nil, GK_no, GK_yes, not_false_eq_true, back_eq, inI_eq, inA_eq, true_and, and_true, and_self, if_true, if_false, bI_0, bI_1, bI_in, bI_T, bI_F, fitF, jmpF, nlF, pjA, iVal.eta, iYr.eta, List.getElem?_toArray, List.length_cons, List.length_nil, true_or, or_true, or_false, false_or, Classical.not_not, Bool.false_eq_true, hp_2, Nat.zero_le, Nat.le_refl, Option.some.injEq, Sum.inl.injEq, Sum.inr.injEq, not_true_eq_false, true_implies, false_implies, implies_true, iRy.pj, back_sro, back_sro1, rd_r, rd_o, rd_o_wt, rd_o_en, rd_o_od, sro_rr, sro_srr, sro_sro, sro_wt, sro_en, sro_od, sro_dn, sro_sm, sro_sf, sro_go, wro_wt, wro_en, wro_od, wro_r, wro_o, row_len, inA_one, inA_lik, inA_cpl, gX12_eachOrder, e1, go]
    have e2 : e + ((m + 1 : Nat) : Int) = e + 1 + (m : Int) := by omega
    have e3 : g + ((m + 1 : Nat) : Int) = g + 1 + (m : Int) := by omega
    rw [e2, e3] at hq
    exact ih (k + 1) (dayA S) (e + 1) (g + 1) (B + 5) (okS_day hS).1 (by omega) (by rw [dayA_ps hS, hg]) (by omega) (by omega) (by omega) hq
theorem odW_loop (hO : OkV X) (hs : A.mo.s = rowOf X e) (hS : OkS S B) (hB : B ≤ 1000) (hcp : S.1.cp = X.cp) (hk : ∀ c, 0 ≤ c → c < 4 → (X.sta c = 1 → S.1.sta c = 1 ∧ S.2.fin c = 0) ∧ (¬ X.sta c = 1 → S.1.sta c = 1 → ¬ S.2.fin c = 0)) {l0 k0 dg r : Int} : ∀ (k : Nat) (c t : Int), 0 ≤ c → c + k = X.cp → 0 ≤ t → t + 1000 * k ≤ 10000 → Run sp sc (d + 2) mX12_eachOrder 92 [some (.inr (.inr 140)), some (.inl k0), some (.inl l0), some (.inl dg), some (.inl r), some (.inl (twF S k c t)), some (.inl X.cp)] [] (hp (A.mr S e)) Q → Run sp sc (d + 2) mX12_eachOrder 92 [some (.inr (.inr 140)), some (.inl k0), some (.inl l0), some (.inl dg), some (.inl r), some (.inl t), some (.inl c)] [] (hp (A.mr S e)) Q := by
  have c4 := hO.cp
  intro k
  induction k with
  | zero =>
    intro c t h0 h1 h2 h3 hq
    have e1 : c = X.cp := by omega
    rw [e1]; exact hq
  | succ k ih =>
    intro c t h0 h1 h2 h3 hq
    refine G_run (B := [32, 65, 92, 145]) 40 _ _ _ _ ?_
    have e1 : ¬ X.cp ≤ c := by omega
    have hr : (A.mr S e).mo.s = rowOf X e := hs
    have f1 := hS.2.fin c h0 (by omega)
    have kc := hk c h0 (by omega)
    have tw := fun Q => @twR_eq sp sc d A Q X e B S hO hs hS hB c h0 (by omega) kc.1 kc.2
    unfold twF at hq
    have b : 0 ≤ (if S.1.sta c = 1 then S.2.fin c else 61) ∧ (if S.1.sta c = 1 then S.2.fin c else 61) ≤ 1000 := by split <;> omega
    generalize (if S.1.sta c = 1 then S.2.fin c else 61) = v at *
    simp (disch := first | assumption | rfl | exact inI_of (by omega) (by omega) | omega | decide | (simp only [sv_ext, sv_mc, Nat.le_refl]; done) | with_unfolding_all (refine @id _ ?_; first | exact Eq.refl _ | exact Nat.le_refl _ | assumption)) only [Nat.reduceAdd, Nat.reduceMul, Nat.reduceLeDiff, Nat.reduceLT, Int.reduceAdd, Int.reduceSub, Int.reduceMul, Int.reduceNeg, Int.reduceLE, Int.reduceLT, Int.reduceToNat, Int.reduceEq, reduceCtorEq, ld_z, ld_s, st1_0, st1_1, st1_s, st2_0, st2_1, st2_s, isJ_i, isJ_r, isJ_n, isJ_l, cs_nil, cs_i, cs_r, cs_l, kF, List.getElem?_cons_succ, List.getElem?_cons_zero, List.set_cons_zero, List.set_cons_succ, GC_s, GC_n, GK_nil, GK_no, GK_yes, not_false_eq_true, back_eq, back_hp, inI_eq, inA_eq, true_and, and_true, and_self, if_true, if_false, bI_0, bI_1, bI_in, bI_T, bI_F, fitF, jmpF, nlF, pjA, iVal.eta, iYr.eta, List.getElem?_toArray, List.length_cons, List.length_nil, true_or, or_true, or_false, false_or, Classical.not_not, Bool.false_eq_true, hp_2, Nat.zero_le, Nat.le_refl, Option.some.injEq, Sum.inl.injEq, Sum.inr.injEq, not_true_eq_false, true_implies, false_implies, implies_true, rd_o, rd_o_s, hr, row_len, inA_one, inA_lik, inA_cpl, isOne_eq hO hr, isCouple_eq hO hr, isIn_eq, atOne_eq, atLike_eq, atCouple_eq, r_num, q_n0, q_n1, r_cp, r_dy, r_sl, r_who, q_kind, q_fig, q_dep, q_bnd, q_lik, q_man, q_wom, q_sta, q_dds, orNoneR_eq, Int.zero_add, gX12_eachOrder, e1, tw]
    exact ih (c + 1) _ (by omega) (by omega) (by omega) (by omega) hq
/-- one order more -/
def stA (n : Nat) (X : iVal) (e : Int) (cp : Nat) (A : iA) (g : Int) : iA :=
  (A.sO (if twF (oD n X (odOf cp g)) cp 0 0 < A.mo.bd then twF (oD n X (odOf cp g)) cp 0 0 else A.mo.bd) (if twF (oD n X (odOf cp g)) cp 0 0 < A.mo.bd then g else A.mo.bg)).mr (oD n X (odOf cp g)) e
theorem odLeaf {cp n : Nat} (hc : (cp : Int) = X.cp) (c1 : 1 ≤ cp) (c5 : cp < 5) (hO : OkV X) (hs : A.mo.s = rowOf X e) (hn : n = 60) (hl : LR A) (gd : gdO cp g = true) {k0 : Int} (ix : -1000000000 ≤ A.mo.bd ∧ A.mo.bd ≤ 1000000000) : Call sp sc (d + 6) mX12_eachOrder [.inr (.inr 140), .inl k0, .inl 0, .inl g] (hp A) Q = Q none (hp (stA n X e cp A g)) := Call_eq (by
  unfold gdO at gd
  rw [Bool.and_eq_true, Bool.and_eq_true, decide_eq_true_eq, decide_eq_true_eq] at gd
  have D := oD_ok hO hc hn gd.1.2
  have k0S := okS_yrP hO hc gd.1.2 z10_ok.1 z10_ok.2
  have hl2 := hl.elim id False.elim
  have ll := fun Q => @laySM_eq sp sc (d + 5) A Q X e hs hl2.1
  have lb : ∀ Q, Call sp sc (d + 5) mX12_begins [.inr (.inr 140)] (hp (A.sro .m (rowOf X e) A.ry)) Q = Q none (hp (A.sro .m (rowOf X e) (ryOf (yr0 [0, 1, 2, 3] z10) 0))) := fun Q => beginsR_eq (R := A.ry) hl2.2.1 hl2.2.2.1 hl2.2.2.2
  have rs : (hp (A.sro .m (rowOf X e) (ryOf (yr0 [0, 1, 2, 3] z10) 0))).1[139]? = some (.inr (.inl (0, rowOf X e))) := by
    have := @rd_o_s (A.sro .m (rowOf X e) (ryOf (yr0 [0, 1, 2, 3] z10) 0))
    rw [this]; exact congrArg (fun l => some (Sum.inr (Sum.inl (0, l)))) hs
  have c4 := hO.cp
  apply eX12_eachOrder 60
  simp (disch := first | assumption | rfl | exact inI_of (by omega) (by omega) | omega | decide | (simp only [sv_ext, sv_mc, Nat.le_refl]; done) | with_unfolding_all (refine @id _ ?_; first | exact Eq.refl _ | exact Nat.le_refl _ | assumption)) only [Nat.reduceAdd, Nat.reduceMul, Nat.reduceLeDiff, Nat.reduceLT, Int.reduceAdd, Int.reduceSub, Int.reduceMul, Int.reduceNeg, Int.reduceLE, Int.reduceLT, Int.reduceToNat, Int.reduceEq, reduceCtorEq, ld_z, ld_s, st1_0, st1_1, st1_s, st2_0, st2_1, st2_s, isJ_i, isJ_r, isJ_n, isJ_l, cs_nil, cs_i, cs_r, cs_l, kF, List.getElem?_cons_succ, List.getElem?_cons_zero, List.set_cons_zero, List.set_cons_succ, GC_s, GC_n, GK_nil, GK_no, GK_yes, not_false_eq_true, back_eq, inI_eq, inA_eq, true_and, and_true, and_self, if_true, if_false, bI_0, bI_1, bI_in, bI_T, bI_F, fitF, jmpF, nlF, pjA, iVal.eta, iYr.eta, List.getElem?_toArray, List.length_cons, List.length_nil, true_or, or_true, or_false, false_or, Classical.not_not, Bool.false_eq_true, hp_2, Nat.zero_le, Nat.le_refl, Option.some.injEq, Sum.inl.injEq, Sum.inr.injEq, not_true_eq_false, true_implies, false_implies, implies_true, iRy.pj, back_sro, back_sro1, rd_r, rd_o, rd_o_wt, rd_o_en, rd_o_od, sro_rr, sro_srr, sro_sro, sro_wt, sro_en, sro_od, sro_dn, sro_sm, sro_sf, sro_go, wro_wt, wro_en, wro_od, wro_r, wro_o, row_len, inA_one, inA_lik, inA_cpl, gX12_eachOrder, ll, lb, rs, r_cp]
  have ecp : X.cp - 1 = (cp : Int) - 1 := by omega
  rw [ecp]
  refine odR_loop (A := A) (X := X) hs cp g [0, 1, 2, 3] z10 none (by omega) rfl gd.1.1.1 gd.1.1.2 (fun r' => ?_)
  refine G_run (B := [32, 65, 92, 145]) 40 _ _ _ _ ?_
  simp (disch := first | assumption | rfl | exact inI_of (by omega) (by omega) | omega | decide | (simp only [sv_ext, sv_mc, Nat.le_refl]; done) | with_unfolding_all (refine @id _ ?_; first | exact Eq.refl _ | exact Nat.le_refl _ | assumption)) only [Nat.reduceAdd, Nat.reduceMul, Nat.reduceLeDiff, Nat.reduceLT, Int.reduceAdd, Int.reduceSub, Int.reduceMul, Int.reduceNeg, Int.reduceLE, Int.reduceLT, Int.reduceToNat, Int.reduceEq, reduceCtorEq, ld_z, ld_s, st1_0, st1_1, st1_s, st2_0, st2_1, st2_s, isJ_i, isJ_r, isJ_n, isJ_l, cs_nil, cs_i, cs_r, cs_l, kF, List.getElem?_cons_succ, List.getElem?_cons_zero, List.set_cons_zero, List.set_cons_succ, GC_s, GC_n, GK_nil, GK_no, GK_yes, not_false_eq_true, back_eq, inI_eq, inA_eq, true_and, and_true, and_self, if_true, if_false, bI_0, bI_1, bI_in, bI_T, bI_F, fitF, jmpF, nlF, pjA, iVal.eta, iYr.eta, List.getElem?_toArray, List.length_cons, List.length_nil, true_or, or_true, or_false, false_or, Classical.not_not, Bool.false_eq_true, hp_2, Nat.zero_le, Nat.le_refl, Option.some.injEq, Sum.inl.injEq, Sum.inr.injEq, not_true_eq_false, true_implies, false_implies, implies_true, iRy.pj, back_sro, back_sro1, rd_r, rd_o, rd_o_wt, rd_o_en, rd_o_od, sro_rr, sro_srr, sro_sro, sro_wt, sro_en, sro_od, sro_dn, sro_sm, sro_sf, sro_go, wro_wt, wro_en, wro_od, wro_r, wro_o, row_len, inA_one, inA_lik, inA_cpl, gX12_eachOrder]
  have en : ((n : Nat) : Int) = 60 := by omega
  refine odG_loop (A := A) (d := d) n 0 (X, yr0 (odOf cp g) z10) e 0 0 k0S (by omega) rfl (by omega) (by omega) (by omega) ?_
  refine G_run (B := [32, 65, 92, 145]) 40 _ _ _ _ ?_
  simp (disch := first | assumption | rfl | exact inI_of (by omega) (by omega) | omega | decide | (simp only [sv_ext, sv_mc, Nat.le_refl]; done) | with_unfolding_all (refine @id _ ?_; first | exact Eq.refl _ | exact Nat.le_refl _ | assumption)) only [Nat.reduceAdd, Nat.reduceMul, Nat.reduceLeDiff, Nat.reduceLT, Int.reduceAdd, Int.reduceSub, Int.reduceMul, Int.reduceNeg, Int.reduceLE, Int.reduceLT, Int.reduceToNat, Int.reduceEq, reduceCtorEq, ld_z, ld_s, st1_0, st1_1, st1_s, st2_0, st2_1, st2_s, isJ_i, isJ_r, isJ_n, isJ_l, cs_nil, cs_i, cs_r, cs_l, kF, List.getElem?_cons_succ, List.getElem?_cons_zero, List.set_cons_zero, List.set_cons_succ, GC_s, GC_n, GK_nil, GK_no, GK_yes, not_false_eq_true, back_eq, inI_eq, inA_eq, true_and, and_true, and_self, if_true, if_false, bI_0, bI_1, bI_in, bI_T, bI_F, fitF, jmpF, nlF, pjA, iVal.eta, iYr.eta, List.getElem?_toArray, List.length_cons, List.length_nil, true_or, or_true, or_false, false_or, Classical.not_not, Bool.false_eq_true, hp_2, Nat.zero_le, Nat.le_refl, Option.some.injEq, Sum.inl.injEq, Sum.inr.injEq, not_true_eq_false, true_implies, false_implies, implies_true, iRy.pj, back_sro, back_sro1, rd_r, rd_o, rd_o_wt, rd_o_en, rd_o_od, sro_rr, sro_srr, sro_sro, sro_wt, sro_en, sro_od, sro_dn, sro_sm, sro_sf, sro_go, wro_wt, wro_en, wro_od, wro_r, wro_o, row_len, inA_one, inA_lik, inA_cpl, gX12_eachOrder]
  have em : A.sro .m (rowOf (daysA n (X, yr0 (odOf cp g) z10)).1 (e + n)) (ryOf (daysA n (X, yr0 (odOf cp g) z10)).2 (0 + n)) = A.mr (oD n X (odOf cp g)) e := by
    have e1 : (e + n : Int) = e + (oD n X (odOf cp g)).2.ps := by rw [D.2.2.2.1]; omega
    have e2 : (0 + n : Int) = (oD n X (odOf cp g)).2.ps := by rw [D.2.2.2.1]; omega
    rw [e1, e2]; rfl
  have em2 : A.sro .m (rowOf (daysA n (X, yr0 (odOf cp g) z10)).1 (e + n)) (ryOf (daysA n (X, yr0 (odOf cp g) z10)).2 n) = A.mr (oD n X (odOf cp g)) e := by
    rw [← em, Int.zero_add]
  first | rw [em] | rw [em2]
  refine odW_loop (A := A) (d := d + 4) hO hs D.1 (by omega) D.2.1 D.2.2.2.2.2 cp 0 0 (by omega) (by omega) (by omega) (by omega) ?_
  have vb := twF_b D.2.2.2.2.1 cp 0 0 (by omega) (by omega)
  have hr : (A.mr (oD n X (odOf cp g)) e).mo.s = rowOf X e := hs
  unfold stA
  generalize twF (oD n X (odOf cp g)) cp 0 0 = v at *
  refine G_run (B := [32, 65, 92, 145]) 40 _ _ _ _ ?_
  by_cases z : v < A.mo.bd
  · rw [if_pos z, if_pos z]
    simp (disch := first | assumption | rfl | exact inI_of (by omega) (by omega) | omega | decide | (simp only [sv_ext, sv_mc, Nat.le_refl]; done) | with_unfolding_all (refine @id _ ?_; first | exact Eq.refl _ | exact Nat.le_refl _ | assumption)) only [Nat.reduceAdd, Nat.reduceMul, Nat.reduceLeDiff, Nat.reduceLT, Int.reduceAdd, Int.reduceSub, Int.reduceMul, Int.reduceNeg, Int.reduceLE, Int.reduceLT, Int.reduceToNat, Int.reduceEq, reduceCtorEq, ld_z, ld_s, st1_0, st1_1, st1_s, st2_0, st2_1, st2_s, isJ_i, isJ_r, isJ_n, isJ_l, cs_nil, cs_i, cs_r, cs_l, kF, List.getElem?_cons_succ, List.getElem?_cons_zero, List.set_cons_zero, List.set_cons_succ, GC_s, GC_n, GK_nil, GK_no, GK_yes, not_false_eq_true, back_eq, back_hp, inI_eq, inA_eq, true_and, and_true, and_self, if_true, if_false, bI_0, bI_1, bI_in, bI_T, bI_F, fitF, jmpF, nlF, pjA, iVal.eta, iYr.eta, List.getElem?_toArray, List.length_cons, List.length_nil, true_or, or_true, or_false, false_or, Classical.not_not, Bool.false_eq_true, hp_2, Nat.zero_le, Nat.le_refl, Option.some.injEq, Sum.inl.injEq, Sum.inr.injEq, not_true_eq_false, true_implies, false_implies, implies_true, rd_o, rd_o_s, hr, row_len, inA_one, inA_lik, inA_cpl, isOne_eq hO hr, isCouple_eq hO hr, isIn_eq, atOne_eq, atLike_eq, atCouple_eq, r_num, q_n0, q_n1, r_cp, r_dy, r_sl, r_who, q_kind, q_fig, q_dep, q_bnd, q_lik, q_man, q_wom, q_sta, q_dds, orNoneR_eq, Int.zero_add, gX12_eachOrder, mr_bd, sO_bd, z, wr_bO, mr_sO, mr_bg, sO_bg, sO_sO]
  · rw [if_neg z, if_neg z]
    simp (disch := first | assumption | rfl | exact inI_of (by omega) (by omega) | omega | decide | (simp only [sv_ext, sv_mc, Nat.le_refl]; done) | with_unfolding_all (refine @id _ ?_; first | exact Eq.refl _ | exact Nat.le_refl _ | assumption)) only [Nat.reduceAdd, Nat.reduceMul, Nat.reduceLeDiff, Nat.reduceLT, Int.reduceAdd, Int.reduceSub, Int.reduceMul, Int.reduceNeg, Int.reduceLE, Int.reduceLT, Int.reduceToNat, Int.reduceEq, reduceCtorEq, ld_z, ld_s, st1_0, st1_1, st1_s, st2_0, st2_1, st2_s, isJ_i, isJ_r, isJ_n, isJ_l, cs_nil, cs_i, cs_r, cs_l, kF, List.getElem?_cons_succ, List.getElem?_cons_zero, List.set_cons_zero, List.set_cons_succ, GC_s, GC_n, GK_nil, GK_no, GK_yes, not_false_eq_true, back_eq, back_hp, inI_eq, inA_eq, true_and, and_true, and_self, if_true, if_false, bI_0, bI_1, bI_in, bI_T, bI_F, fitF, jmpF, nlF, pjA, iVal.eta, iYr.eta, List.getElem?_toArray, List.length_cons, List.length_nil, true_or, or_true, or_false, false_or, Classical.not_not, Bool.false_eq_true, hp_2, Nat.zero_le, Nat.le_refl, Option.some.injEq, Sum.inl.injEq, Sum.inr.injEq, not_true_eq_false, true_implies, false_implies, implies_true, rd_o, rd_o_s, hr, row_len, inA_one, inA_lik, inA_cpl, isOne_eq hO hr, isCouple_eq hO hr, isIn_eq, atOne_eq, atLike_eq, atCouple_eq, r_num, q_n0, q_n1, r_cp, r_dy, r_sl, r_who, q_kind, q_fig, q_dep, q_bnd, q_lik, q_man, q_wom, q_sta, q_dds, orNoneR_eq, Int.zero_add, gX12_eachOrder, mr_bd, z]
    rfl)
end OPS
