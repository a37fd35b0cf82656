set_option maxRecDepth 16384
/-! ===== the reference in mind ===== -/
theorem okS_yr0 {X : iVal} (hO : OkV X) {bz : List Int} (lb : bz.length = 10) (hb : ∀ i, 0 ≤ i → i < 10 → gt0 bz i = 0 ∨ gt0 bz i = 1) : OkS (X, yr0 [0, 1, 2, 3] bz) 0 := by
  have hcp := hO.cp
  have c4 : ∀ i : Int, 0 ≤ i → i < 4 → i = 0 ∨ i = 1 ∨ i = 2 ∨ i = 3 := fun i a b => by omega
  have ho : ∀ i, 0 ≤ i → i < 4 → iYr.ord (yr0 [0, 1, 2, 3] bz) i = i := fun i a b => by
    rcases c4 i a b with rfl | rfl | rfl | rfl <;> rfl
  have hz : ∀ c : Int, 0 ≤ c → c < 4 → z4.getD c.toNat 0 = 0 := fun i a b => by
    rcases c4 i a b with rfl | rfl | rfl | rfl <;> rfl
  refine ⟨hO, OkY.mk rfl lb rfl rfl (fun i a b => ?_) (fun i j a b c e z => ?_) hb (fun c a b => ?_) (fun c a b => ?_) ⟨Int.le_refl _, Int.le_refl _⟩ ⟨Int.le_refl _, Int.le_refl _⟩ ⟨Int.le_refl _, Int.le_refl _⟩ ⟨Int.le_refl _, Int.le_refl _⟩⟩
  · have b : i < X.cp := b
    rw [ho i a (by omega)]; exact ⟨a, b⟩
  · have b : i < X.cp := b
    have e : j < X.cp := e
    rw [ho i a (by omega), ho j c (by omega)] at z; exact z
  · show 0 ≤ z4.getD c.toNat 0 ∧ z4.getD c.toNat 0 ≤ 0
    rw [hz c a b]; exact ⟨Int.le_refl _, Int.le_refl _⟩
  · show 0 ≤ z4.getD c.toNat 0 ∧ z4.getD c.toNat 0 ≤ 0
    rw [hz c a b]; exact ⟨Int.le_refl _, Int.le_refl _⟩
section GO
variable {sp : Nat → List iV → iH → Option (Option iV × iH)} {sc : List Int} {d : Nat} {A : iA} {R : iRy} {h : iH} {Q : Option iV → iH → Prop} {X : iVal} {e g B : Int} {S : iXY}
theorem mind_loop {n : Int} (hn : n ≤ 1000) : ∀ (m : Nat) (k : Int) (S : iXY) (e g B : Int), OkS S B → B + 5 * m ≤ 90000 → S.2.ps = g → 0 ≤ g → 0 ≤ k → k + m = n → Q none (hp (A.sro .m (rowOf (daysA m S).1 (e + m)) (ryOf (daysA m S).2 (g + m)))) → Run sp sc (d + 6) mX12_inMind 17 [some (.inr (.inr 140)), some (.inl n), some (.inl k)] [] (hp (A.sro .m (rowOf S.1 e) (ryOf S.2 g))) Q := by
  intro m
  induction m with
  | zero =>
    intro k S e g B hS hB hg hg0 h0 h1 hq
    refine G_run (B := [17]) 40 _ _ _ _ ?_
    have e1 : n ≤ k := by omega
    simp (disch := first | assumption | rfl | exact inI_of (by omega) (by omega) | omega | decide | (simp only [sv_ext, sv_mc, Nat.le_refl]; done) | with_unfolding_all (refine @id _ ?_; first | exact Eq.refl _ | exact Nat.le_refl _ | assumption)) only [Nat.reduceAdd, Nat.reduceMul, Nat.reduceLeDiff, Nat.reduceLT, Int.reduceAdd, Int.reduceSub, Int.reduceMul, Int.reduceNeg, Int.reduceLE, Int.reduceLT, Int.reduceToNat, Int.reduceEq, reduceCtorEq, ld_z, ld_s, st1_0, st1_1, st1_s, st2_0, st2_1, st2_s, isJ_i, isJ_r, isJ_n, isJ_l, cs_nil, cs_i, cs_r, cs_l, kF, List.getElem?_cons_succ, List.getElem?_cons_zero, List.set_cons_zero, List.set_cons_succ, GC_s, GC_n, GK_nil, GK_no, GK_yes, not_false_eq_true, back_eq, inI_eq, inA_eq, true_and, and_true, and_self, if_true, if_false, bI_0, bI_1, bI_in, bI_T, bI_F, fitF, jmpF, nlF, pjA, iVal.eta, iYr.eta, List.getElem?_toArray, List.length_cons, List.length_nil, true_or, or_true, or_false, false_or, Classical.not_not, Bool.false_eq_true, hp_2, Nat.zero_le, Nat.le_refl, Option.some.injEq, Sum.inl.injEq, Sum.inr.injEq, not_true_eq_false, true_implies, false_implies, implies_true, iRy.pj, back_sro, back_sro1, rd_r, rd_o, rd_o_wt, rd_o_en, rd_o_od, sro_rr, sro_srr, sro_sro, sro_wt, sro_en, sro_od, sro_dn, sro_sm, sro_sf, sro_go, wro_wt, wro_en, wro_od, wro_r, wro_o, row_len, inA_one, inA_lik, inA_cpl, gX12_inMind, e1]
    have e2 : e + ((0 : Nat) : Int) = e := by omega
    have e3 : g + ((0 : Nat) : Int) = g := by omega
    rw [e2, e3] at hq
    exact hq
  | succ m ih =>
    intro k S e g B hS hB hg hg0 h0 h1 hq
    refine G_run (B := [17]) 40 _ _ _ _ ?_
    have e1 : ¬ n ≤ k := by omega
    have go : ∀ Q, Call sp sc (d + 5) mX12_goes [.inr (.inr 140), .inr (.inr 142)] (hp (A.sro .m (rowOf S.1 e) (ryOf S.2 g))) Q = Q none (hp (A.sro .m (rowOf (dayA S).1 (e + 1)) (ryOf (dayA S).2 (g + 1)))) := fun Q => goes_eq (r := iR.m) hS (by omega) hg hg0
    simp (disch := first | assumption | rfl | exact inI_of (by omega) (by omega) | omega | decide | (simp only [sv_ext, sv_mc, Nat.le_refl]; done) | with_unfolding_all (refine @id _ ?_; first | exact Eq.refl _ | exact Nat.le_refl _ | assumption)) only [Nat.reduceAdd, Nat.reduceMul, Nat.reduceLeDiff, Nat.reduceLT, Int.reduceAdd, Int.reduceSub, Int.reduceMul, Int.reduceNeg, Int.reduceLE, Int.reduceLT, Int.reduceToNat, Int.reduceEq, reduceCtorEq, ld_z, ld_s, st1_0, st1_1, st1_s, st2_0, st2_1, st2_s, isJ_i, isJ_r, isJ_n, isJ_l, cs_nil, cs_i, cs_r, cs_l, kF, List.getElem?_cons_succ, List.getElem?_cons_zero, List.set_cons_zero, List.set_cons_succ, GC_s, GC_n, GK_nil, GK_no, GK_yes, not_false_eq_true, back_eq, inI_eq, inA_eq, true_and, and_true, and_self, if_true, if_false, bI_0, bI_1, bI_in, bI_T, bI_F, fitF, jmpF, nlF, pjA, iVal.eta, iYr.eta, List.getElem?_toArray, List.length_cons, List.length_nil, true_or, or_true, or_false, false_or, Classical.not_not, Bool.false_eq_true, hp_2, Nat.zero_le, Nat.le_refl, Option.some.injEq, Sum.inl.injEq, Sum.inr.injEq, not_true_eq_false, true_implies, false_implies, implies_true, iRy.pj, back_sro, back_sro1, rd_r, rd_o, rd_o_wt, rd_o_en, rd_o_od, sro_rr, sro_srr, sro_sro, sro_wt, sro_en, sro_od, sro_dn, sro_sm, sro_sf, sro_go, wro_wt, wro_en, wro_od, wro_r, wro_o, row_len, inA_one, inA_lik, inA_cpl, gX12_inMind, e1, go]
    have e2 : e + ((m + 1 : Nat) : Int) = e + 1 + (m : Int) := by omega
    have e3 : g + ((m + 1 : Nat) : Int) = g + 1 + (m : Int) := by omega
    rw [e2, e3] at hq
    exact ih (k + 1) (dayA S) (e + 1) (g + 1) (B + 5) (okS_day hS).1 (by omega) (by rw [dayA_ps hS, hg]) (by omega) (by omega) (by omega) hq
theorem laySM_eq (hs : A.mo.s = rowOf X e) (lm : A.mo.m.length = 117) : Call sp sc d mX12_lays [.inr (.inr 141), .inr (.inr 142)] (hp A) Q = Q none (hp (A.sro .m (rowOf X e) A.ry)) := by
  have k := lays_eq (sp := sp) (sc := sc) (d := d) (Q := Q) (h := hp A) (a := 139) (b := 140) (xs := rowOf X e) (by decide) (by rw [rd_o_s, hs]) rd_o_m row_len lm
  refine Eq.trans k ?_
  exact congrArg (Q none) (wr_o_m (A := A) (l := rowOf X e))
theorem inMind_eq (hO : OkV X) (hs : A.mo.s = rowOf X e) (lm : A.mo.m.length = 117) (l1 : A.mo.wt.length = 4) (l2 : A.mo.en.length = 4) (l3 : A.mo.od.length = 4) {bz : List Int} (lb : bz.length = 10) (hb : ∀ i, 0 ≤ i → i < 10 → gt0 bz i = 0 ∨ gt0 bz i = 1) {n : Nat} (hn : n ≤ 60) : Call sp sc (d + 6) mX12_inMind [.inr (.inr 140), .inl (n : Int)] (hp A) Q = Q none (hp (A.sro .m (rowOf (daysA n (X, yr0 [0, 1, 2, 3] bz)).1 (e + n)) (ryOf (daysA n (X, yr0 [0, 1, 2, 3] bz)).2 n))) := Call_eq (by
  have hl := fun Q => @laySM_eq sp sc (d + 5) A Q X e hs lm
  have hbg : ∀ Q, Call sp sc (d + 5) mX12_begins [.inr (.inr 140)] (hp (A.sro .m (rowOf X e) A.ry)) Q = Q none (hp (A.sro .m (rowOf X e) rz)) := fun Q => beginsR_eq (R := A.ry) l1 l2 l3
  apply eX12_inMind 40; simp (disch := first | assumption | rfl | exact inI_of (by omega) (by omega) | omega | decide | (simp only [sv_ext, sv_mc, Nat.le_refl]; done) | with_unfolding_all (refine @id _ ?_; first | exact Eq.refl _ | exact Nat.le_refl _ | assumption)) only [Nat.reduceAdd, Nat.reduceMul, Nat.reduceLeDiff, Nat.reduceLT, Int.reduceAdd, Int.reduceSub, Int.reduceMul, Int.reduceNeg, Int.reduceLE, Int.reduceLT, Int.reduceToNat, Int.reduceEq, reduceCtorEq, ld_z, ld_s, st1_0, st1_1, st1_s, st2_0, st2_1, st2_s, isJ_i, isJ_r, isJ_n, isJ_l, cs_nil, cs_i, cs_r, cs_l, kF, List.getElem?_cons_succ, List.getElem?_cons_zero, List.set_cons_zero, List.set_cons_succ, GC_s, GC_n, GK_nil, GK_no, GK_yes, not_false_eq_true, back_eq, inI_eq, inA_eq, true_and, and_true, and_self, if_true, if_false, bI_0, bI_1, bI_in, bI_T, bI_F, fitF, jmpF, nlF, pjA, iVal.eta, iYr.eta, List.getElem?_toArray, List.length_cons, List.length_nil, true_or, or_true, or_false, false_or, Classical.not_not, Bool.false_eq_true, hp_2, Nat.zero_le, Nat.le_refl, Option.some.injEq, Sum.inl.injEq, Sum.inr.injEq, not_true_eq_false, true_implies, false_implies, implies_true, iRy.pj, back_sro, back_sro1, rd_r, rd_o, rd_o_wt, rd_o_en, rd_o_od, sro_rr, sro_srr, sro_sro, sro_wt, sro_en, sro_od, sro_dn, sro_sm, sro_sf, sro_go, wro_wt, wro_en, wro_od, wro_r, wro_o, row_len, inA_one, inA_lik, inA_cpl, gX12_inMind, hl, hbg]
  have k := mind_loop (sp := sp) (sc := sc) (d := d) (A := A) (Q := fun x y => x = none ∧ y = hp (A.sro .m (rowOf (daysA n (X, yr0 [0, 1, 2, 3] bz)).1 (e + n)) (ryOf (daysA n (X, yr0 [0, 1, 2, 3] bz)).2 n))) (n := n) (by omega) n 0 (X, yr0 [0, 1, 2, 3] bz) e 0 0 (okS_yr0 hO lb hb) (by omega) rfl (by omega) (by omega) (by omega)
  have e3 : (0 : Int) + (n : Int) = n := by omega
  rw [e3] at k
  exact k ⟨rfl, rfl⟩)
end GO
