set_option maxRecDepth 16384
/-! ===== the reference: rows laid, a year begins, days ===== -/
theorem gss {l : List iO} {a b : Nat} {x : iO} (h : ¬ b = a) : (l.set b x)[a]? = l[a]? := List.getElem?_set_ne h
theorem gsx {l : List iO} {b : Nat} {x : iO} (h : b < l.length) : (l.set b x)[b]? = some x := List.getElem?_set_self h
theorem tds {xs ys : List Int} {k : Nat} (h1 : k < xs.length) (h2 : k < ys.length) : (xs.take k ++ ys.drop k).set k (xs.getD k 0) = xs.take (k + 1) ++ ys.drop (k + 1) := by
  have e : (xs.take k).length = k := by rw [List.length_take]; omega
  have e1 : ys.drop k = ys[k] :: ys.drop (k + 1) := List.drop_eq_getElem_cons h2
  have e2 : xs.take (k + 1) = xs.take k ++ [xs[k]] := List.take_succ_eq_append_getElem h1
  rw [List.set_append_right _ _ (by omega), e, Nat.sub_self, e1, e2, List.set_cons_zero, List.append_assoc, List.getD_eq_getElem?_getD, List.getElem?_eq_getElem h1]
  rfl
section LY
variable {sp : Nat → List iV → iH → Option (Option iV × iH)} {sc : List Int} {d : Nat} {h : iH} {Q : Option iV → iH → Prop}
theorem lays_loop {a b : Nat} {xs ys : List Int} (hne : ¬ b = a) (ha : h.1[a]? = some (.inr (.inl (0, xs)))) (hb : b < h.1.length) (lx : xs.length = 117) (ly : ys.length = 117) : ∀ (m k : Nat), k + m = 117 → Q none (h.1.set b (.inr (.inl (0, xs))), h.2) → Run sp sc d mX12_lays 2 [some (.inr (.inr (a + 2))), some (.inr (.inr (b + 2))), some (.inl (k : Int))] [] (h.1.set b (.inr (.inl (0, xs.take k ++ ys.drop k))), h.2) Q := by
  intro m
  induction m with
  | zero =>
    intro k h0 hq
    have : k = 117 := by omega
    subst this
    have e1 : xs.take 117 = xs := List.take_of_length_le (by omega)
    have e2 : ys.drop 117 = [] := List.drop_of_length_le (by omega)
    refine G_run (B := [2]) 40 _ _ _ _ ?_
    have e3 : ((117 : Nat) : Int) = 117 := rfl
    simp (disch := first | assumption | rfl | exact inI_of (by omega) (by omega) | omega | decide | (simp only [sv_ext, sv_mc, Nat.le_refl]; done) | with_unfolding_all (refine @id _ ?_; first | exact Eq.refl _ | exact Nat.le_refl _ | assumption)) only [Nat.reduceAdd, Nat.reduceMul, Nat.reduceLeDiff, Nat.reduceLT, Int.reduceAdd, Int.reduceSub, Int.reduceMul, Int.reduceNeg, Int.reduceLE, Int.reduceLT, Int.reduceToNat, Int.reduceEq, reduceCtorEq, ld_z, ld_s, st1_0, st1_1, st1_s, st2_0, st2_1, st2_s, isJ_i, isJ_r, isJ_n, isJ_l, cs_nil, cs_i, cs_r, cs_l, kF, List.getElem?_cons_succ, List.getElem?_cons_zero, List.set_cons_zero, List.set_cons_succ, GC_s, GC_n, GK_nil, GK_no, GK_yes, not_false_eq_true, back_eq, back_hp, inI_eq, inA_eq, true_and, and_true, and_self, if_true, if_false, bI_0, bI_1, bI_in, bI_T, bI_F, fitF, jmpF, nlF, pjA, iVal.eta, iYr.eta, List.getElem?_toArray, List.length_cons, List.length_nil, true_or, or_true, or_false, false_or, Classical.not_not, Bool.false_eq_true, hp_2, Nat.zero_le, Nat.le_refl, Option.some.injEq, Sum.inl.injEq, Sum.inr.injEq, not_true_eq_false, true_implies, false_implies, implies_true, gX12_lays, e1, e2, e3, List.append_nil]
    exact hq
  | succ m ih =>
    intro k h0 hq
    refine G_run (B := [2]) 40 _ _ _ _ ?_
    have e1 : ¬ (117 : Int) ≤ (k : Int) := by omega
    have e2 : (xs.take k ++ ys.drop k).length = 117 := by rw [List.length_append, List.length_take, List.length_drop]; omega
    have e3 : ((k + 1 : Nat) : Int) = (k : Int) + 1 := rfl
    have ih := ih (k + 1) (by omega) hq
    rw [e3] at ih
    simp (disch := first | assumption | rfl | exact inI_of (by omega) (by omega) | omega | decide | (simp only [sv_ext, sv_mc, Nat.le_refl]; done) | with_unfolding_all (refine @id _ ?_; first | exact Eq.refl _ | exact Nat.le_refl _ | assumption)) only [Nat.reduceAdd, Nat.reduceMul, Nat.reduceLeDiff, Nat.reduceLT, Int.reduceAdd, Int.reduceSub, Int.reduceMul, Int.reduceNeg, Int.reduceLE, Int.reduceLT, Int.reduceToNat, Int.reduceEq, reduceCtorEq, ld_z, ld_s, st1_0, st1_1, st1_s, st2_0, st2_1, st2_s, isJ_i, isJ_r, isJ_n, isJ_l, cs_nil, cs_i, cs_r, cs_l, kF, List.getElem?_cons_succ, List.getElem?_cons_zero, List.set_cons_zero, List.set_cons_succ, GC_s, GC_n, GK_nil, GK_no, GK_yes, not_false_eq_true, back_eq, back_hp, inI_eq, inA_eq, true_and, and_true, and_self, if_true, if_false, bI_0, bI_1, bI_in, bI_T, bI_F, fitF, jmpF, nlF, pjA, iVal.eta, iYr.eta, List.getElem?_toArray, List.length_cons, List.length_nil, true_or, or_true, or_false, false_or, Classical.not_not, Bool.false_eq_true, hp_2, Nat.zero_le, Nat.le_refl, Option.some.injEq, Sum.inl.injEq, Sum.inr.injEq, not_true_eq_false, true_implies, false_implies, implies_true, gX12_lays, e1, gss hne, gsx hb, ha, lx, e2, Int.toNat_natCast, List.set_set, tds (xs := xs) (ys := ys) (k := k) (by omega) (by omega)]
    exact ih
theorem lays_eq {a b : Nat} {xs ys : List Int} (hne : ¬ b = a) (ha : h.1[a]? = some (.inr (.inl (0, xs)))) (hb : h.1[b]? = some (.inr (.inl (0, ys)))) (lx : xs.length = 117) (ly : ys.length = 117) : Call sp sc d mX12_lays [.inr (.inr (a + 2)), .inr (.inr (b + 2))] h Q = Q none (h.1.set b (.inr (.inl (0, xs))), h.2) := Call_eq (by
  apply eX12_lays 30; simp (disch := first | assumption | rfl | exact inI_of (by omega) (by omega) | omega | decide | (simp only [sv_ext, sv_mc, Nat.le_refl]; done) | with_unfolding_all (refine @id _ ?_; first | exact Eq.refl _ | exact Nat.le_refl _ | assumption)) only [Nat.reduceAdd, Nat.reduceMul, Nat.reduceLeDiff, Nat.reduceLT, Int.reduceAdd, Int.reduceSub, Int.reduceMul, Int.reduceNeg, Int.reduceLE, Int.reduceLT, Int.reduceToNat, Int.reduceEq, reduceCtorEq, ld_z, ld_s, st1_0, st1_1, st1_s, st2_0, st2_1, st2_s, isJ_i, isJ_r, isJ_n, isJ_l, cs_nil, cs_i, cs_r, cs_l, kF, List.getElem?_cons_succ, List.getElem?_cons_zero, List.set_cons_zero, List.set_cons_succ, GC_s, GC_n, GK_nil, GK_no, GK_yes, not_false_eq_true, back_eq, back_hp, inI_eq, inA_eq, true_and, and_true, and_self, if_true, if_false, bI_0, bI_1, bI_in, bI_T, bI_F, fitF, jmpF, nlF, pjA, iVal.eta, iYr.eta, List.getElem?_toArray, List.length_cons, List.length_nil, true_or, or_true, or_false, false_or, Classical.not_not, Bool.false_eq_true, hp_2, Nat.zero_le, Nat.le_refl, Option.some.injEq, Sum.inl.injEq, Sum.inr.injEq, not_true_eq_false, true_implies, false_implies, implies_true, gX12_lays]
  have hl : b < h.1.length := (List.getElem?_eq_some_iff.mp hb).1
  have e : h.1.set b (.inr (.inl (0, ys))) = h.1 := by
    apply List.ext_getElem?
    intro i
    by_cases c : b = i
    · subst c; rw [List.getElem?_set_self hl, hb]
    · rw [List.getElem?_set_ne c]
  have k := lays_loop (sp := sp) (sc := sc) (d := d) (Q := fun x y => x = none ∧ y = (h.1.set b (.inr (.inl (0, xs))), h.2)) hne ha hl lx ly 117 0 rfl ⟨rfl, rfl⟩
  rw [List.take_zero, List.drop_zero, List.nil_append, e] at k
  exact k)
end LY
section GO
variable {sp : Nat → List iV → iH → Option (Option iV × iH)} {sc : List Int} {d : Nat} {A : iA} {r : iR} {R : iRy} {h : iH} {Q : Option iV → iH → Prop} {X : iVal} {e g B : Int} {S : iXY}
theorem goes_loop (hB : B ≤ 90000) (hg0 : 0 ≤ g) : ∀ (k : Nat) (i : Int) (S : iXY) (n : Nat) (B : Int), OkS S B → B + k ≤ 100000 → S.2.ps = g + 1 → n < 1024 → S.2.bz = bitsL n → 0 ≤ i → i + k = S.1.cp → Q none (hp (A.sro r (rowOf (dayF k i S).1 (e + 1)) (ryOf (dayF k i S).2 (g + 1)))) → Run sp sc (d + 5) mX12_goes 4 [some (.inr (.inr 140)), some (.inr (.inr (rb r + 2))), some (.inl (n : Int)), some (.inl i)] [] (hp (A.sro r (rowOf S.1 e) (ryOf S.2 g))) Q := by
  intro k
  induction k with
  | zero =>
    intro i S n B hS hB hg hn hb h0 h1 hq
    refine G_run (B := [4]) 60 _ _ _ _ ?_
    have ei : S.1.cp ≤ i := by omega
    have hcp := hS.1.cp
    simp (disch := first | assumption | rfl | exact inI_of (by omega) (by omega) | omega | decide | (simp only [sv_ext, sv_mc, Nat.le_refl]; done) | with_unfolding_all (refine @id _ ?_; first | exact Eq.refl _ | exact Nat.le_refl _ | assumption)) only [Nat.reduceAdd, Nat.reduceMul, Nat.reduceLeDiff, Nat.reduceLT, Int.reduceAdd, Int.reduceSub, Int.reduceMul, Int.reduceNeg, Int.reduceLE, Int.reduceLT, Int.reduceToNat, Int.reduceEq, reduceCtorEq, ld_z, ld_s, st1_0, st1_1, st1_s, st2_0, st2_1, st2_s, isJ_i, isJ_r, isJ_n, isJ_l, cs_nil, cs_i, cs_r, cs_l, kF, List.getElem?_cons_succ, List.getElem?_cons_zero, List.set_cons_zero, List.set_cons_succ, GC_s, GC_n, GK_nil, GK_no, GK_yes, not_false_eq_true, back_eq, inI_eq, inA_eq, true_and, and_true, and_self, if_true, if_false, bI_0, bI_1, bI_in, bI_T, bI_F, fitF, jmpF, nlF, pjA, iVal.eta, iYr.eta, List.getElem?_toArray, List.length_cons, List.length_nil, true_or, or_true, or_false, false_or, Classical.not_not, Bool.false_eq_true, hp_2, Nat.zero_le, Nat.le_refl, Option.some.injEq, Sum.inl.injEq, Sum.inr.injEq, not_true_eq_false, true_implies, false_implies, implies_true, iRy.pj, back_sro, back_sro1, rd_r, rd_o, rd_o_wt, rd_o_en, rd_o_od, sro_rr, sro_srr, sro_sro, sro_wt, sro_en, sro_od, sro_dn, sro_sm, sro_sf, sro_go, wro_wt, wro_en, wro_od, wro_r, wro_o, row_len, inA_one, inA_lik, inA_cpl, gX12_goes, r_cp, r_dy, ei, w_dy]
    exact hq
  | succ k ih =>
    intro i S n B hS hB hg hn hb h0 h1 hq
    have hO := hS.1
    have hcp := hO.cp
    have lo := hS.2.lod
    have eo := hS.2.ord i h0 (by omega)
    have lo2 : (ryOf S.2 g).od.length = 4 := lo
    have fo : (ryOf S.2 g).od.getD i.toNat 0 = S.2.ord i := rfl
    refine G_run (B := [4]) 60 _ _ _ _ ?_
    have ei : ¬ S.1.cp ≤ i := by omega
    unfold dayF at hq
    by_cases z : S.1.sta (S.2.ord i) = 0
    · rw [if_pos z] at hq
      obtain ⟨n', b1, b2, b3⟩ := busN_ok hS hn hb eo.1 eo.2
      have t := sameT_turn (S := S) (c := S.2.ord i)
      have ih := ih (i + 1) (turnA S (S.2.ord i)) n' (B + 1) (okS_turn hS eo.1 eo.2 z) (by omega) (by rw [t.2.2.2.2.2.2.2.2.2.2]; exact hg) b1 b3 (by omega) (by rw [t.1]; omega) hq
      simp (disch := first | assumption | rfl | exact inI_of (by omega) (by omega) | omega | decide | (simp only [sv_ext, sv_mc, Nat.le_refl]; done) | with_unfolding_all (refine @id _ ?_; first | exact Eq.refl _ | exact Nat.le_refl _ | assumption)) only [Nat.reduceAdd, Nat.reduceMul, Nat.reduceLeDiff, Nat.reduceLT, Int.reduceAdd, Int.reduceSub, Int.reduceMul, Int.reduceNeg, Int.reduceLE, Int.reduceLT, Int.reduceToNat, Int.reduceEq, reduceCtorEq, ld_z, ld_s, st1_0, st1_1, st1_s, st2_0, st2_1, st2_s, isJ_i, isJ_r, isJ_n, isJ_l, cs_nil, cs_i, cs_r, cs_l, kF, List.getElem?_cons_succ, List.getElem?_cons_zero, List.set_cons_zero, List.set_cons_succ, GC_s, GC_n, GK_nil, GK_no, GK_yes, not_false_eq_true, back_eq, inI_eq, inA_eq, true_and, and_true, and_self, if_true, if_false, bI_0, bI_1, bI_in, bI_T, bI_F, fitF, jmpF, nlF, pjA, iVal.eta, iYr.eta, List.getElem?_toArray, List.length_cons, List.length_nil, true_or, or_true, or_false, false_or, Classical.not_not, Bool.false_eq_true, hp_2, Nat.zero_le, Nat.le_refl, Option.some.injEq, Sum.inl.injEq, Sum.inr.injEq, not_true_eq_false, true_implies, false_implies, implies_true, iRy.pj, back_sro, back_sro1, rd_r, rd_o, rd_o_wt, rd_o_en, rd_o_od, sro_rr, sro_srr, sro_sro, sro_wt, sro_en, sro_od, sro_dn, sro_sm, sro_sf, sro_go, wro_wt, wro_en, wro_od, wro_r, wro_o, row_len, inA_one, inA_lik, inA_cpl, gX12_goes, r_cp, ei, lo2, fo, goesOnR_eq, z, turnR_eq hS (by omega) hg hg0 hn hb, b2]
      exact ih
    · rw [if_neg z] at hq
      simp (disch := first | assumption | rfl | exact inI_of (by omega) (by omega) | omega | decide | (simp only [sv_ext, sv_mc, Nat.le_refl]; done) | with_unfolding_all (refine @id _ ?_; first | exact Eq.refl _ | exact Nat.le_refl _ | assumption)) only [Nat.reduceAdd, Nat.reduceMul, Nat.reduceLeDiff, Nat.reduceLT, Int.reduceAdd, Int.reduceSub, Int.reduceMul, Int.reduceNeg, Int.reduceLE, Int.reduceLT, Int.reduceToNat, Int.reduceEq, reduceCtorEq, ld_z, ld_s, st1_0, st1_1, st1_s, st2_0, st2_1, st2_s, isJ_i, isJ_r, isJ_n, isJ_l, cs_nil, cs_i, cs_r, cs_l, kF, List.getElem?_cons_succ, List.getElem?_cons_zero, List.set_cons_zero, List.set_cons_succ, GC_s, GC_n, GK_nil, GK_no, GK_yes, not_false_eq_true, back_eq, inI_eq, inA_eq, true_and, and_true, and_self, if_true, if_false, bI_0, bI_1, bI_in, bI_T, bI_F, fitF, jmpF, nlF, pjA, iVal.eta, iYr.eta, List.getElem?_toArray, List.length_cons, List.length_nil, true_or, or_true, or_false, false_or, Classical.not_not, Bool.false_eq_true, hp_2, Nat.zero_le, Nat.le_refl, Option.some.injEq, Sum.inl.injEq, Sum.inr.injEq, not_true_eq_false, true_implies, false_implies, implies_true, iRy.pj, back_sro, back_sro1, rd_r, rd_o, rd_o_wt, rd_o_en, rd_o_od, sro_rr, sro_srr, sro_sro, sro_wt, sro_en, sro_od, sro_dn, sro_sm, sro_sf, sro_go, wro_wt, wro_en, wro_od, wro_r, wro_o, row_len, inA_one, inA_lik, inA_cpl, gX12_goes, r_cp, ei, lo2, fo, goesOnR_eq, z]
      exact ih (i + 1) S n B hS (by omega) hg hn hb (by omega) (by omega) hq
theorem goes_eq (hS : OkS S B) (hB : B ≤ 90000) (hg : S.2.ps = g) (hg0 : 0 ≤ g) : Call sp sc (d + 5) mX12_goes [.inr (.inr 140), .inr (.inr (rb r + 2))] (hp (A.sro r (rowOf S.1 e) (ryOf S.2 g))) Q = Q none (hp (A.sro r (rowOf (dayA S).1 (e + 1)) (ryOf (dayA S).2 (g + 1)))) := Call_eq (by
  have hcp := hS.1.cp
  apply eX12_goes 40; simp (disch := first | assumption | rfl | exact inI_of (by omega) (by omega) | omega | decide | (simp only [sv_ext, sv_mc, Nat.le_refl]; done) | with_unfolding_all (refine @id _ ?_; first | exact Eq.refl _ | exact Nat.le_refl _ | assumption)) only [Nat.reduceAdd, Nat.reduceMul, Nat.reduceLeDiff, Nat.reduceLT, Int.reduceAdd, Int.reduceSub, Int.reduceMul, Int.reduceNeg, Int.reduceLE, Int.reduceLT, Int.reduceToNat, Int.reduceEq, reduceCtorEq, ld_z, ld_s, st1_0, st1_1, st1_s, st2_0, st2_1, st2_s, isJ_i, isJ_r, isJ_n, isJ_l, cs_nil, cs_i, cs_r, cs_l, kF, List.getElem?_cons_succ, List.getElem?_cons_zero, List.set_cons_zero, List.set_cons_succ, GC_s, GC_n, GK_nil, GK_no, GK_yes, not_false_eq_true, back_eq, back_hp, inI_eq, inA_eq, true_and, and_true, and_self, if_true, if_false, bI_0, bI_1, bI_in, bI_T, bI_F, fitF, jmpF, nlF, pjA, iVal.eta, iYr.eta, List.getElem?_toArray, List.length_cons, List.length_nil, true_or, or_true, or_false, false_or, Classical.not_not, Bool.false_eq_true, hp_2, Nat.zero_le, Nat.le_refl, Option.some.injEq, Sum.inl.injEq, Sum.inr.injEq, not_true_eq_false, true_implies, false_implies, implies_true, gX12_goes]
  exact goes_loop hB hg0 S.1.cp.toNat 0 (dawn S) 0 (B + 1) (okS_dawn hS) (by omega) (by show S.2.ps + 1 = g + 1; omega) (by omega) bits_0.symm (by omega) (by show 0 + (S.1.cp.toNat : Int) = S.1.cp; omega) ⟨rfl, rfl⟩)
def rz : iRy := (iRy.mk (z4) ([-4, -4, -4, -4]) ([0, 1, 2, 3]) (0) (0) (-4) (0))
theorem ry_yr0 {bz : List Int} : ryOf (yr0 [0, 1, 2, 3] bz) 0 = rz := rfl
theorem beginsR_eq {l : List Int} (l1 : R.wt.length = 4) (l2 : R.en.length = 4) (l3 : R.od.length = 4) : Call sp sc d mX12_begins [.inr (.inr 140)] (hp (A.sro r l R)) Q = Q none (hp (A.sro r l rz)) := Call_eq (by
  obtain ⟨a, b, c, f, he⟩ := len4 l1
  obtain ⟨a', b', c', f', he'⟩ := len4 l2
  obtain ⟨a2, b2, c2, f2, he2⟩ := len4 l3
  apply eX12_begins 60; simp (disch := first | assumption | rfl | exact inI_of (by omega) (by omega) | omega | decide | (simp only [sv_ext, sv_mc, Nat.le_refl]; done) | with_unfolding_all (refine @id _ ?_; first | exact Eq.refl _ | exact Nat.le_refl _ | assumption)) only [Nat.reduceAdd, Nat.reduceMul, Nat.reduceLeDiff, Nat.reduceLT, Int.reduceAdd, Int.reduceSub, Int.reduceMul, Int.reduceNeg, Int.reduceLE, Int.reduceLT, Int.reduceToNat, Int.reduceEq, reduceCtorEq, ld_z, ld_s, st1_0, st1_1, st1_s, st2_0, st2_1, st2_s, isJ_i, isJ_r, isJ_n, isJ_l, cs_nil, cs_i, cs_r, cs_l, kF, List.getElem?_cons_succ, List.getElem?_cons_zero, List.set_cons_zero, List.set_cons_succ, GC_s, GC_n, GK_nil, GK_no, GK_yes, not_false_eq_true, back_eq, inI_eq, inA_eq, true_and, and_true, and_self, if_true, if_false, bI_0, bI_1, bI_in, bI_T, bI_F, fitF, jmpF, nlF, pjA, iVal.eta, iYr.eta, List.getElem?_toArray, List.length_cons, List.length_nil, true_or, or_true, or_false, false_or, Classical.not_not, Bool.false_eq_true, hp_2, Nat.zero_le, Nat.le_refl, Option.some.injEq, Sum.inl.injEq, Sum.inr.injEq, not_true_eq_false, true_implies, false_implies, implies_true, iRy.pj, back_sro, back_sro1, rd_r, rd_o, rd_o_wt, rd_o_en, rd_o_od, sro_rr, sro_srr, sro_sro, sro_wt, sro_en, sro_od, sro_dn, sro_sm, sro_sf, sro_go, wro_wt, wro_en, wro_od, wro_r, wro_o, row_len, inA_one, inA_lik, inA_cpl, gX12_begins]
  refine G_run (B := [2]) 60 _ _ _ _ ?_
  simp (disch := first | assumption | rfl | exact inI_of (by omega) (by omega) | omega | decide | (simp only [sv_ext, sv_mc, Nat.le_refl]; done) | with_unfolding_all (refine @id _ ?_; first | exact Eq.refl _ | exact Nat.le_refl _ | assumption)) only [Nat.reduceAdd, Nat.reduceMul, Nat.reduceLeDiff, Nat.reduceLT, Int.reduceAdd, Int.reduceSub, Int.reduceMul, Int.reduceNeg, Int.reduceLE, Int.reduceLT, Int.reduceToNat, Int.reduceEq, reduceCtorEq, ld_z, ld_s, st1_0, st1_1, st1_s, st2_0, st2_1, st2_s, isJ_i, isJ_r, isJ_n, isJ_l, cs_nil, cs_i, cs_r, cs_l, kF, List.getElem?_cons_succ, List.getElem?_cons_zero, List.set_cons_zero, List.set_cons_succ, GC_s, GC_n, GK_nil, GK_no, GK_yes, not_false_eq_true, back_eq, inI_eq, inA_eq, true_and, and_true, and_self, if_true, if_false, bI_0, bI_1, bI_in, bI_T, bI_F, fitF, jmpF, nlF, pjA, iVal.eta, iYr.eta, List.getElem?_toArray, List.length_cons, List.length_nil, true_or, or_true, or_false, false_or, Classical.not_not, Bool.false_eq_true, hp_2, Nat.zero_le, Nat.le_refl, Option.some.injEq, Sum.inl.injEq, Sum.inr.injEq, not_true_eq_false, true_implies, false_implies, implies_true, iRy.pj, back_sro, back_sro1, rd_r, rd_o, rd_o_wt, rd_o_en, rd_o_od, sro_rr, sro_srr, sro_sro, sro_wt, sro_en, sro_od, sro_dn, sro_sm, sro_sf, sro_go, wro_wt, wro_en, wro_od, wro_r, wro_o, row_len, inA_one, inA_lik, inA_cpl, gX12_begins, he, he', he2]
  refine G_run (B := [2]) 60 _ _ _ _ ?_
  simp (disch := first | assumption | rfl | exact inI_of (by omega) (by omega) | omega | decide | (simp only [sv_ext, sv_mc, Nat.le_refl]; done) | with_unfolding_all (refine @id _ ?_; first | exact Eq.refl _ | exact Nat.le_refl _ | assumption)) only [Nat.reduceAdd, Nat.reduceMul, Nat.reduceLeDiff, Nat.reduceLT, Int.reduceAdd, Int.reduceSub, Int.reduceMul, Int.reduceNeg, Int.reduceLE, Int.reduceLT, Int.reduceToNat, Int.reduceEq, reduceCtorEq, ld_z, ld_s, st1_0, st1_1, st1_s, st2_0, st2_1, st2_s, isJ_i, isJ_r, isJ_n, isJ_l, cs_nil, cs_i, cs_r, cs_l, kF, List.getElem?_cons_succ, List.getElem?_cons_zero, List.set_cons_zero, List.set_cons_succ, GC_s, GC_n, GK_nil, GK_no, GK_yes, not_false_eq_true, back_eq, inI_eq, inA_eq, true_and, and_true, and_self, if_true, if_false, bI_0, bI_1, bI_in, bI_T, bI_F, fitF, jmpF, nlF, pjA, iVal.eta, iYr.eta, List.getElem?_toArray, List.length_cons, List.length_nil, true_or, or_true, or_false, false_or, Classical.not_not, Bool.false_eq_true, hp_2, Nat.zero_le, Nat.le_refl, Option.some.injEq, Sum.inl.injEq, Sum.inr.injEq, not_true_eq_false, true_implies, false_implies, implies_true, iRy.pj, back_sro, back_sro1, rd_r, rd_o, rd_o_wt, rd_o_en, rd_o_od, sro_rr, sro_srr, sro_sro, sro_wt, sro_en, sro_od, sro_dn, sro_sm, sro_sf, sro_go, wro_wt, wro_en, wro_od, wro_r, wro_o, row_len, inA_one, inA_lik, inA_cpl, gX12_begins]
  refine G_run (B := [2]) 60 _ _ _ _ ?_
  simp (disch := first | assumption | rfl | exact inI_of (by omega) (by omega) | omega | decide | (simp only [sv_ext, sv_mc, Nat.le_refl]; done) | with_unfolding_all (refine @id _ ?_; first | exact Eq.refl _ | exact Nat.le_refl _ | assumption)) only [Nat.reduceAdd, Nat.reduceMul, Nat.reduceLeDiff, Nat.reduceLT, Int.reduceAdd, Int.reduceSub, Int.reduceMul, Int.reduceNeg, Int.reduceLE, Int.reduceLT, Int.reduceToNat, Int.reduceEq, reduceCtorEq, ld_z, ld_s, st1_0, st1_1, st1_s, st2_0, st2_1, st2_s, isJ_i, isJ_r, isJ_n, isJ_l, cs_nil, cs_i, cs_r, cs_l, kF, List.getElem?_cons_succ, List.getElem?_cons_zero, List.set_cons_zero, List.set_cons_succ, GC_s, GC_n, GK_nil, GK_no, GK_yes, not_false_eq_true, back_eq, inI_eq, inA_eq, true_and, and_true, and_self, if_true, if_false, bI_0, bI_1, bI_in, bI_T, bI_F, fitF, jmpF, nlF, pjA, iVal.eta, iYr.eta, List.getElem?_toArray, List.length_cons, List.length_nil, true_or, or_true, or_false, false_or, Classical.not_not, Bool.false_eq_true, hp_2, Nat.zero_le, Nat.le_refl, Option.some.injEq, Sum.inl.injEq, Sum.inr.injEq, not_true_eq_false, true_implies, false_implies, implies_true, iRy.pj, back_sro, back_sro1, rd_r, rd_o, rd_o_wt, rd_o_en, rd_o_od, sro_rr, sro_srr, sro_sro, sro_wt, sro_en, sro_od, sro_dn, sro_sm, sro_sf, sro_go, wro_wt, wro_en, wro_od, wro_r, wro_o, row_len, inA_one, inA_lik, inA_cpl, gX12_begins]
  refine G_run (B := [2]) 60 _ _ _ _ ?_
  simp (disch := first | assumption | rfl | exact inI_of (by omega) (by omega) | omega | decide | (simp only [sv_ext, sv_mc, Nat.le_refl]; done) | with_unfolding_all (refine @id _ ?_; first | exact Eq.refl _ | exact Nat.le_refl _ | assumption)) only [Nat.reduceAdd, Nat.reduceMul, Nat.reduceLeDiff, Nat.reduceLT, Int.reduceAdd, Int.reduceSub, Int.reduceMul, Int.reduceNeg, Int.reduceLE, Int.reduceLT, Int.reduceToNat, Int.reduceEq, reduceCtorEq, ld_z, ld_s, st1_0, st1_1, st1_s, st2_0, st2_1, st2_s, isJ_i, isJ_r, isJ_n, isJ_l, cs_nil, cs_i, cs_r, cs_l, kF, List.getElem?_cons_succ, List.getElem?_cons_zero, List.set_cons_zero, List.set_cons_succ, GC_s, GC_n, GK_nil, GK_no, GK_yes, not_false_eq_true, back_eq, inI_eq, inA_eq, true_and, and_true, and_self, if_true, if_false, bI_0, bI_1, bI_in, bI_T, bI_F, fitF, jmpF, nlF, pjA, iVal.eta, iYr.eta, List.getElem?_toArray, List.length_cons, List.length_nil, true_or, or_true, or_false, false_or, Classical.not_not, Bool.false_eq_true, hp_2, Nat.zero_le, Nat.le_refl, Option.some.injEq, Sum.inl.injEq, Sum.inr.injEq, not_true_eq_false, true_implies, false_implies, implies_true, iRy.pj, back_sro, back_sro1, rd_r, rd_o, rd_o_wt, rd_o_en, rd_o_od, sro_rr, sro_srr, sro_sro, sro_wt, sro_en, sro_od, sro_dn, sro_sm, sro_sf, sro_go, wro_wt, wro_en, wro_od, wro_r, wro_o, row_len, inA_one, inA_lik, inA_cpl, gX12_begins]
  refine G_run (B := [2]) 60 _ _ _ _ ?_
  simp (disch := first | assumption | rfl | exact inI_of (by omega) (by omega) | omega | decide | (simp only [sv_ext, sv_mc, Nat.le_refl]; done) | with_unfolding_all (refine @id _ ?_; first | exact Eq.refl _ | exact Nat.le_refl _ | assumption)) only [Nat.reduceAdd, Nat.reduceMul, Nat.reduceLeDiff, Nat.reduceLT, Int.reduceAdd, Int.reduceSub, Int.reduceMul, Int.reduceNeg, Int.reduceLE, Int.reduceLT, Int.reduceToNat, Int.reduceEq, reduceCtorEq, ld_z, ld_s, st1_0, st1_1, st1_s, st2_0, st2_1, st2_s, isJ_i, isJ_r, isJ_n, isJ_l, cs_nil, cs_i, cs_r, cs_l, kF, List.getElem?_cons_succ, List.getElem?_cons_zero, List.set_cons_zero, List.set_cons_succ, GC_s, GC_n, GK_nil, GK_no, GK_yes, not_false_eq_true, back_eq, inI_eq, inA_eq, true_and, and_true, and_self, if_true, if_false, bI_0, bI_1, bI_in, bI_T, bI_F, fitF, jmpF, nlF, pjA, iVal.eta, iYr.eta, List.getElem?_toArray, List.length_cons, List.length_nil, true_or, or_true, or_false, false_or, Classical.not_not, Bool.false_eq_true, hp_2, Nat.zero_le, Nat.le_refl, Option.some.injEq, Sum.inl.injEq, Sum.inr.injEq, not_true_eq_false, true_implies, false_implies, implies_true, iRy.pj, back_sro, back_sro1, rd_r, rd_o, rd_o_wt, rd_o_en, rd_o_od, sro_rr, sro_srr, sro_sro, sro_wt, sro_en, sro_od, sro_dn, sro_sm, sro_sf, sro_go, wro_wt, wro_en, wro_od, wro_r, wro_o, row_len, inA_one, inA_lik, inA_cpl, gX12_begins]
  rfl)
theorem okS_days : ∀ (n : Nat) (S : iXY) (B : Int), OkS S B → OkS (daysA n S) (B + 5 * n) ∧ (daysA n S).2.ps = S.2.ps + n ∧ (daysA n S).1.cp = S.1.cp := by
  intro n
  induction n with
  | zero => intro S B h; exact ⟨⟨h.1, h.2.mono (by omega)⟩, by show S.2.ps = S.2.ps + ((0 : Nat) : Int); omega, rfl⟩
  | succ n ih =>
    intro S B h
    have k := okS_day h
    have e := ih (dayA S) (B + 5) k.1
    have hcp := h.1.cp
    have t : sameT (dawn S) (dayA S) := (dayF_ok S.1.cp.toNat 0 (dawn S) (B + 1) (okS_dawn h) (by omega) (by show 0 + (S.1.cp.toNat : Int) = S.1.cp; omega)).2
    have p : (dayA S).2.ps = S.2.ps + 1 := t.2.2.2.2.2.2.2.2.2.2
    refine ⟨⟨e.1.1, e.1.2.mono (by omega)⟩, ?_, ?_⟩
    · show (daysA n (dayA S)).2.ps = _
      rw [e.2.1, p]; omega
    · show (daysA n (dayA S)).1.cp = _
      rw [e.2.2, k.2]
theorem dayA_ps (h : OkS S B) : (dayA S).2.ps = S.2.ps + 1 := by
  have := (okS_days 1 S B h).2.1
  exact this
end GO
