set_option maxRecDepth 16384
section OPS
variable {sp : Nat → List iV → iH → Option (Option iV × iH)} {sc : List Int} {d : Nat} {A A' : iA} {Q : Option iV → iH → Prop} {h : iH} {X : iVal} {e : Int} {D : Nat}
theorem wr_He {l : List Int} : ((hp A).1.set 147 (.inr (.inl (0, l))), A.mc) = hp (A.sH l) := wr_o_he
theorem sH_he {l : List Int} : (A.sH l).mo.he = l := rfl
theorem sH_sH {l m : List Int} : (A.sH l).sH m = A.sH m := rfl
theorem sH_mc {l : List Int} : (A.sH l).mc = A.mc := rfl
theorem back_sH {l : List Int} {L : List (Option iV)} {rest : List iV} : back (hp A) (hp (A.sH l)) L rest = True := back_hp rfl (Nat.le_refl _)
theorem back_sH2 {l m : List Int} {L : List (Option iV)} {rest : List iV} : back (hp (A.sH m)) (hp (A.sH l)) L rest = True := back_hp rfl (Nat.le_refl _)
theorem lvR_loop (hO : OkV X) (hr : A.mo.s = rowOf X e) {cl : List Int} {z : Int} (hz : A.mo.sz.getD D 0 = X.num 0) (hd : D < 8) (l1 : A.mo.sz.length = 8) (l2 : A.mo.el.length = 800) (hel : ∀ i : Int, 0 ≤ i → i < X.num 0 → A.mo.el.getD (100 * (D : Int) + i).toNat 0 = cl.getD i.toNat 0) (her : ∀ i : Int, 0 ≤ i → i < X.num 0 → inI (cl.getD i.toNat 0) = true) {z2 : Int} : ∀ (k : Nat) (i : Int) (wv hb he : List Int) (n : Nat) (o5 : Option iV), OkM X wv hb → seenOK hb n → he.length = 5 → (∀ j, i ≤ j → j < 5 → gt0 wv j = -1) → (∀ j, 0 ≤ j → j < i → (gt0 wv j = -1 ∧ gt0 he j = -4) ∨ (0 ≤ gt0 wv j ∧ gt0 he j = gt0 wv j)) → 0 ≤ i → i + k = X.num 0 → Q (some (.inl (if (lvR X cl k i wv hb he).1 = 1 then -13 else X.fl (lvR X cl k i wv hb he).2.1 (lvR X cl k i wv hb he).2.2.1))) (hp (A.sH (lvR X cl k i wv hb he).2.2.2)) → Run sp sc (d + 4) mX12_leave 36 [some (.inr (.inr 140)), some (.inl (D : Int)), some (.inl z2), some (.inl (n : Int)), some (.inl i), o5] [] (hp (A.sH he)) Q := by
  have n0 := hO.n0
  have n1 := hO.n1
  have eD : ((D : Int)).toNat = D := by omega
  intro k
  induction k with
  | zero =>
    intro i wv hb he n o5 hM hn lh hw hH h0 h1 hq
    refine G_run (B := [36]) 60 _ _ _ _ ?_
    have e1 : X.num 0 ≤ i := by omega
    have sm : sameH X wv (A.sH he).mo.he := ⟨lh, fun m a b => by
      rcases hH m a (by omega) with y | y
      · left; exact ⟨y.1, by show gt0 he m < 0; omega, by show -4 ≤ gt0 he m; omega⟩
      · right; exact y⟩
    have fl := fun Q => @leaving_eq sp sc d (A.sH he) Q X e wv hb hO hr hM sm
    have hz2 : (A.sH he).mo.sz.getD D 0 = X.num 0 := hz
    have l1 : (A.sH he).mo.sz.length = 8 := l1
    simp (disch := first | assumption | rfl | exact inI_of (by omega) (by omega) | omega | decide | (simp only [sv_ext, sv_mc, Nat.le_refl]; done) | with_unfolding_all (refine @id _ ?_; first | exact Eq.refl _ | exact Nat.le_refl _ | assumption)) only [Nat.reduceAdd, Nat.reduceMul, Nat.reduceLeDiff, Nat.reduceLT, Int.reduceAdd, Int.reduceSub, Int.reduceMul, Int.reduceNeg, Int.reduceLE, Int.reduceLT, Int.reduceToNat, Int.reduceEq, reduceCtorEq, ld_z, ld_s, st1_0, st1_1, st1_s, st2_0, st2_1, st2_s, isJ_i, isJ_r, isJ_n, isJ_l, cs_nil, cs_i, cs_r, cs_l, kF, List.getElem?_cons_succ, List.getElem?_cons_zero, List.set_cons_zero, List.set_cons_succ, GC_s, GC_n, GK_nil, GK_no, GK_yes, not_false_eq_true, back_eq, back_hp, inI_eq, inA_eq, true_and, and_true, and_self, if_true, if_false, bI_0, bI_1, bI_in, bI_T, bI_F, fitF, jmpF, nlF, pjA, iVal.eta, iYr.eta, List.getElem?_toArray, List.length_cons, List.length_nil, true_or, or_true, or_false, false_or, Classical.not_not, Bool.false_eq_true, hp_2, Nat.zero_le, Nat.le_refl, Option.some.injEq, Sum.inl.injEq, Sum.inr.injEq, not_true_eq_false, true_implies, false_implies, implies_true, gX12_leave, rd_o, rd_o_sz, l1, eD, hz2, e1, fl]
    exact hq
  | succ k ih =>
    intro i wv hb he n o5 hM hn lh hw hH h0 h1 hq
    refine G_run (B := [36]) 90 _ _ _ _ ?_
    have e1 : ¬ X.num 0 ≤ i := by omega
    have hz2 : (A.sH he).mo.sz.getD D 0 = X.num 0 := hz
    have l1 : (A.sH he).mo.sz.length = 8 := l1
    have l2 : (A.sH he).mo.el.length = 800 := l2
    have el : (A.sH he).mo.el.getD (100 * (D : Int) + i).toNat 0 = cl.getD i.toNat 0 := hel i h0 (by omega)
    have hr2 : (A.sH he).mo.s = rowOf X e := hr
    have iv := her i h0 (by omega)
    unfold lvR at hq
    generalize hv : cl.getD i.toNat 0 = v at *
    have i1 : inI (X.num 1 - 1) = true := inI_of (by omega) (by omega)
    by_cases c1 : v < -1 ∨ X.num 1 ≤ v
    · rw [if_pos c1] at hq
      have c2 : ¬ (-1 ≤ v ∧ v ≤ X.num 1 - 1) := by omega
      simp (disch := first | assumption | rfl | exact inI_of (by omega) (by omega) | omega | decide | (simp only [sv_ext, sv_mc, Nat.le_refl]; done) | with_unfolding_all (refine @id _ ?_; first | exact Eq.refl _ | exact Nat.le_refl _ | assumption)) only [Nat.reduceAdd, Nat.reduceMul, Nat.reduceLeDiff, Nat.reduceLT, Int.reduceAdd, Int.reduceSub, Int.reduceMul, Int.reduceNeg, Int.reduceLE, Int.reduceLT, Int.reduceToNat, Int.reduceEq, reduceCtorEq, ld_z, ld_s, st1_0, st1_1, st1_s, st2_0, st2_1, st2_s, isJ_i, isJ_r, isJ_n, isJ_l, cs_nil, cs_i, cs_r, cs_l, kF, List.getElem?_cons_succ, List.getElem?_cons_zero, List.set_cons_zero, List.set_cons_succ, GC_s, GC_n, GK_nil, GK_no, GK_yes, not_false_eq_true, back_eq, back_hp, inI_eq, inA_eq, true_and, and_true, and_self, if_true, if_false, bI_0, bI_1, bI_in, bI_T, bI_F, fitF, jmpF, nlF, pjA, iVal.eta, iYr.eta, List.getElem?_toArray, List.length_cons, List.length_nil, true_or, or_true, or_false, false_or, Classical.not_not, Bool.false_eq_true, hp_2, Nat.zero_le, Nat.le_refl, Option.some.injEq, Sum.inl.injEq, Sum.inr.injEq, not_true_eq_false, true_implies, false_implies, implies_true, gX12_leave, rd_o, rd_o_sz, rd_o_el, rd_o_s, hr2, row_len, l1, l2, eD, hz2, e1, el, q_n1, isIn_eq, c2]
      exact hq
    · rw [if_neg c1] at hq
      have c2 : -1 ≤ v ∧ v ≤ X.num 1 - 1 := by omega
      by_cases c3 : v = -1
      · rw [if_pos c3] at hq
        subst c3
        have c4 : (0 : Int) ≤ X.num 1 := by omega
        have c5 : (-1 : Int) ≤ X.num 1 - 1 := by omega
        simp (disch := first | assumption | rfl | exact inI_of (by omega) (by omega) | omega | decide | (simp only [sv_ext, sv_mc, Nat.le_refl]; done) | with_unfolding_all (refine @id _ ?_; first | exact Eq.refl _ | exact Nat.le_refl _ | assumption)) only [Nat.reduceAdd, Nat.reduceMul, Nat.reduceLeDiff, Nat.reduceLT, Int.reduceAdd, Int.reduceSub, Int.reduceMul, Int.reduceNeg, Int.reduceLE, Int.reduceLT, Int.reduceToNat, Int.reduceEq, reduceCtorEq, ld_z, ld_s, st1_0, st1_1, st1_s, st2_0, st2_1, st2_s, isJ_i, isJ_r, isJ_n, isJ_l, cs_nil, cs_i, cs_r, cs_l, kF, List.getElem?_cons_succ, List.getElem?_cons_zero, List.set_cons_zero, List.set_cons_succ, GC_s, GC_n, GK_nil, GK_no, GK_yes, not_false_eq_true, back_eq, back_hp, inI_eq, inA_eq, true_and, and_true, and_self, if_true, if_false, bI_0, bI_1, bI_in, bI_T, bI_F, fitF, jmpF, nlF, pjA, iVal.eta, iYr.eta, List.getElem?_toArray, List.length_cons, List.length_nil, true_or, or_true, or_false, false_or, Classical.not_not, Bool.false_eq_true, hp_2, Nat.zero_le, Nat.le_refl, Option.some.injEq, Sum.inl.injEq, Sum.inr.injEq, not_true_eq_false, true_implies, false_implies, implies_true, gX12_leave, rd_o, rd_o_sz, rd_o_el, rd_o_s, rd_o_he, hr2, row_len, l1, l2, eD, hz2, e1, el, q_n1, isIn_eq, c2, c5, sH_he, lh, wr_He, sH_sH]
        exact ih (i + 1) wv hb (he.set i.toNat (-4)) n _ hM hn (by rw [List.length_set]; exact lh) (fun j a b => hw j (by omega) b) (fun j a b => by
          rw [gt_set h0 a (by omega)]
          by_cases y : i = j
          · rw [if_pos y]; left; exact ⟨hw j (by omega) (by omega), rfl⟩
          · rw [if_neg y]; exact hH j a (by omega)) (by omega) (by omega) hq
      · rw [if_neg c3] at hq
        have v0 : 0 ≤ v := by omega
        have v1 : ¬ v < 0 := by omega
        have sn := hn.2 v v0 (by omega)
        by_cases c4 : gt0 hb v = -1
        · rw [if_pos c4] at hq
          have z2 : ¬ bAnd (bShr (n : Int) v) 1 = 1 := fun y => (sn.mp y) c4
          obtain ⟨n', en, hn'⟩ := seen_add hn v0 (by omega) h0 hM.lh
          simp (disch := first | assumption | rfl | exact inI_of (by omega) (by omega) | omega | decide | (simp only [sv_ext, sv_mc, Nat.le_refl]; done) | with_unfolding_all (refine @id _ ?_; first | exact Eq.refl _ | exact Nat.le_refl _ | assumption)) only [Nat.reduceAdd, Nat.reduceMul, Nat.reduceLeDiff, Nat.reduceLT, Int.reduceAdd, Int.reduceSub, Int.reduceMul, Int.reduceNeg, Int.reduceLE, Int.reduceLT, Int.reduceToNat, Int.reduceEq, reduceCtorEq, ld_z, ld_s, st1_0, st1_1, st1_s, st2_0, st2_1, st2_s, isJ_i, isJ_r, isJ_n, isJ_l, cs_nil, cs_i, cs_r, cs_l, kF, List.getElem?_cons_succ, List.getElem?_cons_zero, List.set_cons_zero, List.set_cons_succ, GC_s, GC_n, GK_nil, GK_no, GK_yes, not_false_eq_true, back_eq, back_hp, inI_eq, inA_eq, true_and, and_true, and_self, if_true, if_false, bI_0, bI_1, bI_in, bI_T, bI_F, fitF, jmpF, nlF, pjA, iVal.eta, iYr.eta, List.getElem?_toArray, List.length_cons, List.length_nil, true_or, or_true, or_false, false_or, Classical.not_not, Bool.false_eq_true, hp_2, Nat.zero_le, Nat.le_refl, Option.some.injEq, Sum.inl.injEq, Sum.inr.injEq, not_true_eq_false, true_implies, false_implies, implies_true, gX12_leave, rd_o, rd_o_sz, rd_o_el, rd_o_s, rd_o_he, hr2, row_len, l1, l2, eD, hz2, e1, el, q_n1, isIn_eq, c2, has_eq, v0, v1, z2, sH_he, lh, wr_He, sH_sH, en]
          exact ih (i + 1) (wv.set i.toNat v) (hb.set v.toNat i) (he.set i.toNat v) n' _ (okM_join hM h0 (by omega) (by omega) v0 (by omega) (by omega) (hw i (Int.le_refl _) (by omega)) c4) hn' (by rw [List.length_set]; exact lh) (fun j a b => by rw [gt_set h0 (by omega) (by have := hM.lw; omega), if_neg (by omega)]; exact hw j (by omega) b) (fun j a b => by
            have lw := hM.lw
            rw [gt_set (l := wv) h0 a (by omega), gt_set (l := he) h0 a (by omega)]
            by_cases y : i = j
            · rw [if_pos y, if_pos y]; right; exact ⟨v0, rfl⟩
            · rw [if_neg y, if_neg y]; exact hH j a (by omega)) (by omega) (by omega) hq
        · rw [if_neg c4] at hq
          have z2 : bAnd (bShr (n : Int) v) 1 = 1 := sn.mpr c4
          simp (disch := first | assumption | rfl | exact inI_of (by omega) (by omega) | omega | decide | (simp only [sv_ext, sv_mc, Nat.le_refl]; done) | with_unfolding_all (refine @id _ ?_; first | exact Eq.refl _ | exact Nat.le_refl _ | assumption)) only [Nat.reduceAdd, Nat.reduceMul, Nat.reduceLeDiff, Nat.reduceLT, Int.reduceAdd, Int.reduceSub, Int.reduceMul, Int.reduceNeg, Int.reduceLE, Int.reduceLT, Int.reduceToNat, Int.reduceEq, reduceCtorEq, ld_z, ld_s, st1_0, st1_1, st1_s, st2_0, st2_1, st2_s, isJ_i, isJ_r, isJ_n, isJ_l, cs_nil, cs_i, cs_r, cs_l, kF, List.getElem?_cons_succ, List.getElem?_cons_zero, List.set_cons_zero, List.set_cons_succ, GC_s, GC_n, GK_nil, GK_no, GK_yes, not_false_eq_true, back_eq, back_hp, inI_eq, inA_eq, true_and, and_true, and_self, if_true, if_false, bI_0, bI_1, bI_in, bI_T, bI_F, fitF, jmpF, nlF, pjA, iVal.eta, iYr.eta, List.getElem?_toArray, List.length_cons, List.length_nil, true_or, or_true, or_false, false_or, Classical.not_not, Bool.false_eq_true, hp_2, Nat.zero_le, Nat.le_refl, Option.some.injEq, Sum.inl.injEq, Sum.inr.injEq, not_true_eq_false, true_implies, false_implies, implies_true, gX12_leave, rd_o, rd_o_sz, rd_o_el, rd_o_s, rd_o_he, hr2, row_len, l1, l2, eD, hz2, e1, el, q_n1, isIn_eq, c2, has_eq, v0, v1, eq_true z2]
          exact hq
theorem okM_m5 {X : iVal} : OkM X m5 m5 := OkM.mk rfl rfl (fun m a b => Or.inl (by
  have : m = 0 ∨ m = 1 ∨ m = 2 ∨ m = 3 ∨ m = 4 := by omega
  rcases this with rfl | rfl | rfl | rfl | rfl <;> rfl)) (fun m a b => Or.inl (by
  have : m = 0 ∨ m = 1 ∨ m = 2 ∨ m = 3 ∨ m = 4 := by omega
  rcases this with rfl | rfl | rfl | rfl | rfl <;> rfl))
theorem gt_m5 {j : Int} (a : 0 ≤ j) (b : j < 5) : gt0 m5 j = -1 := by
  have : j = 0 ∨ j = 1 ∨ j = 2 ∨ j = 3 ∨ j = 4 := by omega
  rcases this with rfl | rfl | rfl | rfl | rfl <;> rfl
theorem seen_0 : seenOK m5 0 := by
  refine ⟨by omega, fun w a b => ?_⟩
  have : w = 0 ∨ w = 1 ∨ w = 2 ∨ w = 3 ∨ w = 4 := by omega
  rcases this with rfl | rfl | rfl | rfl | rfl <;> decide
theorem rel_mh (hR : Rel A) {wv hb he : List Int} (l1 : wv.length = 5) (l2 : hb.length = 5) (l3 : he.length = 5) : Rel ((A.sM wv hb).sH he) := (Rel.mk hR.now hR.img hR.mnd hR.mok hR.yr hR.ndy hR.idy hR.row hR.imd hR.him hR.imr hR.lim hR.lm hR.lwas hR.lwt hR.len hR.lod hR.lnu (l3) hR.lbh hR.lak hR.lfi hR.lth hR.lke hR.lkk hR.lkf hR.lso hR.lsz hR.lel (l1) (l2) hR.lfm hR.lmk hR.lpt hR.lout hR.shs hR.inj)
theorem ag_leave (hR : Rel A) {a : Int} (ia : inI a = true) : Agree sp sc mX11_leave mX12_leave [.inl a] A := by
  have ns : ([109, 111, 113, 115, 117, 119, 121, 123] : List Nat).length = 8 := rfl
  have hO := hR.now
  have n0 := hO.n0
  have n1 := hO.n1
  have hr := hR.row
  have lo := hO.lon
  have wk := fun (A1 : iA) (hk : A1.mo.ke = A.mo.ke) Q => @wrongRow_eq sp sc 16 A1 Q a ia (by rw [hk]; exact hR.lke) (by rw [hk]; exact rel_kev hR)
  by_cases c : 0 ≤ a ∧ a < 8
  · have hS := hR.shs a.toNat (by omega)
    have hd : a.toNat < 8 := by omega
    have ea : ((a.toNat : Nat) : Int) = a := by omega
    simp only [if_pos c] at wk
    rcases hS.hv with z | z | z
    · have wk := wk A rfl
      rw [hS.ho, z] at wk
      refine Agree.of (-11) A A rfl (fun Q => Call_eq ?_) (fun Q => Call_eq ?_) rfl rfl hR
      · apply eX11_leave 60; simp (disch := first | assumption | rfl | exact inI_of (by omega) (by omega) | omega | decide | (simp only [sv_ext, sv_mc, Nat.le_refl]; done) | with_unfolding_all (refine @id _ ?_; first | exact Eq.refl _ | exact Nat.le_refl _ | assumption)) only [Nat.reduceAdd, Nat.reduceMul, Nat.reduceLeDiff, Nat.reduceLT, Int.reduceAdd, Int.reduceSub, Int.reduceMul, Int.reduceNeg, Int.reduceLE, Int.reduceLT, Int.reduceToNat, Int.reduceEq, reduceCtorEq, ld_z, ld_s, st1_0, st1_1, st1_s, st2_0, st2_1, st2_s, isJ_i, isJ_r, isJ_n, isJ_l, cs_nil, cs_i, cs_r, cs_l, kF, List.getElem?_cons_succ, List.getElem?_cons_zero, List.set_cons_zero, List.set_cons_succ, GC_s, GC_n, GK_nil, GK_no, GK_yes, not_false_eq_true, back_eq, back_hp, inI_eq, inA_eq, true_and, and_true, and_self, if_true, if_false, bI_0, bI_1, bI_in, bI_T, bI_F, fitF, jmpF, nlF, pjA, iVal.eta, iYr.eta, List.getElem?_toArray, List.length_cons, List.length_nil, true_or, or_true, or_false, false_or, Classical.not_not, Bool.false_eq_true, hp_2, Nat.zero_le, Nat.le_refl, Option.some.injEq, Sum.inl.injEq, Sum.inr.injEq, not_true_eq_false, true_implies, false_implies, implies_true, rd_v, f_num, f_lik, f_dep, f_bnd, f_man, f_wom, f_sta, f_dds, f_who, rd_e, v_now, hasOne_eq, hasTwo_eq, hasCouple_eq, orNone_eq, natureOf_eq, rd_nat, place_eq, rd_v1, rd_v3, rd_v4, rd_v6, rd_v7, rd_v8, rd_v9, rd_v10, isShelf_eq, isSide_eq, isDeed_eq, isKind_eq, isMindSpan_eq, gX11_leave, c, rd_ss, ns, sh_at, refR_eq hd hS.hv, z, rfR, rd_s]
      · apply eX12_leave 60; simp (disch := first | assumption | rfl | exact inI_of (by omega) (by omega) | omega | decide | (simp only [sv_ext, sv_mc, Nat.le_refl]; done) | with_unfolding_all (refine @id _ ?_; first | exact Eq.refl _ | exact Nat.le_refl _ | assumption)) only [Nat.reduceAdd, Nat.reduceMul, Nat.reduceLeDiff, Nat.reduceLT, Int.reduceAdd, Int.reduceSub, Int.reduceMul, Int.reduceNeg, Int.reduceLE, Int.reduceLT, Int.reduceToNat, Int.reduceEq, reduceCtorEq, ld_z, ld_s, st1_0, st1_1, st1_s, st2_0, st2_1, st2_s, isJ_i, isJ_r, isJ_n, isJ_l, cs_nil, cs_i, cs_r, cs_l, kF, List.getElem?_cons_succ, List.getElem?_cons_zero, List.set_cons_zero, List.set_cons_succ, GC_s, GC_n, GK_nil, GK_no, GK_yes, not_false_eq_true, back_eq, back_hp, inI_eq, inA_eq, true_and, and_true, and_self, if_true, if_false, bI_0, bI_1, bI_in, bI_T, bI_F, fitF, jmpF, nlF, pjA, iVal.eta, iYr.eta, List.getElem?_toArray, List.length_cons, List.length_nil, true_or, or_true, or_false, false_or, Classical.not_not, Bool.false_eq_true, hp_2, Nat.zero_le, Nat.le_refl, Option.some.injEq, Sum.inl.injEq, Sum.inr.injEq, not_true_eq_false, true_implies, false_implies, implies_true, gX12_leave, rd_o, wk, rfR]
    · have wk := wk A rfl
      rw [hS.ho, z] at wk
      refine Agree.of (-12) A A rfl (fun Q => Call_eq ?_) (fun Q => Call_eq ?_) rfl rfl hR
      · apply eX11_leave 60; simp (disch := first | assumption | rfl | exact inI_of (by omega) (by omega) | omega | decide | (simp only [sv_ext, sv_mc, Nat.le_refl]; done) | with_unfolding_all (refine @id _ ?_; first | exact Eq.refl _ | exact Nat.le_refl _ | assumption)) only [Nat.reduceAdd, Nat.reduceMul, Nat.reduceLeDiff, Nat.reduceLT, Int.reduceAdd, Int.reduceSub, Int.reduceMul, Int.reduceNeg, Int.reduceLE, Int.reduceLT, Int.reduceToNat, Int.reduceEq, reduceCtorEq, ld_z, ld_s, st1_0, st1_1, st1_s, st2_0, st2_1, st2_s, isJ_i, isJ_r, isJ_n, isJ_l, cs_nil, cs_i, cs_r, cs_l, kF, List.getElem?_cons_succ, List.getElem?_cons_zero, List.set_cons_zero, List.set_cons_succ, GC_s, GC_n, GK_nil, GK_no, GK_yes, not_false_eq_true, back_eq, back_hp, inI_eq, inA_eq, true_and, and_true, and_self, if_true, if_false, bI_0, bI_1, bI_in, bI_T, bI_F, fitF, jmpF, nlF, pjA, iVal.eta, iYr.eta, List.getElem?_toArray, List.length_cons, List.length_nil, true_or, or_true, or_false, false_or, Classical.not_not, Bool.false_eq_true, hp_2, Nat.zero_le, Nat.le_refl, Option.some.injEq, Sum.inl.injEq, Sum.inr.injEq, not_true_eq_false, true_implies, false_implies, implies_true, rd_v, f_num, f_lik, f_dep, f_bnd, f_man, f_wom, f_sta, f_dds, f_who, rd_e, v_now, hasOne_eq, hasTwo_eq, hasCouple_eq, orNone_eq, natureOf_eq, rd_nat, place_eq, rd_v1, rd_v3, rd_v4, rd_v6, rd_v7, rd_v8, rd_v9, rd_v10, isShelf_eq, isSide_eq, isDeed_eq, isKind_eq, isMindSpan_eq, gX11_leave, c, rd_ss, ns, sh_at, refR_eq hd hS.hv, z, rfR, rd_s]
      · apply eX12_leave 60; simp (disch := first | assumption | rfl | exact inI_of (by omega) (by omega) | omega | decide | (simp only [sv_ext, sv_mc, Nat.le_refl]; done) | with_unfolding_all (refine @id _ ?_; first | exact Eq.refl _ | exact Nat.le_refl _ | assumption)) only [Nat.reduceAdd, Nat.reduceMul, Nat.reduceLeDiff, Nat.reduceLT, Int.reduceAdd, Int.reduceSub, Int.reduceMul, Int.reduceNeg, Int.reduceLE, Int.reduceLT, Int.reduceToNat, Int.reduceEq, reduceCtorEq, ld_z, ld_s, st1_0, st1_1, st1_s, st2_0, st2_1, st2_s, isJ_i, isJ_r, isJ_n, isJ_l, cs_nil, cs_i, cs_r, cs_l, kF, List.getElem?_cons_succ, List.getElem?_cons_zero, List.set_cons_zero, List.set_cons_succ, GC_s, GC_n, GK_nil, GK_no, GK_yes, not_false_eq_true, back_eq, back_hp, inI_eq, inA_eq, true_and, and_true, and_self, if_true, if_false, bI_0, bI_1, bI_in, bI_T, bI_F, fitF, jmpF, nlF, pjA, iVal.eta, iYr.eta, List.getElem?_toArray, List.length_cons, List.length_nil, true_or, or_true, or_false, false_or, Classical.not_not, Bool.false_eq_true, hp_2, Nat.zero_le, Nat.le_refl, Option.some.injEq, Sum.inl.injEq, Sum.inr.injEq, not_true_eq_false, true_implies, false_implies, implies_true, gX12_leave, rd_o, wk, rfR]
    · have hz := hS.zz z
      have sb := hS.sz
      have lsz := hR.lsz
      by_cases c2 : (A.sh a.toNat).sz = A.now.num 0
      · rw [c2] at hz
        have cl := fun Q => @clear_eq sp sc 18 A Q hR.lwv hR.lhb
        have ll := @lvR_len A.now (A.cel a.toNat) (A.now.num 0).toNat 0 m5 m5 A.mo.he
        have lC := fun Q o1 z3 o5 o6 => @lvC_loop sp sc 15 A Q a.toNat hO hS hd z c2 o1 z3 (A.now.num 0).toNat 0 m5 m5 A.mo.he o5 o6 okM_m5 (fun j a b => gt_m5 a b) (by omega) (by omega)
        have fb1 : -4 ≤ A.now.fl (lvR A.now (A.cel a.toNat) (A.now.num 0).toNat 0 m5 m5 A.mo.he).2.1 (lvR A.now (A.cel a.toNat) (A.now.num 0).toNat 0 m5 m5 A.mo.he).2.2.1 ∧ A.now.fl (lvR A.now (A.cel a.toNat) (A.now.num 0).toNat 0 m5 m5 A.mo.he).2.1 (lvR A.now (A.cel a.toNat) (A.now.num 0).toNat 0 m5 m5 A.mo.he).2.2.1 < 100 := flO_b hO _ 0 (by omega) (by omega)
        have lR := fun (A1 : iA) (h1 : A1.mo = A.mo) Q z2 o5 => @lvR_loop sp sc 15 A1 Q A.now A.now.dy a.toNat hO (by rw [h1]; exact hr) (A.cel a.toNat) 0 (by rw [h1]; exact hz) hd (by rw [h1]; exact lsz) (by rw [h1]; exact hR.lel) (fun i a b => by rw [h1]; exact hS.el z i a (by omega)) (fun i a b => hS.er z i a (by omega)) z2 (A.now.num 0).toNat 0 m5 m5 A.mo.he 0 o5 okM_m5 seen_0 hR.lhe (fun j a b => gt_m5 a b) (fun j a b => by omega) (by omega) (by omega)
        generalize lvR A.now (A.cel a.toNat) (A.now.num 0).toNat 0 m5 m5 A.mo.he = T at *
        have wk := wk (A.sM T.2.1 T.2.2.1) rfl
        have k1 : (A.sM T.2.1 T.2.2.1).mo.ke.getD a.toNat 0 = 2 := hS.ho.trans z
        rw [k1] at wk
        have k2 : (A.sM T.2.1 T.2.2.1).mo.sz.getD a.toNat 0 = A.now.num 0 := hz
        have k3 : (A.sM T.2.1 T.2.2.1).mo.s = rowOf A.now A.now.dy := hr
        have k4 : (A.sM T.2.1 T.2.2.1).mo.sz.length = 8 := lsz
        refine Agree.of (if T.1 = 1 then -13 else A.now.fl T.2.1 T.2.2.1) (A.sM T.2.1 T.2.2.1) ((A.sM T.2.1 T.2.2.1).sH T.2.2.2) (by split <;> first | rfl | exact inI_of (by omega) (by omega)) (fun Q => Call_eq ?_) (fun Q => Call_eq ?_) rfl rfl (rel_mh hR (ll.1.trans rfl) (ll.2.1.trans rfl) (ll.2.2.trans hR.lhe))
        · apply eX11_leave 60; simp (disch := first | assumption | rfl | exact inI_of (by omega) (by omega) | omega | decide | (simp only [sv_ext, sv_mc, Nat.le_refl]; done) | with_unfolding_all (refine @id _ ?_; first | exact Eq.refl _ | exact Nat.le_refl _ | assumption)) only [Nat.reduceAdd, Nat.reduceMul, Nat.reduceLeDiff, Nat.reduceLT, Int.reduceAdd, Int.reduceSub, Int.reduceMul, Int.reduceNeg, Int.reduceLE, Int.reduceLT, Int.reduceToNat, Int.reduceEq, reduceCtorEq, ld_z, ld_s, st1_0, st1_1, st1_s, st2_0, st2_1, st2_s, isJ_i, isJ_r, isJ_n, isJ_l, cs_nil, cs_i, cs_r, cs_l, kF, List.getElem?_cons_succ, List.getElem?_cons_zero, List.set_cons_zero, List.set_cons_succ, GC_s, GC_n, GK_nil, GK_no, GK_yes, not_false_eq_true, back_eq, back_hp, inI_eq, inA_eq, true_and, and_true, and_self, if_true, if_false, bI_0, bI_1, bI_in, bI_T, bI_F, fitF, jmpF, nlF, pjA, iVal.eta, iYr.eta, List.getElem?_toArray, List.length_cons, List.length_nil, true_or, or_true, or_false, false_or, Classical.not_not, Bool.false_eq_true, hp_2, Nat.zero_le, Nat.le_refl, Option.some.injEq, Sum.inl.injEq, Sum.inr.injEq, not_true_eq_false, true_implies, false_implies, implies_true, rd_v, f_num, f_lik, f_dep, f_bnd, f_man, f_wom, f_sta, f_dds, f_who, rd_e, v_now, hasOne_eq, hasTwo_eq, hasCouple_eq, orNone_eq, natureOf_eq, rd_nat, place_eq, rd_v1, rd_v3, rd_v4, rd_v6, rd_v7, rd_v8, rd_v9, rd_v10, isShelf_eq, isSide_eq, isDeed_eq, isKind_eq, isMindSpan_eq, gX11_leave, c, rd_ss, ns, sh_at, refR_eq hd hS.hv, z, rfR, rd_s, c2, lo, f_n0, rd_m, cl, back_sM]
          exact lC _ _ _ _ _ ⟨rfl, rfl⟩
        · apply eX12_leave 60; simp (disch := first | assumption | rfl | exact inI_of (by omega) (by omega) | omega | decide | (simp only [sv_ext, sv_mc, Nat.le_refl]; done) | with_unfolding_all (refine @id _ ?_; first | exact Eq.refl _ | exact Nat.le_refl _ | assumption)) only [Nat.reduceAdd, Nat.reduceMul, Nat.reduceLeDiff, Nat.reduceLT, Int.reduceAdd, Int.reduceSub, Int.reduceMul, Int.reduceNeg, Int.reduceLE, Int.reduceLT, Int.reduceToNat, Int.reduceEq, reduceCtorEq, ld_z, ld_s, st1_0, st1_1, st1_s, st2_0, st2_1, st2_s, isJ_i, isJ_r, isJ_n, isJ_l, cs_nil, cs_i, cs_r, cs_l, kF, List.getElem?_cons_succ, List.getElem?_cons_zero, List.set_cons_zero, List.set_cons_succ, GC_s, GC_n, GK_nil, GK_no, GK_yes, not_false_eq_true, back_eq, back_hp, inI_eq, inA_eq, true_and, and_true, and_self, if_true, if_false, bI_0, bI_1, bI_in, bI_T, bI_F, fitF, jmpF, nlF, pjA, iVal.eta, iYr.eta, List.getElem?_toArray, List.length_cons, List.length_nil, true_or, or_true, or_false, false_or, Classical.not_not, Bool.false_eq_true, hp_2, Nat.zero_le, Nat.le_refl, Option.some.injEq, Sum.inl.injEq, Sum.inr.injEq, not_true_eq_false, true_implies, false_implies, implies_true, gX12_leave, rd_o, wk, rfR, rd_o_sz, rd_o_s, k2, k3, k4, row_len, q_n0]
          have lR := lR (A.sM T.2.1 T.2.2.1) rfl
          rw [ea] at lR
          exact lR _ _ _ ⟨rfl, rfl⟩
      · have wk := wk A rfl
        rw [hS.ho, z] at wk
        have i1 : inI (A.sh a.toNat).sz = true := inI_of (by omega) (by omega)
        refine Agree.of (-13) A A rfl (fun Q => Call_eq ?_) (fun Q => Call_eq ?_) rfl rfl hR
        · apply eX11_leave 60; simp (disch := first | assumption | rfl | exact inI_of (by omega) (by omega) | omega | decide | (simp only [sv_ext, sv_mc, Nat.le_refl]; done) | with_unfolding_all (refine @id _ ?_; first | exact Eq.refl _ | exact Nat.le_refl _ | assumption)) only [Nat.reduceAdd, Nat.reduceMul, Nat.reduceLeDiff, Nat.reduceLT, Int.reduceAdd, Int.reduceSub, Int.reduceMul, Int.reduceNeg, Int.reduceLE, Int.reduceLT, Int.reduceToNat, Int.reduceEq, reduceCtorEq, ld_z, ld_s, st1_0, st1_1, st1_s, st2_0, st2_1, st2_s, isJ_i, isJ_r, isJ_n, isJ_l, cs_nil, cs_i, cs_r, cs_l, kF, List.getElem?_cons_succ, List.getElem?_cons_zero, List.set_cons_zero, List.set_cons_succ, GC_s, GC_n, GK_nil, GK_no, GK_yes, not_false_eq_true, back_eq, back_hp, inI_eq, inA_eq, true_and, and_true, and_self, if_true, if_false, bI_0, bI_1, bI_in, bI_T, bI_F, fitF, jmpF, nlF, pjA, iVal.eta, iYr.eta, List.getElem?_toArray, List.length_cons, List.length_nil, true_or, or_true, or_false, false_or, Classical.not_not, Bool.false_eq_true, hp_2, Nat.zero_le, Nat.le_refl, Option.some.injEq, Sum.inl.injEq, Sum.inr.injEq, not_true_eq_false, true_implies, false_implies, implies_true, rd_v, f_num, f_lik, f_dep, f_bnd, f_man, f_wom, f_sta, f_dds, f_who, rd_e, v_now, hasOne_eq, hasTwo_eq, hasCouple_eq, orNone_eq, natureOf_eq, rd_nat, place_eq, rd_v1, rd_v3, rd_v4, rd_v6, rd_v7, rd_v8, rd_v9, rd_v10, isShelf_eq, isSide_eq, isDeed_eq, isKind_eq, isMindSpan_eq, gX11_leave, c, rd_ss, ns, sh_at, refR_eq hd hS.hv, z, rfR, rd_s, lo, f_n0, c2, i1]
        · apply eX12_leave 60; simp (disch := first | assumption | rfl | exact inI_of (by omega) (by omega) | omega | decide | (simp only [sv_ext, sv_mc, Nat.le_refl]; done) | with_unfolding_all (refine @id _ ?_; first | exact Eq.refl _ | exact Nat.le_refl _ | assumption)) only [Nat.reduceAdd, Nat.reduceMul, Nat.reduceLeDiff, Nat.reduceLT, Int.reduceAdd, Int.reduceSub, Int.reduceMul, Int.reduceNeg, Int.reduceLE, Int.reduceLT, Int.reduceToNat, Int.reduceEq, reduceCtorEq, ld_z, ld_s, st1_0, st1_1, st1_s, st2_0, st2_1, st2_s, isJ_i, isJ_r, isJ_n, isJ_l, cs_nil, cs_i, cs_r, cs_l, kF, List.getElem?_cons_succ, List.getElem?_cons_zero, List.set_cons_zero, List.set_cons_succ, GC_s, GC_n, GK_nil, GK_no, GK_yes, not_false_eq_true, back_eq, back_hp, inI_eq, inA_eq, true_and, and_true, and_self, if_true, if_false, bI_0, bI_1, bI_in, bI_T, bI_F, fitF, jmpF, nlF, pjA, iVal.eta, iYr.eta, List.getElem?_toArray, List.length_cons, List.length_nil, true_or, or_true, or_false, false_or, Classical.not_not, Bool.false_eq_true, hp_2, Nat.zero_le, Nat.le_refl, Option.some.injEq, Sum.inl.injEq, Sum.inr.injEq, not_true_eq_false, true_implies, false_implies, implies_true, gX12_leave, rd_o, wk, rfR, rd_o_sz, rd_o_s, hr, row_len, q_n0, hz, lsz, c2, i1]
  · have wk := wk A rfl
    rw [if_neg c] at wk
    refine Agree.of (-1) A A rfl (fun Q => Call_eq ?_) (fun Q => Call_eq ?_) rfl rfl hR
    · apply eX11_leave 40; simp (disch := first | assumption | rfl | exact inI_of (by omega) (by omega) | omega | decide | (simp only [sv_ext, sv_mc, Nat.le_refl]; done) | with_unfolding_all (refine @id _ ?_; first | exact Eq.refl _ | exact Nat.le_refl _ | assumption)) only [Nat.reduceAdd, Nat.reduceMul, Nat.reduceLeDiff, Nat.reduceLT, Int.reduceAdd, Int.reduceSub, Int.reduceMul, Int.reduceNeg, Int.reduceLE, Int.reduceLT, Int.reduceToNat, Int.reduceEq, reduceCtorEq, ld_z, ld_s, st1_0, st1_1, st1_s, st2_0, st2_1, st2_s, isJ_i, isJ_r, isJ_n, isJ_l, cs_nil, cs_i, cs_r, cs_l, kF, List.getElem?_cons_succ, List.getElem?_cons_zero, List.set_cons_zero, List.set_cons_succ, GC_s, GC_n, GK_nil, GK_no, GK_yes, not_false_eq_true, back_eq, back_hp, inI_eq, inA_eq, true_and, and_true, and_self, if_true, if_false, bI_0, bI_1, bI_in, bI_T, bI_F, fitF, jmpF, nlF, pjA, iVal.eta, iYr.eta, List.getElem?_toArray, List.length_cons, List.length_nil, true_or, or_true, or_false, false_or, Classical.not_not, Bool.false_eq_true, hp_2, Nat.zero_le, Nat.le_refl, Option.some.injEq, Sum.inl.injEq, Sum.inr.injEq, not_true_eq_false, true_implies, false_implies, implies_true, rd_v, f_num, f_lik, f_dep, f_bnd, f_man, f_wom, f_sta, f_dds, f_who, rd_e, v_now, hasOne_eq, hasTwo_eq, hasCouple_eq, orNone_eq, natureOf_eq, rd_nat, place_eq, rd_v1, rd_v3, rd_v4, rd_v6, rd_v7, rd_v8, rd_v9, rd_v10, isShelf_eq, isSide_eq, isDeed_eq, isKind_eq, isMindSpan_eq, gX11_leave, c]
    · apply eX12_leave 40; simp (disch := first | assumption | rfl | exact inI_of (by omega) (by omega) | omega | decide | (simp only [sv_ext, sv_mc, Nat.le_refl]; done) | with_unfolding_all (refine @id _ ?_; first | exact Eq.refl _ | exact Nat.le_refl _ | assumption)) only [Nat.reduceAdd, Nat.reduceMul, Nat.reduceLeDiff, Nat.reduceLT, Int.reduceAdd, Int.reduceSub, Int.reduceMul, Int.reduceNeg, Int.reduceLE, Int.reduceLT, Int.reduceToNat, Int.reduceEq, reduceCtorEq, ld_z, ld_s, st1_0, st1_1, st1_s, st2_0, st2_1, st2_s, isJ_i, isJ_r, isJ_n, isJ_l, cs_nil, cs_i, cs_r, cs_l, kF, List.getElem?_cons_succ, List.getElem?_cons_zero, List.set_cons_zero, List.set_cons_succ, GC_s, GC_n, GK_nil, GK_no, GK_yes, not_false_eq_true, back_eq, back_hp, inI_eq, inA_eq, true_and, and_true, and_self, if_true, if_false, bI_0, bI_1, bI_in, bI_T, bI_F, fitF, jmpF, nlF, pjA, iVal.eta, iYr.eta, List.getElem?_toArray, List.length_cons, List.length_nil, true_or, or_true, or_false, false_or, Classical.not_not, Bool.false_eq_true, hp_2, Nat.zero_le, Nat.le_refl, Option.some.injEq, Sum.inl.injEq, Sum.inr.injEq, not_true_eq_false, true_implies, false_implies, implies_true, gX12_leave, rd_o, wk]
end OPS
