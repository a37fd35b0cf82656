set_option maxRecDepth 16384
/-! ===== calls: a shelf gets a one or nothing ===== -/
def iA.sSh (A : iA) (D : Nat) (s : iSh) : iA := (iA.mk A.now A.img A.mnd A.imd A.yr A.mt (fun e => if e = D then s else A.sh e) A.pt A.mo A.out A.ext A.mc)
def iA.sK (A : iA) (ke kk kf : List Int) : iA := (iA.mk A.now A.img A.mnd A.imd A.yr A.mt A.sh A.pt ((iMo.mk A.mo.s A.mo.m A.mo.im A.mo.was A.mo.hi A.mo.wt A.mo.en A.mo.od A.mo.dn A.mo.sm A.mo.sf A.mo.go A.mo.at_ A.mo.ra A.mo.re A.mo.nu A.mo.bd A.mo.bg A.mo.he A.mo.bh A.mo.ak A.mo.st A.mo.ml A.mo.fi A.mo.th A.mo.se (ke) (kk) (kf) A.mo.so A.mo.sz A.mo.el A.mo.tn)) A.out A.ext A.mc)
section OPS
variable {sp : Nat → List iV → iH → Option (Option iV × iH)} {sc : List Int} {d : Nat} {A A' : iA} {Q : Option iV → iH → Prop} {h : iH} {X : iVal} {e : Nat} {D : Nat}
theorem wr_sSh (hd : D < 8) {a b c : Int} {x y : Nat} : ((hp A).1.set (107 + 2 * D) (.inl (5, [.inl a, .inr (.inr (x + 2)), .inl b, .inl c, .inr (.inr (y + 2))])), A.mc) = hp (A.sSh D ((iSh.mk (a) (x) (b) (c) (y)))) := wr_s hd
theorem wr_ke {l : List Int} : ((hp A).1.set 152 (.inr (.inl (0, l))), A.mc) = hp (A.sK l A.mo.kk A.mo.kf) := wr_o_ke
theorem wr_kk {l : List Int} : ((hp A).1.set 153 (.inr (.inl (0, l))), A.mc) = hp (A.sK A.mo.ke l A.mo.kf) := wr_o_kk
theorem wr_kf {l : List Int} : ((hp A).1.set 154 (.inr (.inl (0, l))), A.mc) = hp (A.sK A.mo.ke A.mo.kk l) := wr_o_kf
theorem sK_ke {a b c : List Int} : (A.sK a b c).mo.ke = a := rfl
theorem sK_kk {a b c : List Int} : (A.sK a b c).mo.kk = b := rfl
theorem sK_kf {a b c : List Int} : (A.sK a b c).mo.kf = c := rfl
theorem sK_sK {a b c a' b' c' : List Int} : (A.sK a b c).sK a' b' c' = A.sK a' b' c' := rfl
theorem sSh_sh {s : iSh} : (A.sSh D s).sh D = s := if_pos rfl
theorem sSh_ne {s : iSh} (h : ¬ e = D) : (A.sSh D s).sh e = A.sh e := if_neg h
theorem relS_other (h : RelS A e) (h1 : A'.sh e = A.sh e) (h2 : A'.mo.ke.getD e 0 = A.mo.ke.getD e 0) (h3 : A'.mo.kk.getD e 0 = A.mo.kk.getD e 0) (h4 : A'.mo.kf.getD e 0 = A.mo.kf.getD e 0) (h5 : A'.mo.so.getD e 0 = A.mo.so.getD e 0) (h6 : A'.mo.sz.getD e 0 = A.mo.sz.getD e 0) (h7 : ∀ i : Int, 0 ≤ i → i < 100 → A'.mo.el.getD (100 * (e : Int) + i).toNat 0 = A.mo.el.getD (100 * (e : Int) + i).toNat 0) (h8 : A.ext.length ≤ A'.ext.length) (h9 : A'.cel e = A.cel e) : RelS A' e := by
  have sz := h.sz
  refine RelS.mk ?_ ?_ ?_ ?_ ?_ ?_ ?_ ?_ ?_ ?_ ?_ ?_ ?_ ?_
  · rw [h2, h1]; exact h.ho
  · rw [h1]; exact h.hv
  · rw [h1]; exact h.na
  · rw [h1, h3]; exact h.kk
  · rw [h1, h4]; exact h.kf
  · rw [h1]; exact h.so
  · rw [h1]; exact h.sz
  · rw [h1, h5]; exact h.ss
  · rw [h1, h6]; exact h.zz
  · rw [h1, h9]
    rcases h.ca with z | z
    · left; exact z
    · right; exact ⟨z.1, by omega, z.2.2⟩
  · rw [h1, h9]; exact h.cl
  · rw [h1, h9]
    intro z i a b
    rw [h7 i a (by omega)]
    exact h.el z i a b
  · rw [h1, h9]; exact h.er
  · rw [h1, h9]; exact h.eb
theorem keepR_eq {a w k f : Int} (ia : inI a = true) (iw : inI w = true) (ik : inI k = true) (if_ : inI f = true) (c : 0 ≤ a ∧ a < 8) (hw : w = 0 ∨ (w = 1 ∧ (0 ≤ k ∧ k < 6) ∧ 0 ≤ f ∧ f < 10)) (l1 : A.mo.ke.length = 8) (l2 : A.mo.kk.length = 8) (l3 : A.mo.kf.length = 8) : Call sp sc (d + 2) mX12_keep [.inr (.inr 140), .inl a, .inl w, .inl k, .inl f] (hp A) Q = Q (some (.inl 0)) (hp (A.sK (A.mo.ke.set a.toNat w) (A.mo.kk.set a.toNat k) (A.mo.kf.set a.toNat f))) := Call_eq (by
  apply eX12_keep 60
  rcases hw with rfl | ⟨rfl, h1, h2⟩
  · simp (disch := first | assumption | rfl | exact inI_of (by omega) (by omega) | omega | decide | (simp only [sv_ext, sv_mc, Nat.le_refl]; done) | with_unfolding_all (refine @id _ ?_; first | exact Eq.refl _ | exact Nat.le_refl _ | assumption)) only [Nat.reduceAdd, Nat.reduceMul, Nat.reduceLeDiff, Nat.reduceLT, Int.reduceAdd, Int.reduceSub, Int.reduceMul, Int.reduceNeg, Int.reduceLE, Int.reduceLT, Int.reduceToNat, Int.reduceEq, reduceCtorEq, ld_z, ld_s, st1_0, st1_1, st1_s, st2_0, st2_1, st2_s, isJ_i, isJ_r, isJ_n, isJ_l, cs_nil, cs_i, cs_r, cs_l, kF, List.getElem?_cons_succ, List.getElem?_cons_zero, List.set_cons_zero, List.set_cons_succ, GC_s, GC_n, GK_nil, GK_no, GK_yes, not_false_eq_true, back_eq, back_hp, inI_eq, inA_eq, true_and, and_true, and_self, if_true, if_false, bI_0, bI_1, bI_in, bI_T, bI_F, fitF, jmpF, nlF, pjA, iVal.eta, iYr.eta, List.getElem?_toArray, List.length_cons, List.length_nil, true_or, or_true, or_false, false_or, Classical.not_not, Bool.false_eq_true, hp_2, Nat.zero_le, Nat.le_refl, Option.some.injEq, Sum.inl.injEq, Sum.inr.injEq, not_true_eq_false, true_implies, false_implies, implies_true, gX12_keep, isShelfR_eq, c, isIn_eq, rd_o, rd_o_ke, rd_o_kk, rd_o_kf, l1, l2, l3, wr_ke, wr_kk, wr_kf, sK_ke, sK_kk, sK_kf, sK_sK, List.length_set]
  · have y1 : 0 ≤ k ∧ k ≤ 5 := by omega
    have y2 : 0 ≤ f ∧ f ≤ 9 := by omega
    simp (disch := first | assumption | rfl | exact inI_of (by omega) (by omega) | omega | decide | (simp only [sv_ext, sv_mc, Nat.le_refl]; done) | with_unfolding_all (refine @id _ ?_; first | exact Eq.refl _ | exact Nat.le_refl _ | assumption)) only [Nat.reduceAdd, Nat.reduceMul, Nat.reduceLeDiff, Nat.reduceLT, Int.reduceAdd, Int.reduceSub, Int.reduceMul, Int.reduceNeg, Int.reduceLE, Int.reduceLT, Int.reduceToNat, Int.reduceEq, reduceCtorEq, ld_z, ld_s, st1_0, st1_1, st1_s, st2_0, st2_1, st2_s, isJ_i, isJ_r, isJ_n, isJ_l, cs_nil, cs_i, cs_r, cs_l, kF, List.getElem?_cons_succ, List.getElem?_cons_zero, List.set_cons_zero, List.set_cons_succ, GC_s, GC_n, GK_nil, GK_no, GK_yes, not_false_eq_true, back_eq, back_hp, inI_eq, inA_eq, true_and, and_true, and_self, if_true, if_false, bI_0, bI_1, bI_in, bI_T, bI_F, fitF, jmpF, nlF, pjA, iVal.eta, iYr.eta, List.getElem?_toArray, List.length_cons, List.length_nil, true_or, or_true, or_false, false_or, Classical.not_not, Bool.false_eq_true, hp_2, Nat.zero_le, Nat.le_refl, Option.some.injEq, Sum.inl.injEq, Sum.inr.injEq, not_true_eq_false, true_implies, false_implies, implies_true, gX12_keep, isShelfR_eq, c, isIn_eq, y1, y2, rd_o, rd_o_ke, rd_o_kk, rd_o_kf, l1, l2, l3, wr_ke, wr_kk, wr_kf, sK_ke, sK_kk, sK_kf, sK_sK, List.length_set])
theorem keepR_bad {a w k f : Int} (ia : inI a = true) (iw : inI w = true) (ik : inI k = true) (if_ : inI f = true) (hb : ¬ ((0 ≤ a ∧ a < 8) ∧ (w = 0 ∨ (w = 1 ∧ (0 ≤ k ∧ k < 6) ∧ 0 ≤ f ∧ f < 10)))) : Call sp sc (d + 2) mX12_keep [.inr (.inr 140), .inl a, .inl w, .inl k, .inl f] (hp A) Q = Q (some (.inl (-1))) (hp A) := Call_eq (by
  apply eX12_keep 60
  by_cases c : 0 ≤ a ∧ a < 8
  · by_cases c1 : 0 ≤ w ∧ w ≤ 1
    · have w1 : w = 1 := by omega
      by_cases c2 : 0 ≤ k ∧ k ≤ 5
      · have c3 : ¬ (0 ≤ f ∧ f ≤ 9) := by omega
        simp (disch := first | assumption | rfl | exact inI_of (by omega) (by omega) | omega | decide | (simp only [sv_ext, sv_mc, Nat.le_refl]; done) | with_unfolding_all (refine @id _ ?_; first | exact Eq.refl _ | exact Nat.le_refl _ | assumption)) only [Nat.reduceAdd, Nat.reduceMul, Nat.reduceLeDiff, Nat.reduceLT, Int.reduceAdd, Int.reduceSub, Int.reduceMul, Int.reduceNeg, Int.reduceLE, Int.reduceLT, Int.reduceToNat, Int.reduceEq, reduceCtorEq, ld_z, ld_s, st1_0, st1_1, st1_s, st2_0, st2_1, st2_s, isJ_i, isJ_r, isJ_n, isJ_l, cs_nil, cs_i, cs_r, cs_l, kF, List.getElem?_cons_succ, List.getElem?_cons_zero, List.set_cons_zero, List.set_cons_succ, GC_s, GC_n, GK_nil, GK_no, GK_yes, not_false_eq_true, back_eq, back_hp, inI_eq, inA_eq, true_and, and_true, and_self, if_true, if_false, bI_0, bI_1, bI_in, bI_T, bI_F, fitF, jmpF, nlF, pjA, iVal.eta, iYr.eta, List.getElem?_toArray, List.length_cons, List.length_nil, true_or, or_true, or_false, false_or, Classical.not_not, Bool.false_eq_true, hp_2, Nat.zero_le, Nat.le_refl, Option.some.injEq, Sum.inl.injEq, Sum.inr.injEq, not_true_eq_false, true_implies, false_implies, implies_true, gX12_keep, isShelfR_eq, c, isIn_eq, c1, w1, c2, c3]
      · simp (disch := first | assumption | rfl | exact inI_of (by omega) (by omega) | omega | decide | (simp only [sv_ext, sv_mc, Nat.le_refl]; done) | with_unfolding_all (refine @id _ ?_; first | exact Eq.refl _ | exact Nat.le_refl _ | assumption)) only [Nat.reduceAdd, Nat.reduceMul, Nat.reduceLeDiff, Nat.reduceLT, Int.reduceAdd, Int.reduceSub, Int.reduceMul, Int.reduceNeg, Int.reduceLE, Int.reduceLT, Int.reduceToNat, Int.reduceEq, reduceCtorEq, ld_z, ld_s, st1_0, st1_1, st1_s, st2_0, st2_1, st2_s, isJ_i, isJ_r, isJ_n, isJ_l, cs_nil, cs_i, cs_r, cs_l, kF, List.getElem?_cons_succ, List.getElem?_cons_zero, List.set_cons_zero, List.set_cons_succ, GC_s, GC_n, GK_nil, GK_no, GK_yes, not_false_eq_true, back_eq, back_hp, inI_eq, inA_eq, true_and, and_true, and_self, if_true, if_false, bI_0, bI_1, bI_in, bI_T, bI_F, fitF, jmpF, nlF, pjA, iVal.eta, iYr.eta, List.getElem?_toArray, List.length_cons, List.length_nil, true_or, or_true, or_false, false_or, Classical.not_not, Bool.false_eq_true, hp_2, Nat.zero_le, Nat.le_refl, Option.some.injEq, Sum.inl.injEq, Sum.inr.injEq, not_true_eq_false, true_implies, false_implies, implies_true, gX12_keep, isShelfR_eq, c, isIn_eq, c1, w1, c2]
    · simp (disch := first | assumption | rfl | exact inI_of (by omega) (by omega) | omega | decide | (simp only [sv_ext, sv_mc, Nat.le_refl]; done) | with_unfolding_all (refine @id _ ?_; first | exact Eq.refl _ | exact Nat.le_refl _ | assumption)) only [Nat.reduceAdd, Nat.reduceMul, Nat.reduceLeDiff, Nat.reduceLT, Int.reduceAdd, Int.reduceSub, Int.reduceMul, Int.reduceNeg, Int.reduceLE, Int.reduceLT, Int.reduceToNat, Int.reduceEq, reduceCtorEq, ld_z, ld_s, st1_0, st1_1, st1_s, st2_0, st2_1, st2_s, isJ_i, isJ_r, isJ_n, isJ_l, cs_nil, cs_i, cs_r, cs_l, kF, List.getElem?_cons_succ, List.getElem?_cons_zero, List.set_cons_zero, List.set_cons_succ, GC_s, GC_n, GK_nil, GK_no, GK_yes, not_false_eq_true, back_eq, back_hp, inI_eq, inA_eq, true_and, and_true, and_self, if_true, if_false, bI_0, bI_1, bI_in, bI_T, bI_F, fitF, jmpF, nlF, pjA, iVal.eta, iYr.eta, List.getElem?_toArray, List.length_cons, List.length_nil, true_or, or_true, or_false, false_or, Classical.not_not, Bool.false_eq_true, hp_2, Nat.zero_le, Nat.le_refl, Option.some.injEq, Sum.inl.injEq, Sum.inr.injEq, not_true_eq_false, true_implies, false_implies, implies_true, gX12_keep, isShelfR_eq, c, isIn_eq, c1]
  · simp (disch := first | assumption | rfl | exact inI_of (by omega) (by omega) | omega | decide | (simp only [sv_ext, sv_mc, Nat.le_refl]; done) | with_unfolding_all (refine @id _ ?_; first | exact Eq.refl _ | exact Nat.le_refl _ | assumption)) only [Nat.reduceAdd, Nat.reduceMul, Nat.reduceLeDiff, Nat.reduceLT, Int.reduceAdd, Int.reduceSub, Int.reduceMul, Int.reduceNeg, Int.reduceLE, Int.reduceLT, Int.reduceToNat, Int.reduceEq, reduceCtorEq, ld_z, ld_s, st1_0, st1_1, st1_s, st2_0, st2_1, st2_s, isJ_i, isJ_r, isJ_n, isJ_l, cs_nil, cs_i, cs_r, cs_l, kF, List.getElem?_cons_succ, List.getElem?_cons_zero, List.set_cons_zero, List.set_cons_succ, GC_s, GC_n, GK_nil, GK_no, GK_yes, not_false_eq_true, back_eq, back_hp, inI_eq, inA_eq, true_and, and_true, and_self, if_true, if_false, bI_0, bI_1, bI_in, bI_T, bI_F, fitF, jmpF, nlF, pjA, iVal.eta, iYr.eta, List.getElem?_toArray, List.length_cons, List.length_nil, true_or, or_true, or_false, false_or, Classical.not_not, Bool.false_eq_true, hp_2, Nat.zero_le, Nat.le_refl, Option.some.injEq, Sum.inl.injEq, Sum.inr.injEq, not_true_eq_false, true_implies, false_implies, implies_true, gX12_keep, isShelfR_eq, c])
theorem rel_keep (hR : Rel A) (hd : D < 8) {w k f : Int} {x : Nat} (hw : w = 0 ∨ w = 1) (hx : NatOK x) (h1 : w = 1 → (nK x : Int) = k ∧ nF x = f) : Rel ((A.sSh D ((iSh.mk (w) (x) ((A.sh D).so) ((A.sh D).sz) ((A.sh D).ca)))).sK (A.mo.ke.set D w) (A.mo.kk.set D k) (A.mo.kf.set D f)) := by
  have hS := hR.shs D hd
  have G : ∀ (l : List Int) (v : Int), l.length = 8 → (l.set D v).getD D 0 = v := fun l v hl => by
    rw [List.getD_eq_getElem?_getD, List.getElem?_set_self (by omega)]; rfl
  have hs : ((A.sSh D ((iSh.mk (w) (x) ((A.sh D).so) ((A.sh D).sz) ((A.sh D).ca)))).sK (A.mo.ke.set D w) (A.mo.kk.set D k) (A.mo.kf.set D f)).sh D = (iSh.mk (w) (x) ((A.sh D).so) ((A.sh D).sz) ((A.sh D).ca)) := sSh_sh
  have hc : ((A.sSh D ((iSh.mk (w) (x) ((A.sh D).so) ((A.sh D).sz) ((A.sh D).ca)))).sK (A.mo.ke.set D w) (A.mo.kk.set D k) (A.mo.kf.set D f)).cel D = A.cel D := by
    unfold iA.cel; rw [hs]; rfl
  have hca : ∀ e, ((A.sSh D ((iSh.mk (w) (x) ((A.sh D).so) ((A.sh D).sz) ((A.sh D).ca)))).sK (A.mo.ke.set D w) (A.mo.kk.set D k) (A.mo.kf.set D f)).sh e = if e = D then (iSh.mk (w) (x) ((A.sh D).so) ((A.sh D).sz) ((A.sh D).ca)) else A.sh e := fun e => rfl
  refine (Rel.mk hR.now hR.img hR.mnd hR.yr hR.ndy hR.idy hR.row hR.imd hR.him hR.imr hR.lim hR.lm hR.lwas hR.lwt hR.len hR.lod hR.lnu hR.lhe hR.lbh hR.lak hR.lfi hR.lth (by show (A.mo.ke.set _ _).length = 8; rw [List.length_set]; exact hR.lke) (by show (A.mo.kk.set _ _).length = 8; rw [List.length_set]; exact hR.lkk) (by show (A.mo.kf.set _ _).length = 8; rw [List.length_set]; exact hR.lkf) hR.lso hR.lsz hR.lel hR.lwv hR.lhb hR.lfm hR.lmk hR.lpt hR.lout (fun e he => ?_) (fun a b ha hb z => ?_))
  · by_cases c : e = D
    · subst c
      refine RelS.mk ?_ ?_ ?_ ?_ ?_ ?_ ?_ ?_ ?_ ?_ ?_ ?_ ?_ ?_
      · rw [hs]; exact G _ _ hR.lke
      · rw [hs]; show w = 0 ∨ w = 1 ∨ w = 2; omega
      · rw [hs]; exact hx
      · rw [hs]; intro z; exact (G _ _ hR.lkk).trans (h1 z).1.symm
      · rw [hs]; intro z; exact (G _ _ hR.lkf).trans (h1 z).2.symm
      · rw [hs]; exact hS.so
      · rw [hs]; exact hS.sz
      · rw [hs]; intro z; exfalso; have z : w = 2 := z; omega
      · rw [hs]; intro z; exfalso; have z : w = 2 := z; omega
      · rw [hs, hc]; exact hS.ca
      · rw [hs, hc]; exact hS.cl
      · rw [hs]; intro z; exfalso; have z : w = 2 := z; omega
      · rw [hs]; intro z; exfalso; have z : w = 2 := z; omega
      · rw [hs]; intro z; exfalso; have z : w = 2 := z; omega
    · have he2 := hca e
      rw [if_neg c] at he2
      refine relS_other (hR.shs e he) he2 (gsd (fun z => c z.symm)) (gsd (fun z => c z.symm)) (gsd (fun z => c z.symm)) rfl rfl (fun _ _ _ => rfl) (Nat.le_refl _) ?_
      unfold iA.cel; rw [he2]; rfl
  · rw [hca a, hca b] at z
    refine hR.inj a b ha hb ?_
    by_cases c : a = D <;> by_cases c2 : b = D
    · rw [c, c2]
    · rw [if_pos c, if_neg c2] at z; rw [c]; exact z
    · rw [if_neg c, if_pos c2] at z; rw [c2]; exact z
    · rw [if_neg c, if_neg c2] at z; exact z
end OPS
