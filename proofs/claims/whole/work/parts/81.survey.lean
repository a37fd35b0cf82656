set_option maxRecDepth 16384
/-! ===== all matchings: the class ===== -/
abbrev iLf : Type := Int × List Int × List Int
abbrev iTm : Type := Int × Int × List Int
def lvM (X : iVal) : Nat → Int → Int → Int → List Int → List Int → List iLf
  | 0, _, _, tog, wv, hb => [(tog, wv, hb)]
  | k + 1, m, s, tog, wv, hb => ((List.range' 0 (X.num 1).toNat).flatMap fun (w : Nat) => if gt0 hb (w : Int) = -1 then lvM X k (m + 1) s (tog + (X.lik 0 m (w : Int) + X.lik 1 (w : Int) m)) (wv.set m.toNat (w : Int)) (hb.set ((w : Int)).toNat m) else []) ++ (if 0 < s then lvM X k (m + 1) (s - 1) tog wv hb else [])
def mtM (X : iVal) (t : iTm) (l : iLf) : iTm := (t.1 + (if X.fl l.2.1 l.2.2 = -4 then 1 else 0), if t.2.1 < l.1 then l.1 else t.2.1, if t.2.1 < l.1 then l.2.1 else t.2.2)
def tOK (t : iTm) : Prop := (-1 ≤ t.2.1 ∧ t.2.1 ≤ 2000) ∧ t.2.2.length = 5
def lOK (l : iLf) : Prop := (0 ≤ l.1 ∧ l.1 ≤ 2000) ∧ l.2.1.length = 5
theorem mtM_ok {X : iVal} {t : iTm} {l : iLf} (ht : tOK t) (hl : lOK l) : tOK (mtM X t l) := by
  unfold tOK lOK mtM at *
  dsimp only
  by_cases c : t.2.1 < l.1
  · rw [if_pos c, if_pos c]; exact ⟨⟨by omega, hl.1.2⟩, hl.2⟩
  · rw [if_neg c, if_neg c]; exact ht
theorem foldM_ok {X : iVal} : ∀ (L : List iLf) (t : iTm), tOK t → (∀ l ∈ L, lOK l) → tOK (L.foldl (mtM X) t) := by
  intro L
  induction L with
  | nil => intro t h _; exact h
  | cons l L ih => intro t h hl; exact ih _ (mtM_ok h (hl l (List.mem_cons_self ..))) (fun x hx => hl x (List.mem_cons_of_mem _ hx))
theorem lvM_ok {X : iVal} (hO : OkV X) : ∀ (k : Nat) (m s tog : Int) (wv hb : List Int), 0 ≤ m → m + k = X.num 0 → 0 ≤ tog → tog ≤ 200 * m → wv.length = 5 → ∀ l ∈ lvM X k m s tog wv hb, lOK l := by
  have n0 := hO.n0
  have n1 := hO.n1
  intro k
  induction k with
  | zero =>
    intro m s tog wv hb h0 h1 h2 h3 h4 l hl
    rw [List.mem_singleton.mp hl]
    exact ⟨⟨h2, by show tog ≤ 2000; omega⟩, h4⟩
  | succ k ih =>
    intro m s tog wv hb h0 h1 h2 h3 h4 l hl
    unfold lvM at hl
    rw [List.mem_append, List.mem_flatMap] at hl
    rcases hl with ⟨w, hw, hl⟩ | hl
    · have wb := List.mem_range'_1.mp hw
      have l1 := hO.lik 0 m (w : Int) (by omega) (by omega) h0 (by omega) (by omega) (by omega)
      have l2 := hO.lik 1 (w : Int) m (by omega) (by omega) (by omega) (by omega) h0 (by omega)
      by_cases c : gt0 hb (w : Int) = -1
      · rw [if_pos c] at hl
        exact ih _ _ _ _ _ (by omega) (by omega) (by omega) (by omega) (by rw [List.length_set]; exact h4) l hl
      · rw [if_neg c] at hl; exact absurd hl (List.not_mem_nil)
    · by_cases c : 0 < s
      · rw [if_pos c] at hl
        exact ih _ _ _ _ _ (by omega) (by omega) h2 (by omega) h4 l hl
      · rw [if_neg c] at hl; exact absurd hl (List.not_mem_nil)
def iA.sV (A : iA) (wv hb : List Int) (t : iTm) : iA := (iA.mk A.now A.img A.mnd A.imd A.yr ((iMt.mk (wv) (hb) (t.2.2) A.mt.ak (t.1) (t.2.1))) A.sh A.pt A.mo A.out A.ext A.mc)
section OPS
variable {sp : Nat → List iV → iH → Option (Option iV × iH)} {sc : List Int} {d : Nat} {A : iA} {Q : Option iV → iH → Prop} {h : iH} {X : iVal} {e g B : Int} {wv hb : List Int} {t : iTm}
theorem sV_wv : (A.sV wv hb t).mt.wv = wv := rfl
theorem sV_hb : (A.sV wv hb t).mt.hb = hb := rfl
theorem sV_fm : (A.sV wv hb t).mt.fm = t.2.2 := rfl
theorem sV_un : (A.sV wv hb t).mt.un = t.1 := rfl
theorem sV_ml : (A.sV wv hb t).mt.ml = t.2.1 := rfl
theorem sV_now : (A.sV wv hb t).now = A.now := rfl
theorem sV_v : (A.sV wv hb t).v .now = A.now := rfl
theorem sV_sM {a b : List Int} : (A.sV wv hb t).sM a b = A.sV a b t := rfl
theorem wr_Vm {a b : Int} : ((hp (A.sV wv hb t)).1.set 13 (.inl (4, [.inr (.inr (vb .now + 2)), .inr (.inr 16), .inr (.inr 17), .inr (.inr 18), .inr (.inr 19), .inl a, .inl b])), (A.sV wv hb t).mc) = hp (A.sV wv hb (a, b, t.2.2)) := wr_m
theorem wr_Vf {l : List Int} : ((hp (A.sV wv hb t)).1.set 16 (.inr (.inl (0, l))), (A.sV wv hb t).mc) = hp (A.sV wv hb (t.1, t.2.1, l)) := wr_m3
theorem back_sV {a b a' b' : List Int} {t t' : iTm} {L : List (Option iV)} {rest : List iV} : back (hp (A.sV a b t)) (hp (A.sV a' b' t')) L rest = True := back_hp rfl (Nat.le_refl _)
theorem both_eq (hO : OkV A.now) {m w : Int} (h0 : 0 ≤ m) (h1 : m < 5) (h2 : 0 ≤ w) (h3 : w < 5) : Call sp sc (d + 1) mX4_likingOfBoth [.inr (.inr 15), .inl m, .inl w] (hp A) Q = Q (some (.inl (A.now.lik 0 m w + A.now.lik 1 w m))) (hp A) := Call_eq (by
  have hO2 : OkV (A.v .now) := hO
  apply eX4_likingOfBoth 40
  simp (disch := first | assumption | rfl | exact inI_of (by omega) (by omega) | omega | decide | (simp only [sv_ext, sv_mc, Nat.le_refl]; done) | with_unfolding_all (refine @id _ ?_; first | exact Eq.refl _ | exact Nat.le_refl _ | assumption)) only [Nat.reduceAdd, Nat.reduceMul, Nat.reduceLeDiff, Nat.reduceLT, Int.reduceAdd, Int.reduceSub, Int.reduceMul, Int.reduceNeg, Int.reduceLE, Int.reduceLT, Int.reduceToNat, Int.reduceEq, reduceCtorEq, ld_z, ld_s, st1_0, st1_1, st1_s, st2_0, st2_1, st2_s, isJ_i, isJ_r, isJ_n, isJ_l, cs_nil, cs_i, cs_r, cs_l, kF, List.getElem?_cons_succ, List.getElem?_cons_zero, List.set_cons_zero, List.set_cons_succ, GC_s, GC_n, GK_nil, GK_no, GK_yes, not_false_eq_true, back_eq, back_hp, inI_eq, inA_eq, true_and, and_true, and_self, if_true, if_false, bI_0, bI_1, bI_in, bI_T, bI_F, fitF, jmpF, nlF, pjA, iVal.eta, iYr.eta, List.getElem?_toArray, List.length_cons, List.length_nil, true_or, or_true, or_false, false_or, Classical.not_not, Bool.false_eq_true, hp_2, Nat.zero_le, Nat.le_refl, Option.some.injEq, Sum.inl.injEq, Sum.inr.injEq, not_true_eq_false, true_implies, false_implies, implies_true, Int.le_refl, rd_v, f_num, f_lik, f_dep, f_bnd, f_man, f_wom, f_sta, f_dds, f_who, rd_e, v_now, hasOne_eq, hasTwo_eq, hasCouple_eq, orNone_eq, natureOf_eq, rd_nat, place_eq, rd_v1, rd_v3, rd_v4, rd_v6, rd_v7, rd_v8, rd_v9, rd_v10, isShelf_eq, isSide_eq, isDeed_eq, isKind_eq, isMindSpan_eq, gX4_likingOfBoth, rd_m, liking_eq])
theorem note_eq (hO : OkV A.now) (hM : OkM A.now wv hb) (ht : tOK t) {tog : Int} (h0 : 0 ≤ tog) (h1 : tog ≤ 2000) : Call sp sc (d + 4) mX4_noteMatching [.inr (.inr 15), .inl tog] (hp (A.sV wv hb t)) Q = Q none (hp (A.sV wv hb (mtM A.now t (tog, wv, hb)))) := Call_eq (by
  have fl := fun Q => @firstLeaving_eq sp sc d (A.sV wv hb t) Q hO hM
  have n0 := hO.n0
  have fb : -4 ≤ A.now.fl wv hb ∧ A.now.fl wv hb < 100 := flO_b hO _ 0 (by omega) (by omega)
  have fl : ∀ Q, Call sp sc (d + 3) mX4_firstLeaving [.inr (.inr 15)] (hp (A.sV wv hb t)) Q = Q (some (.inl (A.now.fl wv hb))) (hp (A.sV wv hb t)) := fl
  have lw := hM.lw
  have lf := ht.2
  have mb := ht.1
  have it : inI t.2.1 = true := inI_of (by omega) (by omega)
  have io : inI tog = true := inI_of (by omega) (by omega)
  have g1 : fetch mX4_noteMatching 43 = some (.invokestatic 91) := by decide +kernel
  have g2 : lk2 xTab (oY mX4_noteMatching) 91 = none := by decide +kernel
  have g3 : isIn yTab (oY mX4_noteMatching) 91 = true := by decide +kernel
  have i3 : in3 0 0 5 5 5 = true := by decide
  have r1 : ∀ a b : Int, (hp (A.sV wv hb (a, b, t.2.2))).1[14]? = some (.inr (.inl (0, wv))) := fun a b => rfl
  have r2 : ∀ a b : Int, (hp (A.sV wv hb (a, b, t.2.2))).1[16]? = some (.inr (.inl (0, t.2.2))) := fun a b => rfl
  have lt0 : (0 : Nat) < 2 := by decide
  have ca := cpy_all lw lf
  unfold mtM
  dsimp only
  apply eX4_noteMatching 60
  by_cases z : A.now.fl wv hb = -4
  · rw [z] at fl
    rw [if_pos z]
    by_cases y : t.2.1 < tog
    · rw [if_pos y, if_pos y]
      have y2 : ¬ tog ≤ t.2.1 := by omega
      simp (disch := first | assumption | rfl | exact inI_of (by omega) (by omega) | omega | decide | (simp only [sv_ext, sv_mc, Nat.le_refl]; done) | with_unfolding_all (refine @id _ ?_; first | exact Eq.refl _ | exact Nat.le_refl _ | assumption)) only [Nat.reduceAdd, Nat.reduceMul, Nat.reduceLeDiff, Nat.reduceLT, Int.reduceAdd, Int.reduceSub, Int.reduceMul, Int.reduceNeg, Int.reduceLE, Int.reduceLT, Int.reduceToNat, Int.reduceEq, reduceCtorEq, ld_z, ld_s, st1_0, st1_1, st1_s, st2_0, st2_1, st2_s, isJ_i, isJ_r, isJ_n, isJ_l, cs_nil, cs_i, cs_r, cs_l, kF, List.getElem?_cons_succ, List.getElem?_cons_zero, List.set_cons_zero, List.set_cons_succ, GC_s, GC_n, GK_nil, GK_no, GK_yes, not_false_eq_true, back_eq, back_hp, inI_eq, inA_eq, true_and, and_true, and_self, if_true, if_false, bI_0, bI_1, bI_in, bI_T, bI_F, fitF, jmpF, nlF, pjA, iVal.eta, iYr.eta, List.getElem?_toArray, List.length_cons, List.length_nil, true_or, or_true, or_false, false_or, Classical.not_not, Bool.false_eq_true, hp_2, Nat.zero_le, Nat.le_refl, Option.some.injEq, Sum.inl.injEq, Sum.inr.injEq, not_true_eq_false, true_implies, false_implies, implies_true, Int.le_refl, rd_v, f_num, f_lik, f_dep, f_bnd, f_man, f_wom, f_sta, f_dds, f_who, rd_e, v_now, hasOne_eq, hasTwo_eq, hasCouple_eq, orNone_eq, natureOf_eq, rd_nat, place_eq, rd_v1, rd_v3, rd_v4, rd_v6, rd_v7, rd_v8, rd_v9, rd_v10, isShelf_eq, isSide_eq, isDeed_eq, isKind_eq, isMindSpan_eq, gX4_noteMatching, rd_m, fl, sV_un, sV_ml, wr_Vm, y2, io, it, G_copyI g1 g2 g3 (r1 _ _) (r2 _ _) lt0, lw, lf, i3, ca, wr_Vf, Int.toNat_zero]
    · rw [if_neg y, if_neg y]
      have y2 : tog ≤ t.2.1 := by omega
      simp (disch := first | assumption | rfl | exact inI_of (by omega) (by omega) | omega | decide | (simp only [sv_ext, sv_mc, Nat.le_refl]; done) | with_unfolding_all (refine @id _ ?_; first | exact Eq.refl _ | exact Nat.le_refl _ | assumption)) only [Nat.reduceAdd, Nat.reduceMul, Nat.reduceLeDiff, Nat.reduceLT, Int.reduceAdd, Int.reduceSub, Int.reduceMul, Int.reduceNeg, Int.reduceLE, Int.reduceLT, Int.reduceToNat, Int.reduceEq, reduceCtorEq, ld_z, ld_s, st1_0, st1_1, st1_s, st2_0, st2_1, st2_s, isJ_i, isJ_r, isJ_n, isJ_l, cs_nil, cs_i, cs_r, cs_l, kF, List.getElem?_cons_succ, List.getElem?_cons_zero, List.set_cons_zero, List.set_cons_succ, GC_s, GC_n, GK_nil, GK_no, GK_yes, not_false_eq_true, back_eq, back_hp, inI_eq, inA_eq, true_and, and_true, and_self, if_true, if_false, bI_0, bI_1, bI_in, bI_T, bI_F, fitF, jmpF, nlF, pjA, iVal.eta, iYr.eta, List.getElem?_toArray, List.length_cons, List.length_nil, true_or, or_true, or_false, false_or, Classical.not_not, Bool.false_eq_true, hp_2, Nat.zero_le, Nat.le_refl, Option.some.injEq, Sum.inl.injEq, Sum.inr.injEq, not_true_eq_false, true_implies, false_implies, implies_true, Int.le_refl, rd_v, f_num, f_lik, f_dep, f_bnd, f_man, f_wom, f_sta, f_dds, f_who, rd_e, v_now, hasOne_eq, hasTwo_eq, hasCouple_eq, orNone_eq, natureOf_eq, rd_nat, place_eq, rd_v1, rd_v3, rd_v4, rd_v6, rd_v7, rd_v8, rd_v9, rd_v10, isShelf_eq, isSide_eq, isDeed_eq, isKind_eq, isMindSpan_eq, gX4_noteMatching, rd_m, fl, sV_un, sV_ml, wr_Vm, y2, io, it]
  · rw [if_neg z]
    by_cases y : t.2.1 < tog
    · rw [if_pos y, if_pos y]
      have y2 : ¬ tog ≤ t.2.1 := by omega
      simp (disch := first | assumption | rfl | exact inI_of (by omega) (by omega) | omega | decide | (simp only [sv_ext, sv_mc, Nat.le_refl]; done) | with_unfolding_all (refine @id _ ?_; first | exact Eq.refl _ | exact Nat.le_refl _ | assumption)) only [Nat.reduceAdd, Nat.reduceMul, Nat.reduceLeDiff, Nat.reduceLT, Int.reduceAdd, Int.reduceSub, Int.reduceMul, Int.reduceNeg, Int.reduceLE, Int.reduceLT, Int.reduceToNat, Int.reduceEq, reduceCtorEq, ld_z, ld_s, st1_0, st1_1, st1_s, st2_0, st2_1, st2_s, isJ_i, isJ_r, isJ_n, isJ_l, cs_nil, cs_i, cs_r, cs_l, kF, List.getElem?_cons_succ, List.getElem?_cons_zero, List.set_cons_zero, List.set_cons_succ, GC_s, GC_n, GK_nil, GK_no, GK_yes, not_false_eq_true, back_eq, back_hp, inI_eq, inA_eq, true_and, and_true, and_self, if_true, if_false, bI_0, bI_1, bI_in, bI_T, bI_F, fitF, jmpF, nlF, pjA, iVal.eta, iYr.eta, List.getElem?_toArray, List.length_cons, List.length_nil, true_or, or_true, or_false, false_or, Classical.not_not, Bool.false_eq_true, hp_2, Nat.zero_le, Nat.le_refl, Option.some.injEq, Sum.inl.injEq, Sum.inr.injEq, not_true_eq_false, true_implies, false_implies, implies_true, Int.le_refl, rd_v, f_num, f_lik, f_dep, f_bnd, f_man, f_wom, f_sta, f_dds, f_who, rd_e, v_now, hasOne_eq, hasTwo_eq, hasCouple_eq, orNone_eq, natureOf_eq, rd_nat, place_eq, rd_v1, rd_v3, rd_v4, rd_v6, rd_v7, rd_v8, rd_v9, rd_v10, isShelf_eq, isSide_eq, isDeed_eq, isKind_eq, isMindSpan_eq, gX4_noteMatching, rd_m, fl, z, sV_un, sV_ml, wr_Vm, y2, io, it, G_copyI g1 g2 g3 (r1 _ _) (r2 _ _) lt0, lw, lf, i3, ca, wr_Vf, Int.toNat_zero, Int.add_zero]
    · rw [if_neg y, if_neg y]
      have y2 : tog ≤ t.2.1 := by omega
      simp (disch := first | assumption | rfl | exact inI_of (by omega) (by omega) | omega | decide | (simp only [sv_ext, sv_mc, Nat.le_refl]; done) | with_unfolding_all (refine @id _ ?_; first | exact Eq.refl _ | exact Nat.le_refl _ | assumption)) only [Nat.reduceAdd, Nat.reduceMul, Nat.reduceLeDiff, Nat.reduceLT, Int.reduceAdd, Int.reduceSub, Int.reduceMul, Int.reduceNeg, Int.reduceLE, Int.reduceLT, Int.reduceToNat, Int.reduceEq, reduceCtorEq, ld_z, ld_s, st1_0, st1_1, st1_s, st2_0, st2_1, st2_s, isJ_i, isJ_r, isJ_n, isJ_l, cs_nil, cs_i, cs_r, cs_l, kF, List.getElem?_cons_succ, List.getElem?_cons_zero, List.set_cons_zero, List.set_cons_succ, GC_s, GC_n, GK_nil, GK_no, GK_yes, not_false_eq_true, back_eq, back_hp, inI_eq, inA_eq, true_and, and_true, and_self, if_true, if_false, bI_0, bI_1, bI_in, bI_T, bI_F, fitF, jmpF, nlF, pjA, iVal.eta, iYr.eta, List.getElem?_toArray, List.length_cons, List.length_nil, true_or, or_true, or_false, false_or, Classical.not_not, Bool.false_eq_true, hp_2, Nat.zero_le, Nat.le_refl, Option.some.injEq, Sum.inl.injEq, Sum.inr.injEq, not_true_eq_false, true_implies, false_implies, implies_true, Int.le_refl, rd_v, f_num, f_lik, f_dep, f_bnd, f_man, f_wom, f_sta, f_dds, f_who, rd_e, v_now, hasOne_eq, hasTwo_eq, hasCouple_eq, orNone_eq, natureOf_eq, rd_nat, place_eq, rd_v1, rd_v3, rd_v4, rd_v6, rd_v7, rd_v8, rd_v9, rd_v10, isShelf_eq, isSide_eq, isDeed_eq, isKind_eq, isMindSpan_eq, gX4_noteMatching, rd_m, fl, z, sV_un, sV_ml, wr_Vm, y2, io, it, Int.add_zero])
theorem set_back {l : List Int} {i v : Int} (hi : 0 ≤ i) (hl : i < (l.length : Int)) (hv : gt0 l i = -1) : (l.set i.toNat v).set i.toNat (-1) = l := by
  rw [List.set_set]
  apply List.ext_getElem
  · rw [List.length_set]
  · intro j a b
    rw [List.getElem_set]
    split
    · rename_i c
      rw [← hv]
      unfold gt0
      rw [List.getD_eq_getElem?_getD, c, List.getElem?_eq_getElem b]; rfl
    · rfl
theorem tryMan_eq (hO : OkV A.now) : ∀ (k : Nat) (m s tog : Int) (wv hb : List Int) (t : iTm) (Q : Option iV → iH → Prop), OkM A.now wv hb → (∀ j, m ≤ j → j < 5 → gt0 wv j = -1) → tOK t → 0 ≤ m → m + k = A.now.num 0 → 0 ≤ s → s ≤ 5 → 0 ≤ tog → tog ≤ 200 * m → Call sp sc (d + 5 + k) mX4_tryMan [.inr (.inr 15), .inl m, .inl s, .inl tog] (hp (A.sV wv hb t)) Q = Q none (hp (A.sV wv hb ((lvM A.now k m s tog wv hb).foldl (mtM A.now) t))) := by
  have n0 := hO.n0
  have n1 := hO.n1
  have lo := hO.lon
  intro k
  induction k with
  | zero =>
    intro m s tog wv hb t Q hM hw ht h0 h1 h2 h3 h4 h5
    refine Call_eq ?_
    have nt := fun Q => @note_eq sp sc d A Q wv hb t hO hM ht tog h4 (by omega)
    apply eX4_tryMan 40
    have e1 : A.now.num 0 ≤ m := by omega
    simp (disch := first | assumption | rfl | exact inI_of (by omega) (by omega) | omega | decide | (simp only [sv_ext, sv_mc, Nat.le_refl]; done) | with_unfolding_all (refine @id _ ?_; first | exact Eq.refl _ | exact Nat.le_refl _ | assumption)) only [Nat.reduceAdd, Nat.reduceMul, Nat.reduceLeDiff, Nat.reduceLT, Int.reduceAdd, Int.reduceSub, Int.reduceMul, Int.reduceNeg, Int.reduceLE, Int.reduceLT, Int.reduceToNat, Int.reduceEq, reduceCtorEq, ld_z, ld_s, st1_0, st1_1, st1_s, st2_0, st2_1, st2_s, isJ_i, isJ_r, isJ_n, isJ_l, cs_nil, cs_i, cs_r, cs_l, kF, List.getElem?_cons_succ, List.getElem?_cons_zero, List.set_cons_zero, List.set_cons_succ, GC_s, GC_n, GK_nil, GK_no, GK_yes, not_false_eq_true, back_eq, back_hp, inI_eq, inA_eq, true_and, and_true, and_self, if_true, if_false, bI_0, bI_1, bI_in, bI_T, bI_F, fitF, jmpF, nlF, pjA, iVal.eta, iYr.eta, List.getElem?_toArray, List.length_cons, List.length_nil, true_or, or_true, or_false, false_or, Classical.not_not, Bool.false_eq_true, hp_2, Nat.zero_le, Nat.le_refl, Option.some.injEq, Sum.inl.injEq, Sum.inr.injEq, not_true_eq_false, true_implies, false_implies, implies_true, Int.le_refl, rd_v, f_num, f_lik, f_dep, f_bnd, f_man, f_wom, f_sta, f_dds, f_who, rd_e, v_now, hasOne_eq, hasTwo_eq, hasCouple_eq, orNone_eq, natureOf_eq, rd_nat, place_eq, rd_v1, rd_v3, rd_v4, rd_v6, rd_v7, rd_v8, rd_v9, rd_v10, isShelf_eq, isSide_eq, isDeed_eq, isKind_eq, isMindSpan_eq, gX4_tryMan, rd_m, sV_v, sV_now, lo, f_n0, e1, nt, back_sV]
    rfl
  | succ k ih =>
    intro m s tog wv hb t Q hM hw ht h0 h1 h2 h3 h4 h5
    refine Call_eq ?_
    have e1 : ¬ A.now.num 0 ≤ m := by omega
    have e2 : m < 5 := by omega
    have e3 : ¬ 5 ≤ m := by omega
    apply eX4_tryMan 40
    simp (disch := first | assumption | rfl | exact inI_of (by omega) (by omega) | omega | decide | (simp only [sv_ext, sv_mc, Nat.le_refl]; done) | with_unfolding_all (refine @id _ ?_; first | exact Eq.refl _ | exact Nat.le_refl _ | assumption)) only [Nat.reduceAdd, Nat.reduceMul, Nat.reduceLeDiff, Nat.reduceLT, Int.reduceAdd, Int.reduceSub, Int.reduceMul, Int.reduceNeg, Int.reduceLE, Int.reduceLT, Int.reduceToNat, Int.reduceEq, reduceCtorEq, ld_z, ld_s, st1_0, st1_1, st1_s, st2_0, st2_1, st2_s, isJ_i, isJ_r, isJ_n, isJ_l, cs_nil, cs_i, cs_r, cs_l, kF, List.getElem?_cons_succ, List.getElem?_cons_zero, List.set_cons_zero, List.set_cons_succ, GC_s, GC_n, GK_nil, GK_no, GK_yes, not_false_eq_true, back_eq, back_hp, inI_eq, inA_eq, true_and, and_true, and_self, if_true, if_false, bI_0, bI_1, bI_in, bI_T, bI_F, fitF, jmpF, nlF, pjA, iVal.eta, iYr.eta, List.getElem?_toArray, List.length_cons, List.length_nil, true_or, or_true, or_false, false_or, Classical.not_not, Bool.false_eq_true, hp_2, Nat.zero_le, Nat.le_refl, Option.some.injEq, Sum.inl.injEq, Sum.inr.injEq, not_true_eq_false, true_implies, false_implies, implies_true, Int.le_refl, rd_v, f_num, f_lik, f_dep, f_bnd, f_man, f_wom, f_sta, f_dds, f_who, rd_e, v_now, hasOne_eq, hasTwo_eq, hasCouple_eq, orNone_eq, natureOf_eq, rd_nat, place_eq, rd_v1, rd_v3, rd_v4, rd_v6, rd_v7, rd_v8, rd_v9, rd_v10, isShelf_eq, isSide_eq, isDeed_eq, isKind_eq, isMindSpan_eq, gX4_tryMan, rd_m, sV_v, sV_now, lo, f_n0, e1, e2, e3]
    have lv : lvM A.now (k + 1) m s tog wv hb = ((List.range' 0 (A.now.num 1).toNat).flatMap fun (w : Nat) => if gt0 hb (w : Int) = -1 then lvM A.now k (m + 1) s (tog + (A.now.lik 0 m (w : Int) + A.now.lik 1 (w : Int) m)) (wv.set m.toNat (w : Int)) (hb.set ((w : Int)).toNat m) else []) ++ (if 0 < s then lvM A.now k (m + 1) (s - 1) tog wv hb else []) := rfl
    rw [lv, List.foldl_append]
    have wm := hw m (Int.le_refl _) (by omega)
    have lw := hM.lw
    have lh := hM.lh
    have single : ∀ (t : iTm), tOK t → ∀ Q : Option iV → iH → Prop, Q none (hp (A.sV wv hb ((if 0 < s then lvM A.now k (m + 1) (s - 1) tog wv hb else []).foldl (mtM A.now) t))) → Run sp sc (d + 5 + k + 1) mX4_tryMan 31 [some (.inr (.inr 15)), some (.inl m), some (.inl s), some (.inl tog), some (.inr (.inr (vb .now + 2))), some (.inl (A.now.num 1))] [] (hp (A.sV wv hb t)) Q := fun t ht Q hq => by
      refine G_run (B := [31]) 60 _ _ _ _ ?_
      by_cases c : 0 < s
      · rw [if_pos c] at hq
        have c2 : ¬ s ≤ 0 := by omega
        have rcc := fun Q => ih (m + 1) (s - 1) tog wv hb t Q hM (fun j a b => hw j (by omega) b) ht (by omega) (by omega) (by omega) (by omega) h4 (by omega)
        simp (disch := first | assumption | rfl | exact inI_of (by omega) (by omega) | omega | decide | (simp only [sv_ext, sv_mc, Nat.le_refl]; done) | with_unfolding_all (refine @id _ ?_; first | exact Eq.refl _ | exact Nat.le_refl _ | assumption)) only [Nat.reduceAdd, Nat.reduceMul, Nat.reduceLeDiff, Nat.reduceLT, Int.reduceAdd, Int.reduceSub, Int.reduceMul, Int.reduceNeg, Int.reduceLE, Int.reduceLT, Int.reduceToNat, Int.reduceEq, reduceCtorEq, ld_z, ld_s, st1_0, st1_1, st1_s, st2_0, st2_1, st2_s, isJ_i, isJ_r, isJ_n, isJ_l, cs_nil, cs_i, cs_r, cs_l, kF, List.getElem?_cons_succ, List.getElem?_cons_zero, List.set_cons_zero, List.set_cons_succ, GC_s, GC_n, GK_nil, GK_no, GK_yes, not_false_eq_true, back_eq, back_hp, inI_eq, inA_eq, true_and, and_true, and_self, if_true, if_false, bI_0, bI_1, bI_in, bI_T, bI_F, fitF, jmpF, nlF, pjA, iVal.eta, iYr.eta, List.getElem?_toArray, List.length_cons, List.length_nil, true_or, or_true, or_false, false_or, Classical.not_not, Bool.false_eq_true, hp_2, Nat.zero_le, Nat.le_refl, Option.some.injEq, Sum.inl.injEq, Sum.inr.injEq, not_true_eq_false, true_implies, false_implies, implies_true, Int.le_refl, rd_v, f_num, f_lik, f_dep, f_bnd, f_man, f_wom, f_sta, f_dds, f_who, rd_e, v_now, hasOne_eq, hasTwo_eq, hasCouple_eq, orNone_eq, natureOf_eq, rd_nat, place_eq, rd_v1, rd_v3, rd_v4, rd_v6, rd_v7, rd_v8, rd_v9, rd_v10, isShelf_eq, isSide_eq, isDeed_eq, isKind_eq, isMindSpan_eq, gX4_tryMan, rd_m, sV_v, sV_now, lo, f_n1, c2, rcc, back_sV]
        exact hq
      · rw [if_neg c] at hq
        have c2 : s ≤ 0 := by omega
        simp (disch := first | assumption | rfl | exact inI_of (by omega) (by omega) | omega | decide | (simp only [sv_ext, sv_mc, Nat.le_refl]; done) | with_unfolding_all (refine @id _ ?_; first | exact Eq.refl _ | exact Nat.le_refl _ | assumption)) only [Nat.reduceAdd, Nat.reduceMul, Nat.reduceLeDiff, Nat.reduceLT, Int.reduceAdd, Int.reduceSub, Int.reduceMul, Int.reduceNeg, Int.reduceLE, Int.reduceLT, Int.reduceToNat, Int.reduceEq, reduceCtorEq, ld_z, ld_s, st1_0, st1_1, st1_s, st2_0, st2_1, st2_s, isJ_i, isJ_r, isJ_n, isJ_l, cs_nil, cs_i, cs_r, cs_l, kF, List.getElem?_cons_succ, List.getElem?_cons_zero, List.set_cons_zero, List.set_cons_succ, GC_s, GC_n, GK_nil, GK_no, GK_yes, not_false_eq_true, back_eq, back_hp, inI_eq, inA_eq, true_and, and_true, and_self, if_true, if_false, bI_0, bI_1, bI_in, bI_T, bI_F, fitF, jmpF, nlF, pjA, iVal.eta, iYr.eta, List.getElem?_toArray, List.length_cons, List.length_nil, true_or, or_true, or_false, false_or, Classical.not_not, Bool.false_eq_true, hp_2, Nat.zero_le, Nat.le_refl, Option.some.injEq, Sum.inl.injEq, Sum.inr.injEq, not_true_eq_false, true_implies, false_implies, implies_true, Int.le_refl, rd_v, f_num, f_lik, f_dep, f_bnd, f_man, f_wom, f_sta, f_dds, f_who, rd_e, v_now, hasOne_eq, hasTwo_eq, hasCouple_eq, orNone_eq, natureOf_eq, rd_nat, place_eq, rd_v1, rd_v3, rd_v4, rd_v6, rd_v7, rd_v8, rd_v9, rd_v10, isShelf_eq, isSide_eq, isDeed_eq, isKind_eq, isMindSpan_eq, gX4_tryMan, rd_m, sV_v, sV_now, lo, f_n1, c2]
        exact hq
    have L : ∀ (n c : Nat) (t : iTm), ((c : Int) + (n : Int) = A.now.num 1) → tOK t → ∀ Q : Option iV → iH → Prop, Q none (hp (A.sV wv hb ((if 0 < s then lvM A.now k (m + 1) (s - 1) tog wv hb else []).foldl (mtM A.now) (((List.range' c n).flatMap fun (w : Nat) => if gt0 hb (w : Int) = -1 then lvM A.now k (m + 1) s (tog + (A.now.lik 0 m (w : Int) + A.now.lik 1 (w : Int) m)) (wv.set m.toNat (w : Int)) (hb.set ((w : Int)).toNat m) else []).foldl (mtM A.now) t)))) → Run sp sc (d + 5 + k + 1) mX4_tryMan 31 [some (.inr (.inr 15)), some (.inl m), some (.inl s), some (.inl tog), some (.inr (.inr (vb .now + 2))), some (.inl (c : Int))] [] (hp (A.sV wv hb t)) Q := by
      intro n
      induction n with
      | zero =>
        intro c t hc ht Q hq
        have : (c : Int) = A.now.num 1 := by omega
        rw [this]
        exact single t ht Q hq
      | succ n ihn =>
        intro c t hc ht Q hq
        have c0 : (0 : Int) ≤ (c : Int) := by omega
        have c1 : (c : Int) < A.now.num 1 := by omega
        have e4 : ¬ A.now.num 1 ≤ (c : Int) := by omega
        have e5 : (c : Int) + 1 = ((c + 1 : Nat) : Int) := by omega
        rw [List.range'_succ, List.flatMap_cons, List.foldl_append] at hq
        refine G_run (B := [31]) 60 _ _ _ _ ?_
        have hu := hM.hu (c : Int) c0 (by omega)
        by_cases f : gt0 hb (c : Int) = -1
        · rw [if_pos f] at hq
          have l1 := hO.lik 0 m (c : Int) (by omega) (by omega) h0 (by omega) c0 (by omega)
          have l2 := hO.lik 1 (c : Int) m (by omega) (by omega) c0 (by omega) h0 (by omega)
          have hM2 := okM_join hM h0 (by omega) (by omega) c0 c1 (by omega) wm f
          have jf := fun Q => @joinFree_yes sp sc (d + 4 + k) (A.sV wv hb t) Q m (c : Int) h0 (by omega) c0 (by omega) lw lh f
          have bo := fun Q => @both_eq sp sc (d + 4 + k) (A.sV (wv.set m.toNat (c : Int)) (hb.set ((c : Int)).toNat m) t) Q hO m (c : Int) h0 (by omega) c0 (by omega)
          have ed : d + 4 + k + 1 = d + 5 + k := by omega
          rw [ed] at bo jf
          simp only [sV_now] at bo
          simp only [sV_wv, sV_hb, sV_sM] at jf
          have rcc := fun Q => ih (m + 1) s (tog + (A.now.lik 0 m (c : Int) + A.now.lik 1 (c : Int) m)) (wv.set m.toNat (c : Int)) (hb.set ((c : Int)).toNat m) t Q hM2 (fun j a b => by rw [gt_set h0 (by omega) (by omega), if_neg (by omega)]; exact hw j (by omega) b) ht (by omega) (by omega) h2 h3 (by omega) (by omega)
          have lk := lvM_ok hO k (m + 1) s (tog + (A.now.lik 0 m (c : Int) + A.now.lik 1 (c : Int) m)) (wv.set m.toNat (c : Int)) (hb.set ((c : Int)).toNat m) (by omega) (by omega) (by omega) (by omega) (by rw [List.length_set]; exact lw)
          have ht2 := foldM_ok (X := A.now) _ t ht lk
          generalize (lvM A.now k (m + 1) s (tog + (A.now.lik 0 m (c : Int) + A.now.lik 1 (c : Int) m)) (wv.set m.toNat (c : Int)) (hb.set ((c : Int)).toNat m)).foldl (mtM A.now) t = t2 at *
          have pe := fun Q => @part_eq sp sc (d + 5 + k) (A.sV (wv.set m.toNat (c : Int)) (hb.set ((c : Int)).toNat m) t2) Q m (c : Int) h0 (by omega) c0 (by omega) (by show (wv.set _ _).length = 5; rw [List.length_set]; exact lw) (by show (hb.set _ _).length = 5; rw [List.length_set]; exact lh)
          simp only [sV_wv, sV_hb, sV_sM] at pe
          rw [set_back h0 (by omega) wm, set_back c0 (by omega) f] at pe
          simp (disch := first | assumption | rfl | exact inI_of (by omega) (by omega) | omega | decide | (simp only [sv_ext, sv_mc, Nat.le_refl]; done) | with_unfolding_all (refine @id _ ?_; first | exact Eq.refl _ | exact Nat.le_refl _ | assumption)) only [Nat.reduceAdd, Nat.reduceMul, Nat.reduceLeDiff, Nat.reduceLT, Int.reduceAdd, Int.reduceSub, Int.reduceMul, Int.reduceNeg, Int.reduceLE, Int.reduceLT, Int.reduceToNat, Int.reduceEq, reduceCtorEq, ld_z, ld_s, st1_0, st1_1, st1_s, st2_0, st2_1, st2_s, isJ_i, isJ_r, isJ_n, isJ_l, cs_nil, cs_i, cs_r, cs_l, kF, List.getElem?_cons_succ, List.getElem?_cons_zero, List.set_cons_zero, List.set_cons_succ, GC_s, GC_n, GK_nil, GK_no, GK_yes, not_false_eq_true, back_eq, back_hp, inI_eq, inA_eq, true_and, and_true, and_self, if_true, if_false, bI_0, bI_1, bI_in, bI_T, bI_F, fitF, jmpF, nlF, pjA, iVal.eta, iYr.eta, List.getElem?_toArray, List.length_cons, List.length_nil, true_or, or_true, or_false, false_or, Classical.not_not, Bool.false_eq_true, hp_2, Nat.zero_le, Nat.le_refl, Option.some.injEq, Sum.inl.injEq, Sum.inr.injEq, not_true_eq_false, true_implies, false_implies, implies_true, Int.le_refl, rd_v, f_num, f_lik, f_dep, f_bnd, f_man, f_wom, f_sta, f_dds, f_who, rd_e, v_now, hasOne_eq, hasTwo_eq, hasCouple_eq, orNone_eq, natureOf_eq, rd_nat, place_eq, rd_v1, rd_v3, rd_v4, rd_v6, rd_v7, rd_v8, rd_v9, rd_v10, isShelf_eq, isSide_eq, isDeed_eq, isKind_eq, isMindSpan_eq, gX4_tryMan, rd_m, sV_v, sV_now, lo, f_n1, e4, jf, bo, rcc, pe, back_sV, e5]
          exact ihn (c + 1) t2 (by omega) ht2 Q hq
        · rw [if_neg f] at hq
          have ig : inI (gt0 hb (c : Int)) = true := inI_of (by omega) (by omega)
          have jf := fun Q => @joinFree_no sp sc (d + 4 + k) (A.sV wv hb t) Q m (c : Int) c0 (by omega) lh f ig
          have ed : d + 4 + k + 1 = d + 5 + k := by omega
          rw [ed] at jf
          simp (disch := first | assumption | rfl | exact inI_of (by omega) (by omega) | omega | decide | (simp only [sv_ext, sv_mc, Nat.le_refl]; done) | with_unfolding_all (refine @id _ ?_; first | exact Eq.refl _ | exact Nat.le_refl _ | assumption)) only [Nat.reduceAdd, Nat.reduceMul, Nat.reduceLeDiff, Nat.reduceLT, Int.reduceAdd, Int.reduceSub, Int.reduceMul, Int.reduceNeg, Int.reduceLE, Int.reduceLT, Int.reduceToNat, Int.reduceEq, reduceCtorEq, ld_z, ld_s, st1_0, st1_1, st1_s, st2_0, st2_1, st2_s, isJ_i, isJ_r, isJ_n, isJ_l, cs_nil, cs_i, cs_r, cs_l, kF, List.getElem?_cons_succ, List.getElem?_cons_zero, List.set_cons_zero, List.set_cons_succ, GC_s, GC_n, GK_nil, GK_no, GK_yes, not_false_eq_true, back_eq, back_hp, inI_eq, inA_eq, true_and, and_true, and_self, if_true, if_false, bI_0, bI_1, bI_in, bI_T, bI_F, fitF, jmpF, nlF, pjA, iVal.eta, iYr.eta, List.getElem?_toArray, List.length_cons, List.length_nil, true_or, or_true, or_false, false_or, Classical.not_not, Bool.false_eq_true, hp_2, Nat.zero_le, Nat.le_refl, Option.some.injEq, Sum.inl.injEq, Sum.inr.injEq, not_true_eq_false, true_implies, false_implies, implies_true, Int.le_refl, rd_v, f_num, f_lik, f_dep, f_bnd, f_man, f_wom, f_sta, f_dds, f_who, rd_e, v_now, hasOne_eq, hasTwo_eq, hasCouple_eq, orNone_eq, natureOf_eq, rd_nat, place_eq, rd_v1, rd_v3, rd_v4, rd_v6, rd_v7, rd_v8, rd_v9, rd_v10, isShelf_eq, isSide_eq, isDeed_eq, isKind_eq, isMindSpan_eq, gX4_tryMan, rd_m, sV_v, sV_now, lo, f_n1, e4, jf, back_sV, e5]
          exact ihn (c + 1) t (by omega) ht Q hq
    refine L (A.now.num 1).toNat 0 t (by omega) ht _ ?_
    exact ⟨rfl, rfl⟩
def svF (X : iVal) (fm : List Int) : iTm := (lvM X (X.num 0).toNat 0 (if 0 < X.num 0 - X.num 1 then X.num 0 - X.num 1 else 0) 0 m5 m5).foldl (mtM X) (0, -1, fm)
theorem survey_eq (hO : OkV A.now) (l1 : A.mt.wv.length = 5) (l2 : A.mt.hb.length = 5) (l3 : A.mt.fm.length = 5) : Call sp sc 18 mX4_survey [.inr (.inr 15)] (hp A) Q = Q none (hp (A.sV m5 m5 (svF A.now A.mt.fm))) := Call_eq (by
  have n0 := hO.n0
  have n1 := hO.n1
  have lo := hO.lon
  have cl := fun Q => @clear_eq sp sc 17 A Q l1 l2
  have eS : A.sM m5 m5 = A.sV m5 m5 (A.mt.un, A.mt.ml, A.mt.fm) := rfl
  rw [eS] at cl
  have bk : ∀ (L : List (Option iV)) (rest : List iV), back (hp A) (hp (A.sV m5 m5 (A.mt.un, A.mt.ml, A.mt.fm))) L rest = True := fun L rest => back_hp rfl (Nat.le_refl _)
  obtain ⟨d, hd⟩ : ∃ d : Nat, d + 5 + (A.now.num 0).toNat = 17 := ⟨12 - (A.now.num 0).toNat, by omega⟩
  have tm := fun Q => @tryMan_eq sp sc d A hO (A.now.num 0).toNat 0 (if 0 < A.now.num 0 - A.now.num 1 then A.now.num 0 - A.now.num 1 else 0) 0 m5 m5 (0, -1, A.mt.fm) Q okM_m5 (fun j a b => gt_m5 a b) ⟨⟨Int.le_refl _, show (-1 : Int) ≤ 2000 by omega⟩, l3⟩ (by omega) (by omega) (by split <;> omega) (by split <;> omega) (by omega) (by omega)
  rw [hd] at tm
  apply eX4_survey 40
  simp (disch := first | assumption | rfl | exact inI_of (by omega) (by omega) | omega | decide | (simp only [sv_ext, sv_mc, Nat.le_refl]; done) | with_unfolding_all (refine @id _ ?_; first | exact Eq.refl _ | exact Nat.le_refl _ | assumption)) only [Nat.reduceAdd, Nat.reduceMul, Nat.reduceLeDiff, Nat.reduceLT, Int.reduceAdd, Int.reduceSub, Int.reduceMul, Int.reduceNeg, Int.reduceLE, Int.reduceLT, Int.reduceToNat, Int.reduceEq, reduceCtorEq, ld_z, ld_s, st1_0, st1_1, st1_s, st2_0, st2_1, st2_s, isJ_i, isJ_r, isJ_n, isJ_l, cs_nil, cs_i, cs_r, cs_l, kF, List.getElem?_cons_succ, List.getElem?_cons_zero, List.set_cons_zero, List.set_cons_succ, GC_s, GC_n, GK_nil, GK_no, GK_yes, not_false_eq_true, back_eq, back_hp, inI_eq, inA_eq, true_and, and_true, and_self, if_true, if_false, bI_0, bI_1, bI_in, bI_T, bI_F, fitF, jmpF, nlF, pjA, iVal.eta, iYr.eta, List.getElem?_toArray, List.length_cons, List.length_nil, true_or, or_true, or_false, false_or, Classical.not_not, Bool.false_eq_true, hp_2, Nat.zero_le, Nat.le_refl, Option.some.injEq, Sum.inl.injEq, Sum.inr.injEq, not_true_eq_false, true_implies, false_implies, implies_true, Int.le_refl, rd_v, f_num, f_lik, f_dep, f_bnd, f_man, f_wom, f_sta, f_dds, f_who, rd_e, v_now, hasOne_eq, hasTwo_eq, hasCouple_eq, orNone_eq, natureOf_eq, rd_nat, place_eq, rd_v1, rd_v3, rd_v4, rd_v6, rd_v7, rd_v8, rd_v9, rd_v10, isShelf_eq, isSide_eq, isDeed_eq, isKind_eq, isMindSpan_eq, gX4_survey, rd_m, cl, bk, sV_un, sV_ml, wr_Vm, sV_v, sV_now, lo, f_n0, f_n1, tm, back_sV]
  rfl)
end OPS
