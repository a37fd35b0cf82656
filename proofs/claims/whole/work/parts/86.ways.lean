set_option maxRecDepth 16384
/-! ===== a call: ways ===== -/
/-- deeds of one more couple: in how many orders, how many deeds -/
def wyI : Nat → Int → Int × Int → Int × Int
  | 0, _, p => p
  | q + 1, k, p => wyI q (k + 1) ((p.1 * (p.2 + 1)).tdiv k, p.2 + 1)
def okW : Nat → Int → Int × Int → Bool
  | 0, _, p => decide (0 ≤ p.1 ∧ p.1 < 1000000000000000 ∧ 0 ≤ p.2 ∧ p.2 ≤ 24)
  | q + 1, k, p => decide (0 ≤ p.1 ∧ p.1 < 1000000000000000 ∧ 0 ≤ p.2 ∧ p.2 < 24) && okW q (k + 1) ((p.1 * (p.2 + 1)).tdiv k, p.2 + 1)
def wyL : List Nat → Int × Int → Int × Int
  | [], p => p
  | l :: r, p => wyL r (wyI l 1 p)
def okL : List Nat → Int × Int → Bool
  | [], p => decide (0 ≤ p.1 ∧ p.1 < 1000000000000000 ∧ 0 ≤ p.2 ∧ p.2 ≤ 24)
  | l :: r, p => okW l 1 p && okL r (wyI l 1 p)
theorem wy_all : ∀ a : Nat, a < 7 → ∀ b : Nat, b < 7 → ∀ c : Nat, c < 7 → ∀ f : Nat, f < 7 → okL [a, b, c, f] (1, 0) = true := by decide +kernel
theorem okW_end : ∀ (q : Nat) (k : Int) (p : Int × Int), okW q k p = true → okL [] (wyI q k p) = true := by
  intro q
  induction q with
  | zero => intro k p h; exact h
  | succ q ih =>
    intro k p h
    have h : (decide (0 ≤ p.1 ∧ p.1 < 1000000000000000 ∧ 0 ≤ p.2 ∧ p.2 < 24) && okW q (k + 1) ((p.1 * (p.2 + 1)).tdiv k, p.2 + 1)) = true := h
    rw [Bool.and_eq_true] at h
    exact ih _ _ h.2
theorem okL_pre : ∀ (l r : List Nat) (p : Int × Int), okL (l ++ r) p = true → (l = [] → okL [] p = true) → okL l p = true := by
  intro l
  induction l with
  | nil => intro r p _ h; exact h rfl
  | cons a l ih =>
    intro r p h _
    have h : (okW a 1 p && okL (l ++ r) (wyI a 1 p)) = true := h
    rw [Bool.and_eq_true] at h
    show (okW a 1 p && okL l (wyI a 1 p)) = true
    rw [Bool.and_eq_true]
    exact ⟨h.1, ih r _ h.2 (fun _ => okW_end a 1 p h.1)⟩
/-- deeds that a couple still has to do -/
def lfC (X : iVal) (c : Int) : Nat := if X.sta c = 0 then (6 - X.dds c).toNat else 0
def lfL (X : iVal) : Nat → Int → List Nat
  | 0, _ => []
  | k + 1, c => lfC X c :: lfL X k (c + 1)
section OPS
variable {sp : Nat → List iV → iH → Option (Option iV × iH)} {sc : List Int} {d : Nat} {A : iA} {Q : Option iV → iH → Prop} {h : iH} {X : iVal} {e g B : Int} {D V : Nat}
theorem lfC_b (hO : OkV X) {c : Int} (h0 : 0 ≤ c) (h1 : c < 4) : lfC X c < 7 := by
  have := hO.dds c h0 h1
  unfold lfC
  split <;> omega
theorem lfL_ok (hO : OkV X) : okL (lfL X X.cp.toNat 0) (1, 0) = true := by
  have hcp := hO.cp
  have b0 := lfC_b hO (c := 0) (by omega) (by omega)
  have b1 := lfC_b hO (c := 1) (by omega) (by omega)
  have b2 := lfC_b hO (c := 2) (by omega) (by omega)
  have b3 := lfC_b hO (c := 3) (by omega) (by omega)
  have k := wy_all _ b0 _ b1 _ b2 _ b3
  have o0 : okL [] ((1, 0) : Int × Int) = true := by decide
  have : X.cp.toNat = 0 ∨ X.cp.toNat = 1 ∨ X.cp.toNat = 2 ∨ X.cp.toNat = 3 ∨ X.cp.toNat = 4 := by omega
  rcases this with z | z | z | z | z
  · rw [z]; exact o0
  · rw [z]; exact okL_pre [lfC X 0] [lfC X 1, lfC X 2, lfC X 3] _ k (fun y => by cases y)
  · rw [z]; exact okL_pre [lfC X 0, lfC X 1] [lfC X 2, lfC X 3] _ k (fun y => by cases y)
  · rw [z]; exact okL_pre [lfC X 0, lfC X 1, lfC X 2] [lfC X 3] _ k (fun y => by cases y)
  · rw [z]; exact k
theorem wiC_loop {i c : Int} {n : Nat} (hn : n < 7) : ∀ (q : Nat) (k : Int) (p : Int × Int), okW q k p = true → 1 ≤ k → k + q = (n : Int) + 1 → Run sp sc d mX11_ways 61 [some (.inr (.inr 2)), some (.inl i), some (.inr (.inl (wyI q k p).1)), none, some (.inl (wyI q k p).2), some (.inl c), some (.inl (n : Int)), some (.inl ((n : Int) + 1))] [] (hp A) Q → Run sp sc d mX11_ways 61 [some (.inr (.inr 2)), some (.inl i), some (.inr (.inl p.1)), none, some (.inl p.2), some (.inl c), some (.inl (n : Int)), some (.inl k)] [] (hp A) Q := by
  intro q
  induction q with
  | zero =>
    intro k p hok h0 h1 hq
    have : k = (n : Int) + 1 := by omega
    rw [this]; exact hq
  | succ q ih =>
    intro k p hok h0 h1 hq
    have hok : (decide (0 ≤ p.1 ∧ p.1 < 1000000000000000 ∧ 0 ≤ p.2 ∧ p.2 < 24) && okW q (k + 1) ((p.1 * (p.2 + 1)).tdiv k, p.2 + 1)) = true := hok
    rw [Bool.and_eq_true, decide_eq_true_eq] at hok
    have ih := ih (k + 1) ((p.1 * (p.2 + 1)).tdiv k, p.2 + 1) hok.2 (by omega) (by omega) hq
    have e1 : ¬ (n : Int) < k := by omega
    have m1 : 0 ≤ p.1 * (p.2 + 1) := Int.mul_nonneg hok.1.1 (by omega)
    have m2 : p.1 * (p.2 + 1) ≤ 1000000000000000 * 24 := Int.mul_le_mul (by omega) (by omega) (by omega) (by omega)
    have jm : inJ (p.1 * (p.2 + 1)) = true := inJ_iff.mpr (by omega)
    have jk : inJ k = true := inJ_iff.mpr (by omega)
    have k0 : 0 < k := by omega
    refine G_run (B := [15, 61]) 60 _ _ _ _ ?_
    simp (disch := first | assumption | rfl | exact inI_of (by omega) (by omega) | omega | decide | (simp only [sv_ext, sv_mc, Nat.le_refl]; done) | with_unfolding_all (refine @id _ ?_; first | exact Eq.refl _ | exact Nat.le_refl _ | assumption)) only [Nat.reduceAdd, Nat.reduceMul, Nat.reduceLeDiff, Nat.reduceLT, Int.reduceAdd, Int.reduceSub, Int.reduceMul, Int.reduceNeg, Int.reduceLE, Int.reduceLT, Int.reduceToNat, Int.reduceEq, reduceCtorEq, ld_z, ld_s, st1_0, st1_1, st1_s, st2_0, st2_1, st2_s, isJ_i, isJ_r, isJ_n, isJ_l, cs_nil, cs_i, cs_r, cs_l, kF, List.getElem?_cons_succ, List.getElem?_cons_zero, List.set_cons_zero, List.set_cons_succ, GC_s, GC_n, GK_nil, GK_no, GK_yes, not_false_eq_true, back_eq, back_hp, inI_eq, inA_eq, true_and, and_true, and_self, if_true, if_false, bI_0, bI_1, bI_in, bI_T, bI_F, fitF, jmpF, nlF, pjA, iVal.eta, iYr.eta, List.getElem?_toArray, List.length_cons, List.length_nil, true_or, or_true, or_false, false_or, Classical.not_not, Bool.false_eq_true, hp_2, Nat.zero_le, Nat.le_refl, Option.some.injEq, Sum.inl.injEq, Sum.inr.injEq, not_true_eq_false, true_implies, false_implies, implies_true, Int.le_refl, gX11_ways, e1, jm, jk, k0]
    exact ih
theorem woC_loop (hO : OkV A.now) {i : Int} (ii : inI i = true) : ∀ (q : Nat) (c : Int) (p : Int × Int) (o6 o7 : Option iV), okL (lfL A.now q c) p = true → 0 ≤ c → c + q = A.now.cp → (∀ o6 o7, Run sp sc (d + 1) mX11_ways 15 [some (.inr (.inr 2)), some (.inl i), some (.inr (.inl (wyL (lfL A.now q c) p).1)), none, some (.inl (wyL (lfL A.now q c) p).2), some (.inl A.now.cp), o6, o7] [] (hp A) Q) → Run sp sc (d + 1) mX11_ways 15 [some (.inr (.inr 2)), some (.inl i), some (.inr (.inl p.1)), none, some (.inl p.2), some (.inl c), o6, o7] [] (hp A) Q := by
  have hcp := hO.cp
  intro q
  induction q with
  | zero =>
    intro c p o6 o7 hok h0 h1 hq
    have : c = A.now.cp := by omega
    rw [this]; exact hq _ _
  | succ q ih =>
    intro c p o6 o7 hok h0 h1 hq
    have hok : (okW (lfC A.now c) 1 p && okL (lfL A.now q (c + 1)) (wyI (lfC A.now c) 1 p)) = true := hok
    rw [Bool.and_eq_true] at hok
    have ih := fun o6 o7 => ih (c + 1) (wyI (lfC A.now c) 1 p) o6 o7 hok.2 (by omega) (by omega) hq
    have e1 : ¬ A.now.cp ≤ c := by omega
    have hO1 : OkV (A.v .now) := hO
    have go := fun Q => @goesOn_eq sp sc d A .now Q hO1 c h0 (by omega)
    have eg : (A.v .now).sta c = A.now.sta c := rfl
    rw [eg] at go
    have dd := hO.dds c h0 (by omega)
    have lb := lfC_b hO h0 (show c < 4 by omega)
    have tail : ∀ (z : Int), z = ((lfC A.now c : Nat) : Int) → Run sp sc (d + 1) mX11_ways 61 [some (.inr (.inr 2)), some (.inl i), some (.inr (.inl p.1)), none, some (.inl p.2), some (.inl c), some (.inl z), some (.inl 1)] [] (hp A) Q := fun z hz => by
      rw [hz]
      refine wiC_loop (d := d + 1) lb (lfC A.now c) 1 p hok.1 (by omega) (by omega) ?_
      have e2 : ((lfC A.now c : Nat) : Int) < ((lfC A.now c : Nat) : Int) + 1 := by omega
      have i2 : inI ((lfC A.now c : Nat) : Int) = true := inI_of (by omega) (by omega)
      have i3 : inI (((lfC A.now c : Nat) : Int) + 1) = true := inI_of (by omega) (by omega)
      refine G_run (B := [15, 61]) 60 _ _ _ _ ?_
      simp (disch := first | assumption | rfl | exact inI_of (by omega) (by omega) | omega | decide | (simp only [sv_ext, sv_mc, Nat.le_refl]; done) | with_unfolding_all (refine @id _ ?_; first | exact Eq.refl _ | exact Nat.le_refl _ | assumption)) only [Nat.reduceAdd, Nat.reduceMul, Nat.reduceLeDiff, Nat.reduceLT, Int.reduceAdd, Int.reduceSub, Int.reduceMul, Int.reduceNeg, Int.reduceLE, Int.reduceLT, Int.reduceToNat, Int.reduceEq, reduceCtorEq, ld_z, ld_s, st1_0, st1_1, st1_s, st2_0, st2_1, st2_s, isJ_i, isJ_r, isJ_n, isJ_l, cs_nil, cs_i, cs_r, cs_l, kF, List.getElem?_cons_succ, List.getElem?_cons_zero, List.set_cons_zero, List.set_cons_succ, GC_s, GC_n, GK_nil, GK_no, GK_yes, not_false_eq_true, back_eq, back_hp, inI_eq, inA_eq, true_and, and_true, and_self, if_true, if_false, bI_0, bI_1, bI_in, bI_T, bI_F, fitF, jmpF, nlF, pjA, iVal.eta, iYr.eta, List.getElem?_toArray, List.length_cons, List.length_nil, true_or, or_true, or_false, false_or, Classical.not_not, Bool.false_eq_true, hp_2, Nat.zero_le, Nat.le_refl, Option.some.injEq, Sum.inl.injEq, Sum.inr.injEq, not_true_eq_false, true_implies, false_implies, implies_true, Int.le_refl, gX11_ways, e2, i2, i3]
      exact ih _ _
    by_cases z : A.now.sta c = 0
    · have go1 : ∀ Q, Call sp sc d mX8_goesOn [.inr (.inr (vb .now + 2)), .inl c] (hp A) Q = Q (some (.inl 1)) (hp A) := fun Q => by rw [go, bI_t z]
      have el : (6 - A.now.dds c : Int) = ((lfC A.now c : Nat) : Int) := by unfold lfC; rw [if_pos z]; omega
      refine G_run (B := [15, 61]) 60 _ _ _ _ ?_
      simp (disch := first | assumption | rfl | exact inI_of (by omega) (by omega) | omega | decide | (simp only [sv_ext, sv_mc, Nat.le_refl]; done) | with_unfolding_all (refine @id _ ?_; first | exact Eq.refl _ | exact Nat.le_refl _ | assumption)) only [Nat.reduceAdd, Nat.reduceMul, Nat.reduceLeDiff, Nat.reduceLT, Int.reduceAdd, Int.reduceSub, Int.reduceMul, Int.reduceNeg, Int.reduceLE, Int.reduceLT, Int.reduceToNat, Int.reduceEq, reduceCtorEq, ld_z, ld_s, st1_0, st1_1, st1_s, st2_0, st2_1, st2_s, isJ_i, isJ_r, isJ_n, isJ_l, cs_nil, cs_i, cs_r, cs_l, kF, List.getElem?_cons_succ, List.getElem?_cons_zero, List.set_cons_zero, List.set_cons_succ, GC_s, GC_n, GK_nil, GK_no, GK_yes, not_false_eq_true, back_eq, back_hp, inI_eq, inA_eq, true_and, and_true, and_self, if_true, if_false, bI_0, bI_1, bI_in, bI_T, bI_F, fitF, jmpF, nlF, pjA, iVal.eta, iYr.eta, List.getElem?_toArray, List.length_cons, List.length_nil, true_or, or_true, or_false, false_or, Classical.not_not, Bool.false_eq_true, hp_2, Nat.zero_le, Nat.le_refl, Option.some.injEq, Sum.inl.injEq, Sum.inr.injEq, not_true_eq_false, true_implies, false_implies, implies_true, Int.le_refl, rd_v, f_num, f_lik, f_dep, f_bnd, f_man, f_wom, f_sta, f_dds, f_who, rd_e, v_now, hasOne_eq, hasTwo_eq, hasCouple_eq, orNone_eq, natureOf_eq, rd_nat, place_eq, rd_v1, rd_v3, rd_v4, rd_v6, rd_v7, rd_v8, rd_v9, rd_v10, isShelf_eq, isSide_eq, isDeed_eq, isKind_eq, isMindSpan_eq, gX11_ways, e1, go1, hO.ldd]
      exact tail _ el
    · have go1 : ∀ Q, Call sp sc d mX8_goesOn [.inr (.inr (vb .now + 2)), .inl c] (hp A) Q = Q (some (.inl 0)) (hp A) := fun Q => by rw [go, bI_f z]
      have el : (0 : Int) = ((lfC A.now c : Nat) : Int) := by unfold lfC; rw [if_neg z]; rfl
      refine G_run (B := [15, 61]) 60 _ _ _ _ ?_
      simp (disch := first | assumption | rfl | exact inI_of (by omega) (by omega) | omega | decide | (simp only [sv_ext, sv_mc, Nat.le_refl]; done) | with_unfolding_all (refine @id _ ?_; first | exact Eq.refl _ | exact Nat.le_refl _ | assumption)) only [Nat.reduceAdd, Nat.reduceMul, Nat.reduceLeDiff, Nat.reduceLT, Int.reduceAdd, Int.reduceSub, Int.reduceMul, Int.reduceNeg, Int.reduceLE, Int.reduceLT, Int.reduceToNat, Int.reduceEq, reduceCtorEq, ld_z, ld_s, st1_0, st1_1, st1_s, st2_0, st2_1, st2_s, isJ_i, isJ_r, isJ_n, isJ_l, cs_nil, cs_i, cs_r, cs_l, kF, List.getElem?_cons_succ, List.getElem?_cons_zero, List.set_cons_zero, List.set_cons_succ, GC_s, GC_n, GK_nil, GK_no, GK_yes, not_false_eq_true, back_eq, back_hp, inI_eq, inA_eq, true_and, and_true, and_self, if_true, if_false, bI_0, bI_1, bI_in, bI_T, bI_F, fitF, jmpF, nlF, pjA, iVal.eta, iYr.eta, List.getElem?_toArray, List.length_cons, List.length_nil, true_or, or_true, or_false, false_or, Classical.not_not, Bool.false_eq_true, hp_2, Nat.zero_le, Nat.le_refl, Option.some.injEq, Sum.inl.injEq, Sum.inr.injEq, not_true_eq_false, true_implies, false_implies, implies_true, Int.le_refl, rd_v, f_num, f_lik, f_dep, f_bnd, f_man, f_wom, f_sta, f_dds, f_who, rd_e, v_now, hasOne_eq, hasTwo_eq, hasCouple_eq, orNone_eq, natureOf_eq, rd_nat, place_eq, rd_v1, rd_v3, rd_v4, rd_v6, rd_v7, rd_v8, rd_v9, rd_v10, isShelf_eq, isSide_eq, isDeed_eq, isKind_eq, isMindSpan_eq, gX11_ways, e1, go1]
      exact tail _ el
theorem wiR_loop (hO : OkV X) (hr : A.mo.s = rowOf X e) {i c : Int} (h0 : 0 ≤ c) (h1 : c < 4) (hs : X.sta c = 0) : ∀ (q : Nat) (k : Int) (p : Int × Int), okW q k p = true → 1 ≤ k → k + q = 6 - X.dds c + 1 → Run sp sc (d + 1) mX12_ways 44 [some (.inr (.inr 140)), some (.inl i), some (.inr (.inl (wyI q k p).1)), none, some (.inl (wyI q k p).2), some (.inl c), some (.inl (6 - X.dds c + 1))] [] (hp A) Q → Run sp sc (d + 1) mX12_ways 44 [some (.inr (.inr 140)), some (.inl i), some (.inr (.inl p.1)), none, some (.inl p.2), some (.inl c), some (.inl k)] [] (hp A) Q := by
  have dd := hO.dds c h0 h1
  intro q
  induction q with
  | zero =>
    intro k p hok h0 h1 hq
    have : k = 6 - X.dds c + 1 := by omega
    rw [this]; exact hq
  | succ q ih =>
    intro k p hok h2 h3 hq
    have hok : (decide (0 ≤ p.1 ∧ p.1 < 1000000000000000 ∧ 0 ≤ p.2 ∧ p.2 < 24) && okW q (k + 1) ((p.1 * (p.2 + 1)).tdiv k, p.2 + 1)) = true := hok
    rw [Bool.and_eq_true, decide_eq_true_eq] at hok
    have ih := ih (k + 1) ((p.1 * (p.2 + 1)).tdiv k, p.2 + 1) hok.2 (by omega) (by omega) hq
    have e1 : ¬ 6 - X.dds c < k := by omega
    have m1 : 0 ≤ p.1 * (p.2 + 1) := Int.mul_nonneg hok.1.1 (by omega)
    have m2 : p.1 * (p.2 + 1) ≤ 1000000000000000 * 24 := Int.mul_le_mul (by omega) (by omega) (by omega) (by omega)
    have jm : inJ (p.1 * (p.2 + 1)) = true := inJ_iff.mpr (by omega)
    have jk : inJ k = true := inJ_iff.mpr (by omega)
    have k0 : 0 < k := by omega
    refine G_run (B := [15, 44]) 60 _ _ _ _ ?_
    simp (disch := first | assumption | rfl | exact inI_of (by omega) (by omega) | omega | decide | (simp only [sv_ext, sv_mc, Nat.le_refl]; done) | with_unfolding_all (refine @id _ ?_; first | exact Eq.refl _ | exact Nat.le_refl _ | assumption)) only [Nat.reduceAdd, Nat.reduceMul, Nat.reduceLeDiff, Nat.reduceLT, Int.reduceAdd, Int.reduceSub, Int.reduceMul, Int.reduceNeg, Int.reduceLE, Int.reduceLT, Int.reduceToNat, Int.reduceEq, reduceCtorEq, ld_z, ld_s, st1_0, st1_1, st1_s, st2_0, st2_1, st2_s, isJ_i, isJ_r, isJ_n, isJ_l, cs_nil, cs_i, cs_r, cs_l, kF, List.getElem?_cons_succ, List.getElem?_cons_zero, List.set_cons_zero, List.set_cons_succ, GC_s, GC_n, GK_nil, GK_no, GK_yes, not_false_eq_true, back_eq, back_hp, inI_eq, inA_eq, true_and, and_true, and_self, if_true, if_false, bI_0, bI_1, bI_in, bI_T, bI_F, fitF, jmpF, nlF, pjA, iVal.eta, iYr.eta, List.getElem?_toArray, List.length_cons, List.length_nil, true_or, or_true, or_false, false_or, Classical.not_not, Bool.false_eq_true, hp_2, Nat.zero_le, Nat.le_refl, Option.some.injEq, Sum.inl.injEq, Sum.inr.injEq, not_true_eq_false, true_implies, false_implies, implies_true, Int.le_refl, rd_o, rd_o_s, hr, row_len, inA_one, inA_lik, inA_cpl, isOne_eq hO hr, isCouple_eq hO hr, isIn_eq, atOne_eq, atLike_eq, atCouple_eq, r_num, q_n0, q_n1, r_cp, r_dy, r_sl, r_who, q_kind, q_fig, q_dep, q_bnd, q_lik, q_man, q_wom, q_sta, q_dds, orNoneR_eq, Int.zero_add, gX12_ways, e1, jm, jk, k0]
    exact ih
theorem woR_loop (hO : OkV X) (hr : A.mo.s = rowOf X e) {i : Int} (ii : inI i = true) : ∀ (q : Nat) (c : Int) (p : Int × Int) (o6 : Option iV), okL (lfL X q c) p = true → 0 ≤ c → c + q = X.cp → (∀ o6, Run sp sc (d + 2) mX12_ways 15 [some (.inr (.inr 140)), some (.inl i), some (.inr (.inl (wyL (lfL X q c) p).1)), none, some (.inl (wyL (lfL X q c) p).2), some (.inl X.cp), o6] [] (hp A) Q) → Run sp sc (d + 2) mX12_ways 15 [some (.inr (.inr 140)), some (.inl i), some (.inr (.inl p.1)), none, some (.inl p.2), some (.inl c), o6] [] (hp A) Q := by
  have hcp := hO.cp
  intro q
  induction q with
  | zero =>
    intro c p o6 hok h0 h1 hq
    have : c = X.cp := by omega
    rw [this]; exact hq _
  | succ q ih =>
    intro c p o6 hok h0 h1 hq
    have hok : (okW (lfC X c) 1 p && okL (lfL X q (c + 1)) (wyI (lfC X c) 1 p)) = true := hok
    rw [Bool.and_eq_true] at hok
    have ih := fun o6 => ih (c + 1) (wyI (lfC X c) 1 p) o6 hok.2 (by omega) (by omega) hq
    have e1 : ¬ X.cp ≤ c := by omega
    have dd := hO.dds c h0 (by omega)
    have gr : ∀ Q, Call sp sc (d + 1) mX12_goesOn [.inr (.inr 141), .inl c] (hp A) Q = Q (some (.inl (bI (X.sta c = 0)))) (hp A) := fun Q => by
      have := @goesOnR_eq sp sc d A .s A.ry Q X e hO c h0 (by omega)
      have es : A.sro .s (rowOf X e) A.ry = A := by rw [← hr]; exact sro_id
      rw [es] at this
      exact this
    by_cases z : X.sta c = 0
    · have gr1 : ∀ Q, Call sp sc (d + 1) mX12_goesOn [.inr (.inr 141), .inl c] (hp A) Q = Q (some (.inl 1)) (hp A) := fun Q => by rw [gr, bI_t z]
      have el : ((lfC X c : Nat) : Int) = 6 - X.dds c := by unfold lfC; rw [if_pos z]; omega
      refine G_run (B := [15, 44]) 60 _ _ _ _ ?_
      simp (disch := first | assumption | rfl | exact inI_of (by omega) (by omega) | omega | decide | (simp only [sv_ext, sv_mc, Nat.le_refl]; done) | with_unfolding_all (refine @id _ ?_; first | exact Eq.refl _ | exact Nat.le_refl _ | assumption)) only [Nat.reduceAdd, Nat.reduceMul, Nat.reduceLeDiff, Nat.reduceLT, Int.reduceAdd, Int.reduceSub, Int.reduceMul, Int.reduceNeg, Int.reduceLE, Int.reduceLT, Int.reduceToNat, Int.reduceEq, reduceCtorEq, ld_z, ld_s, st1_0, st1_1, st1_s, st2_0, st2_1, st2_s, isJ_i, isJ_r, isJ_n, isJ_l, cs_nil, cs_i, cs_r, cs_l, kF, List.getElem?_cons_succ, List.getElem?_cons_zero, List.set_cons_zero, List.set_cons_succ, GC_s, GC_n, GK_nil, GK_no, GK_yes, not_false_eq_true, back_eq, back_hp, inI_eq, inA_eq, true_and, and_true, and_self, if_true, if_false, bI_0, bI_1, bI_in, bI_T, bI_F, fitF, jmpF, nlF, pjA, iVal.eta, iYr.eta, List.getElem?_toArray, List.length_cons, List.length_nil, true_or, or_true, or_false, false_or, Classical.not_not, Bool.false_eq_true, hp_2, Nat.zero_le, Nat.le_refl, Option.some.injEq, Sum.inl.injEq, Sum.inr.injEq, not_true_eq_false, true_implies, false_implies, implies_true, Int.le_refl, rd_o, rd_o_s, hr, row_len, inA_one, inA_lik, inA_cpl, isOne_eq hO hr, isCouple_eq hO hr, isIn_eq, atOne_eq, atLike_eq, atCouple_eq, r_num, q_n0, q_n1, r_cp, r_dy, r_sl, r_who, q_kind, q_fig, q_dep, q_bnd, q_lik, q_man, q_wom, q_sta, q_dds, orNoneR_eq, Int.zero_add, gX12_ways, e1, gr1]
      refine wiR_loop (d := d + 1) hO hr h0 (by omega) z (lfC X c) 1 p hok.1 (by omega) (by omega) ?_
      have e2 : 6 - X.dds c < 6 - X.dds c + 1 := by omega
      refine G_run (B := [15, 44]) 60 _ _ _ _ ?_
      simp (disch := first | assumption | rfl | exact inI_of (by omega) (by omega) | omega | decide | (simp only [sv_ext, sv_mc, Nat.le_refl]; done) | with_unfolding_all (refine @id _ ?_; first | exact Eq.refl _ | exact Nat.le_refl _ | assumption)) only [Nat.reduceAdd, Nat.reduceMul, Nat.reduceLeDiff, Nat.reduceLT, Int.reduceAdd, Int.reduceSub, Int.reduceMul, Int.reduceNeg, Int.reduceLE, Int.reduceLT, Int.reduceToNat, Int.reduceEq, reduceCtorEq, ld_z, ld_s, st1_0, st1_1, st1_s, st2_0, st2_1, st2_s, isJ_i, isJ_r, isJ_n, isJ_l, cs_nil, cs_i, cs_r, cs_l, kF, List.getElem?_cons_succ, List.getElem?_cons_zero, List.set_cons_zero, List.set_cons_succ, GC_s, GC_n, GK_nil, GK_no, GK_yes, not_false_eq_true, back_eq, back_hp, inI_eq, inA_eq, true_and, and_true, and_self, if_true, if_false, bI_0, bI_1, bI_in, bI_T, bI_F, fitF, jmpF, nlF, pjA, iVal.eta, iYr.eta, List.getElem?_toArray, List.length_cons, List.length_nil, true_or, or_true, or_false, false_or, Classical.not_not, Bool.false_eq_true, hp_2, Nat.zero_le, Nat.le_refl, Option.some.injEq, Sum.inl.injEq, Sum.inr.injEq, not_true_eq_false, true_implies, false_implies, implies_true, Int.le_refl, rd_o, rd_o_s, hr, row_len, inA_one, inA_lik, inA_cpl, isOne_eq hO hr, isCouple_eq hO hr, isIn_eq, atOne_eq, atLike_eq, atCouple_eq, r_num, q_n0, q_n1, r_cp, r_dy, r_sl, r_who, q_kind, q_fig, q_dep, q_bnd, q_lik, q_man, q_wom, q_sta, q_dds, orNoneR_eq, Int.zero_add, gX12_ways, e2]
      exact ih _
    · have gr1 : ∀ Q, Call sp sc (d + 1) mX12_goesOn [.inr (.inr 141), .inl c] (hp A) Q = Q (some (.inl 0)) (hp A) := fun Q => by rw [gr, bI_f z]
      have el : lfC X c = 0 := by unfold lfC; rw [if_neg z]
      rw [el] at ih
      refine G_run (B := [15, 44]) 60 _ _ _ _ ?_
      simp (disch := first | assumption | rfl | exact inI_of (by omega) (by omega) | omega | decide | (simp only [sv_ext, sv_mc, Nat.le_refl]; done) | with_unfolding_all (refine @id _ ?_; first | exact Eq.refl _ | exact Nat.le_refl _ | assumption)) only [Nat.reduceAdd, Nat.reduceMul, Nat.reduceLeDiff, Nat.reduceLT, Int.reduceAdd, Int.reduceSub, Int.reduceMul, Int.reduceNeg, Int.reduceLE, Int.reduceLT, Int.reduceToNat, Int.reduceEq, reduceCtorEq, ld_z, ld_s, st1_0, st1_1, st1_s, st2_0, st2_1, st2_s, isJ_i, isJ_r, isJ_n, isJ_l, cs_nil, cs_i, cs_r, cs_l, kF, List.getElem?_cons_succ, List.getElem?_cons_zero, List.set_cons_zero, List.set_cons_succ, GC_s, GC_n, GK_nil, GK_no, GK_yes, not_false_eq_true, back_eq, back_hp, inI_eq, inA_eq, true_and, and_true, and_self, if_true, if_false, bI_0, bI_1, bI_in, bI_T, bI_F, fitF, jmpF, nlF, pjA, iVal.eta, iYr.eta, List.getElem?_toArray, List.length_cons, List.length_nil, true_or, or_true, or_false, false_or, Classical.not_not, Bool.false_eq_true, hp_2, Nat.zero_le, Nat.le_refl, Option.some.injEq, Sum.inl.injEq, Sum.inr.injEq, not_true_eq_false, true_implies, false_implies, implies_true, Int.le_refl, rd_o, rd_o_s, hr, row_len, inA_one, inA_lik, inA_cpl, isOne_eq hO hr, isCouple_eq hO hr, isIn_eq, atOne_eq, atLike_eq, atCouple_eq, r_num, q_n0, q_n1, r_cp, r_dy, r_sl, r_who, q_kind, q_fig, q_dep, q_bnd, q_lik, q_man, q_wom, q_sta, q_dds, orNoneR_eq, Int.zero_add, gX12_ways, e1, gr1]
      exact ih _
def finO (i : Int) (R n : Nat) : Int := if i < 0 then (n : Int) + 1 else if (n : Int) = i then ((R % 10 : Nat) : Int) else 0
def rO (i : Int) : Nat → Nat → Nat → Int
  | 0, R, n => finO i R n
  | k + 1, R, n => if 10 ≤ R ∧ ¬ (n : Int) = i then rO i k (R / 10) (n + 1) else finO i R n
theorem p10 (k : Nat) : 10 ^ (k + 1) = 10 * 10 ^ k := by rw [Nat.pow_succ, Nat.mul_comm]
theorem dv10 (V n : Nat) : V / 10 ^ n / 10 = V / 10 ^ (n + 1) := by rw [Nat.div_div_eq_div_mul, Nat.pow_succ]
theorem rO_hi {V i : Nat} : ∀ (k n : Nat), V / 10 ^ n < 10 ^ (k + 1) → n ≤ i → rO (i : Int) k (V / 10 ^ n) n = (dg V i : Int) := by
  have fin : ∀ n : Nat, n ≤ i → (V / 10 ^ n < 10 ∨ n = i) → finO (i : Int) (V / 10 ^ n) n = (dg V i : Int) := fun n hn h => by
    unfold finO
    rw [if_neg (by omega)]
    by_cases c : n = i
    · rw [if_pos (by omega), c]; rfl
    · rw [if_neg (by omega)]
      have h := h.resolve_right c
      have : V / 10 ^ i = 0 := by
        have e : 10 ^ i = 10 ^ n * 10 ^ (i - n) := by rw [← Nat.pow_add]; congr 1; omega
        rw [e, ← Nat.div_div_eq_div_mul]
        have : 10 ≤ 10 ^ (i - n) := by
          have : i - n = (i - n - 1) + 1 := by omega
          rw [this, p10]
          have := Nat.pow_pos (n := i - n - 1) (show 0 < 10 by omega)
          omega
        exact Nat.div_eq_of_lt (by omega)
      unfold dg
      rw [this]; rfl
  intro k
  induction k with
  | zero => intro n h hn; exact fin n hn (Or.inl h)
  | succ k ih =>
    intro n h hn
    unfold rO
    by_cases c : 10 ≤ V / 10 ^ n ∧ ¬ (n : Int) = (i : Int)
    · rw [if_pos c, dv10]
      refine ih (n + 1) ?_ (by omega)
      rw [← dv10, Nat.div_lt_iff_lt_mul (by omega), Nat.mul_comm, ← p10]
      exact h
    · rw [if_neg c]
      refine fin n hn ?_
      by_cases d : 10 ≤ V / 10 ^ n
      · right
        have : (n : Int) = (i : Int) := by
          by_cases y : (n : Int) = (i : Int)
          · exact y
          · exact absurd ⟨d, y⟩ c
        omega
      · left; omega
theorem rO_lo {V : Nat} {i : Int} (hi : i < 0) {T : Nat} (h1 : V < 10 ^ (T + 1)) (h2 : T = 0 ∨ 10 ^ T ≤ V) : ∀ (k n : Nat), V / 10 ^ n < 10 ^ (k + 1) → (n = 0 ∨ 10 ^ n ≤ V) → rO i k (V / 10 ^ n) n = (T : Int) + 1 := by
  have fin : ∀ n : Nat, (n = 0 ∨ 10 ^ n ≤ V) → V / 10 ^ n < 10 → finO i (V / 10 ^ n) n = (T : Int) + 1 := fun n hn h => by
    unfold finO
    rw [if_pos hi]
    have hok := Nat.pow_pos (n := n) (show 0 < 10 by omega)
    have : V < 10 ^ (n + 1) := by
      rw [Nat.div_lt_iff_lt_mul hok] at h
      rw [p10]; exact h
    have := nd_one h1 h2 this hn
    rw [this]
  intro k
  induction k with
  | zero => intro n h hn; exact fin n hn h
  | succ k ih =>
    intro n h hn
    unfold rO
    by_cases c : 10 ≤ V / 10 ^ n
    · rw [if_pos ⟨c, by omega⟩, dv10]
      refine ih (n + 1) ?_ (Or.inr ?_)
      · rw [← dv10, Nat.div_lt_iff_lt_mul (by omega), Nat.mul_comm, ← p10]
        exact h
      · rw [p10]
        have hok := Nat.pow_pos (n := n) (show 0 < 10 by omega)
        exact (Nat.le_div_iff_mul_le hok).mp c
    · rw [if_neg (fun y => c y.1)]
      exact fin n hn (by omega)
theorem rO_tell {V : Nat} (hV : V < 10 ^ 15) {i : Int} : rO i 20 V 0 = tellV V i := by
  have e0 : V / 10 ^ 0 = V := by rw [Nat.pow_zero, Nat.div_one]
  have hk : V / 10 ^ 0 < 10 ^ (20 + 1) := by rw [e0]; exact Nat.lt_of_lt_of_le hV (Nat.pow_le_pow_right (by omega) (by omega))
  unfold tellV
  by_cases c : 0 ≤ i
  · rw [if_pos c]
    have := rO_hi (V := V) (i := i.toNat) 20 0 hk (by omega)
    have ei : ((i.toNat : Nat) : Int) = i := by omega
    rw [e0, ei] at this
    rw [this]
    by_cases c2 : i < 72
    · rw [if_pos c2]
    · rw [if_neg c2]
      have : V / 10 ^ i.toNat = 0 := Nat.div_eq_of_lt (Nat.lt_of_lt_of_le hV (Nat.pow_le_pow_right (by omega) (by omega)))
      unfold dg
      rw [this]; rfl
  · rw [if_neg c]
    have ok := tlF_ok (V := V) 71 (Nat.lt_of_lt_of_le hV (Nat.pow_le_pow_right (by omega) (by omega)))
    have := rO_lo (V := V) (i := i) (by omega) ok.1 ok.2 20 0 hk (Or.inl rfl)
    rw [e0] at this
    exact this
theorem dgO_loop {i z : Int} (ii : inI i = true) : ∀ (k R n : Nat), R < 10 ^ (k + 1) → R < 1000000000000000000 → n + k ≤ 1000 → Q (some (.inl (rO i k R n))) (hp A) → Run sp sc d mX12_digitOf 6 [some (.inr (.inr 140)), some (.inr (.inl z)), none, some (.inl i), some (.inr (.inl (R : Int))), none, some (.inl (n : Int))] [] (hp A) Q := by
  have j10 : inJ 10 = true := by decide
  have fin : ∀ (R n : Nat), R < 1000000000000000000 → n ≤ 1000 → (R < 10 ∨ (n : Int) = i) → Q (some (.inl (finO i R n))) (hp A) → Run sp sc d mX12_digitOf 6 [some (.inr (.inr 140)), some (.inr (.inl z)), none, some (.inl i), some (.inr (.inl (R : Int))), none, some (.inl (n : Int))] [] (hp A) Q := fun R n hR hn hc hq => by
    have jR : inJ (R : Int) = true := inJ_iff.mpr (by omega)
    have i_n : inI (n : Int) = true := inI_of (by omega) (by omega)
    have x2 := @cmp_in (R : Int) 10
    unfold finO at hq
    refine G_run (B := [6]) 60 _ _ _ _ ?_
    by_cases y : R < 10
    · have x1 : (if (10 : Int) < (R : Int) then (1 : Int) else if (R : Int) = 10 then 0 else -1) < 0 := by rw [if_neg (by omega), if_neg (by omega)]; decide
      by_cases c : i < 0
      · rw [if_pos c] at hq
        have c2 : ¬ 0 ≤ i := by omega
        simp (disch := first | assumption | rfl | exact inI_of (by omega) (by omega) | omega | decide | (simp only [sv_ext, sv_mc, Nat.le_refl]; done) | with_unfolding_all (refine @id _ ?_; first | exact Eq.refl _ | exact Nat.le_refl _ | assumption)) only [Nat.reduceAdd, Nat.reduceMul, Nat.reduceLeDiff, Nat.reduceLT, Int.reduceAdd, Int.reduceSub, Int.reduceMul, Int.reduceNeg, Int.reduceLE, Int.reduceLT, Int.reduceToNat, Int.reduceEq, reduceCtorEq, ld_z, ld_s, st1_0, st1_1, st1_s, st2_0, st2_1, st2_s, isJ_i, isJ_r, isJ_n, isJ_l, cs_nil, cs_i, cs_r, cs_l, kF, List.getElem?_cons_succ, List.getElem?_cons_zero, List.set_cons_zero, List.set_cons_succ, GC_s, GC_n, GK_nil, GK_no, GK_yes, not_false_eq_true, back_eq, back_hp, inI_eq, inA_eq, true_and, and_true, and_self, if_true, if_false, bI_0, bI_1, bI_in, bI_T, bI_F, fitF, jmpF, nlF, pjA, iVal.eta, iYr.eta, List.getElem?_toArray, List.length_cons, List.length_nil, true_or, or_true, or_false, false_or, Classical.not_not, Bool.false_eq_true, hp_2, Nat.zero_le, Nat.le_refl, Option.some.injEq, Sum.inl.injEq, Sum.inr.injEq, not_true_eq_false, true_implies, false_implies, implies_true, Int.le_refl, gX12_digitOf, jR, j10, x1, x2, ii, i_n, c, c2]
        exact hq
      · rw [if_neg c] at hq
        have c2 : 0 ≤ i := by omega
        by_cases e : (n : Int) = i
        · rw [if_pos e] at hq
          simp (disch := first | assumption | rfl | exact inI_of (by omega) (by omega) | omega | decide | (simp only [sv_ext, sv_mc, Nat.le_refl]; done) | with_unfolding_all (refine @id _ ?_; first | exact Eq.refl _ | exact Nat.le_refl _ | assumption)) only [Nat.reduceAdd, Nat.reduceMul, Nat.reduceLeDiff, Nat.reduceLT, Int.reduceAdd, Int.reduceSub, Int.reduceMul, Int.reduceNeg, Int.reduceLE, Int.reduceLT, Int.reduceToNat, Int.reduceEq, reduceCtorEq, ld_z, ld_s, st1_0, st1_1, st1_s, st2_0, st2_1, st2_s, isJ_i, isJ_r, isJ_n, isJ_l, cs_nil, cs_i, cs_r, cs_l, kF, List.getElem?_cons_succ, List.getElem?_cons_zero, List.set_cons_zero, List.set_cons_succ, GC_s, GC_n, GK_nil, GK_no, GK_yes, not_false_eq_true, back_eq, back_hp, inI_eq, inA_eq, true_and, and_true, and_self, if_true, if_false, bI_0, bI_1, bI_in, bI_T, bI_F, fitF, jmpF, nlF, pjA, iVal.eta, iYr.eta, List.getElem?_toArray, List.length_cons, List.length_nil, true_or, or_true, or_false, false_or, Classical.not_not, Bool.false_eq_true, hp_2, Nat.zero_le, Nat.le_refl, Option.some.injEq, Sum.inl.injEq, Sum.inr.injEq, not_true_eq_false, true_implies, false_implies, implies_true, Int.le_refl, gX12_digitOf, jR, j10, x1, x2, ii, i_n, c2, eq_true e, tmN]
          exact hq
        · rw [if_neg e] at hq
          simp (disch := first | assumption | rfl | exact inI_of (by omega) (by omega) | omega | decide | (simp only [sv_ext, sv_mc, Nat.le_refl]; done) | with_unfolding_all (refine @id _ ?_; first | exact Eq.refl _ | exact Nat.le_refl _ | assumption)) only [Nat.reduceAdd, Nat.reduceMul, Nat.reduceLeDiff, Nat.reduceLT, Int.reduceAdd, Int.reduceSub, Int.reduceMul, Int.reduceNeg, Int.reduceLE, Int.reduceLT, Int.reduceToNat, Int.reduceEq, reduceCtorEq, ld_z, ld_s, st1_0, st1_1, st1_s, st2_0, st2_1, st2_s, isJ_i, isJ_r, isJ_n, isJ_l, cs_nil, cs_i, cs_r, cs_l, kF, List.getElem?_cons_succ, List.getElem?_cons_zero, List.set_cons_zero, List.set_cons_succ, GC_s, GC_n, GK_nil, GK_no, GK_yes, not_false_eq_true, back_eq, back_hp, inI_eq, inA_eq, true_and, and_true, and_self, if_true, if_false, bI_0, bI_1, bI_in, bI_T, bI_F, fitF, jmpF, nlF, pjA, iVal.eta, iYr.eta, List.getElem?_toArray, List.length_cons, List.length_nil, true_or, or_true, or_false, false_or, Classical.not_not, Bool.false_eq_true, hp_2, Nat.zero_le, Nat.le_refl, Option.some.injEq, Sum.inl.injEq, Sum.inr.injEq, not_true_eq_false, true_implies, false_implies, implies_true, Int.le_refl, gX12_digitOf, jR, j10, x1, x2, ii, i_n, c2, e]
          exact hq
    · have e := hc.resolve_left y
      have x1 : ¬ (if (10 : Int) < (R : Int) then (1 : Int) else if (R : Int) = 10 then 0 else -1) < 0 := by
        by_cases u : (10 : Int) < (R : Int)
        · rw [if_pos u]; decide
        · rw [if_neg u, if_pos (by omega)]; decide
      have c : ¬ i < 0 := by omega
      have c2 : 0 ≤ i := by omega
      rw [if_neg c, if_pos e] at hq
      simp (disch := first | assumption | rfl | exact inI_of (by omega) (by omega) | omega | decide | (simp only [sv_ext, sv_mc, Nat.le_refl]; done) | with_unfolding_all (refine @id _ ?_; first | exact Eq.refl _ | exact Nat.le_refl _ | assumption)) only [Nat.reduceAdd, Nat.reduceMul, Nat.reduceLeDiff, Nat.reduceLT, Int.reduceAdd, Int.reduceSub, Int.reduceMul, Int.reduceNeg, Int.reduceLE, Int.reduceLT, Int.reduceToNat, Int.reduceEq, reduceCtorEq, ld_z, ld_s, st1_0, st1_1, st1_s, st2_0, st2_1, st2_s, isJ_i, isJ_r, isJ_n, isJ_l, cs_nil, cs_i, cs_r, cs_l, kF, List.getElem?_cons_succ, List.getElem?_cons_zero, List.set_cons_zero, List.set_cons_succ, GC_s, GC_n, GK_nil, GK_no, GK_yes, not_false_eq_true, back_eq, back_hp, inI_eq, inA_eq, true_and, and_true, and_self, if_true, if_false, bI_0, bI_1, bI_in, bI_T, bI_F, fitF, jmpF, nlF, pjA, iVal.eta, iYr.eta, List.getElem?_toArray, List.length_cons, List.length_nil, true_or, or_true, or_false, false_or, Classical.not_not, Bool.false_eq_true, hp_2, Nat.zero_le, Nat.le_refl, Option.some.injEq, Sum.inl.injEq, Sum.inr.injEq, not_true_eq_false, true_implies, false_implies, implies_true, Int.le_refl, gX12_digitOf, jR, j10, x1, x2, ii, i_n, c2, eq_true e, tmN]
      exact hq
  intro k
  induction k with
  | zero => intro R n h hR hn hq; exact fin R n hR (by omega) (Or.inl h) hq
  | succ k ih =>
    intro R n h hR hn hq
    unfold rO at hq
    by_cases c : 10 ≤ R ∧ ¬ (n : Int) = i
    · rw [if_pos c] at hq
      have jR : inJ (R : Int) = true := inJ_iff.mpr (by omega)
      have i_n : inI (n : Int) = true := inI_of (by omega) (by omega)
      have x2 := @cmp_in (R : Int) 10
      have x1 : ¬ (if (10 : Int) < (R : Int) then (1 : Int) else if (R : Int) = 10 then 0 else -1) < 0 := by
        by_cases u : (10 : Int) < (R : Int)
        · rw [if_pos u]; decide
        · rw [if_neg u, if_pos (by omega)]; decide
      have c2 := c.2
      have e4 : (n : Int) + 1 = ((n + 1 : Nat) : Int) := by omega
      refine G_run (B := [6]) 60 _ _ _ _ ?_
      simp (disch := first | assumption | rfl | exact inI_of (by omega) (by omega) | omega | decide | (simp only [sv_ext, sv_mc, Nat.le_refl]; done) | with_unfolding_all (refine @id _ ?_; first | exact Eq.refl _ | exact Nat.le_refl _ | assumption)) only [Nat.reduceAdd, Nat.reduceMul, Nat.reduceLeDiff, Nat.reduceLT, Int.reduceAdd, Int.reduceSub, Int.reduceMul, Int.reduceNeg, Int.reduceLE, Int.reduceLT, Int.reduceToNat, Int.reduceEq, reduceCtorEq, ld_z, ld_s, st1_0, st1_1, st1_s, st2_0, st2_1, st2_s, isJ_i, isJ_r, isJ_n, isJ_l, cs_nil, cs_i, cs_r, cs_l, kF, List.getElem?_cons_succ, List.getElem?_cons_zero, List.set_cons_zero, List.set_cons_succ, GC_s, GC_n, GK_nil, GK_no, GK_yes, not_false_eq_true, back_eq, back_hp, inI_eq, inA_eq, true_and, and_true, and_self, if_true, if_false, bI_0, bI_1, bI_in, bI_T, bI_F, fitF, jmpF, nlF, pjA, iVal.eta, iYr.eta, List.getElem?_toArray, List.length_cons, List.length_nil, true_or, or_true, or_false, false_or, Classical.not_not, Bool.false_eq_true, hp_2, Nat.zero_le, Nat.le_refl, Option.some.injEq, Sum.inl.injEq, Sum.inr.injEq, not_true_eq_false, true_implies, false_implies, implies_true, Int.le_refl, gX12_digitOf, jR, j10, x1, x2, ii, i_n, c2, tdN, e4]
      refine ih (R / 10) (n + 1) ?_ (by omega) (by omega) hq
      rw [p10] at h
      omega
    · rw [if_neg c] at hq
      refine fin R n hR (by omega) ?_ hq
      by_cases y : R < 10
      · left; exact y
      · right
        by_cases u : (n : Int) = i
        · exact u
        · exact absurd ⟨by omega, u⟩ c
theorem digitOf_eq {i : Int} (ii : inI i = true) (hV : V < 1000000000000000) : Call sp sc d mX12_digitOf [.inr (.inr 140), .inr (.inl (V : Int)), .inl i] (hp A) Q = Q (some (.inl (tellV V i))) (hp A) := Call_eq (by
  have e15 : (1000000000000000 : Nat) = 10 ^ 15 := by decide
  rw [← rO_tell (by rw [← e15]; exact hV)]
  apply eX12_digitOf 40; simp (disch := first | assumption | rfl | exact inI_of (by omega) (by omega) | omega | decide | (simp only [sv_ext, sv_mc, Nat.le_refl]; done) | with_unfolding_all (refine @id _ ?_; first | exact Eq.refl _ | exact Nat.le_refl _ | assumption)) only [Nat.reduceAdd, Nat.reduceMul, Nat.reduceLeDiff, Nat.reduceLT, Int.reduceAdd, Int.reduceSub, Int.reduceMul, Int.reduceNeg, Int.reduceLE, Int.reduceLT, Int.reduceToNat, Int.reduceEq, reduceCtorEq, ld_z, ld_s, st1_0, st1_1, st1_s, st2_0, st2_1, st2_s, isJ_i, isJ_r, isJ_n, isJ_l, cs_nil, cs_i, cs_r, cs_l, kF, List.getElem?_cons_succ, List.getElem?_cons_zero, List.set_cons_zero, List.set_cons_succ, GC_s, GC_n, GK_nil, GK_no, GK_yes, not_false_eq_true, back_eq, back_hp, inI_eq, inA_eq, true_and, and_true, and_self, if_true, if_false, bI_0, bI_1, bI_in, bI_T, bI_F, fitF, jmpF, nlF, pjA, iVal.eta, iYr.eta, List.getElem?_toArray, List.length_cons, List.length_nil, true_or, or_true, or_false, false_or, Classical.not_not, Bool.false_eq_true, hp_2, Nat.zero_le, Nat.le_refl, Option.some.injEq, Sum.inl.injEq, Sum.inr.injEq, not_true_eq_false, true_implies, false_implies, implies_true, Int.le_refl, gX12_digitOf]
  refine dgO_loop ii 20 V 0 ?_ (by omega) (by omega) ⟨rfl, rfl⟩
  exact Nat.lt_of_lt_of_le hV (by rw [e15]; exact Nat.pow_le_pow_right (by omega) (by omega)))
theorem tell_b {V : Nat} {i : Int} : 0 ≤ tellV V i ∧ tellV V i ≤ 100 := by
  have a := @dg_b V i.toNat
  have b := @tlF_le V 71
  unfold tellV
  split
  · split <;> omega
  · omega
theorem okL_end : ∀ (l : List Nat) (p : Int × Int), okL l p = true → okL [] (wyL l p) = true := by
  intro l
  induction l with
  | nil => intro p h; exact h
  | cons a l ih =>
    intro p h
    have h : (okW a 1 p && okL l (wyI a 1 p)) = true := h
    rw [Bool.and_eq_true] at h
    exact ih _ h.2
theorem ag_ways (hR : Rel A) {i : Int} (ii : inI i = true) : Agree sp sc mX11_ways mX12_ways [.inl i] A := by
  have hO := hR.now
  have hr := hR.row
  have hcp := hO.cp
  by_cases c : i < -1
  · have c2 : ¬ -1 ≤ i := by omega
    refine Agree.of (-1) A A rfl (fun Q => Call_eq ?_) (fun Q => Call_eq ?_) rfl rfl hR
    · apply eX11_ways 60; simp (disch := first | assumption | rfl | exact inI_of (by omega) (by omega) | omega | decide | (simp only [sv_ext, sv_mc, Nat.le_refl]; done) | with_unfolding_all (refine @id _ ?_; first | exact Eq.refl _ | exact Nat.le_refl _ | assumption)) only [Nat.reduceAdd, Nat.reduceMul, Nat.reduceLeDiff, Nat.reduceLT, Int.reduceAdd, Int.reduceSub, Int.reduceMul, Int.reduceNeg, Int.reduceLE, Int.reduceLT, Int.reduceToNat, Int.reduceEq, reduceCtorEq, ld_z, ld_s, st1_0, st1_1, st1_s, st2_0, st2_1, st2_s, isJ_i, isJ_r, isJ_n, isJ_l, cs_nil, cs_i, cs_r, cs_l, kF, List.getElem?_cons_succ, List.getElem?_cons_zero, List.set_cons_zero, List.set_cons_succ, GC_s, GC_n, GK_nil, GK_no, GK_yes, not_false_eq_true, back_eq, back_hp, inI_eq, inA_eq, true_and, and_true, and_self, if_true, if_false, bI_0, bI_1, bI_in, bI_T, bI_F, fitF, jmpF, nlF, pjA, iVal.eta, iYr.eta, List.getElem?_toArray, List.length_cons, List.length_nil, true_or, or_true, or_false, false_or, Classical.not_not, Bool.false_eq_true, hp_2, Nat.zero_le, Nat.le_refl, Option.some.injEq, Sum.inl.injEq, Sum.inr.injEq, not_true_eq_false, true_implies, false_implies, implies_true, Int.le_refl, rd_v, f_num, f_lik, f_dep, f_bnd, f_man, f_wom, f_sta, f_dds, f_who, rd_e, v_now, hasOne_eq, hasTwo_eq, hasCouple_eq, orNone_eq, natureOf_eq, rd_nat, place_eq, rd_v1, rd_v3, rd_v4, rd_v6, rd_v7, rd_v8, rd_v9, rd_v10, isShelf_eq, isSide_eq, isDeed_eq, isKind_eq, isMindSpan_eq, gX11_ways, c2, ii]
    · apply eX12_ways 60; simp (disch := first | assumption | rfl | exact inI_of (by omega) (by omega) | omega | decide | (simp only [sv_ext, sv_mc, Nat.le_refl]; done) | with_unfolding_all (refine @id _ ?_; first | exact Eq.refl _ | exact Nat.le_refl _ | assumption)) only [Nat.reduceAdd, Nat.reduceMul, Nat.reduceLeDiff, Nat.reduceLT, Int.reduceAdd, Int.reduceSub, Int.reduceMul, Int.reduceNeg, Int.reduceLE, Int.reduceLT, Int.reduceToNat, Int.reduceEq, reduceCtorEq, ld_z, ld_s, st1_0, st1_1, st1_s, st2_0, st2_1, st2_s, isJ_i, isJ_r, isJ_n, isJ_l, cs_nil, cs_i, cs_r, cs_l, kF, List.getElem?_cons_succ, List.getElem?_cons_zero, List.set_cons_zero, List.set_cons_succ, GC_s, GC_n, GK_nil, GK_no, GK_yes, not_false_eq_true, back_eq, back_hp, inI_eq, inA_eq, true_and, and_true, and_self, if_true, if_false, bI_0, bI_1, bI_in, bI_T, bI_F, fitF, jmpF, nlF, pjA, iVal.eta, iYr.eta, List.getElem?_toArray, List.length_cons, List.length_nil, true_or, or_true, or_false, false_or, Classical.not_not, Bool.false_eq_true, hp_2, Nat.zero_le, Nat.le_refl, Option.some.injEq, Sum.inl.injEq, Sum.inr.injEq, not_true_eq_false, true_implies, false_implies, implies_true, Int.le_refl, rd_o, rd_o_s, hr, row_len, inA_one, inA_lik, inA_cpl, isOne_eq hO hr, isCouple_eq hO hr, isIn_eq, atOne_eq, atLike_eq, atCouple_eq, r_num, q_n0, q_n1, r_cp, r_dy, r_sl, r_who, q_kind, q_fig, q_dep, q_bnd, q_lik, q_man, q_wom, q_sta, q_dds, orNoneR_eq, Int.zero_add, gX12_ways, c2, ii]
  · have c2 : -1 ≤ i := by omega
    have ok := lfL_ok hO
    have en := okL_end _ _ ok
    have en : (decide (0 ≤ (wyL (lfL A.now A.now.cp.toNat 0) (1, 0)).1 ∧ (wyL (lfL A.now A.now.cp.toNat 0) (1, 0)).1 < 1000000000000000 ∧ 0 ≤ (wyL (lfL A.now A.now.cp.toNat 0) (1, 0)).2 ∧ (wyL (lfL A.now A.now.cp.toNat 0) (1, 0)).2 ≤ 24)) = true := en
    rw [decide_eq_true_eq] at en
    obtain ⟨V, hV⟩ : ∃ V : Nat, (V : Int) = (wyL (lfL A.now A.now.cp.toNat 0) (1, 0)).1 := ⟨(wyL (lfL A.now A.now.cp.toNat 0) (1, 0)).1.toNat, by omega⟩
    have l8 := hR.lpt 0 (by omega)
    have be := fun Q => @become_eq sp sc 18 A Q 0 V (by omega) l8 (by omega)
    have rp : repL ((A.sP 0 (pfx (lbF V) 8 (A.pt 0))).pt 0) V := by rw [sP_pt]; exact rep_become l8
    have te := fun Q => @tell_eq sp sc 17 (A.sP 0 (pfx (lbF V) 8 (A.pt 0))) Q 0 V (by omega) rp i ii
    have r0 : ∀ A : iA, (hp A).1[124]? = some (.inl (2, [.inr (.inr 127)])) := fun A => rfl
    have lps : ([126, 128, 130, 132, 134, 136, 138] : List Nat).length = 7 := rfl
    have p0 : ([126, 128, 130, 132, 134, 136, 138] : List Nat).getD (0 : Int).toNat 0 = 126 := rfl
    have p0' : ([126, 128, 130, 132, 134, 136, 138] : List Nat).getD 0 0 = 126 := rfl
    have be : ∀ Q, Call sp sc 18 mX2_become [.inr (.inr 126), .inr (.inl (V : Int))] (hp A) Q = Q none (hp (A.sP 0 (pfx (lbF V) 8 (A.pt 0)))) := be
    have te : ∀ Q, Call sp sc 18 mX2_tell [.inr (.inr 126), .inl i] (hp (A.sP 0 (pfx (lbF V) 8 (A.pt 0)))) Q = Q (some (.inl (tellV V i))) (hp (A.sP 0 (pfx (lbF V) 8 (A.pt 0)))) := te
    have dO := fun Q => @digitOf_eq sp sc 18 (A.sP 0 (pfx (lbF V) 8 (A.pt 0))) Q V i ii (by omega)
    have tb := @tell_b V i
    have one : (((1 : Fin 2).val : Nat) : Int) = 1 := rfl
    refine Agree.of (tellV V i) (A.sP 0 (pfx (lbF V) 8 (A.pt 0))) (A.sP 0 (pfx (lbF V) 8 (A.pt 0))) (inI_of (by omega) (by omega)) (fun Q => Call_eq ?_) (fun Q => Call_eq ?_) rfl rfl (rel_sP hR (by rw [pfx_len (by omega), l8]))
    · apply eX11_ways 60; simp (disch := first | assumption | rfl | exact inI_of (by omega) (by omega) | omega | decide | (simp only [sv_ext, sv_mc, Nat.le_refl]; done) | with_unfolding_all (refine @id _ ?_; first | exact Eq.refl _ | exact Nat.le_refl _ | assumption)) only [Nat.reduceAdd, Nat.reduceMul, Nat.reduceLeDiff, Nat.reduceLT, Int.reduceAdd, Int.reduceSub, Int.reduceMul, Int.reduceNeg, Int.reduceLE, Int.reduceLT, Int.reduceToNat, Int.reduceEq, reduceCtorEq, ld_z, ld_s, st1_0, st1_1, st1_s, st2_0, st2_1, st2_s, isJ_i, isJ_r, isJ_n, isJ_l, cs_nil, cs_i, cs_r, cs_l, kF, List.getElem?_cons_succ, List.getElem?_cons_zero, List.set_cons_zero, List.set_cons_succ, GC_s, GC_n, GK_nil, GK_no, GK_yes, not_false_eq_true, back_eq, back_hp, inI_eq, inA_eq, true_and, and_true, and_self, if_true, if_false, bI_0, bI_1, bI_in, bI_T, bI_F, fitF, jmpF, nlF, pjA, iVal.eta, iYr.eta, List.getElem?_toArray, List.length_cons, List.length_nil, true_or, or_true, or_false, false_or, Classical.not_not, Bool.false_eq_true, hp_2, Nat.zero_le, Nat.le_refl, Option.some.injEq, Sum.inl.injEq, Sum.inr.injEq, not_true_eq_false, true_implies, false_implies, implies_true, Int.le_refl, rd_v, f_num, f_lik, f_dep, f_bnd, f_man, f_wom, f_sta, f_dds, f_who, rd_e, v_now, hasOne_eq, hasTwo_eq, hasCouple_eq, orNone_eq, natureOf_eq, rd_nat, place_eq, rd_v1, rd_v3, rd_v4, rd_v6, rd_v7, rd_v8, rd_v9, rd_v10, isShelf_eq, isSide_eq, isDeed_eq, isKind_eq, isMindSpan_eq, gX11_ways, c2, ii, one]
      refine woC_loop (d := 18) hO ii A.now.cp.toNat 0 (1, 0) none none ok (by omega) (by omega) (fun o6 o7 => ?_)
      rw [← hV]
      refine G_run (B := [15, 61]) 60 _ _ _ _ ?_
      simp (disch := first | assumption | rfl | exact inI_of (by omega) (by omega) | omega | decide | (simp only [sv_ext, sv_mc, Nat.le_refl]; done) | with_unfolding_all (refine @id _ ?_; first | exact Eq.refl _ | exact Nat.le_refl _ | assumption)) only [Nat.reduceAdd, Nat.reduceMul, Nat.reduceLeDiff, Nat.reduceLT, Int.reduceAdd, Int.reduceSub, Int.reduceMul, Int.reduceNeg, Int.reduceLE, Int.reduceLT, Int.reduceToNat, Int.reduceEq, reduceCtorEq, ld_z, ld_s, st1_0, st1_1, st1_s, st2_0, st2_1, st2_s, isJ_i, isJ_r, isJ_n, isJ_l, cs_nil, cs_i, cs_r, cs_l, kF, List.getElem?_cons_succ, List.getElem?_cons_zero, List.set_cons_zero, List.set_cons_succ, GC_s, GC_n, GK_nil, GK_no, GK_yes, not_false_eq_true, back_eq, back_hp, inI_eq, inA_eq, true_and, and_true, and_self, if_true, if_false, bI_0, bI_1, bI_in, bI_T, bI_F, fitF, jmpF, nlF, pjA, iVal.eta, iYr.eta, List.getElem?_toArray, List.length_cons, List.length_nil, true_or, or_true, or_false, false_or, Classical.not_not, Bool.false_eq_true, hp_2, Nat.zero_le, Nat.le_refl, Option.some.injEq, Sum.inl.injEq, Sum.inr.injEq, not_true_eq_false, true_implies, false_implies, implies_true, Int.le_refl, rd_v, f_num, f_lik, f_dep, f_bnd, f_man, f_wom, f_sta, f_dds, f_who, rd_e, v_now, hasOne_eq, hasTwo_eq, hasCouple_eq, orNone_eq, natureOf_eq, rd_nat, place_eq, rd_v1, rd_v3, rd_v4, rd_v6, rd_v7, rd_v8, rd_v9, rd_v10, isShelf_eq, isSide_eq, isDeed_eq, isKind_eq, isMindSpan_eq, gX11_ways, rd_ps, lps, p0, p0', r0, be, te, back_sP]
    · apply eX12_ways 60; simp (disch := first | assumption | rfl | exact inI_of (by omega) (by omega) | omega | decide | (simp only [sv_ext, sv_mc, Nat.le_refl]; done) | with_unfolding_all (refine @id _ ?_; first | exact Eq.refl _ | exact Nat.le_refl _ | assumption)) only [Nat.reduceAdd, Nat.reduceMul, Nat.reduceLeDiff, Nat.reduceLT, Int.reduceAdd, Int.reduceSub, Int.reduceMul, Int.reduceNeg, Int.reduceLE, Int.reduceLT, Int.reduceToNat, Int.reduceEq, reduceCtorEq, ld_z, ld_s, st1_0, st1_1, st1_s, st2_0, st2_1, st2_s, isJ_i, isJ_r, isJ_n, isJ_l, cs_nil, cs_i, cs_r, cs_l, kF, List.getElem?_cons_succ, List.getElem?_cons_zero, List.set_cons_zero, List.set_cons_succ, GC_s, GC_n, GK_nil, GK_no, GK_yes, not_false_eq_true, back_eq, back_hp, inI_eq, inA_eq, true_and, and_true, and_self, if_true, if_false, bI_0, bI_1, bI_in, bI_T, bI_F, fitF, jmpF, nlF, pjA, iVal.eta, iYr.eta, List.getElem?_toArray, List.length_cons, List.length_nil, true_or, or_true, or_false, false_or, Classical.not_not, Bool.false_eq_true, hp_2, Nat.zero_le, Nat.le_refl, Option.some.injEq, Sum.inl.injEq, Sum.inr.injEq, not_true_eq_false, true_implies, false_implies, implies_true, Int.le_refl, rd_o, rd_o_s, hr, row_len, inA_one, inA_lik, inA_cpl, isOne_eq hO hr, isCouple_eq hO hr, isIn_eq, atOne_eq, atLike_eq, atCouple_eq, r_num, q_n0, q_n1, r_cp, r_dy, r_sl, r_who, q_kind, q_fig, q_dep, q_bnd, q_lik, q_man, q_wom, q_sta, q_dds, orNoneR_eq, Int.zero_add, gX12_ways, c2, ii, one]
      have hr2 : (A.sP 0 (pfx (lbF V) 8 (A.pt 0))).mo.s = rowOf A.now A.now.dy := hr
      refine woR_loop (d := 17) (X := A.now) (e := A.now.dy) hO hr2 ii A.now.cp.toNat 0 (1, 0) none ok (by omega) (by omega) (fun o6 => ?_)
      rw [← hV]
      have hr := hr2
      refine G_run (B := [15, 44]) 60 _ _ _ _ ?_
      simp (disch := first | assumption | rfl | exact inI_of (by omega) (by omega) | omega | decide | (simp only [sv_ext, sv_mc, Nat.le_refl]; done) | with_unfolding_all (refine @id _ ?_; first | exact Eq.refl _ | exact Nat.le_refl _ | assumption)) only [Nat.reduceAdd, Nat.reduceMul, Nat.reduceLeDiff, Nat.reduceLT, Int.reduceAdd, Int.reduceSub, Int.reduceMul, Int.reduceNeg, Int.reduceLE, Int.reduceLT, Int.reduceToNat, Int.reduceEq, reduceCtorEq, ld_z, ld_s, st1_0, st1_1, st1_s, st2_0, st2_1, st2_s, isJ_i, isJ_r, isJ_n, isJ_l, cs_nil, cs_i, cs_r, cs_l, kF, List.getElem?_cons_succ, List.getElem?_cons_zero, List.set_cons_zero, List.set_cons_succ, GC_s, GC_n, GK_nil, GK_no, GK_yes, not_false_eq_true, back_eq, back_hp, inI_eq, inA_eq, true_and, and_true, and_self, if_true, if_false, bI_0, bI_1, bI_in, bI_T, bI_F, fitF, jmpF, nlF, pjA, iVal.eta, iYr.eta, List.getElem?_toArray, List.length_cons, List.length_nil, true_or, or_true, or_false, false_or, Classical.not_not, Bool.false_eq_true, hp_2, Nat.zero_le, Nat.le_refl, Option.some.injEq, Sum.inl.injEq, Sum.inr.injEq, not_true_eq_false, true_implies, false_implies, implies_true, Int.le_refl, rd_o, rd_o_s, hr, row_len, inA_one, inA_lik, inA_cpl, isOne_eq hO hr, isCouple_eq hO hr, isIn_eq, atOne_eq, atLike_eq, atCouple_eq, r_num, q_n0, q_n1, r_cp, r_dy, r_sl, r_who, q_kind, q_fig, q_dep, q_bnd, q_lik, q_man, q_wom, q_sta, q_dds, orNoneR_eq, Int.zero_add, gX12_ways, dO]
end OPS
