set_option maxRecDepth 16384
/-! ===== figures of any length ===== -/
def dg (V j : Nat) : Nat := V / 10 ^ j % 10
/-- the limbs of a number -/
def lbF (V i : Nat) : Int := ((V / 10 ^ (9 * i) % 1000000000 : Nat) : Int)
def repL (l : List Int) (V : Nat) : Prop := l.length = 8 ∧ ∀ i : Nat, i < 8 → l.getD i 0 = lbF V i
def pfx (f : Nat → Int) (n : Nat) (l : List Int) : List Int := (List.range n).map f ++ l.drop n
theorem pfx_0 {f : Nat → Int} {l : List Int} : pfx f 0 l = l := rfl
theorem pfx_len {f : Nat → Int} {n : Nat} {l : List Int} (h : n ≤ l.length) : (pfx f n l).length = l.length := by
  unfold pfx
  rw [List.length_append, List.length_map, List.length_range, List.length_drop]; omega
theorem pfx_set {f : Nat → Int} {n : Nat} {l : List Int} (h : n < l.length) : (pfx f n l).set n (f n) = pfx f (n + 1) l := by
  unfold pfx
  have e : ((List.range n).map f).length = n := by rw [List.length_map, List.length_range]
  rw [List.set_append_right _ _ (by rw [e]; exact Nat.le_refl _), e, Nat.sub_self, List.drop_eq_getElem_cons h, List.set_cons_zero, List.range_succ, List.map_append, List.append_assoc]; rfl
theorem pfx_lo {f : Nat → Int} {n i : Nat} {l : List Int} (h : i < n) : (pfx f n l).getD i 0 = f i := by
  unfold pfx
  rw [List.getD_eq_getElem?_getD, List.getElem?_append_left (by rw [List.length_map, List.length_range]; exact h), List.getElem?_map, List.getElem?_range h]; rfl
theorem pfx_hi {f : Nat → Int} {n i : Nat} {l : List Int} (h : n ≤ i) : (pfx f n l).getD i 0 = l.getD i 0 := by
  unfold pfx
  have e : ((List.range n).map f).length = n := by rw [List.length_map, List.length_range]
  rw [List.getD_eq_getElem?_getD, List.getElem?_append_right (by rw [e]; exact h), e, List.getElem?_drop, List.getD_eq_getElem?_getD]
  have : n + (i - n) = i := by omega
  rw [this]
theorem dg_limb (V q r : Nat) (hr : r < 9) : V / 10 ^ (9 * q) % 1000000000 / 10 ^ r % 10 = dg V (9 * q + r) := by
  have e9 : 1000000000 = 10 ^ r * 10 ^ (9 - r) := by
    rw [← Nat.pow_add]
    have : r + (9 - r) = 9 := by omega
    rw [this]
  rw [e9, Nat.mod_mul_right_div_self]
  have d : 10 ∣ 10 ^ (9 - r) := by
    have : 9 - r = (8 - r) + 1 := by omega
    rw [this, Nat.pow_succ]
    exact Nat.dvd_mul_left _ _
  rw [Nat.mod_mod_of_dvd _ d, Nat.div_div_eq_div_mul, ← Nat.pow_add]
  rfl
theorem tdN (R : Nat) : ((R : Nat) : Int).tdiv 10 = ((R / 10 : Nat) : Int) := by
  rw [Int.tdiv_eq_ediv_of_nonneg (by omega)]; omega
theorem tmN (R : Nat) : ((R : Nat) : Int).tmod 10 = ((R % 10 : Nat) : Int) := by
  rw [Int.tmod_eq_emod_of_nonneg (by omega)]; omega
theorem tdB (R : Nat) : ((R : Nat) : Int).tdiv 1000000000 = ((R / 1000000000 : Nat) : Int) := by
  rw [Int.tdiv_eq_ediv_of_nonneg (by omega)]; omega
theorem tmB (R : Nat) : ((R : Nat) : Int).tmod 1000000000 = ((R % 1000000000 : Nat) : Int) := by
  rw [Int.tmod_eq_emod_of_nonneg (by omega)]; omega
def iA.sP (A : iA) (D : Nat) (l : List Int) : iA := (iA.mk A.now A.img A.mnd A.imd A.yr A.mt A.sh (fun e => if e = D then l else A.pt e) A.mo A.out A.ext A.mc)
def tlF (V : Nat) : Nat → Nat
  | 0 => 0
  | t + 1 => if dg V (t + 1) = 0 then tlF V t else t + 1
theorem tlF_le {V : Nat} : ∀ t, tlF V t ≤ t := by
  intro t
  induction t with
  | zero => exact Nat.le_refl _
  | succ t ih =>
    unfold tlF
    split
    · omega
    · exact Nat.le_refl _
theorem tlF_ok {V : Nat} : ∀ t, V < 10 ^ (t + 1) → V < 10 ^ (tlF V t + 1) ∧ (tlF V t = 0 ∨ 10 ^ (tlF V t) ≤ V) := by
  intro t
  induction t with
  | zero => intro h; exact ⟨h, Or.inl rfl⟩
  | succ t ih =>
    intro h
    unfold tlF
    have hp : 0 < 10 ^ (t + 1) := Nat.pow_pos (by omega)
    have q : V / 10 ^ (t + 1) < 10 := by
      rw [Nat.div_lt_iff_lt_mul hp]
      have : 10 * 10 ^ (t + 1) = 10 ^ (t + 1 + 1) := by rw [Nat.pow_succ 10 (t + 1), Nat.mul_comm]
      omega
    have e : dg V (t + 1) = V / 10 ^ (t + 1) := Nat.mod_eq_of_lt q
    by_cases c : dg V (t + 1) = 0
    · rw [if_pos c]
      rw [e] at c
      exact ih ((Nat.div_eq_zero_iff_lt hp).mp c)
    · rw [if_neg c]
      rw [e] at c
      refine ⟨h, Or.inr ?_⟩
      have := Nat.div_pos_iff.mp (Nat.pos_of_ne_zero c)
      exact this.2
theorem nd_one {V a b : Nat} (h1 : V < 10 ^ (a + 1)) (h2 : a = 0 ∨ 10 ^ a ≤ V) (h3 : V < 10 ^ (b + 1)) (h4 : b = 0 ∨ 10 ^ b ≤ V) : a = b := by
  rcases Nat.lt_trichotomy a b with z | z | z
  · exfalso
    have h4 := h4.resolve_left (by omega)
    have : 10 ^ (a + 1) ≤ 10 ^ b := Nat.pow_le_pow_right (by omega) (by omega)
    omega
  · exact z
  · exfalso
    have h2 := h2.resolve_left (by omega)
    have : 10 ^ (b + 1) ≤ 10 ^ a := Nat.pow_le_pow_right (by omega) (by omega)
    omega
/-- what is told: how many digits, or one of them -/
def tellV (V : Nat) (i : Int) : Int := if 0 ≤ i then (if i < 72 then (dg V i.toNat : Int) else 0) else ((tlF V 71 : Nat) : Int) + 1
theorem dg_b {V j : Nat} : dg V j < 10 := Nat.mod_lt _ (by omega)
theorem ps_at {d : Int} (h0 : 0 ≤ d) (h1 : d < 7) : ([126, 128, 130, 132, 134, 136, 138] : List Nat).getD d.toNat 0 = 124 + 2 * d.toNat + 2 := by
  have : d = 0 ∨ d = 1 ∨ d = 2 ∨ d = 3 ∨ d = 4 ∨ d = 5 ∨ d = 6 := by omega
  rcases this with rfl | rfl | rfl | rfl | rfl | rfl | rfl <;> rfl
section OPS
variable {sp : Nat → List iV → iH → Option (Option iV × iH)} {sc : List Int} {d : Nat} {A : iA} {Q : Option iV → iH → Prop} {h : iH} {X : iVal} {e g B : Int} {D V : Nat}
theorem wr_sP (hd : D < 7) {l : List Int} : ((hp A).1.set (125 + 2 * D) (.inr (.inl (1, l))), A.mc) = hp (A.sP D l) := wr_p1 hd
theorem sP_pt {l : List Int} : (A.sP D l).pt D = l := if_pos rfl
theorem sP_ne {l : List Int} {E : Nat} (h : ¬ E = D) : (A.sP D l).pt E = A.pt E := if_neg h
theorem sP_mc {l : List Int} : (A.sP D l).mc = A.mc := rfl
theorem sP_sP {l m : List Int} : (A.sP D l).sP D m = A.sP D m := by
  unfold iA.sP
  simp only [pjA]
  congr 1
  funext e
  by_cases c : e = D
  · rw [if_pos c, if_pos c]
  · rw [if_neg c, if_neg c, if_neg c]
theorem back_sP {l : List Int} {L : List (Option iV)} {rest : List iV} : back (hp A) (hp (A.sP D l)) L rest = True := back_hp rfl (Nat.le_refl _)
theorem dgC_loop {i : Int} : ∀ (k R : Nat), R < 1000000000 → k ≤ 9 → Q (some (.inl ((R / 10 ^ k % 10 : Nat) : Int))) (hp A) → Run sp sc d mX2_digit 30 [some (.inr (.inr (124 + 2 * D + 2))), some (.inl i), some (.inr (.inl (R : Int))), none, some (.inl (k : Int))] [] (hp A) Q := by
  have j10 : inJ 10 = true := by decide
  intro k
  induction k with
  | zero =>
    intro R hR hk hq
    refine G_run (B := [30]) 40 _ _ _ _ ?_
    have jR : inJ (R : Int) = true := inJ_iff.mpr (by omega)
    have e0 : ((0 : Nat) : Int) = 0 := rfl
    rw [Nat.pow_zero, Nat.div_one] at hq
    simp (disch := first | assumption | rfl | exact inI_of (by omega) (by omega) | omega | decide | (simp only [sv_ext, sv_mc, Nat.le_refl]; done) | with_unfolding_all (refine @id _ ?_; first | exact Eq.refl _ | exact Nat.le_refl _ | assumption)) only [Nat.reduceAdd, Nat.reduceMul, Nat.reduceLeDiff, Nat.reduceLT, Int.reduceAdd, Int.reduceSub, Int.reduceMul, Int.reduceNeg, Int.reduceLE, Int.reduceLT, Int.reduceToNat, Int.reduceEq, reduceCtorEq, ld_z, ld_s, st1_0, st1_1, st1_s, st2_0, st2_1, st2_s, isJ_i, isJ_r, isJ_n, isJ_l, cs_nil, cs_i, cs_r, cs_l, kF, List.getElem?_cons_succ, List.getElem?_cons_zero, List.set_cons_zero, List.set_cons_succ, GC_s, GC_n, GK_nil, GK_no, GK_yes, not_false_eq_true, back_eq, back_hp, inI_eq, inA_eq, true_and, and_true, and_self, if_true, if_false, bI_0, bI_1, bI_in, bI_T, bI_F, fitF, jmpF, nlF, pjA, iVal.eta, iYr.eta, List.getElem?_toArray, List.length_cons, List.length_nil, true_or, or_true, or_false, false_or, Classical.not_not, Bool.false_eq_true, hp_2, Nat.zero_le, Nat.le_refl, Option.some.injEq, Sum.inl.injEq, Sum.inr.injEq, not_true_eq_false, true_implies, false_implies, implies_true, Int.le_refl, gX2_digit, jR, j10, tmN]
    exact hq
  | succ k ih =>
    intro R hR hk hq
    refine G_run (B := [30]) 40 _ _ _ _ ?_
    have jR : inJ (R : Int) = true := inJ_iff.mpr (by omega)
    have e1 : ¬ ((k + 1 : Nat) : Int) ≤ 0 := by omega
    have e2 : ((k + 1 : Nat) : Int) + (-1) = (k : Int) := by omega
    have e3 : R / 10 ^ (k + 1) = R / 10 / 10 ^ k := by rw [Nat.div_div_eq_div_mul, Nat.pow_succ, Nat.mul_comm]
    rw [e3] at hq
    simp (disch := first | assumption | rfl | exact inI_of (by omega) (by omega) | omega | decide | (simp only [sv_ext, sv_mc, Nat.le_refl]; done) | with_unfolding_all (refine @id _ ?_; first | exact Eq.refl _ | exact Nat.le_refl _ | assumption)) only [Nat.reduceAdd, Nat.reduceMul, Nat.reduceLeDiff, Nat.reduceLT, Int.reduceAdd, Int.reduceSub, Int.reduceMul, Int.reduceNeg, Int.reduceLE, Int.reduceLT, Int.reduceToNat, Int.reduceEq, reduceCtorEq, ld_z, ld_s, st1_0, st1_1, st1_s, st2_0, st2_1, st2_s, isJ_i, isJ_r, isJ_n, isJ_l, cs_nil, cs_i, cs_r, cs_l, kF, List.getElem?_cons_succ, List.getElem?_cons_zero, List.set_cons_zero, List.set_cons_succ, GC_s, GC_n, GK_nil, GK_no, GK_yes, not_false_eq_true, back_eq, back_hp, inI_eq, inA_eq, true_and, and_true, and_self, if_true, if_false, bI_0, bI_1, bI_in, bI_T, bI_F, fitF, jmpF, nlF, pjA, iVal.eta, iYr.eta, List.getElem?_toArray, List.length_cons, List.length_nil, true_or, or_true, or_false, false_or, Classical.not_not, Bool.false_eq_true, hp_2, Nat.zero_le, Nat.le_refl, Option.some.injEq, Sum.inl.injEq, Sum.inr.injEq, not_true_eq_false, true_implies, false_implies, implies_true, Int.le_refl, gX2_digit, e1, e2, jR, j10, tdN]
    exact ih (R / 10) (by omega) (by omega) hq
theorem digit_eq (hd : D < 7) (hr : repL (A.pt D) V) {i : Int} (h0 : 0 ≤ i) (h1 : i < 2147483648) : Call sp sc d mX2_digit [.inr (.inr (124 + 2 * D + 2)), .inl i] (hp A) Q = Q (some (.inl (if i < 72 then (dg V i.toNat : Int) else 0))) (hp A) := Call_eq (by
  have l8 := hr.1
  have lt1 : (1 : Nat) < 6 := by decide
  apply eX2_digit 60
  by_cases c : i < 72
  · rw [if_pos c]
    have e1 : i.tdiv 9 = ((i.toNat / 9 : Nat) : Int) := by rw [Int.tdiv_eq_ediv_of_nonneg h0]; omega
    have e2 : i.tmod 9 = ((i.toNat % 9 : Nat) : Int) := by rw [Int.tmod_eq_emod_of_nonneg h0]; omega
    have e3 : (((i.toNat / 9 : Nat) : Int)).toNat = i.toNat / 9 := by omega
    have e4 := hr.2 (i.toNat / 9) (by omega)
    have e5 : 9 * (i.toNat / 9) + i.toNat % 9 = i.toNat := by omega
    have ed := dg_limb V (i.toNat / 9) (i.toNat % 9) (by omega)
    rw [e5] at ed
    simp (disch := first | assumption | rfl | exact inI_of (by omega) (by omega) | omega | decide | (simp only [sv_ext, sv_mc, Nat.le_refl]; done) | with_unfolding_all (refine @id _ ?_; first | exact Eq.refl _ | exact Nat.le_refl _ | assumption)) only [Nat.reduceAdd, Nat.reduceMul, Nat.reduceLeDiff, Nat.reduceLT, Int.reduceAdd, Int.reduceSub, Int.reduceMul, Int.reduceNeg, Int.reduceLE, Int.reduceLT, Int.reduceToNat, Int.reduceEq, reduceCtorEq, ld_z, ld_s, st1_0, st1_1, st1_s, st2_0, st2_1, st2_s, isJ_i, isJ_r, isJ_n, isJ_l, cs_nil, cs_i, cs_r, cs_l, kF, List.getElem?_cons_succ, List.getElem?_cons_zero, List.set_cons_zero, List.set_cons_succ, GC_s, GC_n, GK_nil, GK_no, GK_yes, not_false_eq_true, back_eq, back_hp, inI_eq, inA_eq, true_and, and_true, and_self, if_true, if_false, bI_0, bI_1, bI_in, bI_T, bI_F, fitF, jmpF, nlF, pjA, iVal.eta, iYr.eta, List.getElem?_toArray, List.length_cons, List.length_nil, true_or, or_true, or_false, false_or, Classical.not_not, Bool.false_eq_true, hp_2, Nat.zero_le, Nat.le_refl, Option.some.injEq, Sum.inl.injEq, Sum.inr.injEq, not_true_eq_false, true_implies, false_implies, implies_true, Int.le_refl, gX2_digit, rd_p, rd_p1, l8, lt1, c, e1, e2, e3, e4]
    unfold lbF
    refine dgC_loop (i.toNat % 9) _ (Nat.mod_lt _ (by omega)) (by omega) ?_
    rw [ed]
    exact ⟨rfl, rfl⟩
  · rw [if_neg c]
    have c2 : ¬ i < 72 := c
    simp (disch := first | assumption | rfl | exact inI_of (by omega) (by omega) | omega | decide | (simp only [sv_ext, sv_mc, Nat.le_refl]; done) | with_unfolding_all (refine @id _ ?_; first | exact Eq.refl _ | exact Nat.le_refl _ | assumption)) only [Nat.reduceAdd, Nat.reduceMul, Nat.reduceLeDiff, Nat.reduceLT, Int.reduceAdd, Int.reduceSub, Int.reduceMul, Int.reduceNeg, Int.reduceLE, Int.reduceLT, Int.reduceToNat, Int.reduceEq, reduceCtorEq, ld_z, ld_s, st1_0, st1_1, st1_s, st2_0, st2_1, st2_s, isJ_i, isJ_r, isJ_n, isJ_l, cs_nil, cs_i, cs_r, cs_l, kF, List.getElem?_cons_succ, List.getElem?_cons_zero, List.set_cons_zero, List.set_cons_succ, GC_s, GC_n, GK_nil, GK_no, GK_yes, not_false_eq_true, back_eq, back_hp, inI_eq, inA_eq, true_and, and_true, and_self, if_true, if_false, bI_0, bI_1, bI_in, bI_T, bI_F, fitF, jmpF, nlF, pjA, iVal.eta, iYr.eta, List.getElem?_toArray, List.length_cons, List.length_nil, true_or, or_true, or_false, false_or, Classical.not_not, Bool.false_eq_true, hp_2, Nat.zero_le, Nat.le_refl, Option.some.injEq, Sum.inl.injEq, Sum.inr.injEq, not_true_eq_false, true_implies, false_implies, implies_true, Int.le_refl, gX2_digit, rd_p, rd_p1, l8, lt1, c2])
theorem tell_loop (hd : D < 7) (hr : repL (A.pt D) V) {i : Int} : ∀ (t : Nat), t ≤ 71 → Q (some (.inl (((tlF V t : Nat) : Int) + 1))) (hp A) → Run sp sc (d + 1) mX2_tell 21 [some (.inr (.inr (124 + 2 * D + 2))), some (.inl i), some (.inl (t : Int))] [] (hp A) Q := by
  intro t
  induction t with
  | zero =>
    intro ht hq
    refine G_run (B := [21]) 40 _ _ _ _ ?_
    simp (disch := first | assumption | rfl | exact inI_of (by omega) (by omega) | omega | decide | (simp only [sv_ext, sv_mc, Nat.le_refl]; done) | with_unfolding_all (refine @id _ ?_; first | exact Eq.refl _ | exact Nat.le_refl _ | assumption)) only [Nat.reduceAdd, Nat.reduceMul, Nat.reduceLeDiff, Nat.reduceLT, Int.reduceAdd, Int.reduceSub, Int.reduceMul, Int.reduceNeg, Int.reduceLE, Int.reduceLT, Int.reduceToNat, Int.reduceEq, reduceCtorEq, ld_z, ld_s, st1_0, st1_1, st1_s, st2_0, st2_1, st2_s, isJ_i, isJ_r, isJ_n, isJ_l, cs_nil, cs_i, cs_r, cs_l, kF, List.getElem?_cons_succ, List.getElem?_cons_zero, List.set_cons_zero, List.set_cons_succ, GC_s, GC_n, GK_nil, GK_no, GK_yes, not_false_eq_true, back_eq, back_hp, inI_eq, inA_eq, true_and, and_true, and_self, if_true, if_false, bI_0, bI_1, bI_in, bI_T, bI_F, fitF, jmpF, nlF, pjA, iVal.eta, iYr.eta, List.getElem?_toArray, List.length_cons, List.length_nil, true_or, or_true, or_false, false_or, Classical.not_not, Bool.false_eq_true, hp_2, Nat.zero_le, Nat.le_refl, Option.some.injEq, Sum.inl.injEq, Sum.inr.injEq, not_true_eq_false, true_implies, false_implies, implies_true, Int.le_refl, gX2_tell]
    exact hq
  | succ t ih =>
    intro ht hq
    refine G_run (B := [21]) 40 _ _ _ _ ?_
    have e1 : ¬ ((t + 1 : Nat) : Int) ≤ 0 := by omega
    have e2 : ((t + 1 : Nat) : Int) + (-1) = (t : Int) := by omega
    have dq := fun Q => @digit_eq sp sc d A Q D V hd hr ((t + 1 : Nat) : Int) (by omega) (by omega)
    have e3 : (((t + 1 : Nat) : Int)).toNat = t + 1 := by omega
    rw [if_pos (by omega), e3] at dq
    have db := @dg_b V (t + 1)
    unfold tlF at hq
    by_cases c : dg V (t + 1) = 0
    · rw [if_pos c] at hq
      rw [c] at dq
      have dq : ∀ Q, Call sp sc d mX2_digit [.inr (.inr (124 + 2 * D + 2)), .inl ((t + 1 : Nat) : Int)] (hp A) Q = Q (some (.inl 0)) (hp A) := dq
      simp (disch := first | assumption | rfl | exact inI_of (by omega) (by omega) | omega | decide | (simp only [sv_ext, sv_mc, Nat.le_refl]; done) | with_unfolding_all (refine @id _ ?_; first | exact Eq.refl _ | exact Nat.le_refl _ | assumption)) only [Nat.reduceAdd, Nat.reduceMul, Nat.reduceLeDiff, Nat.reduceLT, Int.reduceAdd, Int.reduceSub, Int.reduceMul, Int.reduceNeg, Int.reduceLE, Int.reduceLT, Int.reduceToNat, Int.reduceEq, reduceCtorEq, ld_z, ld_s, st1_0, st1_1, st1_s, st2_0, st2_1, st2_s, isJ_i, isJ_r, isJ_n, isJ_l, cs_nil, cs_i, cs_r, cs_l, kF, List.getElem?_cons_succ, List.getElem?_cons_zero, List.set_cons_zero, List.set_cons_succ, GC_s, GC_n, GK_nil, GK_no, GK_yes, not_false_eq_true, back_eq, back_hp, inI_eq, inA_eq, true_and, and_true, and_self, if_true, if_false, bI_0, bI_1, bI_in, bI_T, bI_F, fitF, jmpF, nlF, pjA, iVal.eta, iYr.eta, List.getElem?_toArray, List.length_cons, List.length_nil, true_or, or_true, or_false, false_or, Classical.not_not, Bool.false_eq_true, hp_2, Nat.zero_le, Nat.le_refl, Option.some.injEq, Sum.inl.injEq, Sum.inr.injEq, not_true_eq_false, true_implies, false_implies, implies_true, Int.le_refl, gX2_tell, e1, e2, rd_p, dq]
      exact ih (by omega) hq
    · rw [if_neg c] at hq
      have c2 : ¬ ((dg V (t + 1) : Nat) : Int) = 0 := by omega
      have ii : inI ((dg V (t + 1) : Nat) : Int) = true := inI_of (by omega) (by omega)
      simp (disch := first | assumption | rfl | exact inI_of (by omega) (by omega) | omega | decide | (simp only [sv_ext, sv_mc, Nat.le_refl]; done) | with_unfolding_all (refine @id _ ?_; first | exact Eq.refl _ | exact Nat.le_refl _ | assumption)) only [Nat.reduceAdd, Nat.reduceMul, Nat.reduceLeDiff, Nat.reduceLT, Int.reduceAdd, Int.reduceSub, Int.reduceMul, Int.reduceNeg, Int.reduceLE, Int.reduceLT, Int.reduceToNat, Int.reduceEq, reduceCtorEq, ld_z, ld_s, st1_0, st1_1, st1_s, st2_0, st2_1, st2_s, isJ_i, isJ_r, isJ_n, isJ_l, cs_nil, cs_i, cs_r, cs_l, kF, List.getElem?_cons_succ, List.getElem?_cons_zero, List.set_cons_zero, List.set_cons_succ, GC_s, GC_n, GK_nil, GK_no, GK_yes, not_false_eq_true, back_eq, back_hp, inI_eq, inA_eq, true_and, and_true, and_self, if_true, if_false, bI_0, bI_1, bI_in, bI_T, bI_F, fitF, jmpF, nlF, pjA, iVal.eta, iYr.eta, List.getElem?_toArray, List.length_cons, List.length_nil, true_or, or_true, or_false, false_or, Classical.not_not, Bool.false_eq_true, hp_2, Nat.zero_le, Nat.le_refl, Option.some.injEq, Sum.inl.injEq, Sum.inr.injEq, not_true_eq_false, true_implies, false_implies, implies_true, Int.le_refl, gX2_tell, e1, e2, rd_p, dq, c2, ii]
      exact hq
theorem tell_eq (hd : D < 7) (hr : repL (A.pt D) V) {i : Int} (ii : inI i = true) : Call sp sc (d + 1) mX2_tell [.inr (.inr (124 + 2 * D + 2)), .inl i] (hp A) Q = Q (some (.inl (tellV V i))) (hp A) := Call_eq (by
  have l8 := hr.1
  have lt1 : (1 : Nat) < 6 := by decide
  have i2 := inI_iff.mp ii
  apply eX2_tell 40
  unfold tellV
  by_cases c : 0 ≤ i
  · rw [if_pos c]
    have c2 : ¬ i < 0 := by omega
    have dq := fun Q => @digit_eq sp sc d A Q D V hd hr i c (by omega)
    simp (disch := first | assumption | rfl | exact inI_of (by omega) (by omega) | omega | decide | (simp only [sv_ext, sv_mc, Nat.le_refl]; done) | with_unfolding_all (refine @id _ ?_; first | exact Eq.refl _ | exact Nat.le_refl _ | assumption)) only [Nat.reduceAdd, Nat.reduceMul, Nat.reduceLeDiff, Nat.reduceLT, Int.reduceAdd, Int.reduceSub, Int.reduceMul, Int.reduceNeg, Int.reduceLE, Int.reduceLT, Int.reduceToNat, Int.reduceEq, reduceCtorEq, ld_z, ld_s, st1_0, st1_1, st1_s, st2_0, st2_1, st2_s, isJ_i, isJ_r, isJ_n, isJ_l, cs_nil, cs_i, cs_r, cs_l, kF, List.getElem?_cons_succ, List.getElem?_cons_zero, List.set_cons_zero, List.set_cons_succ, GC_s, GC_n, GK_nil, GK_no, GK_yes, not_false_eq_true, back_eq, back_hp, inI_eq, inA_eq, true_and, and_true, and_self, if_true, if_false, bI_0, bI_1, bI_in, bI_T, bI_F, fitF, jmpF, nlF, pjA, iVal.eta, iYr.eta, List.getElem?_toArray, List.length_cons, List.length_nil, true_or, or_true, or_false, false_or, Classical.not_not, Bool.false_eq_true, hp_2, Nat.zero_le, Nat.le_refl, Option.some.injEq, Sum.inl.injEq, Sum.inr.injEq, not_true_eq_false, true_implies, false_implies, implies_true, Int.le_refl, gX2_tell, rd_p, c2, ii, dq]
  · rw [if_neg c]
    have c2 : i < 0 := by omega
    simp (disch := first | assumption | rfl | exact inI_of (by omega) (by omega) | omega | decide | (simp only [sv_ext, sv_mc, Nat.le_refl]; done) | with_unfolding_all (refine @id _ ?_; first | exact Eq.refl _ | exact Nat.le_refl _ | assumption)) only [Nat.reduceAdd, Nat.reduceMul, Nat.reduceLeDiff, Nat.reduceLT, Int.reduceAdd, Int.reduceSub, Int.reduceMul, Int.reduceNeg, Int.reduceLE, Int.reduceLT, Int.reduceToNat, Int.reduceEq, reduceCtorEq, ld_z, ld_s, st1_0, st1_1, st1_s, st2_0, st2_1, st2_s, isJ_i, isJ_r, isJ_n, isJ_l, cs_nil, cs_i, cs_r, cs_l, kF, List.getElem?_cons_succ, List.getElem?_cons_zero, List.set_cons_zero, List.set_cons_succ, GC_s, GC_n, GK_nil, GK_no, GK_yes, not_false_eq_true, back_eq, back_hp, inI_eq, inA_eq, true_and, and_true, and_self, if_true, if_false, bI_0, bI_1, bI_in, bI_T, bI_F, fitF, jmpF, nlF, pjA, iVal.eta, iYr.eta, List.getElem?_toArray, List.length_cons, List.length_nil, true_or, or_true, or_false, false_or, Classical.not_not, Bool.false_eq_true, hp_2, Nat.zero_le, Nat.le_refl, Option.some.injEq, Sum.inl.injEq, Sum.inr.injEq, not_true_eq_false, true_implies, false_implies, implies_true, Int.le_refl, gX2_tell, rd_p, rd_p1, l8, lt1, c2, ii]
    exact tell_loop (t := 71) hd hr (by omega) ⟨rfl, rfl⟩)
theorem be_loop (hd : D < 7) {z : Int} {l : List Int} (l8 : l.length = 8) (hV : V < 1000000000000000000) : ∀ (k n : Nat), n + k = 8 → Q none (hp (A.sP D (pfx (lbF V) 8 l))) → Run sp sc d mX2_become 5 [some (.inr (.inr (124 + 2 * D + 2))), some (.inr (.inl z)), none, some (.inr (.inl ((V / 10 ^ (9 * n) : Nat) : Int))), none, some (.inl (n : Int))] [] (hp (A.sP D (pfx (lbF V) n l))) Q := by
  have lt1 : (1 : Nat) < 6 := by decide
  intro k
  induction k with
  | zero =>
    intro n hn hq
    have e : n = 8 := by omega
    subst e
    refine G_run (B := [5]) 40 _ _ _ _ ?_
    have lp : (pfx (lbF V) 8 l).length = 8 := by rw [pfx_len (by omega), l8]
    simp (disch := first | assumption | rfl | exact inI_of (by omega) (by omega) | omega | decide | (simp only [sv_ext, sv_mc, Nat.le_refl]; done) | with_unfolding_all (refine @id _ ?_; first | exact Eq.refl _ | exact Nat.le_refl _ | assumption)) only [Nat.reduceAdd, Nat.reduceMul, Nat.reduceLeDiff, Nat.reduceLT, Int.reduceAdd, Int.reduceSub, Int.reduceMul, Int.reduceNeg, Int.reduceLE, Int.reduceLT, Int.reduceToNat, Int.reduceEq, reduceCtorEq, ld_z, ld_s, st1_0, st1_1, st1_s, st2_0, st2_1, st2_s, isJ_i, isJ_r, isJ_n, isJ_l, cs_nil, cs_i, cs_r, cs_l, kF, List.getElem?_cons_succ, List.getElem?_cons_zero, List.set_cons_zero, List.set_cons_succ, GC_s, GC_n, GK_nil, GK_no, GK_yes, not_false_eq_true, back_eq, back_hp, inI_eq, inA_eq, true_and, and_true, and_self, if_true, if_false, bI_0, bI_1, bI_in, bI_T, bI_F, fitF, jmpF, nlF, pjA, iVal.eta, iYr.eta, List.getElem?_toArray, List.length_cons, List.length_nil, true_or, or_true, or_false, false_or, Classical.not_not, Bool.false_eq_true, hp_2, Nat.zero_le, Nat.le_refl, Option.some.injEq, Sum.inl.injEq, Sum.inr.injEq, not_true_eq_false, true_implies, false_implies, implies_true, Int.le_refl, gX2_become, rd_p, rd_p1, sP_pt, lp, lt1]
    exact hq
  | succ k ih =>
    intro n hn hq
    have ih := ih (n + 1) (by omega) hq
    refine G_run (B := [5]) 40 _ _ _ _ ?_
    have lp : (pfx (lbF V) n l).length = 8 := by rw [pfx_len (by omega), l8]
    have e1 : ¬ (8 : Int) ≤ (n : Int) := by omega
    have e2 : ((n : Int)).toNat = n := by omega
    have lev : V / 10 ^ (9 * n) ≤ V := Nat.div_le_self _ _
    have jR : inJ ((V / 10 ^ (9 * n) : Nat) : Int) = true := by
      generalize V / 10 ^ (9 * n) = R at lev ⊢
      exact inJ_iff.mpr (by omega)
    have jB : inJ 1000000000 = true := by decide
    have es : (pfx (lbF V) n l).set n (((V / 10 ^ (9 * n) % 1000000000 : Nat) : Int)) = pfx (lbF V) (n + 1) l := pfx_set (f := lbF V) (by omega)
    have e3 : V / 10 ^ (9 * n) / 1000000000 = V / 10 ^ (9 * (n + 1)) := by
      rw [Nat.div_div_eq_div_mul]
      have : 10 ^ (9 * n) * 1000000000 = 10 ^ (9 * (n + 1)) := by rw [Nat.mul_add, Nat.pow_add]
      rw [this]
    have e4 : (n : Int) + 1 = ((n + 1 : Nat) : Int) := by omega
    simp (disch := first | assumption | rfl | exact inI_of (by omega) (by omega) | omega | decide | (simp only [sv_ext, sv_mc, Nat.le_refl]; done) | with_unfolding_all (refine @id _ ?_; first | exact Eq.refl _ | exact Nat.le_refl _ | assumption)) only [Nat.reduceAdd, Nat.reduceMul, Nat.reduceLeDiff, Nat.reduceLT, Int.reduceAdd, Int.reduceSub, Int.reduceMul, Int.reduceNeg, Int.reduceLE, Int.reduceLT, Int.reduceToNat, Int.reduceEq, reduceCtorEq, ld_z, ld_s, st1_0, st1_1, st1_s, st2_0, st2_1, st2_s, isJ_i, isJ_r, isJ_n, isJ_l, cs_nil, cs_i, cs_r, cs_l, kF, List.getElem?_cons_succ, List.getElem?_cons_zero, List.set_cons_zero, List.set_cons_succ, GC_s, GC_n, GK_nil, GK_no, GK_yes, not_false_eq_true, back_eq, back_hp, inI_eq, inA_eq, true_and, and_true, and_self, if_true, if_false, bI_0, bI_1, bI_in, bI_T, bI_F, fitF, jmpF, nlF, pjA, iVal.eta, iYr.eta, List.getElem?_toArray, List.length_cons, List.length_nil, true_or, or_true, or_false, false_or, Classical.not_not, Bool.false_eq_true, hp_2, Nat.zero_le, Nat.le_refl, Option.some.injEq, Sum.inl.injEq, Sum.inr.injEq, not_true_eq_false, true_implies, false_implies, implies_true, Int.le_refl, gX2_become, rd_p, rd_p1, sP_pt, lp, lt1, e1, e2, jR, jB, tmB, tdB, es, e3, e4, sP_sP, wr_sP]
    exact ih
theorem become_eq (hd : D < 7) (l8 : (A.pt D).length = 8) (hV : V < 1000000000000000000) : Call sp sc d mX2_become [.inr (.inr (124 + 2 * D + 2)), .inr (.inl (V : Int))] (hp A) Q = Q none (hp (A.sP D (pfx (lbF V) 8 (A.pt D)))) := Call_eq (by
  apply eX2_become 40; simp (disch := first | assumption | rfl | exact inI_of (by omega) (by omega) | omega | decide | (simp only [sv_ext, sv_mc, Nat.le_refl]; done) | with_unfolding_all (refine @id _ ?_; first | exact Eq.refl _ | exact Nat.le_refl _ | assumption)) only [Nat.reduceAdd, Nat.reduceMul, Nat.reduceLeDiff, Nat.reduceLT, Int.reduceAdd, Int.reduceSub, Int.reduceMul, Int.reduceNeg, Int.reduceLE, Int.reduceLT, Int.reduceToNat, Int.reduceEq, reduceCtorEq, ld_z, ld_s, st1_0, st1_1, st1_s, st2_0, st2_1, st2_s, isJ_i, isJ_r, isJ_n, isJ_l, cs_nil, cs_i, cs_r, cs_l, kF, List.getElem?_cons_succ, List.getElem?_cons_zero, List.set_cons_zero, List.set_cons_succ, GC_s, GC_n, GK_nil, GK_no, GK_yes, not_false_eq_true, back_eq, back_hp, inI_eq, inA_eq, true_and, and_true, and_self, if_true, if_false, bI_0, bI_1, bI_in, bI_T, bI_F, fitF, jmpF, nlF, pjA, iVal.eta, iYr.eta, List.getElem?_toArray, List.length_cons, List.length_nil, true_or, or_true, or_false, false_or, Classical.not_not, Bool.false_eq_true, hp_2, Nat.zero_le, Nat.le_refl, Option.some.injEq, Sum.inl.injEq, Sum.inr.injEq, not_true_eq_false, true_implies, false_implies, implies_true, Int.le_refl, gX2_become]
  have eA : A = A.sP D (pfx (lbF V) 0 (A.pt D)) := by
    unfold iA.sP pfx
    have : (fun e => if e = D then (List.map (lbF V) (List.range 0) ++ List.drop 0 (A.pt D)) else A.pt e) = A.pt := by
      funext e
      by_cases c : e = D
      · rw [if_pos c, c]; rfl
      · rw [if_neg c]
    rw [this]; exact (iA.eta A).symm
  have k := @be_loop sp sc d A (fun a b => a = none ∧ b = hp (A.sP D (pfx (lbF V) 8 (A.pt D)))) D V hd (V : Int) (A.pt D) l8 hV 8 0 (by omega) ⟨rfl, rfl⟩
  rw [← eA, Nat.mul_zero, Nat.pow_zero, Nat.div_one] at k
  exact k)
theorem rep_become {l : List Int} (l8 : l.length = 8) : repL (pfx (lbF V) 8 l) V := ⟨by rw [pfx_len (by omega), l8], fun i hi => pfx_lo hi⟩
theorem rel_sP (hR : Rel A) {l : List Int} (l8 : l.length = 8) : Rel (A.sP D l) := (Rel.mk hR.now hR.img hR.mnd hR.mok hR.yr hR.ndy hR.idy hR.row hR.imd hR.him hR.imr hR.lim hR.lm hR.lwas hR.lwt hR.len hR.lod hR.lnu hR.lhe hR.lbh hR.lak hR.lfi hR.lth hR.lke hR.lkk hR.lkf hR.lso hR.lsz hR.lel hR.lwv hR.lhb hR.lfm hR.lmk (fun e he => by
    show (if e = D then l else A.pt e).length = 8
    by_cases c : e = D
    · rw [if_pos c]; exact l8
    · rw [if_neg c]; exact hR.lpt e he) hR.lout hR.shs hR.inj)
end OPS
