set_option maxRecDepth 16384
/-! ===== thaw: numbers mixed, the class ===== -/
/-- what is carried into a place -/
def crF (B U W a b n : Nat) : Nat := (U % B ^ n * a + W % B ^ n * b) / B ^ n
theorem mod_step (B U n : Nat) : U % B ^ (n + 1) = B ^ n * (U / B ^ n % B) + U % B ^ n := by
  rw [Nat.pow_succ, Nat.mod_mul]
  omega
theorem cr_sum {B U W a b n : Nat} (hB : 0 < B) : crF B U W a b n + (U / B ^ n % B * a + W / B ^ n % B * b) = (U % B ^ (n + 1) * a + W % B ^ (n + 1) * b) / B ^ n := by
  have hp := Nat.pow_pos (n := n) hB
  rw [mod_step, mod_step B W n]
  have e : (B ^ n * (U / B ^ n % B) + U % B ^ n) * a + (B ^ n * (W / B ^ n % B) + W % B ^ n) * b = (U % B ^ n * a + W % B ^ n * b) + B ^ n * (U / B ^ n % B * a + W / B ^ n % B * b) := by
    rw [Nat.add_mul, Nat.add_mul, Nat.mul_add, Nat.mul_assoc, Nat.mul_assoc]
    omega
  rw [e, Nat.add_mul_div_left _ _ hp]
  rfl
theorem cr_next {B U W a b n : Nat} (hB : 0 < B) : (crF B U W a b n + (U / B ^ n % B * a + W / B ^ n % B * b)) / B = crF B U W a b (n + 1) := by
  rw [cr_sum hB, Nat.div_div_eq_div_mul, ← Nat.pow_succ]; rfl
theorem cr_dig {B U W a b n : Nat} (hB : 0 < B) : (crF B U W a b n + (U / B ^ n % B * a + W / B ^ n % B * b)) % B = (U * a + W * b) / B ^ n % B := by
  have hp := Nat.pow_pos (n := n) hB
  rw [cr_sum hB]
  have eU : U = B ^ (n + 1) * (U / B ^ (n + 1)) + U % B ^ (n + 1) := (Nat.div_add_mod _ _).symm
  have eW : W = B ^ (n + 1) * (W / B ^ (n + 1)) + W % B ^ (n + 1) := (Nat.div_add_mod _ _).symm
  have e : U * a + W * b = (U % B ^ (n + 1) * a + W % B ^ (n + 1) * b) + B ^ n * (B * (U / B ^ (n + 1) * a + W / B ^ (n + 1) * b)) := by
    have h1 : B ^ (n + 1) * (U / B ^ (n + 1)) * a = B ^ n * (B * (U / B ^ (n + 1) * a)) := by rw [Nat.pow_succ, Nat.mul_assoc, Nat.mul_assoc]
    have h2 : B ^ (n + 1) * (W / B ^ (n + 1)) * b = B ^ n * (B * (W / B ^ (n + 1) * b)) := by rw [Nat.pow_succ, Nat.mul_assoc, Nat.mul_assoc]
    have h3 : B ^ n * (B * (U / B ^ (n + 1) * a + W / B ^ (n + 1) * b)) = B ^ n * (B * (U / B ^ (n + 1) * a)) + B ^ n * (B * (W / B ^ (n + 1) * b)) := by rw [Nat.mul_add, Nat.mul_add]
    have h4 : U * a = B ^ (n + 1) * (U / B ^ (n + 1)) * a + U % B ^ (n + 1) * a := by rw [← Nat.add_mul, ← eU]
    have h5 : W * b = B ^ (n + 1) * (W / B ^ (n + 1)) * b + W % B ^ (n + 1) * b := by rw [← Nat.add_mul, ← eW]
    rw [h4, h5, h1, h2, h3]
    omega
  rw [e, Nat.add_mul_div_left _ _ hp, Nat.add_mul_mod_self_left]
theorem cr_b {B U W a b n : Nat} (hB : 0 < B) : crF B U W a b n ≤ a + b := by
  have hp := Nat.pow_pos (n := n) hB
  unfold crF
  have h1 : U % B ^ n * a ≤ B ^ n * a := Nat.mul_le_mul_right _ (Nat.le_of_lt (Nat.mod_lt _ hp))
  have h2 : W % B ^ n * b ≤ B ^ n * b := Nat.mul_le_mul_right _ (Nat.le_of_lt (Nat.mod_lt _ hp))
  have h3 : (U % B ^ n * a + W % B ^ n * b) / B ^ n ≤ (B ^ n * (a + b)) / B ^ n := Nat.div_le_div_right (by rw [Nat.mul_add]; omega)
  rw [Nat.mul_div_cancel_left _ hp] at h3
  exact h3
theorem lb_pow (V i : Nat) : lbF V i = ((V / 1000000000 ^ i % 1000000000 : Nat) : Int) := by
  unfold lbF
  have : 10 ^ (9 * i) = 1000000000 ^ i := by rw [Nat.pow_mul]
  rw [this]
/-- the numbers a day on: at least so many done -/
def aVn (t : Nat) (a : Nat → Nat) : Nat → Nat
  | 0 => a 0 * 10
  | d + 1 => a (d + 1) * (10 - t) + a d * t
def iA.sPt (A : iA) (f : Nat → List Int) : iA := (iA.mk A.now A.img A.mnd A.imd A.yr A.mt A.sh (f) A.mo A.out A.ext A.mc)
def gF (f : Nat → List Int) (a : Nat → Nat) (m : Nat) : Prop := (∀ D, D < 7 → (f D).length = 8) ∧ ∀ D, D ≤ m → repL (f D) (a D)
section OPS
variable {sp : Nat → List iV → iH → Option (Option iV × iH)} {sc : List Int} {d : Nat} {A : iA} {Q : Option iV → iH → Prop} {h : iH} {X : iVal} {e g B : Int} {D E U W : Nat} {f : Nat → List Int}
theorem sPt_sP {l : List Int} : (A.sPt f).sP D l = A.sPt (fun e => if e = D then l else f e) := rfl
theorem back_sPt {f f' : Nat → List Int} {L : List (Option iV)} {rest : List iV} : back (hp (A.sPt f)) (hp (A.sPt f')) L rest = True := back_hp rfl (Nat.le_refl _)
theorem mx_loop (hd : D < 7) (he : E < 7) {a b : Nat} (ha : a ≤ 10) (hb : b ≤ 10) {lU lW : List Int} (hU : repL lU U) (hW : repL lW W) (hf : ∀ n : Nat, n < 8 → (((A.sP D (pfx (lbF (U * a + W * b)) n lU)).pt E).length = 8) ∧ ((A.sP D (pfx (lbF (U * a + W * b)) n lU)).pt E).getD n 0 = lW.getD n 0) : ∀ (k n : Nat), n + k = 8 → Q none (hp (A.sP D (pfx (lbF (U * a + W * b)) 8 lU))) → Run sp sc d mX2_mix 6 [some (.inr (.inr (124 + 2 * D + 2))), some (.inl (a : Int)), some (.inr (.inr (124 + 2 * E + 2))), some (.inl (b : Int)), some (.inr (.inl (crF 1000000000 U W a b n : Int))), none, some (.inl (n : Int))] [] (hp (A.sP D (pfx (lbF (U * a + W * b)) n lU))) Q := by
  have lt1 : (1 : Nat) < 6 := by decide
  have l8 := hU.1
  have B0 : 0 < 1000000000 := by omega
  have jB : inJ 1000000000 = true := by decide
  intro k
  induction k with
  | zero =>
    intro n hn hq
    have e : n = 8 := by omega
    subst e
    refine G_run (B := [6]) 60 _ _ _ _ ?_
    have lp : (pfx (lbF (U * a + W * b)) 8 lU).length = 8 := by rw [pfx_len (by omega), l8]
    simp (disch := first | assumption | rfl | exact inI_of (by omega) (by omega) | omega | decide | (simp only [sv_ext, sv_mc, Nat.le_refl]; done) | with_unfolding_all (refine @id _ ?_; first | exact Eq.refl _ | exact Nat.le_refl _ | assumption)) only [Nat.reduceAdd, Nat.reduceMul, Nat.reduceLeDiff, Nat.reduceLT, Int.reduceAdd, Int.reduceSub, Int.reduceMul, Int.reduceNeg, Int.reduceLE, Int.reduceLT, Int.reduceToNat, Int.reduceEq, reduceCtorEq, ld_z, ld_s, st1_0, st1_1, st1_s, st2_0, st2_1, st2_s, isJ_i, isJ_r, isJ_n, isJ_l, cs_nil, cs_i, cs_r, cs_l, kF, List.getElem?_cons_succ, List.getElem?_cons_zero, List.set_cons_zero, List.set_cons_succ, GC_s, GC_n, GK_nil, GK_no, GK_yes, not_false_eq_true, back_eq, back_hp, inI_eq, inA_eq, true_and, and_true, and_self, if_true, if_false, bI_0, bI_1, bI_in, bI_T, bI_F, fitF, jmpF, nlF, pjA, iVal.eta, iYr.eta, List.getElem?_toArray, List.length_cons, List.length_nil, true_or, or_true, or_false, false_or, Classical.not_not, Bool.false_eq_true, hp_2, Nat.zero_le, Nat.le_refl, Option.some.injEq, Sum.inl.injEq, Sum.inr.injEq, not_true_eq_false, true_implies, false_implies, implies_true, Int.le_refl, gX2_mix, rd_p, rd_p1, sP_pt, lp, lt1]
    exact hq
  | succ k ih =>
    intro n hn hq
    have ih := ih (n + 1) (by omega) hq
    have lp : (pfx (lbF (U * a + W * b)) n lU).length = 8 := by rw [pfx_len (by omega), l8]
    have e1 : ¬ (8 : Int) ≤ (n : Int) := by omega
    have e2 : ((n : Int)).toNat = n := by omega
    have e4 : (n : Int) + 1 = ((n + 1 : Nat) : Int) := by omega
    have hW2 := hf n (by omega)
    have u1 : (pfx (lbF (U * a + W * b)) n lU).getD n 0 = ((U / 1000000000 ^ n % 1000000000 : Nat) : Int) := by rw [pfx_hi (Nat.le_refl _), hU.2 n (by omega), lb_pow]
    have w1 : ((A.sP D (pfx (lbF (U * a + W * b)) n lU)).pt E).getD n 0 = ((W / 1000000000 ^ n % 1000000000 : Nat) : Int) := by rw [hW2.2, hW.2 n (by omega), lb_pow]
    have wl := hW2.1
    have cn := cr_next (B := 1000000000) (U := U) (W := W) (a := a) (b := b) (n := n) B0
    have cd := cr_dig (B := 1000000000) (U := U) (W := W) (a := a) (b := b) (n := n) B0
    have cb := cr_b (B := 1000000000) (U := U) (W := W) (a := a) (b := b) (n := n) B0
    have ub := Nat.mod_lt (U / 1000000000 ^ n) B0
    have wb := Nat.mod_lt (W / 1000000000 ^ n) B0
    have es : (pfx (lbF (U * a + W * b)) n lU).set n (lbF (U * a + W * b) n) = pfx (lbF (U * a + W * b)) (n + 1) lU := pfx_set (f := lbF (U * a + W * b)) (by omega)
    rw [lb_pow] at es
    generalize U / 1000000000 ^ n % 1000000000 = u at *
    generalize W / 1000000000 ^ n % 1000000000 = w at *
    generalize crF 1000000000 U W a b n = c at *
    generalize crF 1000000000 U W a b (n + 1) = c' at *
    have ua : u * a ≤ 1000000000 * 10 := Nat.mul_le_mul (by omega) ha
    have wb' : w * b ≤ 1000000000 * 10 := Nat.mul_le_mul (by omega) hb
    have eS : (c : Int) + ((u : Int) * (a : Int) + (w : Int) * (b : Int)) = ((c + (u * a + w * b) : Nat) : Int) := by
      rw [Int.natCast_add, Int.natCast_add, Int.natCast_mul, Int.natCast_mul]
    have jS : inJ ((c + (u * a + w * b) : Nat) : Int) = true := inJ_iff.mpr (by omega)
    rw [← cd] at es
    have ia : inI (a : Int) = true := inI_of (by omega) (by omega)
    have ib : inI (b : Int) = true := inI_of (by omega) (by omega)
    refine G_run (B := [6]) 60 _ _ _ _ ?_
    simp (disch := first | assumption | rfl | exact inI_of (by omega) (by omega) | omega | decide | (simp only [sv_ext, sv_mc, Nat.le_refl]; done) | with_unfolding_all (refine @id _ ?_; first | exact Eq.refl _ | exact Nat.le_refl _ | assumption)) only [Nat.reduceAdd, Nat.reduceMul, Nat.reduceLeDiff, Nat.reduceLT, Int.reduceAdd, Int.reduceSub, Int.reduceMul, Int.reduceNeg, Int.reduceLE, Int.reduceLT, Int.reduceToNat, Int.reduceEq, reduceCtorEq, ld_z, ld_s, st1_0, st1_1, st1_s, st2_0, st2_1, st2_s, isJ_i, isJ_r, isJ_n, isJ_l, cs_nil, cs_i, cs_r, cs_l, kF, List.getElem?_cons_succ, List.getElem?_cons_zero, List.set_cons_zero, List.set_cons_succ, GC_s, GC_n, GK_nil, GK_no, GK_yes, not_false_eq_true, back_eq, back_hp, inI_eq, inA_eq, true_and, and_true, and_self, if_true, if_false, bI_0, bI_1, bI_in, bI_T, bI_F, fitF, jmpF, nlF, pjA, iVal.eta, iYr.eta, List.getElem?_toArray, List.length_cons, List.length_nil, true_or, or_true, or_false, false_or, Classical.not_not, Bool.false_eq_true, hp_2, Nat.zero_le, Nat.le_refl, Option.some.injEq, Sum.inl.injEq, Sum.inr.injEq, not_true_eq_false, true_implies, false_implies, implies_true, Int.le_refl, gX2_mix, rd_p, rd_p1, sP_pt, lp, lt1, e1, e2, e4, u1, w1, wl, ia, ib, eS, jS, jB, tmB, tdB, es, cn, sP_sP, wr_sP]
    exact ih
theorem mix_eq (hd : D < 7) (he : E < 7) {a b : Nat} (ha : a ≤ 10) (hb : b ≤ 10) (hU : repL (A.pt D) U) (hW : repL (A.pt E) W) : Call sp sc d mX2_mix [.inr (.inr (124 + 2 * D + 2)), .inl (a : Int), .inr (.inr (124 + 2 * E + 2)), .inl (b : Int)] (hp A) Q = Q none (hp (A.sP D (pfx (lbF (U * a + W * b)) 8 (A.pt D)))) := Call_eq (by
  have one : (((0 : Fin 2).val : Nat) : Int) = 0 := rfl
  apply eX2_mix 40; simp (disch := first | assumption | rfl | exact inI_of (by omega) (by omega) | omega | decide | (simp only [sv_ext, sv_mc, Nat.le_refl]; done) | with_unfolding_all (refine @id _ ?_; first | exact Eq.refl _ | exact Nat.le_refl _ | assumption)) only [Nat.reduceAdd, Nat.reduceMul, Nat.reduceLeDiff, Nat.reduceLT, Int.reduceAdd, Int.reduceSub, Int.reduceMul, Int.reduceNeg, Int.reduceLE, Int.reduceLT, Int.reduceToNat, Int.reduceEq, reduceCtorEq, ld_z, ld_s, st1_0, st1_1, st1_s, st2_0, st2_1, st2_s, isJ_i, isJ_r, isJ_n, isJ_l, cs_nil, cs_i, cs_r, cs_l, kF, List.getElem?_cons_succ, List.getElem?_cons_zero, List.set_cons_zero, List.set_cons_succ, GC_s, GC_n, GK_nil, GK_no, GK_yes, not_false_eq_true, back_eq, back_hp, inI_eq, inA_eq, true_and, and_true, and_self, if_true, if_false, bI_0, bI_1, bI_in, bI_T, bI_F, fitF, jmpF, nlF, pjA, iVal.eta, iYr.eta, List.getElem?_toArray, List.length_cons, List.length_nil, true_or, or_true, or_false, false_or, Classical.not_not, Bool.false_eq_true, hp_2, Nat.zero_le, Nat.le_refl, Option.some.injEq, Sum.inl.injEq, Sum.inr.injEq, not_true_eq_false, true_implies, false_implies, implies_true, Int.le_refl, gX2_mix, one]
  have eA : A = A.sP D (pfx (lbF (U * a + W * b)) 0 (A.pt D)) := by
    unfold iA.sP pfx
    have : (fun e => if e = D then (List.map (lbF (U * a + W * b)) (List.range 0) ++ List.drop 0 (A.pt D)) else A.pt e) = A.pt := by
      funext e
      by_cases c : e = D
      · rw [if_pos c, c]; rfl
      · rw [if_neg c]
    rw [this]; exact (iA.eta A).symm
  have c0 : crF 1000000000 U W a b 0 = 0 := by
    unfold crF
    rw [Nat.pow_zero, Nat.mod_one, Nat.mod_one, Nat.zero_mul, Nat.zero_mul]
  have k := @mx_loop sp sc d A (fun x y => x = none ∧ y = hp (A.sP D (pfx (lbF (U * a + W * b)) 8 (A.pt D)))) D E U W hd he a b ha hb (A.pt D) (A.pt E) hU hW (fun n hn => by
    by_cases c : E = D
    · subst c
      rw [sP_pt]
      exact ⟨by rw [pfx_len (by have := hU.1; omega)]; exact hU.1, pfx_hi (Nat.le_refl _)⟩
    · rw [sP_ne c]
      exact ⟨hW.1, rfl⟩) 8 0 (by omega) ⟨rfl, rfl⟩
  rw [← eA, c0] at k
  exact k)
/-- one day, from a deed down -/
theorem tdC_loop {t m : Nat} (t1 : 1 ≤ t) (t9 : t ≤ 9) (hm : m ≤ 6) {a : Nat → Nat} {c n i y : Int} : ∀ (q : Nat) (f : Nat → List Int), q ≤ m → (∀ D, D < 7 → (f D).length = 8) → (∀ D, D ≤ q → repL (f D) (a D)) → (∀ D, q < D → D ≤ m → repL (f D) (aVn t a D)) → ∃ f', (∀ D, D < 7 → (f' D).length = 8) ∧ repL (f' 0) (a 0) ∧ (∀ D, 0 < D → D ≤ m → repL (f' D) (aVn t a D)) ∧ ∀ Q, Run sp sc (d + 1) mX11_thaw 115 [some (.inr (.inr 2)), some (.inl c), some (.inl n), some (.inl (t : Int)), some (.inl i), some (.inl (m : Int)), some (.inl y), some (.inl 0)] [] (hp (A.sPt f')) Q → Run sp sc (d + 1) mX11_thaw 115 [some (.inr (.inr 2)), some (.inl c), some (.inl n), some (.inl (t : Int)), some (.inl i), some (.inl (m : Int)), some (.inl y), some (.inl (q : Int))] [] (hp (A.sPt f)) Q := by
  have lps : ([126, 128, 130, 132, 134, 136, 138] : List Nat).length = 7 := rfl
  intro q
  induction q with
  | zero => intro f hq h8 h1 h2; exact ⟨f, h8, h1 0 (Nat.le_refl _), fun D a b => h2 D a b, fun Q hQ => hQ⟩
  | succ q ih =>
    intro f hq h8 h1 h2
    have r1 := h1 (q + 1) (Nat.le_refl _)
    have r0 := h1 q (by omega)
    have mx := fun Q => @mix_eq sp sc d (A.sPt f) Q (q + 1) q (a (q + 1)) (a q) (by omega) (by omega) (10 - t) t (by omega) (by omega) r1 r0
    have ev : a (q + 1) * (10 - t) + a q * t = aVn t a (q + 1) := rfl
    rw [ev, sPt_sP] at mx
    have l8 : ((A.sPt f).pt (q + 1)).length = 8 := r1.1
    have rn := rep_become (V := aVn t a (q + 1)) l8
    obtain ⟨f', g1, g2, g3, g4⟩ := ih (fun e => if e = q + 1 then pfx (lbF (aVn t a (q + 1))) 8 ((A.sPt f).pt (q + 1)) else f e) (by omega) (fun D hD => by
      by_cases c : D = q + 1
      · rw [if_pos c]; exact rn.1
      · rw [if_neg c]; exact h8 D hD) (fun D hD => by rw [if_neg (by omega)]; exact h1 D (by omega)) (fun D a b => by
      by_cases c : D = q + 1
      · rw [if_pos c, c]; exact rn
      · rw [if_neg c]; exact h2 D (by omega) b)
    refine ⟨f', g1, g2, g3, fun Q hQ => ?_⟩
    have e1 : ¬ ((q + 1 : Nat) : Int) < 1 := by omega
    have e2 : ((q + 1 : Nat) : Int) + (-1) = (q : Int) := by omega
    have p1 := ps_at (d := ((q + 1 : Nat) : Int)) (by omega) (by omega)
    have p2 := ps_at (d := ((q + 1 : Nat) : Int) - 1) (by omega) (by omega)
    have q1 : (((q + 1 : Nat) : Int)).toNat = q + 1 := by omega
    have q2 : (((q + 1 : Nat) : Int) - 1).toNat = q := by omega
    rw [q1] at p1
    rw [q2] at p2
    have ec : (10 : Int) - (t : Int) = ((10 - t : Nat) : Int) := by omega
    have hq7 : q + 1 < 7 := by omega
    refine G_run (B := [78, 105, 115]) 60 _ _ _ _ ?_
    simp (disch := first | assumption | rfl | exact inI_of (by omega) (by omega) | omega | decide | (simp only [sv_ext, sv_mc, Nat.le_refl]; done) | with_unfolding_all (refine @id _ ?_; first | exact Eq.refl _ | exact Nat.le_refl _ | assumption)) only [Nat.reduceAdd, Nat.reduceMul, Nat.reduceLeDiff, Nat.reduceLT, Int.reduceAdd, Int.reduceSub, Int.reduceMul, Int.reduceNeg, Int.reduceLE, Int.reduceLT, Int.reduceToNat, Int.reduceEq, reduceCtorEq, ld_z, ld_s, st1_0, st1_1, st1_s, st2_0, st2_1, st2_s, isJ_i, isJ_r, isJ_n, isJ_l, cs_nil, cs_i, cs_r, cs_l, kF, List.getElem?_cons_succ, List.getElem?_cons_zero, List.set_cons_zero, List.set_cons_succ, GC_s, GC_n, GK_nil, GK_no, GK_yes, not_false_eq_true, back_eq, back_hp, inI_eq, inA_eq, true_and, and_true, and_self, if_true, if_false, bI_0, bI_1, bI_in, bI_T, bI_F, fitF, jmpF, nlF, pjA, iVal.eta, iYr.eta, List.getElem?_toArray, List.length_cons, List.length_nil, true_or, or_true, or_false, false_or, Classical.not_not, Bool.false_eq_true, hp_2, Nat.zero_le, Nat.le_refl, Option.some.injEq, Sum.inl.injEq, Sum.inr.injEq, not_true_eq_false, true_implies, false_implies, implies_true, Int.le_refl, rd_v, f_num, f_lik, f_dep, f_bnd, f_man, f_wom, f_sta, f_dds, f_who, rd_e, v_now, hasOne_eq, hasTwo_eq, hasCouple_eq, orNone_eq, natureOf_eq, rd_nat, place_eq, rd_v1, rd_v3, rd_v4, rd_v6, rd_v7, rd_v8, rd_v9, rd_v10, isShelf_eq, isSide_eq, isDeed_eq, isKind_eq, isMindSpan_eq, gX11_thaw, e1, e2, rd_ps, lps, q1, q2, p1, p2, rd_p, ec, mx, back_sPt]
    exact g4 Q hQ
end OPS
