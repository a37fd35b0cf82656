set_option maxRecDepth 16384
/-! ===== a call: thaw ===== -/
section OPS
variable {sp : Nat → List iV → iH → Option (Option iV × iH)} {sc : List Int} {d : Nat} {A : iA} {Q : Option iV → iH → Prop} {h : iH} {X : iVal} {e g B : Int} {U W V : Nat} {F G F' G' : List Int}
theorem torR_loop {t m n : Nat} (t9 : t ≤ 9) (hm : m ≤ 6) (hn : n ≤ 60) {c i : Int} : ∀ (q y : Nat) (E : Nat → Nat) (F G : List Int), y + q = n → ftL F m E → G.length = 448 → ∃ F' G', ftL F' m (thEt t m q E) ∧ G'.length = 448 ∧ ∀ Q, (∀ o7, Run sp sc (d + 1) mX12_thaw 100 [some (.inr (.inr 140)), some (.inl c), some (.inl (n : Int)), some (.inl (t : Int)), some (.inl i), some (.inl (m : Int)), some (.inl (n : Int)), o7] [] (hp (A.sFT F' G')) Q) → ∀ o7, Run sp sc (d + 1) mX12_thaw 100 [some (.inr (.inr 140)), some (.inl c), some (.inl (n : Int)), some (.inl (t : Int)), some (.inl i), some (.inl (m : Int)), some (.inl (y : Int)), o7] [] (hp (A.sFT F G)) Q := by
  intro q
  induction q with
  | zero =>
    intro y E F G hy hF hG
    have e : y = n := by omega
    subst e
    exact ⟨F, G, hF, hG, fun Q hQ => hQ⟩
  | succ q ih =>
    intro y E F G hy hF hG
    obtain ⟨G1, k1, k2⟩ := @tdR_loop sp sc d A F t m t9 hm E hF c (n : Int) i (y : Int) (m + 1) 0 G (by omega) hG (fun e he => absurd he (by omega))
    obtain ⟨M, hM⟩ : ∃ M, M = 64 * (m + 1) := ⟨_, rfl⟩
    have k1v := k1.2
    have hv : ∀ p, p < M → 0 ≤ G1.getD p 0 ∧ G1.getD p 0 < 10 := fun p hp => by
      have x := k1v (p / 64) (by omega) (p % 64) (by omega)
      have e : 64 * (p / 64) + p % 64 = p := by omega
      rw [e] at x
      rw [x]
      have := Nat.mod_lt (eVn t m E (p / 64) / 10 ^ (p % 64)) (show 0 < 10 by omega)
      omega
    have lF := hF.1
    obtain ⟨F', G', g1, g2, g3⟩ := ih (y + 1) (eVn t m E) (pfx (fun p => G1.getD p 0) M F) G1 (by omega) ⟨by rw [pfx_len (by omega), lF], fun e he k hk => by
      rw [pfx_lo (by omega)]; exact k1v e he k hk⟩ k1.1
    refine ⟨F', G', g1, g2, fun Q hQ o7 => ?_⟩
    have g3 := g3 Q hQ
    have e1 : ¬ (n : Int) ≤ (y : Int) := by omega
    have e2 : (m : Int) < ((m + 1 : Nat) : Int) := by omega
    have e3 : ((m : Int) + 1) * 64 ≤ (M : Int) := by omega
    have e4 : (y : Int) + 1 = ((y + 1 : Nat) : Int) := by omega
    have i2 : inI ((m + 1 : Nat) : Int) = true := inI_of (by omega) (by omega)
    have i3 : inI (M : Int) = true := inI_of (by omega) (by omega)
    refine G_run (B := [68, 100, 109, 148, 220]) 60 _ _ _ _ ?_
    simp (disch := first | assumption | rfl | exact inI_of (by omega) (by omega) | omega | decide | (simp only [sv_ext, sv_mc, Nat.le_refl]; done) | with_unfolding_all (refine @id _ ?_; first | exact Eq.refl _ | exact Nat.le_refl _ | assumption)) only [Nat.reduceAdd, Nat.reduceMul, Nat.reduceLeDiff, Nat.reduceLT, Int.reduceAdd, Int.reduceSub, Int.reduceMul, Int.reduceNeg, Int.reduceLE, Int.reduceLT, Int.reduceToNat, Int.reduceEq, reduceCtorEq, ld_z, ld_s, st1_0, st1_1, st1_s, st2_0, st2_1, st2_s, isJ_i, isJ_r, isJ_n, isJ_l, cs_nil, cs_i, cs_r, cs_l, kF, List.getElem?_cons_succ, List.getElem?_cons_zero, List.set_cons_zero, List.set_cons_succ, GC_s, GC_n, GK_nil, GK_no, GK_yes, not_false_eq_true, back_eq, back_hp, inI_eq, inA_eq, true_and, and_true, and_self, if_true, if_false, bI_0, bI_1, bI_in, bI_T, bI_F, fitF, jmpF, nlF, pjA, iVal.eta, iYr.eta, List.getElem?_toArray, List.length_cons, List.length_nil, true_or, or_true, or_false, false_or, Classical.not_not, Bool.false_eq_true, hp_2, Nat.zero_le, Nat.le_refl, Option.some.injEq, Sum.inl.injEq, Sum.inr.injEq, not_true_eq_false, true_implies, false_implies, implies_true, Int.le_refl, gX12_thaw, rd_o, e1]
    refine k2 Q ?_
    refine G_run (B := [68, 100, 109, 148, 220]) 60 _ _ _ _ ?_
    simp (disch := first | assumption | rfl | exact inI_of (by omega) (by omega) | omega | decide | (simp only [sv_ext, sv_mc, Nat.le_refl]; done) | with_unfolding_all (refine @id _ ?_; first | exact Eq.refl _ | exact Nat.le_refl _ | assumption)) only [Nat.reduceAdd, Nat.reduceMul, Nat.reduceLeDiff, Nat.reduceLT, Int.reduceAdd, Int.reduceSub, Int.reduceMul, Int.reduceNeg, Int.reduceLE, Int.reduceLT, Int.reduceToNat, Int.reduceEq, reduceCtorEq, ld_z, ld_s, st1_0, st1_1, st1_s, st2_0, st2_1, st2_s, isJ_i, isJ_r, isJ_n, isJ_l, cs_nil, cs_i, cs_r, cs_l, kF, List.getElem?_cons_succ, List.getElem?_cons_zero, List.set_cons_zero, List.set_cons_succ, GC_s, GC_n, GK_nil, GK_no, GK_yes, not_false_eq_true, back_eq, back_hp, inI_eq, inA_eq, true_and, and_true, and_self, if_true, if_false, bI_0, bI_1, bI_in, bI_T, bI_F, fitF, jmpF, nlF, pjA, iVal.eta, iYr.eta, List.getElem?_toArray, List.length_cons, List.length_nil, true_or, or_true, or_false, false_or, Classical.not_not, Bool.false_eq_true, hp_2, Nat.zero_le, Nat.le_refl, Option.some.injEq, Sum.inl.injEq, Sum.inr.injEq, not_true_eq_false, true_implies, false_implies, implies_true, Int.le_refl, gX12_thaw, rd_o, e2, i2]
    refine tcR_loop (d := d + 1) hM hm lF k1.1 hv M 0 (by omega) ?_
    refine G_run (B := [68, 100, 109, 148, 220]) 60 _ _ _ _ ?_
    simp (disch := first | assumption | rfl | exact inI_of (by omega) (by omega) | omega | decide | (simp only [sv_ext, sv_mc, Nat.le_refl]; done) | with_unfolding_all (refine @id _ ?_; first | exact Eq.refl _ | exact Nat.le_refl _ | assumption)) only [Nat.reduceAdd, Nat.reduceMul, Nat.reduceLeDiff, Nat.reduceLT, Int.reduceAdd, Int.reduceSub, Int.reduceMul, Int.reduceNeg, Int.reduceLE, Int.reduceLT, Int.reduceToNat, Int.reduceEq, reduceCtorEq, ld_z, ld_s, st1_0, st1_1, st1_s, st2_0, st2_1, st2_s, isJ_i, isJ_r, isJ_n, isJ_l, cs_nil, cs_i, cs_r, cs_l, kF, List.getElem?_cons_succ, List.getElem?_cons_zero, List.set_cons_zero, List.set_cons_succ, GC_s, GC_n, GK_nil, GK_no, GK_yes, not_false_eq_true, back_eq, back_hp, inI_eq, inA_eq, true_and, and_true, and_self, if_true, if_false, bI_0, bI_1, bI_in, bI_T, bI_F, fitF, jmpF, nlF, pjA, iVal.eta, iYr.eta, List.getElem?_toArray, List.length_cons, List.length_nil, true_or, or_true, or_false, false_or, Classical.not_not, Bool.false_eq_true, hp_2, Nat.zero_le, Nat.le_refl, Option.some.injEq, Sum.inl.injEq, Sum.inr.injEq, not_true_eq_false, true_implies, false_implies, implies_true, Int.le_refl, gX12_thaw, rd_o, e3, e4, i3]
    exact g3 _
theorem tlR_loop {m V : Nat} (hm : m ≤ 6) (hF : F.length = 448) (hf : ∀ k, k < 64 → F.getD (64 * m + k) 0 = ((V / 10 ^ k % 10 : Nat) : Int)) {c n t i : Int} {o7 : Option iV} : ∀ (T : Nat), T ≤ 63 → Q (some (.inl (((tlF V T : Nat) : Int) + 1))) (hp (A.sFT F G)) → Run sp sc d mX12_thaw 220 [some (.inr (.inr 140)), some (.inl c), some (.inl n), some (.inl t), some (.inl i), some (.inl (m : Int)), some (.inl ((T + 1 : Nat) : Int)), o7] [] (hp (A.sFT F G)) Q := by
  intro T
  induction T with
  | zero =>
    intro hT hQ
    have e1 : ((0 + 1 : Nat) : Int) ≤ 1 := by omega
    refine G_run (B := [68, 100, 109, 148, 220]) 60 _ _ _ _ ?_
    simp (disch := first | assumption | rfl | exact inI_of (by omega) (by omega) | omega | decide | (simp only [sv_ext, sv_mc, Nat.le_refl]; done) | with_unfolding_all (refine @id _ ?_; first | exact Eq.refl _ | exact Nat.le_refl _ | assumption)) only [Nat.reduceAdd, Nat.reduceMul, Nat.reduceLeDiff, Nat.reduceLT, Int.reduceAdd, Int.reduceSub, Int.reduceMul, Int.reduceNeg, Int.reduceLE, Int.reduceLT, Int.reduceToNat, Int.reduceEq, reduceCtorEq, ld_z, ld_s, st1_0, st1_1, st1_s, st2_0, st2_1, st2_s, isJ_i, isJ_r, isJ_n, isJ_l, cs_nil, cs_i, cs_r, cs_l, kF, List.getElem?_cons_succ, List.getElem?_cons_zero, List.set_cons_zero, List.set_cons_succ, GC_s, GC_n, GK_nil, GK_no, GK_yes, not_false_eq_true, back_eq, back_hp, inI_eq, inA_eq, true_and, and_true, and_self, if_true, if_false, bI_0, bI_1, bI_in, bI_T, bI_F, fitF, jmpF, nlF, pjA, iVal.eta, iYr.eta, List.getElem?_toArray, List.length_cons, List.length_nil, true_or, or_true, or_false, false_or, Classical.not_not, Bool.false_eq_true, hp_2, Nat.zero_le, Nat.le_refl, Option.some.injEq, Sum.inl.injEq, Sum.inr.injEq, not_true_eq_false, true_implies, false_implies, implies_true, Int.le_refl, gX12_thaw, rd_o, e1]
    exact hQ
  | succ T ih =>
    intro hT hQ
    have e1 : ¬ ((T + 1 + 1 : Nat) : Int) ≤ 1 := by omega
    have e2 : (64 * (m : Int) + ((T + 1 + 1 : Nat) : Int) - 1).toNat = 64 * m + (T + 1) := by omega
    have e4 : ((T + 1 + 1 : Nat) : Int) + (-1) = ((T + 1 : Nat) : Int) := by omega
    have f1 := hf (T + 1) (by omega)
    have i1 : inI ((T + 1 + 1 : Nat) : Int) = true := inI_of (by omega) (by omega)
    have db := @dg_b V (T + 1)
    unfold tlF at hQ
    refine G_run (B := [68, 100, 109, 148, 220]) 60 _ _ _ _ ?_
    by_cases z : dg V (T + 1) = 0
    · rw [if_pos z] at hQ
      have f2 : F.getD (64 * m + (T + 1)) 0 = 0 := by rw [f1]; unfold dg at z; rw [z]; rfl
      simp (disch := first | assumption | rfl | exact inI_of (by omega) (by omega) | omega | decide | (simp only [sv_ext, sv_mc, Nat.le_refl]; done) | with_unfolding_all (refine @id _ ?_; first | exact Eq.refl _ | exact Nat.le_refl _ | assumption)) only [Nat.reduceAdd, Nat.reduceMul, Nat.reduceLeDiff, Nat.reduceLT, Int.reduceAdd, Int.reduceSub, Int.reduceMul, Int.reduceNeg, Int.reduceLE, Int.reduceLT, Int.reduceToNat, Int.reduceEq, reduceCtorEq, ld_z, ld_s, st1_0, st1_1, st1_s, st2_0, st2_1, st2_s, isJ_i, isJ_r, isJ_n, isJ_l, cs_nil, cs_i, cs_r, cs_l, kF, List.getElem?_cons_succ, List.getElem?_cons_zero, List.set_cons_zero, List.set_cons_succ, GC_s, GC_n, GK_nil, GK_no, GK_yes, not_false_eq_true, back_eq, back_hp, inI_eq, inA_eq, true_and, and_true, and_self, if_true, if_false, bI_0, bI_1, bI_in, bI_T, bI_F, fitF, jmpF, nlF, pjA, iVal.eta, iYr.eta, List.getElem?_toArray, List.length_cons, List.length_nil, true_or, or_true, or_false, false_or, Classical.not_not, Bool.false_eq_true, hp_2, Nat.zero_le, Nat.le_refl, Option.some.injEq, Sum.inl.injEq, Sum.inr.injEq, not_true_eq_false, true_implies, false_implies, implies_true, Int.le_refl, gX12_thaw, rd_o, rd_o_fi, sFT_fi, hF, e1, e2, e4, f2, i1]
      exact ih (by omega) hQ
    · rw [if_neg z] at hQ
      have f2 : F.getD (64 * m + (T + 1)) 0 = ((dg V (T + 1) : Nat) : Int) := f1
      have i2 : inI ((dg V (T + 1) : Nat) : Int) = true := inI_of (by omega) (by omega)
      have z2 : ¬ ((dg V (T + 1) : Nat) : Int) = 0 := by omega
      simp (disch := first | assumption | rfl | exact inI_of (by omega) (by omega) | omega | decide | (simp only [sv_ext, sv_mc, Nat.le_refl]; done) | with_unfolding_all (refine @id _ ?_; first | exact Eq.refl _ | exact Nat.le_refl _ | assumption)) only [Nat.reduceAdd, Nat.reduceMul, Nat.reduceLeDiff, Nat.reduceLT, Int.reduceAdd, Int.reduceSub, Int.reduceMul, Int.reduceNeg, Int.reduceLE, Int.reduceLT, Int.reduceToNat, Int.reduceEq, reduceCtorEq, ld_z, ld_s, st1_0, st1_1, st1_s, st2_0, st2_1, st2_s, isJ_i, isJ_r, isJ_n, isJ_l, cs_nil, cs_i, cs_r, cs_l, kF, List.getElem?_cons_succ, List.getElem?_cons_zero, List.set_cons_zero, List.set_cons_succ, GC_s, GC_n, GK_nil, GK_no, GK_yes, not_false_eq_true, back_eq, back_hp, inI_eq, inA_eq, true_and, and_true, and_self, if_true, if_false, bI_0, bI_1, bI_in, bI_T, bI_F, fitF, jmpF, nlF, pjA, iVal.eta, iYr.eta, List.getElem?_toArray, List.length_cons, List.length_nil, true_or, or_true, or_false, false_or, Classical.not_not, Bool.false_eq_true, hp_2, Nat.zero_le, Nat.le_refl, Option.some.injEq, Sum.inl.injEq, Sum.inr.injEq, not_true_eq_false, true_implies, false_implies, implies_true, Int.le_refl, gX12_thaw, rd_o, rd_o_fi, sFT_fi, hF, e1, e2, e4, f2, i1, i2, z2]
      exact hQ
theorem thTell {V : Nat} (hV : V < 10 ^ 64) : tlF V 71 = tlF V 63 := by
  have a := tlF_ok (V := V) 71 (Nat.lt_of_lt_of_le hV (Nat.pow_le_pow_right (by omega) (by omega)))
  have b := tlF_ok (V := V) 63 hV
  exact nd_one a.1 a.2 b.1 b.2
theorem teR_end {m V : Nat} (hm : m ≤ 6) (hV : V < 10 ^ 64) (hF : F.length = 448) (hf : ∀ k, k < 64 → F.getD (64 * m + k) 0 = ((V / 10 ^ k % 10 : Nat) : Int)) {c t i y : Int} (ii : inI i = true) (iy : inI y = true) {o7 : Option iV} (hQ : Q (some (.inl (tellV V i))) (hp (A.sFT F G))) : Run sp sc d mX12_thaw 100 [some (.inr (.inr 140)), some (.inl c), some (.inl y), some (.inl t), some (.inl i), some (.inl (m : Int)), some (.inl y), o7] [] (hp (A.sFT F G)) Q := by
  refine G_run (B := [68, 100, 109, 148, 220]) 60 _ _ _ _ ?_
  unfold tellV at hQ
  by_cases c1 : 0 ≤ i
  · rw [if_pos c1] at hQ
    have c2 : ¬ i < 0 := by omega
    by_cases c3 : i < 64
    · rw [if_pos (by omega)] at hQ
      have c4 : ¬ 64 ≤ i := by omega
      have e2 : (64 * (m : Int) + i).toNat = 64 * m + i.toNat := by omega
      have f1 := hf i.toNat (by omega)
      have db := @dg_b V i.toNat
      have f2 : F.getD (64 * m + i.toNat) 0 = ((dg V i.toNat : Nat) : Int) := f1
      have i2 : inI ((dg V i.toNat : Nat) : Int) = true := inI_of (by omega) (by omega)
      simp (disch := first | assumption | rfl | exact inI_of (by omega) (by omega) | omega | decide | (simp only [sv_ext, sv_mc, Nat.le_refl]; done) | with_unfolding_all (refine @id _ ?_; first | exact Eq.refl _ | exact Nat.le_refl _ | assumption)) only [Nat.reduceAdd, Nat.reduceMul, Nat.reduceLeDiff, Nat.reduceLT, Int.reduceAdd, Int.reduceSub, Int.reduceMul, Int.reduceNeg, Int.reduceLE, Int.reduceLT, Int.reduceToNat, Int.reduceEq, reduceCtorEq, ld_z, ld_s, st1_0, st1_1, st1_s, st2_0, st2_1, st2_s, isJ_i, isJ_r, isJ_n, isJ_l, cs_nil, cs_i, cs_r, cs_l, kF, List.getElem?_cons_succ, List.getElem?_cons_zero, List.set_cons_zero, List.set_cons_succ, GC_s, GC_n, GK_nil, GK_no, GK_yes, not_false_eq_true, back_eq, back_hp, inI_eq, inA_eq, true_and, and_true, and_self, if_true, if_false, bI_0, bI_1, bI_in, bI_T, bI_F, fitF, jmpF, nlF, pjA, iVal.eta, iYr.eta, List.getElem?_toArray, List.length_cons, List.length_nil, true_or, or_true, or_false, false_or, Classical.not_not, Bool.false_eq_true, hp_2, Nat.zero_le, Nat.le_refl, Option.some.injEq, Sum.inl.injEq, Sum.inr.injEq, not_true_eq_false, true_implies, false_implies, implies_true, Int.le_refl, gX12_thaw, rd_o, rd_o_fi, sFT_fi, hF, ii, iy, c2, c4, e2, f2, i2]
      exact hQ
    · have c4 : 64 ≤ i := by omega
      have hQ : Q (some (.inl 0)) (hp (A.sFT F G)) := by
        by_cases c5 : i < 72
        · rw [if_pos c5] at hQ
          have : dg V i.toNat = 0 := by
            unfold dg
            rw [Nat.div_eq_of_lt (Nat.lt_of_lt_of_le hV (Nat.pow_le_pow_right (by omega) (by omega)))]
          rw [this] at hQ
          exact hQ
        · rw [if_neg c5] at hQ
          exact hQ
      simp (disch := first | assumption | rfl | exact inI_of (by omega) (by omega) | omega | decide | (simp only [sv_ext, sv_mc, Nat.le_refl]; done) | with_unfolding_all (refine @id _ ?_; first | exact Eq.refl _ | exact Nat.le_refl _ | assumption)) only [Nat.reduceAdd, Nat.reduceMul, Nat.reduceLeDiff, Nat.reduceLT, Int.reduceAdd, Int.reduceSub, Int.reduceMul, Int.reduceNeg, Int.reduceLE, Int.reduceLT, Int.reduceToNat, Int.reduceEq, reduceCtorEq, ld_z, ld_s, st1_0, st1_1, st1_s, st2_0, st2_1, st2_s, isJ_i, isJ_r, isJ_n, isJ_l, cs_nil, cs_i, cs_r, cs_l, kF, List.getElem?_cons_succ, List.getElem?_cons_zero, List.set_cons_zero, List.set_cons_succ, GC_s, GC_n, GK_nil, GK_no, GK_yes, not_false_eq_true, back_eq, back_hp, inI_eq, inA_eq, true_and, and_true, and_self, if_true, if_false, bI_0, bI_1, bI_in, bI_T, bI_F, fitF, jmpF, nlF, pjA, iVal.eta, iYr.eta, List.getElem?_toArray, List.length_cons, List.length_nil, true_or, or_true, or_false, false_or, Classical.not_not, Bool.false_eq_true, hp_2, Nat.zero_le, Nat.le_refl, Option.some.injEq, Sum.inl.injEq, Sum.inr.injEq, not_true_eq_false, true_implies, false_implies, implies_true, Int.le_refl, gX12_thaw, rd_o, ii, iy, c2, c4]
      exact hQ
  · rw [if_neg c1, thTell hV] at hQ
    have c2 : i < 0 := by omega
    simp (disch := first | assumption | rfl | exact inI_of (by omega) (by omega) | omega | decide | (simp only [sv_ext, sv_mc, Nat.le_refl]; done) | with_unfolding_all (refine @id _ ?_; first | exact Eq.refl _ | exact Nat.le_refl _ | assumption)) only [Nat.reduceAdd, Nat.reduceMul, Nat.reduceLeDiff, Nat.reduceLT, Int.reduceAdd, Int.reduceSub, Int.reduceMul, Int.reduceNeg, Int.reduceLE, Int.reduceLT, Int.reduceToNat, Int.reduceEq, reduceCtorEq, ld_z, ld_s, st1_0, st1_1, st1_s, st2_0, st2_1, st2_s, isJ_i, isJ_r, isJ_n, isJ_l, cs_nil, cs_i, cs_r, cs_l, kF, List.getElem?_cons_succ, List.getElem?_cons_zero, List.set_cons_zero, List.set_cons_succ, GC_s, GC_n, GK_nil, GK_no, GK_yes, not_false_eq_true, back_eq, back_hp, inI_eq, inA_eq, true_and, and_true, and_self, if_true, if_false, bI_0, bI_1, bI_in, bI_T, bI_F, fitF, jmpF, nlF, pjA, iVal.eta, iYr.eta, List.getElem?_toArray, List.length_cons, List.length_nil, true_or, or_true, or_false, false_or, Classical.not_not, Bool.false_eq_true, hp_2, Nat.zero_le, Nat.le_refl, Option.some.injEq, Sum.inl.injEq, Sum.inr.injEq, not_true_eq_false, true_implies, false_implies, implies_true, Int.le_refl, gX12_thaw, rd_o, ii, iy, c2]
    exact tlR_loop (T := 63) hm hF hf (by omega) hQ
end OPS
