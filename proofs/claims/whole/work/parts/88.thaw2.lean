set_option maxRecDepth 16384
/-! ===== thaw: the reference, one number of a day ===== -/
def iA.sFT (A : iA) (F G : List Int) : iA := (iA.mk A.now A.img A.mnd A.imd A.yr A.mt A.sh A.pt ((iMo.mk A.mo.s A.mo.m A.mo.im A.mo.was A.mo.hi A.mo.wt A.mo.en A.mo.od A.mo.dn A.mo.sm A.mo.sf A.mo.go A.mo.at_ A.mo.ra A.mo.re A.mo.nu A.mo.bd A.mo.bg A.mo.he A.mo.bh A.mo.ak A.mo.st A.mo.ml (F) (G) A.mo.se A.mo.ke A.mo.kk A.mo.kf A.mo.so A.mo.sz A.mo.el A.mo.tn)) A.out A.ext A.mc)
theorem gsq {l : List Int} {i j : Nat} {v : Int} (hi : i < l.length) : (l.set i v).getD j 0 = if i = j then v else l.getD j 0 := by
  have := gs (l := l) (i := (i : Int)) (j := (j : Int)) (v := v) (by omega) (by omega) (by omega)
  have e1 : ((i : Nat) : Int).toNat = i := by omega
  have e2 : ((j : Nat) : Int).toNat = j := by omega
  rw [e1, e2] at this
  rw [this]
  by_cases c : i = j
  · rw [if_pos c, if_pos (by omega)]
  · rw [if_neg c, if_neg (by omega)]
section OPS
variable {sp : Nat → List iV → iH → Option (Option iV × iH)} {sc : List Int} {d : Nat} {A : iA} {Q : Option iV → iH → Prop} {h : iH} {X : iVal} {e g B : Int} {U W : Nat} {F G F' G' : List Int}
theorem sFT_fi : (A.sFT F G).mo.fi = F := rfl
theorem sFT_th : (A.sFT F G).mo.th = G := rfl
theorem wr_FTt {l : List Int} : ((hp (A.sFT F G)).1.set 151 (.inr (.inl (0, l))), (A.sFT F G).mc) = hp (A.sFT F l) := wr_o_th
theorem wr_FTf {l : List Int} : ((hp (A.sFT F G)).1.set 150 (.inr (.inl (0, l))), (A.sFT F G).mc) = hp (A.sFT l G) := wr_o_fi
theorem sFT_id : A.sFT A.mo.fi A.mo.th = A := rfl
theorem back_FT {L : List (Option iV)} {rest : List iV} : back (hp (A.sFT F G)) (hp (A.sFT F' G')) L rest = True := back_hp rfl (Nat.le_refl _)
theorem thsR_loop {j : Nat} (hj : j ≤ 6) {x y : Nat} (hx : x ≤ 10) (hy : y ≤ 10) (hF : F.length = 448) (hU : ∀ k, k < 64 → F.getD (64 * j + k) 0 = ((U / 10 ^ k % 10 : Nat) : Int)) (hW : (j = 0 ∧ W = 0) ∨ (0 < j ∧ ∀ k, k < 64 → F.getD (64 * (j - 1) + k) 0 = ((W / 10 ^ k % 10 : Nat) : Int))) : ∀ (q k : Nat) (G : List Int) (o6 : Option iV), k + q = 64 → G.length = 448 → ∃ G' : List Int, G'.length = 448 ∧ (∀ p, p < 64 * j + k ∨ 64 * j + 64 ≤ p → G'.getD p 0 = G.getD p 0) ∧ (∀ r, k ≤ r → r < 64 → G'.getD (64 * j + r) 0 = (((U * x + W * y) / 10 ^ r % 10 : Nat) : Int)) ∧ ∀ Q, Q none (hp (A.sFT F G')) → Run sp sc d mX12_thaws 6 [some (.inr (.inr 140)), some (.inl (j : Int)), some (.inl (x : Int)), some (.inl (y : Int)), some (.inl (crF 10 U W x y k : Int)), some (.inl (k : Int)), o6] [] (hp (A.sFT F G)) Q := by
  have B0 : 0 < 10 := by omega
  intro q
  induction q with
  | zero =>
    intro k G o6 hk hG
    have e : k = 64 := by omega
    subst e
    refine ⟨G, hG, fun p _ => rfl, fun r a b => absurd b (by omega), fun Q hQ => ?_⟩
    refine G_run (B := [6]) 60 _ _ _ _ ?_
    have e1 : (64 : Int) ≤ ((64 : Nat) : Int) := by omega
    simp (disch := first | assumption | rfl | exact inI_of (by omega) (by omega) | omega | decide | (simp only [sv_ext, sv_mc, Nat.le_refl]; done) | with_unfolding_all (refine @id _ ?_; first | exact Eq.refl _ | exact Nat.le_refl _ | assumption)) only [Nat.reduceAdd, Nat.reduceMul, Nat.reduceLeDiff, Nat.reduceLT, Int.reduceAdd, Int.reduceSub, Int.reduceMul, Int.reduceNeg, Int.reduceLE, Int.reduceLT, Int.reduceToNat, Int.reduceEq, reduceCtorEq, ld_z, ld_s, st1_0, st1_1, st1_s, st2_0, st2_1, st2_s, isJ_i, isJ_r, isJ_n, isJ_l, cs_nil, cs_i, cs_r, cs_l, kF, List.getElem?_cons_succ, List.getElem?_cons_zero, List.set_cons_zero, List.set_cons_succ, GC_s, GC_n, GK_nil, GK_no, GK_yes, not_false_eq_true, back_eq, back_hp, inI_eq, inA_eq, true_and, and_true, and_self, if_true, if_false, bI_0, bI_1, bI_in, bI_T, bI_F, fitF, jmpF, nlF, pjA, iVal.eta, iYr.eta, List.getElem?_toArray, List.length_cons, List.length_nil, true_or, or_true, or_false, false_or, Classical.not_not, Bool.false_eq_true, hp_2, Nat.zero_le, Nat.le_refl, Option.some.injEq, Sum.inl.injEq, Sum.inr.injEq, not_true_eq_false, true_implies, false_implies, implies_true, Int.le_refl, gX12_thaws, rd_o, e1]
    exact hQ
  | succ q ih =>
    intro k G o6 hk hG
    have cn := cr_next (B := 10) (U := U) (W := W) (a := x) (b := y) (n := k) B0
    have cd := cr_dig (B := 10) (U := U) (W := W) (a := x) (b := y) (n := k) B0
    have cb := cr_b (B := 10) (U := U) (W := W) (a := x) (b := y) (n := k) B0
    have ub := Nat.mod_lt (U / 10 ^ k) B0
    have wb := Nat.mod_lt (W / 10 ^ k) B0
    have hU1 := hU k (by omega)
    have hW1 : (j = 0 ∧ W / 10 ^ k % 10 = 0) ∨ (0 < j ∧ F.getD (64 * (j - 1) + k) 0 = ((W / 10 ^ k % 10 : Nat) : Int)) := by
      rcases hW with z | z
      · left; refine ⟨z.1, ?_⟩
        rw [z.2, Nat.zero_div]
      · right; exact ⟨z.1, z.2 k (by omega)⟩
    have lG2 : (G.set (64 * j + k) (((U * x + W * y) / 10 ^ k % 10 : Nat) : Int)).length = 448 := by rw [List.length_set]; exact hG
    obtain ⟨G', g1, g2, g3, g4⟩ := ih (k + 1) (G.set (64 * j + k) (((U * x + W * y) / 10 ^ k % 10 : Nat) : Int)) (some (.inl ((crF 10 U W x y k + (U / 10 ^ k % 10 * x + W / 10 ^ k % 10 * y) : Nat) : Int))) (by omega) lG2
    refine ⟨G', g1, fun p hp => ?_, fun r a b => ?_, fun Q hQ => ?_⟩
    · rw [g2 p (by omega), gsq (by omega), if_neg (by omega)]
    · by_cases z : r = k
      · rw [z, g2 (64 * j + k) (by omega), gsq (by omega), if_pos rfl]
      · exact g3 r (by omega) b
    · have g4 := g4 Q hQ
      have e1 : ¬ (64 : Int) ≤ (k : Int) := by omega
      have e2 : (64 * (j : Int) + (k : Int)).toNat = 64 * j + k := by omega
      have e4 : (k : Int) + 1 = ((k + 1 : Nat) : Int) := by omega
      have db : (U * x + W * y) / 10 ^ k % 10 < 10 := Nat.mod_lt _ B0
      rw [← cn] at g4
      rw [← cd] at g4 db
      generalize U / 10 ^ k % 10 = u at *
      generalize W / 10 ^ k % 10 = w at *
      generalize crF 10 U W x y k = c at *
      have ux : u * x ≤ 10 * 10 := Nat.mul_le_mul (by omega) hx
      have wy : w * y ≤ 10 * 10 := Nat.mul_le_mul (by omega) hy
      rcases hW1 with z | z
      · have z0 : (j : Int) ≤ 0 := by omega
        have eS : (u : Int) * (x : Int) + (c : Int) = ((c + (u * x + w * y) : Nat) : Int) := by
          rw [z.2, Nat.zero_mul, Nat.add_zero, Int.natCast_add, Int.natCast_mul]; omega
        have iS : inI ((c + (u * x + w * y) : Nat) : Int) = true := inI_of (by omega) (by omega)
        generalize c + (u * x + w * y) = R at *
        refine G_run (B := [6]) 60 _ _ _ _ ?_
        simp (disch := first | assumption | rfl | exact inI_of (by omega) (by omega) | omega | decide | (simp only [sv_ext, sv_mc, Nat.le_refl]; done) | with_unfolding_all (refine @id _ ?_; first | exact Eq.refl _ | exact Nat.le_refl _ | assumption)) only [Nat.reduceAdd, Nat.reduceMul, Nat.reduceLeDiff, Nat.reduceLT, Int.reduceAdd, Int.reduceSub, Int.reduceMul, Int.reduceNeg, Int.reduceLE, Int.reduceLT, Int.reduceToNat, Int.reduceEq, reduceCtorEq, ld_z, ld_s, st1_0, st1_1, st1_s, st2_0, st2_1, st2_s, isJ_i, isJ_r, isJ_n, isJ_l, cs_nil, cs_i, cs_r, cs_l, kF, List.getElem?_cons_succ, List.getElem?_cons_zero, List.set_cons_zero, List.set_cons_succ, GC_s, GC_n, GK_nil, GK_no, GK_yes, not_false_eq_true, back_eq, back_hp, inI_eq, inA_eq, true_and, and_true, and_self, if_true, if_false, bI_0, bI_1, bI_in, bI_T, bI_F, fitF, jmpF, nlF, pjA, iVal.eta, iYr.eta, List.getElem?_toArray, List.length_cons, List.length_nil, true_or, or_true, or_false, false_or, Classical.not_not, Bool.false_eq_true, hp_2, Nat.zero_le, Nat.le_refl, Option.some.injEq, Sum.inl.injEq, Sum.inr.injEq, not_true_eq_false, true_implies, false_implies, implies_true, Int.le_refl, gX12_thaws, rd_o, rd_o_fi, rd_o_th, sFT_fi, sFT_th, hF, hG, e1, e2, e4, hU1, z0, Int.add_zero, eS, iS, tmN, tdN, wr_FTt]
        exact g4
      · have z0 : ¬ (j : Int) ≤ 0 := by omega
        have e3 : (64 * ((j : Int) - 1) + (k : Int)).toNat = 64 * (j - 1) + k := by omega
        have eS : (u : Int) * (x : Int) + (w : Int) * (y : Int) + (c : Int) = ((c + (u * x + w * y) : Nat) : Int) := by
          rw [Int.natCast_add, Int.natCast_add, Int.natCast_mul, Int.natCast_mul]; omega
        have iS : inI ((c + (u * x + w * y) : Nat) : Int) = true := inI_of (by omega) (by omega)
        have hW2 := z.2
        generalize c + (u * x + w * y) = R at *
        refine G_run (B := [6]) 60 _ _ _ _ ?_
        simp (disch := first | assumption | rfl | exact inI_of (by omega) (by omega) | omega | decide | (simp only [sv_ext, sv_mc, Nat.le_refl]; done) | with_unfolding_all (refine @id _ ?_; first | exact Eq.refl _ | exact Nat.le_refl _ | assumption)) only [Nat.reduceAdd, Nat.reduceMul, Nat.reduceLeDiff, Nat.reduceLT, Int.reduceAdd, Int.reduceSub, Int.reduceMul, Int.reduceNeg, Int.reduceLE, Int.reduceLT, Int.reduceToNat, Int.reduceEq, reduceCtorEq, ld_z, ld_s, st1_0, st1_1, st1_s, st2_0, st2_1, st2_s, isJ_i, isJ_r, isJ_n, isJ_l, cs_nil, cs_i, cs_r, cs_l, kF, List.getElem?_cons_succ, List.getElem?_cons_zero, List.set_cons_zero, List.set_cons_succ, GC_s, GC_n, GK_nil, GK_no, GK_yes, not_false_eq_true, back_eq, back_hp, inI_eq, inA_eq, true_and, and_true, and_self, if_true, if_false, bI_0, bI_1, bI_in, bI_T, bI_F, fitF, jmpF, nlF, pjA, iVal.eta, iYr.eta, List.getElem?_toArray, List.length_cons, List.length_nil, true_or, or_true, or_false, false_or, Classical.not_not, Bool.false_eq_true, hp_2, Nat.zero_le, Nat.le_refl, Option.some.injEq, Sum.inl.injEq, Sum.inr.injEq, not_true_eq_false, true_implies, false_implies, implies_true, Int.le_refl, gX12_thaws, rd_o, rd_o_fi, rd_o_th, sFT_fi, sFT_th, hF, hG, e1, e2, e3, e4, hU1, hW2, z0, eS, iS, tmN, tdN, wr_FTt]
        exact g4
theorem thaws_eq {j : Nat} (hj : j ≤ 6) {x y : Nat} (hx : x ≤ 10) (hy : y ≤ 10) (hF : F.length = 448) (hG : G.length = 448) (hU : ∀ k, k < 64 → F.getD (64 * j + k) 0 = ((U / 10 ^ k % 10 : Nat) : Int)) (hW : (j = 0 ∧ W = 0) ∨ (0 < j ∧ ∀ k, k < 64 → F.getD (64 * (j - 1) + k) 0 = ((W / 10 ^ k % 10 : Nat) : Int))) : ∃ G' : List Int, G'.length = 448 ∧ (∀ p, p < 64 * j ∨ 64 * j + 64 ≤ p → G'.getD p 0 = G.getD p 0) ∧ (∀ r, r < 64 → G'.getD (64 * j + r) 0 = (((U * x + W * y) / 10 ^ r % 10 : Nat) : Int)) ∧ ∀ Q, Call sp sc d mX12_thaws [.inr (.inr 140), .inl (j : Int), .inl (x : Int), .inl (y : Int)] (hp (A.sFT F G)) Q = Q none (hp (A.sFT F G')) := by
  obtain ⟨G', g1, g2, g3, g4⟩ := @thsR_loop sp sc d A U W F j hj x y hx hy hF hU hW 64 0 G none (by omega) hG
  refine ⟨G', g1, fun p h => g2 p (by omega), fun r h => g3 r (by omega) h, fun Q => Call_eq ?_⟩
  have c0 : crF 10 U W x y 0 = 0 := by
    unfold crF
    rw [Nat.pow_zero, Nat.mod_one, Nat.mod_one, Nat.zero_mul, Nat.zero_mul]
  apply eX12_thaws 40; simp (disch := first | assumption | rfl | exact inI_of (by omega) (by omega) | omega | decide | (simp only [sv_ext, sv_mc, Nat.le_refl]; done) | with_unfolding_all (refine @id _ ?_; first | exact Eq.refl _ | exact Nat.le_refl _ | assumption)) only [Nat.reduceAdd, Nat.reduceMul, Nat.reduceLeDiff, Nat.reduceLT, Int.reduceAdd, Int.reduceSub, Int.reduceMul, Int.reduceNeg, Int.reduceLE, Int.reduceLT, Int.reduceToNat, Int.reduceEq, reduceCtorEq, ld_z, ld_s, st1_0, st1_1, st1_s, st2_0, st2_1, st2_s, isJ_i, isJ_r, isJ_n, isJ_l, cs_nil, cs_i, cs_r, cs_l, kF, List.getElem?_cons_succ, List.getElem?_cons_zero, List.set_cons_zero, List.set_cons_succ, GC_s, GC_n, GK_nil, GK_no, GK_yes, not_false_eq_true, back_eq, back_hp, inI_eq, inA_eq, true_and, and_true, and_self, if_true, if_false, bI_0, bI_1, bI_in, bI_T, bI_F, fitF, jmpF, nlF, pjA, iVal.eta, iYr.eta, List.getElem?_toArray, List.length_cons, List.length_nil, true_or, or_true, or_false, false_or, Classical.not_not, Bool.false_eq_true, hp_2, Nat.zero_le, Nat.le_refl, Option.some.injEq, Sum.inl.injEq, Sum.inr.injEq, not_true_eq_false, true_implies, false_implies, implies_true, Int.le_refl, gX12_thaws]
  have k := g4 (fun x y => x = none ∧ y = hp (A.sFT F G')) ⟨rfl, rfl⟩
  rw [c0] at k
  exact k
/-- the numbers a day on: just so many done -/
def eVn (t m : Nat) (E : Nat → Nat) (j : Nat) : Nat := E j * (if j = m then 10 else 10 - t) + (if j = 0 then 0 else E (j - 1)) * t
def ftL (F : List Int) (m : Nat) (E : Nat → Nat) : Prop := F.length = 448 ∧ ∀ e, e ≤ m → ∀ k, k < 64 → F.getD (64 * e + k) 0 = ((E e / 10 ^ k % 10 : Nat) : Int)
theorem tdR_loop {t m : Nat} (t9 : t ≤ 9) (hm : m ≤ 6) {E : Nat → Nat} (hF : ftL F m E) {c n i y : Int} : ∀ (q j : Nat) (G : List Int), j + q = m + 1 → G.length = 448 → (∀ e, e < j → ∀ k, k < 64 → G.getD (64 * e + k) 0 = ((eVn t m E e / 10 ^ k % 10 : Nat) : Int)) → ∃ G', ftL G' m (eVn t m E) ∧ ∀ Q, Run sp sc (d + 1) mX12_thaw 109 [some (.inr (.inr 140)), some (.inl c), some (.inl n), some (.inl (t : Int)), some (.inl i), some (.inl (m : Int)), some (.inl y), some (.inl ((m + 1 : Nat) : Int))] [] (hp (A.sFT F G')) Q → Run sp sc (d + 1) mX12_thaw 109 [some (.inr (.inr 140)), some (.inl c), some (.inl n), some (.inl (t : Int)), some (.inl i), some (.inl (m : Int)), some (.inl y), some (.inl (j : Int))] [] (hp (A.sFT F G)) Q := by
  intro q
  induction q with
  | zero =>
    intro j G hj hG hg
    have e : j = m + 1 := by omega
    subst e
    exact ⟨G, ⟨hG, fun e he => hg e (by omega)⟩, fun Q hQ => hQ⟩
  | succ q ih =>
    intro j G hj hG hg
    have xb : (if j = m then 10 else 10 - t) ≤ 10 := by split <;> omega
    obtain ⟨G1, g1, g2, g3, g4⟩ := @thaws_eq sp sc d A (E j) (if j = 0 then 0 else E (j - 1)) F G j (by omega) (if j = m then 10 else 10 - t) t xb (by omega) hF.1 hG (hF.2 j (by omega)) (by
      by_cases z : j = 0
      · left; exact ⟨z, if_pos z⟩
      · right
        refine ⟨by omega, ?_⟩
        rw [if_neg z]
        exact hF.2 (j - 1) (by omega))
    obtain ⟨G', k1, k2⟩ := ih (j + 1) G1 (by omega) g1 (fun e he k hk => by
      by_cases z : e = j
      · rw [z]; exact g3 k hk
      · rw [g2 _ (by omega)]; exact hg e (by omega) k hk)
    refine ⟨G', k1, fun Q hQ => ?_⟩
    have k2 := k2 Q hQ
    have e1 : ¬ (m : Int) < (j : Int) := by omega
    have e4 : (j : Int) + 1 = ((j + 1 : Nat) : Int) := by omega
    refine G_run (B := [68, 100, 109, 148, 220]) 60 _ _ _ _ ?_
    by_cases z : j = m
    · have z0 : (j : Int) = (m : Int) := by omega
      rw [if_pos z] at g4
      have g4 : ∀ Q, Call sp sc d mX12_thaws [.inr (.inr 140), .inl (j : Int), .inl 10, .inl (t : Int)] (hp (A.sFT F G)) Q = Q none (hp (A.sFT F G1)) := g4
      simp (disch := first | assumption | rfl | exact inI_of (by omega) (by omega) | omega | decide | (simp only [sv_ext, sv_mc, Nat.le_refl]; done) | with_unfolding_all (refine @id _ ?_; first | exact Eq.refl _ | exact Nat.le_refl _ | assumption)) only [Nat.reduceAdd, Nat.reduceMul, Nat.reduceLeDiff, Nat.reduceLT, Int.reduceAdd, Int.reduceSub, Int.reduceMul, Int.reduceNeg, Int.reduceLE, Int.reduceLT, Int.reduceToNat, Int.reduceEq, reduceCtorEq, ld_z, ld_s, st1_0, st1_1, st1_s, st2_0, st2_1, st2_s, isJ_i, isJ_r, isJ_n, isJ_l, cs_nil, cs_i, cs_r, cs_l, kF, List.getElem?_cons_succ, List.getElem?_cons_zero, List.set_cons_zero, List.set_cons_succ, GC_s, GC_n, GK_nil, GK_no, GK_yes, not_false_eq_true, back_eq, back_hp, inI_eq, inA_eq, true_and, and_true, and_self, if_true, if_false, bI_0, bI_1, bI_in, bI_T, bI_F, fitF, jmpF, nlF, pjA, iVal.eta, iYr.eta, List.getElem?_toArray, List.length_cons, List.length_nil, true_or, or_true, or_false, false_or, Classical.not_not, Bool.false_eq_true, hp_2, Nat.zero_le, Nat.le_refl, Option.some.injEq, Sum.inl.injEq, Sum.inr.injEq, not_true_eq_false, true_implies, false_implies, implies_true, Int.le_refl, gX12_thaw, rd_o, e1, e4, eq_true z0, g4, back_FT]
      exact k2
    · have z0 : ¬ (j : Int) = (m : Int) := by omega
      rw [if_neg z] at g4
      have ec : (10 : Int) - (t : Int) = ((10 - t : Nat) : Int) := by omega
      simp (disch := first | assumption | rfl | exact inI_of (by omega) (by omega) | omega | decide | (simp only [sv_ext, sv_mc, Nat.le_refl]; done) | with_unfolding_all (refine @id _ ?_; first | exact Eq.refl _ | exact Nat.le_refl _ | assumption)) only [Nat.reduceAdd, Nat.reduceMul, Nat.reduceLeDiff, Nat.reduceLT, Int.reduceAdd, Int.reduceSub, Int.reduceMul, Int.reduceNeg, Int.reduceLE, Int.reduceLT, Int.reduceToNat, Int.reduceEq, reduceCtorEq, ld_z, ld_s, st1_0, st1_1, st1_s, st2_0, st2_1, st2_s, isJ_i, isJ_r, isJ_n, isJ_l, cs_nil, cs_i, cs_r, cs_l, kF, List.getElem?_cons_succ, List.getElem?_cons_zero, List.set_cons_zero, List.set_cons_succ, GC_s, GC_n, GK_nil, GK_no, GK_yes, not_false_eq_true, back_eq, back_hp, inI_eq, inA_eq, true_and, and_true, and_self, if_true, if_false, bI_0, bI_1, bI_in, bI_T, bI_F, fitF, jmpF, nlF, pjA, iVal.eta, iYr.eta, List.getElem?_toArray, List.length_cons, List.length_nil, true_or, or_true, or_false, false_or, Classical.not_not, Bool.false_eq_true, hp_2, Nat.zero_le, Nat.le_refl, Option.some.injEq, Sum.inl.injEq, Sum.inr.injEq, not_true_eq_false, true_implies, false_implies, implies_true, Int.le_refl, gX12_thaw, rd_o, e1, e4, z0, ec, g4, back_FT]
      exact k2
end OPS
