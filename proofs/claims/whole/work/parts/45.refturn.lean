set_option maxRecDepth 16384
/-! ===== the reference: a turn, a day ===== -/
def bitsL (n : Nat) : List Int := (List.range 10).map fun i => ((n.testBit i).toNat : Int)
theorem bits_has : ∀ n : Nat, n < 1024 → ∀ k : Nat, k < 10 → (bAnd (bShr (n : Int) (k : Int)) 1 = 1 ↔ (bitsL n).getD k 0 = 1) := by decide +kernel
theorem bOr_nat {a b : Nat} (ha : a < 2147483648) (hb : b < 2147483648) : bOr (a : Int) (b : Int) = ((a ||| b : Nat) : Int) := by
  unfold bOr
  have e1 : Int32.ofInt (a : Int) = Int32.ofNat a := rfl
  have e2 : Int32.ofInt (b : Int) = Int32.ofNat b := rfl
  have e3 : Int32.ofNat a ||| Int32.ofNat b = Int32.ofNat (a ||| b) := by
    apply Int32.toBitVec.inj
    rw [Int32.toBitVec_or]
    exact (BitVec.ofNat_or (w := 32) (x := a) (y := b)).symm
  rw [e1, e2, e3]
  exact Int32.toInt_ofNat_of_lt (Nat.or_lt_two_pow (n := 31) (by omega) (by omega))
theorem bShl_1 : ∀ k : Nat, k < 10 → bShl 1 (k : Int) = ((1 <<< k : Nat) : Int) ∧ 1 <<< k < 1024 := by decide +kernel
theorem bits_len {n : Nat} : (bitsL n).length = 10 := by simp [bitsL]
theorem bits_set {n k : Nat} (hk : k < 10) : bitsL (n ||| 1 <<< k) = (bitsL n).set k 1 := by
  apply List.ext_getElem
  · rw [List.length_set, bits_len, bits_len]
  · intro i h1 h2
    rw [List.getElem_set]
    by_cases c : k = i
    · subst c
      rw [if_pos rfl]
      simp [bitsL, Nat.testBit_or, Nat.one_shiftLeft, Nat.testBit_two_pow]
    · rw [if_neg c]
      simp [bitsL, Nat.testBit_or, Nat.one_shiftLeft, Nat.testBit_two_pow, c]
theorem bits_or {n a b : Nat} (hn : n < 1024) (ha : a < 5) (hb : b < 5) : bOr (bOr (n : Int) (bShl 1 (a : Int))) (bShl 1 (5 + (b : Int))) = ((n ||| 1 <<< a ||| 1 <<< (5 + b) : Nat) : Int) ∧ (n ||| 1 <<< a ||| 1 <<< (5 + b)) < 1024 ∧ bitsL (n ||| 1 <<< a ||| 1 <<< (5 + b)) = ((bitsL n).set a 1).set (5 + b) 1 := by
  have e1 := bShl_1 a (by omega)
  have e2 := bShl_1 (5 + b) (by omega)
  have e3 : (5 : Int) + (b : Int) = ((5 + b : Nat) : Int) := by omega
  have l1 : n ||| 1 <<< a < 1024 := Nat.or_lt_two_pow (n := 10) hn e1.2
  have l2 : n ||| 1 <<< a ||| 1 <<< (5 + b) < 1024 := Nat.or_lt_two_pow (n := 10) l1 e2.2
  refine ⟨?_, l2, ?_⟩
  · rw [e3, e1.1, e2.1, bOr_nat (by omega) (by omega), bOr_nat (by omega) (by omega)]
  · rw [bits_set (by omega), bits_set (by omega)]
theorem bits_0 : bitsL 0 = List.replicate 10 0 := by decide
theorem bAnd_in {a b : Int} : inI (bAnd a b) = true := by
  unfold bAnd
  have h1 := Int32.toInt_lt (Int32.ofInt a &&& Int32.ofInt b)
  have h2 := Int32.le_toInt (Int32.ofInt a &&& Int32.ofInt b)
  exact inI_of (by simpa using h2) (by simpa using h1)
theorem slip_end {S : iXY} {c v : Int} : endA (S.1, slipY S.2) c v = ((endA S c v).1, slipY (endA S c v).2) := rfl
theorem slip_lose {a b : Int} : ∀ (k : Nat) (c : Int) (S : iXY), loseF a b k c (S.1, slipY S.2) = ((loseF a b k c S).1, slipY (loseF a b k c S).2) := by
  intro k
  induction k with
  | zero => intro c S; rfl
  | succ k ih =>
    intro c S
    unfold loseF
    by_cases g : S.1.sta c = 0 ∧ (S.1.man c = a ∨ S.1.wom c = b)
    · rw [if_pos g, if_pos g, slip_end]
      exact ih _ _
    · rw [if_neg g, if_neg g]
      exact ih _ _
theorem slip_bind {S : iXY} {c v a b : Int} : bindA (S.1, slipY S.2) c v a b = ((bindA S c v a b).1, slipY (bindA S c v a b).2) := by
  unfold bindA loseA
  rw [slip_end]
  exact slip_lose _ _ ((endA S c v).1.bind a b, (endA S c v).2)
section RT
variable {sp : Nat → List iV → iH → Option (Option iV × iH)} {sc : List Int} {d : Nat} {A : iA} {r : iR} {R : iRy} {h : iH} {Q : Option iV → iH → Prop} {X : iVal} {e g B : Int} {S : iXY}
theorem bnd_ge (hO : OkV X) {s k : Int} (h0 : 0 ≤ s) (h1 : s < 2) (h2 : 0 ≤ k) (h3 : k < 5) : -1 ≤ X.bnd s k ∧ X.bnd s k < 5 := by
  have := hO.bnd s k h0 h1 h2 h3
  have := hO.num (s := 1 - s) (by omega) (by omega)
  omega
theorem has_eq {n k : Int} : Call sp sc d mX12_has [.inl n, .inl k] h Q = Q (some (.inl (bI (bAnd (bShr n k) 1 = 1)))) h := Call_eq (by
  have := @bAnd_in (bShr n k) 1
  apply eX12_has 30; simp (disch := first | assumption | rfl | exact inI_of (by omega) (by omega) | omega | decide | (simp only [sv_ext, sv_mc, Nat.le_refl]; done) | with_unfolding_all (refine @id _ ?_; first | exact Eq.refl _ | exact Nat.le_refl _ | assumption)) only [Nat.reduceAdd, Nat.reduceMul, Nat.reduceLeDiff, Nat.reduceLT, Int.reduceAdd, Int.reduceSub, Int.reduceMul, Int.reduceNeg, Int.reduceLE, Int.reduceLT, Int.reduceToNat, Int.reduceEq, reduceCtorEq, ld_z, ld_s, st1_0, st1_1, st1_s, st2_0, st2_1, st2_s, isJ_i, isJ_r, isJ_n, isJ_l, cs_nil, cs_i, cs_r, cs_l, kF, List.getElem?_cons_succ, List.getElem?_cons_zero, List.set_cons_zero, List.set_cons_succ, GC_s, GC_n, GK_nil, GK_no, GK_yes, not_false_eq_true, back_eq, back_hp, inI_eq, inA_eq, true_and, and_true, and_self, if_true, if_false, bI_0, bI_1, bI_in, bI_T, bI_F, fitF, jmpF, nlF, pjA, iVal.eta, iYr.eta, List.getElem?_toArray, List.length_cons, List.length_nil, true_or, or_true, or_false, false_or, Classical.not_not, Bool.false_eq_true, hp_2, Nat.zero_le, Nat.le_refl, Option.some.injEq, Sum.inl.injEq, Sum.inr.injEq, not_true_eq_false, true_implies, false_implies, implies_true, gX12_has, this]
  ((repeat' first | intro _ | refine And.intro ?_ ?_) <;> (first | assumption | exact inI_of (by omega) (by omega) | exact inA_of (by omega) (by omega) (by omega) | exact (bI_f (by omega)).symm | exact (bI_t (by omega)).symm | exact bI_f (by omega) | exact bI_t (by omega) | omega | rfl | (simp; done))))
theorem loseR_loop {a b c0 v : Int} (ha : inI a = true) (hb : inI b = true) (hg0 : 0 ≤ g) : ∀ (k : Nat) (c : Int) (S : iXY), OkS S B → S.2.ps = g + 1 → 0 ≤ c → c + k = S.1.cp → Q none (hp (A.sro r (rowOf (loseF a b k c S).1 e) (ryOf (loseF a b k c S).2 g))) → Run sp sc (d + 3) mX12_bind 30 [some (.inr (.inr 140)), some (.inr (.inr (rb r + 2))), some (.inl a), some (.inl b), some (.inl c0), some (.inl v), some (.inl c)] [] (hp (A.sro r (rowOf S.1 e) (ryOf S.2 g))) Q := by
  intro k
  induction k with
  | zero =>
    intro c S hS hg h0 h1 hq
    have hcp := hS.1.cp
    refine G_run (B := [30]) 60 _ _ _ _ ?_
    have e : S.1.cp ≤ c := by omega
    simp (disch := first | assumption | rfl | exact inI_of (by omega) (by omega) | omega | decide | (simp only [sv_ext, sv_mc, Nat.le_refl]; done) | with_unfolding_all (refine @id _ ?_; first | exact Eq.refl _ | exact Nat.le_refl _ | assumption)) only [Nat.reduceAdd, Nat.reduceMul, Nat.reduceLeDiff, Nat.reduceLT, Int.reduceAdd, Int.reduceSub, Int.reduceMul, Int.reduceNeg, Int.reduceLE, Int.reduceLT, Int.reduceToNat, Int.reduceEq, reduceCtorEq, ld_z, ld_s, st1_0, st1_1, st1_s, st2_0, st2_1, st2_s, isJ_i, isJ_r, isJ_n, isJ_l, cs_nil, cs_i, cs_r, cs_l, kF, List.getElem?_cons_succ, List.getElem?_cons_zero, List.set_cons_zero, List.set_cons_succ, GC_s, GC_n, GK_nil, GK_no, GK_yes, not_false_eq_true, back_eq, inI_eq, inA_eq, true_and, and_true, and_self, if_true, if_false, bI_0, bI_1, bI_in, bI_T, bI_F, fitF, jmpF, nlF, pjA, iVal.eta, iYr.eta, List.getElem?_toArray, List.length_cons, List.length_nil, true_or, or_true, or_false, false_or, Classical.not_not, Bool.false_eq_true, hp_2, Nat.zero_le, Nat.le_refl, Option.some.injEq, Sum.inl.injEq, Sum.inr.injEq, not_true_eq_false, true_implies, false_implies, implies_true, iRy.pj, back_sro, back_sro1, rd_r, rd_o, rd_o_wt, rd_o_en, rd_o_od, sro_rr, sro_srr, sro_sro, sro_wt, sro_en, sro_od, sro_dn, sro_sm, sro_sf, sro_go, wro_wt, wro_en, wro_od, wro_r, wro_o, row_len, inA_one, inA_lik, inA_cpl, gX12_bind, r_cp, e]
    exact hq
  | succ k ih =>
    intro c S hS hg h0 h1 hq
    have hO := hS.1
    have hcp := hO.cp
    have n0 := hO.n0
    have n1 := hO.n1
    have em := hO.man c h0 (by omega)
    have ew := hO.wom c h0 (by omega)
    refine G_run (B := [30]) 60 _ _ _ _ ?_
    have e : ¬ S.1.cp ≤ c := by omega
    unfold loseF at hq
    have h4 := okS_end hS h0 (by omega) (by omega : (1 : Int) ≤ 2) (by omega)
    by_cases g1 : S.1.sta c = 0
    · by_cases gm : S.1.man c = a
      · rw [if_pos ⟨g1, Or.inl gm⟩] at hq
        simp (disch := first | assumption | rfl | exact inI_of (by omega) (by omega) | omega | decide | (simp only [sv_ext, sv_mc, Nat.le_refl]; done) | with_unfolding_all (refine @id _ ?_; first | exact Eq.refl _ | exact Nat.le_refl _ | assumption)) only [Nat.reduceAdd, Nat.reduceMul, Nat.reduceLeDiff, Nat.reduceLT, Int.reduceAdd, Int.reduceSub, Int.reduceMul, Int.reduceNeg, Int.reduceLE, Int.reduceLT, Int.reduceToNat, Int.reduceEq, reduceCtorEq, ld_z, ld_s, st1_0, st1_1, st1_s, st2_0, st2_1, st2_s, isJ_i, isJ_r, isJ_n, isJ_l, cs_nil, cs_i, cs_r, cs_l, kF, List.getElem?_cons_succ, List.getElem?_cons_zero, List.set_cons_zero, List.set_cons_succ, GC_s, GC_n, GK_nil, GK_no, GK_yes, not_false_eq_true, back_eq, inI_eq, inA_eq, true_and, and_true, and_self, if_true, if_false, bI_0, bI_1, bI_in, bI_T, bI_F, fitF, jmpF, nlF, pjA, iVal.eta, iYr.eta, List.getElem?_toArray, List.length_cons, List.length_nil, true_or, or_true, or_false, false_or, Classical.not_not, Bool.false_eq_true, hp_2, Nat.zero_le, Nat.le_refl, Option.some.injEq, Sum.inl.injEq, Sum.inr.injEq, not_true_eq_false, true_implies, false_implies, implies_true, iRy.pj, back_sro, back_sro1, rd_r, rd_o, rd_o_wt, rd_o_en, rd_o_od, sro_rr, sro_srr, sro_sro, sro_wt, sro_en, sro_od, sro_dn, sro_sm, sro_sf, sro_go, wro_wt, wro_en, wro_od, wro_r, wro_o, row_len, inA_one, inA_lik, inA_cpl, gX12_bind, r_cp, e, goesOnR_eq, g1, atCouple_eq, q_man, q_wom, gm, ha, ends_eq hS.2.len hS.1.lsa hg hg0]
        exact ih _ _ h4 hg (by omega) (by show c + 1 + k = S.1.cp; omega) hq
      · by_cases gw : S.1.wom c = b
        · rw [if_pos ⟨g1, Or.inr gw⟩] at hq
          simp (disch := first | assumption | rfl | exact inI_of (by omega) (by omega) | omega | decide | (simp only [sv_ext, sv_mc, Nat.le_refl]; done) | with_unfolding_all (refine @id _ ?_; first | exact Eq.refl _ | exact Nat.le_refl _ | assumption)) only [Nat.reduceAdd, Nat.reduceMul, Nat.reduceLeDiff, Nat.reduceLT, Int.reduceAdd, Int.reduceSub, Int.reduceMul, Int.reduceNeg, Int.reduceLE, Int.reduceLT, Int.reduceToNat, Int.reduceEq, reduceCtorEq, ld_z, ld_s, st1_0, st1_1, st1_s, st2_0, st2_1, st2_s, isJ_i, isJ_r, isJ_n, isJ_l, cs_nil, cs_i, cs_r, cs_l, kF, List.getElem?_cons_succ, List.getElem?_cons_zero, List.set_cons_zero, List.set_cons_succ, GC_s, GC_n, GK_nil, GK_no, GK_yes, not_false_eq_true, back_eq, inI_eq, inA_eq, true_and, and_true, and_self, if_true, if_false, bI_0, bI_1, bI_in, bI_T, bI_F, fitF, jmpF, nlF, pjA, iVal.eta, iYr.eta, List.getElem?_toArray, List.length_cons, List.length_nil, true_or, or_true, or_false, false_or, Classical.not_not, Bool.false_eq_true, hp_2, Nat.zero_le, Nat.le_refl, Option.some.injEq, Sum.inl.injEq, Sum.inr.injEq, not_true_eq_false, true_implies, false_implies, implies_true, iRy.pj, back_sro, back_sro1, rd_r, rd_o, rd_o_wt, rd_o_en, rd_o_od, sro_rr, sro_srr, sro_sro, sro_wt, sro_en, sro_od, sro_dn, sro_sm, sro_sf, sro_go, wro_wt, wro_en, wro_od, wro_r, wro_o, row_len, inA_one, inA_lik, inA_cpl, gX12_bind, r_cp, e, goesOnR_eq, g1, atCouple_eq, q_man, q_wom, gm, ha, gw, hb, ends_eq hS.2.len hS.1.lsa hg hg0]
          exact ih _ _ h4 hg (by omega) (by show c + 1 + k = S.1.cp; omega) hq
        · rw [if_neg (by omega)] at hq
          simp (disch := first | assumption | rfl | exact inI_of (by omega) (by omega) | omega | decide | (simp only [sv_ext, sv_mc, Nat.le_refl]; done) | with_unfolding_all (refine @id _ ?_; first | exact Eq.refl _ | exact Nat.le_refl _ | assumption)) only [Nat.reduceAdd, Nat.reduceMul, Nat.reduceLeDiff, Nat.reduceLT, Int.reduceAdd, Int.reduceSub, Int.reduceMul, Int.reduceNeg, Int.reduceLE, Int.reduceLT, Int.reduceToNat, Int.reduceEq, reduceCtorEq, ld_z, ld_s, st1_0, st1_1, st1_s, st2_0, st2_1, st2_s, isJ_i, isJ_r, isJ_n, isJ_l, cs_nil, cs_i, cs_r, cs_l, kF, List.getElem?_cons_succ, List.getElem?_cons_zero, List.set_cons_zero, List.set_cons_succ, GC_s, GC_n, GK_nil, GK_no, GK_yes, not_false_eq_true, back_eq, inI_eq, inA_eq, true_and, and_true, and_self, if_true, if_false, bI_0, bI_1, bI_in, bI_T, bI_F, fitF, jmpF, nlF, pjA, iVal.eta, iYr.eta, List.getElem?_toArray, List.length_cons, List.length_nil, true_or, or_true, or_false, false_or, Classical.not_not, Bool.false_eq_true, hp_2, Nat.zero_le, Nat.le_refl, Option.some.injEq, Sum.inl.injEq, Sum.inr.injEq, not_true_eq_false, true_implies, false_implies, implies_true, iRy.pj, back_sro, back_sro1, rd_r, rd_o, rd_o_wt, rd_o_en, rd_o_od, sro_rr, sro_srr, sro_sro, sro_wt, sro_en, sro_od, sro_dn, sro_sm, sro_sf, sro_go, wro_wt, wro_en, wro_od, wro_r, wro_o, row_len, inA_one, inA_lik, inA_cpl, gX12_bind, r_cp, e, goesOnR_eq, g1, atCouple_eq, q_man, q_wom, gm, ha, gw, hb]
          exact ih _ _ hS hg (by omega) (by omega) hq
    · rw [if_neg (by omega)] at hq
      simp (disch := first | assumption | rfl | exact inI_of (by omega) (by omega) | omega | decide | (simp only [sv_ext, sv_mc, Nat.le_refl]; done) | with_unfolding_all (refine @id _ ?_; first | exact Eq.refl _ | exact Nat.le_refl _ | assumption)) only [Nat.reduceAdd, Nat.reduceMul, Nat.reduceLeDiff, Nat.reduceLT, Int.reduceAdd, Int.reduceSub, Int.reduceMul, Int.reduceNeg, Int.reduceLE, Int.reduceLT, Int.reduceToNat, Int.reduceEq, reduceCtorEq, ld_z, ld_s, st1_0, st1_1, st1_s, st2_0, st2_1, st2_s, isJ_i, isJ_r, isJ_n, isJ_l, cs_nil, cs_i, cs_r, cs_l, kF, List.getElem?_cons_succ, List.getElem?_cons_zero, List.set_cons_zero, List.set_cons_succ, GC_s, GC_n, GK_nil, GK_no, GK_yes, not_false_eq_true, back_eq, inI_eq, inA_eq, true_and, and_true, and_self, if_true, if_false, bI_0, bI_1, bI_in, bI_T, bI_F, fitF, jmpF, nlF, pjA, iVal.eta, iYr.eta, List.getElem?_toArray, List.length_cons, List.length_nil, true_or, or_true, or_false, false_or, Classical.not_not, Bool.false_eq_true, hp_2, Nat.zero_le, Nat.le_refl, Option.some.injEq, Sum.inl.injEq, Sum.inr.injEq, not_true_eq_false, true_implies, false_implies, implies_true, iRy.pj, back_sro, back_sro1, rd_r, rd_o, rd_o_wt, rd_o_en, rd_o_od, sro_rr, sro_srr, sro_sro, sro_wt, sro_en, sro_od, sro_dn, sro_sm, sro_sf, sro_go, wro_wt, wro_en, wro_od, wro_r, wro_o, row_len, inA_one, inA_lik, inA_cpl, gX12_bind, r_cp, e, goesOnR_eq, g1]
      exact ih _ _ hS hg (by omega) (by omega) hq
theorem bindR_eq {c v a b : Int} (hE : OkS (endA (S.1.bind a b, S.2) c v) B) (hg : S.2.ps = g + 1) (hg0 : 0 ≤ g) (h0 : 0 ≤ c) (h1 : c < S.1.cp) (g0 : 0 ≤ a) (g1 : a < S.1.num 0) (g2 : 0 ≤ b) (g3 : b < S.1.num 1) : Call sp sc (d + 3) mX12_bind [.inr (.inr 140), .inr (.inr (rb r + 2)), .inl a, .inl b, .inl c, .inl v] (hp (A.sro r (rowOf S.1 e) (ryOf S.2 g))) Q = Q none (hp (A.sro r (rowOf (bindA S c v a b).1 e) (ryOf (bindA S c v a b).2 g))) := Call_eq (by
  have hO := hE.1
  have hcp : 0 ≤ S.1.cp ∧ S.1.cp ≤ 4 := hO.cp
  have n0 : 0 ≤ S.1.num 0 ∧ S.1.num 0 ≤ 5 := hO.n0
  have n1 : 0 ≤ S.1.num 1 ∧ S.1.num 1 ≤ 5 := hO.n1
  have lb : S.1.bo.length = 10 := by
    have : ((S.1.bo.set a.toNat b).set (5 + b).toNat a).length = 10 := hO.lbo
    rw [List.length_set, List.length_set] at this; exact this
  have ls : (S.1.bind a b, S.2).1.sa.length = 4 := by
    have : (S.1.sa.set c.toNat v).length = 4 := hO.lsa
    rw [List.length_set] at this; exact this
  have le : (S.1.bind a b, S.2).2.en.length = 4 := by
    have : (S.2.en.set c.toNat S.2.ps).length = 4 := hE.2.len
    rw [List.length_set] at this; exact this
  have lb2 : (S.1.sbn 0 a b).bo.length = 10 := by show (S.1.bo.set _ _).length = 10; rw [List.length_set]; exact lb
  have g3' : b < (S.1.sbn 0 a b).num 1 := g3
  have n1' : (S.1.sbn 0 a b).num 1 ≤ 5 := n1.2
  have e1 := fun Q => @ends_eq sp sc (d + 1) A r Q e g (S.1.bind a b, S.2) le ls hg hg0 c v h0 (by omega)
  dsimp only at e1
  have hcE : (endA (S.1.bind a b, S.2) c v).1.cp = S.1.cp := rfl
  apply eX12_bind 60
  simp (disch := first | assumption | rfl | exact inI_of (by omega) (by omega) | omega | decide | (simp only [sv_ext, sv_mc, Nat.le_refl]; done) | with_unfolding_all (refine @id _ ?_; first | exact Eq.refl _ | exact Nat.le_refl _ | assumption)) only [Nat.reduceAdd, Nat.reduceMul, Nat.reduceLeDiff, Nat.reduceLT, Int.reduceAdd, Int.reduceSub, Int.reduceMul, Int.reduceNeg, Int.reduceLE, Int.reduceLT, Int.reduceToNat, Int.reduceEq, reduceCtorEq, ld_z, ld_s, st1_0, st1_1, st1_s, st2_0, st2_1, st2_s, isJ_i, isJ_r, isJ_n, isJ_l, cs_nil, cs_i, cs_r, cs_l, kF, List.getElem?_cons_succ, List.getElem?_cons_zero, List.set_cons_zero, List.set_cons_succ, GC_s, GC_n, GK_nil, GK_no, GK_yes, not_false_eq_true, back_eq, inI_eq, inA_eq, true_and, and_true, and_self, if_true, if_false, bI_0, bI_1, bI_in, bI_T, bI_F, fitF, jmpF, nlF, pjA, iVal.eta, iYr.eta, List.getElem?_toArray, List.length_cons, List.length_nil, true_or, or_true, or_false, false_or, Classical.not_not, Bool.false_eq_true, hp_2, Nat.zero_le, Nat.le_refl, Option.some.injEq, Sum.inl.injEq, Sum.inr.injEq, not_true_eq_false, true_implies, false_implies, implies_true, iRy.pj, back_sro, back_sro1, rd_r, rd_o, rd_o_wt, rd_o_en, rd_o_od, sro_rr, sro_srr, sro_sro, sro_wt, sro_en, sro_od, sro_dn, sro_sm, sro_sf, sro_go, wro_wt, wro_en, wro_od, wro_r, wro_o, row_len, inA_one, inA_lik, inA_cpl, gX12_bind, atOne_eq, w_bnd lb (s := 0) (by omega) (by omega) g0 g1 n0.2, w_bnd lb2 (s := 1) (by omega) (by omega) g2 g3' n1', bind_sbn, e1]
  exact loseR_loop (inI_of (by omega) (by omega)) (inI_of (by omega) (by omega)) hg0 S.1.cp.toNat 0 (endA (S.1.bind a b, S.2) c v) hE hg (by omega) (by rw [hcE]; omega) ⟨rfl, rfl⟩)
/-- who has done something in this day, as bits, behind a turn -/
noncomputable def busN (S : iXY) (c n : Int) : Int := if metA S c then bOr (bOr n (bShl 1 (S.1.doer 0 c))) (bShl 1 (5 + S.1.doer 1 c)) else n
theorem has_bus {n : Nat} {Y : iYr} (hn : n < 1024) (hb : Y.bz = bitsL n) {k : Int} (h0 : 0 ≤ k) (h1 : k < 10) : (bAnd (bShr (n : Int) k) 1 = 1) ↔ Y.bus k = 1 := by
  have e : ((k.toNat : Nat) : Int) = k := by omega
  have := bits_has n hn k.toNat (by omega)
  rw [e] at this
  rw [this]
  unfold iYr.bus
  rw [hb]
theorem busN_ok (hS : OkS S B) {n : Nat} (hn : n < 1024) (hb : S.2.bz = bitsL n) {c : Int} (h0 : 0 ≤ c) (h1 : c < S.1.cp) : ∃ n' : Nat, n' < 1024 ∧ busN S c n = (n' : Int) ∧ (turnA S c).2.bz = bitsL n' := by
  have hO := hS.1
  have n0 := hO.n0
  have n1 := hO.n1
  have da := doer_b hO (s := 0) (c := c) (by omega) (by omega) h0 h1
  have db := doer_b hO (s := 1) (c := c) (by omega) (by omega) h0 h1
  unfold busN turnA
  by_cases m : metA S c
  · rw [if_pos m, if_pos m]
    have ea : ((S.1.doer 0 c).toNat : Int) = S.1.doer 0 c := by omega
    have eb : ((S.1.doer 1 c).toNat : Int) = S.1.doer 1 c := by omega
    have e := bits_or hn (a := (S.1.doer 0 c).toNat) (b := (S.1.doer 1 c).toNat) (by omega) (by omega)
    rw [ea, eb] at e
    refine ⟨_, e.2.1, e.1, ?_⟩
    rw [e.2.2]
    have lem : ∀ T : iXY, T.2.bz = (busyY S.2 (S.1.doer 0 c) (S.1.doer 1 c)).bz → T.2.bz = ((bitsL n).set (S.1.doer 0 c).toNat 1).set (5 + (S.1.doer 1 c).toNat) 1 := fun T h => by
      rw [h]
      show (S.2.bz.set (S.1.doer 0 c).toNat 1).set (5 + S.1.doer 1 c).toNat 1 = _
      rw [hb]
      congr 1
      omega
    apply lem
    have lose : ∀ (k : Nat) (c : Int) (T : iXY) (a b : Int), (loseF a b k c T).2.bz = T.2.bz := by
      intro k
      induction k with
      | zero => intro c T a b; rfl
      | succ k ih =>
        intro c T a b
        unfold loseF
        rw [ih]
        split <;> rfl
    have bnd : ∀ (T : iXY) (c v a b : Int), (bindA T c v a b).2.bz = T.2.bz := fun T c v a b => by
      unfold bindA loseA
      rw [lose]; rfl
    dsimp only
    split
    · exact bnd _ _ _ _ _
    · unfold deedA
      split
      · rfl
      · exact bnd _ _ _ _ _
  · rw [if_neg m, if_neg m]
    exact ⟨n, hn, rfl, hb⟩
theorem slipR {Y : iYr} (hs : 0 ≤ Y.sp) (hf : 0 ≤ Y.fs) (hp : Y.ps = g + 1) : iRy.mk Y.wt (enR Y.en) Y.od Y.dn (Y.sp + 1) (if sfR Y < 0 then g + 1 else sfR Y) g = ryOf (slipY Y) g := by
  have e : (if sfR Y < 0 then g + 1 else sfR Y) = sfR (slipY Y) := by
    show _ = (if Y.sp + 1 = 0 then -4 else (if Y.sp + 1 = 1 then Y.ps else Y.fs))
    rw [if_neg (show ¬ Y.sp + 1 = 0 by omega)]
    unfold sfR
    by_cases z : Y.sp = 0
    · rw [if_pos z, if_pos (by omega), if_pos (by omega), hp]
    · rw [if_neg z, if_neg (by omega), if_neg (by omega)]
  rw [e]
  rfl
theorem busy_bind {X : iVal} {Y Y' : iYr} (h : Y' = (iYr.mk Y.od (Y'.bz) Y.wt Y.en Y.ps Y.dn Y.sp Y.fs)) {c v a b : Int} : bindA (X, Y') c v a b = ((bindA (X, Y) c v a b).1, (iYr.mk ((bindA (X, Y) c v a b).2).od (Y'.bz) ((bindA (X, Y) c v a b).2).wt ((bindA (X, Y) c v a b).2).en ((bindA (X, Y) c v a b).2).ps ((bindA (X, Y) c v a b).2).dn ((bindA (X, Y) c v a b).2).sp ((bindA (X, Y) c v a b).2).fs)) := by
  have key : ∀ (k : Nat) (i : Int) (S : iXY) (z : List Int), loseF a b k i (S.1, (iYr.mk S.2.od (z) S.2.wt S.2.en S.2.ps S.2.dn S.2.sp S.2.fs)) = ((loseF a b k i S).1, (iYr.mk ((loseF a b k i S).2).od (z) ((loseF a b k i S).2).wt ((loseF a b k i S).2).en ((loseF a b k i S).2).ps ((loseF a b k i S).2).dn ((loseF a b k i S).2).sp ((loseF a b k i S).2).fs)) := by
    intro k
    induction k with
    | zero => intro i S z; rfl
    | succ k ih =>
      intro i S z
      unfold loseF
      by_cases g : S.1.sta i = 0 ∧ (S.1.man i = a ∨ S.1.wom i = b)
      · rw [if_pos g, if_pos g]
        exact ih (i + 1) (endA S i 2) z
      · rw [if_neg g, if_neg g]
        exact ih (i + 1) S z
  generalize Y'.bz = z at h
  subst h
  exact key X.cp.toNat 0 ((endA (X, Y) c v).1.bind a b, (endA (X, Y) c v).2) z
theorem sameT_ps {S T : iXY} (h : sameT S T) : T.2.ps = S.2.ps := h.2.2.2.2.2.2.2.2.2.2
set_option maxHeartbeats 20000000 in
theorem turnR_eq (hS : OkS S B) (hB : B ≤ 100000) (hg : S.2.ps = g + 1) (hg0 : 0 ≤ g) {n : Nat} (hn : n < 1024) (hb : S.2.bz = bitsL n) {c : Int} (h0 : 0 ≤ c) (h1 : c < S.1.cp) (hs : S.1.sta c = 0) : Call sp sc (d + 4) mX12_turn [.inr (.inr 140), .inr (.inr (rb r + 2)), .inl c, .inl (n : Int)] (hp (A.sro r (rowOf S.1 e) (ryOf S.2 g))) Q = Q (some (.inl (busN S c n))) (hp (A.sro r (rowOf (turnA S c).1 e) (ryOf (turnA S c).2 g))) := Call_eq (by
  have hO := hS.1
  have hY := hS.2
  have hcp := hO.cp
  have n0 := hO.n0
  have n1 := hO.n1
  have lw := hY.lwt
  have em := hO.man c h0 h1
  have ew := hO.wom c h0 h1
  have ed := hO.dds c h0 (by omega)
  have eg := hO.ddg c h0 (by omega) hs
  have ewh := hO.who (S.1.dds c) (by omega) (by omega)
  have da := doer_b hO (s := 0) (c := c) (by omega) (by omega) h0 h1
  have db := doer_b hO (s := 1) (c := c) (by omega) (by omega) h0 h1
  have fa : S.1.stepF 0 (S.1.who (S.1.dds c)).toNat (S.1.man c) = S.1.doer 0 c := rfl
  have fb' : S.1.stepF 1 (S.1.who (S.1.dds c)).toNat (S.1.wom c) = S.1.doer 1 c := rfl
  have b0 := bnd_ge hO (s := 0) (k := S.1.doer 0 c) (by omega) (by omega) da.1 (by omega)
  have b1 := bnd_ge hO (s := 1) (k := S.1.doer 1 c) (by omega) (by omega) db.1 (by omega)
  have hb0 := has_bus hn hb (k := S.1.doer 0 c) da.1 (by omega)
  have hb1 := has_bus hn hb (k := 5 + S.1.doer 1 c) (by omega) (by omega)
  have m0 : metA S c ↔ ¬ ((¬ S.1.bnd 0 (S.1.doer 0 c) = -1 ∨ S.2.bus (S.1.doer 0 c) = 1) ∨ (¬ S.1.bnd 1 (S.1.doer 1 c) = -1 ∨ S.2.bus (5 + S.1.doer 1 c) = 1)) := by
    unfold metA isTak
    rw [Int.zero_mul, Int.zero_add, Int.one_mul]
  apply eX12_turn 150
  by_cases m : metA S c
  · have m2 := m0.mp m
    have t1 : ¬ 0 ≤ S.1.bnd 0 (S.1.doer 0 c) := by omega
    have t2 : ¬ 0 ≤ S.1.bnd 1 (S.1.doer 1 c) := by omega
    have t3 : ¬ S.2.bus (S.1.doer 0 c) = 1 := by omega
    have t4 : ¬ S.2.bus (5 + S.1.doer 1 c) = 1 := by omega
    have eb : busN S c n = bOr (bOr n (bShl 1 (S.1.doer 0 c))) (bShl 1 (5 + S.1.doer 1 c)) := by unfold busN; rw [if_pos m]
    have hM := okV_meet hO da.1 da.2 db.1 db.2
    have hK := (okV_sulk hM (a := S.1.doer 0 c) (b := S.1.doer 1 c)).1
    have hT : OkS ((S.1.meet (S.1.doer 0 c) (S.1.doer 1 c)).sulk (S.1.doer 0 c) (S.1.doer 1 c), busyY S.2 (S.1.doer 0 c) (S.1.doer 1 c)) B :=
      ⟨hK, (okY_busy hY da.1 (by omega) db.1 (by omega)).cpc (by rw [sk_at] <;> rfl)⟩
    have et : turnA S c = (if ¬ (S.1.doer 0 c = S.1.man c ∧ S.1.doer 1 c = S.1.wom c) ∧ ((S.1.meet (S.1.doer 0 c) (S.1.doer 1 c)).sulk (S.1.doer 0 c) (S.1.doer 1 c)).sl < ((S.1.meet (S.1.doer 0 c) (S.1.doer 1 c)).sulk (S.1.doer 0 c) (S.1.doer 1 c)).lik 0 (S.1.doer 0 c) (S.1.doer 1 c) ∧ ((S.1.meet (S.1.doer 0 c) (S.1.doer 1 c)).sulk (S.1.doer 0 c) (S.1.doer 1 c)).sl < ((S.1.meet (S.1.doer 0 c) (S.1.doer 1 c)).sulk (S.1.doer 0 c) (S.1.doer 1 c)).lik 1 (S.1.doer 1 c) (S.1.doer 0 c) then slipA ((S.1.meet (S.1.doer 0 c) (S.1.doer 1 c)).sulk (S.1.doer 0 c) (S.1.doer 1 c), busyY S.2 (S.1.doer 0 c) (S.1.doer 1 c)) c (S.1.doer 0 c) (S.1.doer 1 c) else deedA ((S.1.meet (S.1.doer 0 c) (S.1.doer 1 c)).sulk (S.1.doer 0 c) (S.1.doer 1 c), busyY S.2 (S.1.doer 0 c) (S.1.doer 1 c)) c) := by
      unfold turnA; rw [if_pos m]
    have mR := fun Q => @meetR_eq sp sc d A r (ryOf S.2 g) Q S.1 e hO _ _ da.1 da.2 db.1 db.2
    have x1 : ((S.1.meet (S.1.doer 0 c) (S.1.doer 1 c)).sulk (S.1.doer 0 c) (S.1.doer 1 c)).man c = S.1.man c := sk_man
    have x2 : ((S.1.meet (S.1.doer 0 c) (S.1.doer 1 c)).sulk (S.1.doer 0 c) (S.1.doer 1 c)).wom c = S.1.wom c := sk_wom
    have x3 : ((S.1.meet (S.1.doer 0 c) (S.1.doer 1 c)).sulk (S.1.doer 0 c) (S.1.doer 1 c)).dds c = S.1.dds c := by rw [sk_at]; rfl
    have c1 : ((S.1.meet (S.1.doer 0 c) (S.1.doer 1 c)).sulk (S.1.doer 0 c) (S.1.doer 1 c)).cp = S.1.cp := by rw [sk_at] <;> rfl
    have c3 : ((S.1.meet (S.1.doer 0 c) (S.1.doer 1 c)).sulk (S.1.doer 0 c) (S.1.doer 1 c)).num 0 = S.1.num 0 := by rw [sk_at]; rfl
    have c4 : ((S.1.meet (S.1.doer 0 c) (S.1.doer 1 c)).sulk (S.1.doer 0 c) (S.1.doer 1 c)).num 1 = S.1.num 1 := by rw [sk_at]; rfl
    rw [et, eb]
    generalize S.1.doer 0 c = a at *
    generalize S.1.doer 1 c = b at *
    generalize (S.1.meet a b).sulk a b = X at *
    have l0 := hK.lik 0 a b (by omega) (by omega) da.1 (by omega) db.1 (by omega)
    have l1 := hK.lik 1 b a (by omega) (by omega) db.1 (by omega) da.1 (by omega)
    have sl := hK.sl
    have hsp := hY.sp
    have hfs := hY.fs
    have ldd := hK.ldd
    have zi : (X.inc c).dds c = S.1.dds c + 1 := by rw [dds_inc ldd h0 (by omega) h0, if_pos rfl, x3]
    have ew1 := w_dds (X := X) (e := e) ldd h0 (by omega : c < 4)
    rw [x3] at ew1
    have bR1 := fun Q => @bindR_eq sp sc d A r Q e g B (X, busyY S.2 a b) c 2 a b (okS_end (S := (X.bind a b, busyY S.2 a b)) ⟨okV_bind hK da.1 (by omega) db.1 (by omega), hT.2.cpc rfl⟩ h0 (by show c < X.cp; omega) (by omega) (by omega)) hg hg0 h0 (by show c < X.cp; omega) da.1 (by show a < X.num 0; omega) db.1 (by show b < X.num 1; omega)
    have bR1 : ∀ Q, Call sp sc (d + 3) mX12_bind [.inr (.inr 140), .inr (.inr (rb r + 2)), .inl a, .inl b, .inl c, .inl 2] (hp (A.sro r (rowOf X e) (ryOf S.2 g))) Q = Q none (hp (A.sro r (rowOf (bindA (X, busyY S.2 a b) c 2 a b).1 e) (ryOf (bindA (X, busyY S.2 a b) c 2 a b).2 g))) := bR1
    have sb : sameB (X, busyY S.2 a b) (bindA (X, busyY S.2 a b) c 2 a b) := (okS_bind hT h0 (by show c < X.cp; omega) (by omega) (by omega) da.1 (by show a < X.num 0; omega) db.1 (by show b < X.num 1; omega)).2
    have s1 : (bindA (X, busyY S.2 a b) c 2 a b).2.sp = S.2.sp := by rw [sb.2]; rfl
    have s2 : (bindA (X, busyY S.2 a b) c 2 a b).2.fs = S.2.fs := by rw [sb.2]; rfl
    have s3 : (bindA (X, busyY S.2 a b) c 2 a b).2.ps = S.2.ps := by rw [sb.2]; rfl
    have s4 := slipR (g := g) (Y := (bindA (X, busyY S.2 a b) c 2 a b).2) (by omega) (by omega) (by omega)
    have bE2 : ¬ S.1.dds c + 1 < 6 → OkS (endA ((X.inc c).bind (S.1.man c) (S.1.wom c), (iYr.mk S.2.od S.2.bz S.2.wt S.2.en S.2.ps (S.2.dn + 1) S.2.sp S.2.fs)) c 1) (B + 1) := fun z => by
      have e1 : OkV ((X.inc c).sst c 1) := okV_inc6 hK h0 (by omega) (by omega)
      have e2 : OkV (((X.inc c).sst c 1).bind (S.1.man c) (S.1.wom c)) := okV_bind e1 em.1 (by show S.1.man c < X.num 0; omega) ew.1 (by show S.1.wom c < X.num 1; omega)
      have ed := hY.dn
      have e0 : OkS (S.1, (iYr.mk S.2.od S.2.bz S.2.wt S.2.en S.2.ps (S.2.dn + 1) S.2.sp S.2.fs)) (B + 1) := ⟨hO, (OkY.mk (hY.mono (by omega : B ≤ B + 1)).lod (hY.mono (by omega : B ≤ B + 1)).lbz (hY.mono (by omega : B ≤ B + 1)).lwt (hY.mono (by omega : B ≤ B + 1)).len (hY.mono (by omega : B ≤ B + 1)).ord (hY.mono (by omega : B ≤ B + 1)).inj (hY.mono (by omega : B ≤ B + 1)).bus (hY.mono (by omega : B ≤ B + 1)).wai (hY.mono (by omega : B ≤ B + 1)).fin (hY.mono (by omega : B ≤ B + 1)).ps (by show 0 ≤ S.2.dn + 1 ∧ S.2.dn + 1 ≤ B + 1; omega) (hY.mono (by omega : B ≤ B + 1)).sp (hY.mono (by omega : B ≤ B + 1)).fs)⟩
      have e3 := okS_end e0 h0 h1 (by omega : (1 : Int) ≤ 1) (by omega)
      exact ⟨e2, e3.2.cpc c1⟩
    have bR2 : ¬ S.1.dds c + 1 < 6 → ∀ Q, Call sp sc (d + 3) mX12_bind [.inr (.inr 140), .inr (.inr (rb r + 2)), .inl (S.1.man c), .inl (S.1.wom c), .inl c, .inl 1] (hp (A.sro r (rowOf (X.inc c) e) (ryOf (iYr.mk S.2.od S.2.bz S.2.wt S.2.en S.2.ps (S.2.dn + 1) S.2.sp S.2.fs) g))) Q = Q none (hp (A.sro r (rowOf (bindA (X.inc c, (iYr.mk S.2.od S.2.bz S.2.wt S.2.en S.2.ps (S.2.dn + 1) S.2.sp S.2.fs)) c 1 (S.1.man c) (S.1.wom c)).1 e) (ryOf (bindA (X.inc c, (iYr.mk S.2.od S.2.bz S.2.wt S.2.en S.2.ps (S.2.dn + 1) S.2.sp S.2.fs)) c 1 (S.1.man c) (S.1.wom c)).2 g))) := fun z Q =>
      @bindR_eq sp sc d A r Q e g (B + 1) (X.inc c, (iYr.mk S.2.od S.2.bz S.2.wt S.2.en S.2.ps (S.2.dn + 1) S.2.sp S.2.fs)) c 1 (S.1.man c) (S.1.wom c) (bE2 z) hg hg0 h0 (by show c < X.cp; omega) em.1 (by show S.1.man c < X.num 0; omega) ew.1 (by show S.1.wom c < X.num 1; omega)
    have fR : iRy.mk S.2.wt (enR S.2.en) S.2.od (S.2.dn + 1) S.2.sp (sfR S.2) g = ryOf (iYr.mk S.2.od S.2.bz S.2.wt S.2.en S.2.ps (S.2.dn + 1) S.2.sp S.2.fs) g := rfl
    have deed : (a = S.1.man c ∧ b = S.1.wom c) ∨ (¬ (a = S.1.man c ∧ b = S.1.wom c) ∧ ¬ (X.sl < X.lik 0 a b ∧ X.sl < X.lik 1 b a)) → G sp sc [] (d + 4) mX12_turn 150 0 [some (.inr (.inr 140)), some (.inr (.inr (rb r + 2))), some (.inl c), some (.inl (n : Int)), none, none, none, none, none, none] [] (hp (A.sro r (rowOf S.1 e) (ryOf S.2 g))) (fun x y => x = some (.inl (bOr (bOr (n : Int) (bShl 1 a)) (bShl 1 (5 + b)))) ∧ y = hp (A.sro r (rowOf (deedA (X, busyY S.2 a b) c).1 e) (ryOf (deedA (X, busyY S.2 a b) c).2 g))) := by
      intro zz
      by_cases z6 : S.1.dds c + 1 < 6
      · have z7 : ¬ S.1.dds c + 1 = 6 := by omega
        have ed : deedA (X, busyY S.2 a b) c = (X.inc c, (iYr.mk ((busyY S.2 a b)).od ((busyY S.2 a b)).bz ((busyY S.2 a b)).wt ((busyY S.2 a b)).en ((busyY S.2 a b)).ps ((busyY S.2 a b).dn + 1) ((busyY S.2 a b)).sp ((busyY S.2 a b)).fs)) := by unfold deedA; rw [if_pos (by show X.dds c + 1 < 6; omega)]
        rw [ed]
        have fR : iRy.mk S.2.wt (enR S.2.en) S.2.od (S.2.dn + 1) S.2.sp (sfR S.2) g = ryOf (iYr.mk ((busyY S.2 a b)).od ((busyY S.2 a b)).bz ((busyY S.2 a b)).wt ((busyY S.2 a b)).en ((busyY S.2 a b)).ps ((busyY S.2 a b).dn + 1) ((busyY S.2 a b)).sp ((busyY S.2 a b)).fs) g := rfl
        rcases zz with ⟨z1, z2⟩ | ⟨z1, z2⟩
        · simp (disch := first | assumption | rfl | exact inI_of (by omega) (by omega) | omega | decide | (simp only [sv_ext, sv_mc, Nat.le_refl]; done) | with_unfolding_all (refine @id _ ?_; first | exact Eq.refl _ | exact Nat.le_refl _ | assumption)) only [Nat.reduceAdd, Nat.reduceMul, Nat.reduceLeDiff, Nat.reduceLT, Int.reduceAdd, Int.reduceSub, Int.reduceMul, Int.reduceNeg, Int.reduceLE, Int.reduceLT, Int.reduceToNat, Int.reduceEq, reduceCtorEq, ld_z, ld_s, st1_0, st1_1, st1_s, st2_0, st2_1, st2_s, isJ_i, isJ_r, isJ_n, isJ_l, cs_nil, cs_i, cs_r, cs_l, kF, List.getElem?_cons_succ, List.getElem?_cons_zero, List.set_cons_zero, List.set_cons_succ, GC_s, GC_n, GK_nil, GK_no, GK_yes, not_false_eq_true, back_eq, inI_eq, inA_eq, true_and, and_true, and_self, if_true, if_false, bI_0, bI_1, bI_in, bI_T, bI_F, fitF, jmpF, nlF, pjA, iVal.eta, iYr.eta, List.getElem?_toArray, List.length_cons, List.length_nil, true_or, or_true, or_false, false_or, Classical.not_not, Bool.false_eq_true, hp_2, Nat.zero_le, Nat.le_refl, Option.some.injEq, Sum.inl.injEq, Sum.inr.injEq, not_true_eq_false, true_implies, false_implies, implies_true, iRy.pj, back_sro, back_sro1, rd_r, rd_o, rd_o_wt, rd_o_en, rd_o_od, sro_rr, sro_srr, sro_sro, sro_wt, sro_en, sro_od, sro_dn, sro_sm, sro_sf, sro_go, wro_wt, wro_en, wro_od, wro_r, wro_o, row_len, inA_one, inA_lik, inA_cpl, gX12_turn, atCouple_eq, q_man, q_wom, q_dds, r_who, doerR_eq, fa, fb', atOne_eq, q_bnd, has_eq, hb0, hb1, t1, t2, t3, t4, mR, atLike_eq, q_lik, r_sl, ew1, x3, zi, ry_wt, ry_en, ry_od, ry_dn, ry_sm, ry_sf, ry_go, List.length_set, eq_true z1, eq_true z2, z7, fR]
        · by_cases z3 : X.sl < X.lik 0 a b
          · have z4 : ¬ X.sl < X.lik 1 b a := fun z => z2 ⟨z3, z⟩
            have z3' := Int.not_le.mpr z3
            have z4' := Int.not_lt.mp z4
            by_cases y1 : a = S.1.man c
            · have y2 : ¬ b = S.1.wom c := fun z => z1 ⟨y1, z⟩
              simp (disch := first | assumption | rfl | exact inI_of (by omega) (by omega) | omega | decide | (simp only [sv_ext, sv_mc, Nat.le_refl]; done) | with_unfolding_all (refine @id _ ?_; first | exact Eq.refl _ | exact Nat.le_refl _ | assumption)) only [Nat.reduceAdd, Nat.reduceMul, Nat.reduceLeDiff, Nat.reduceLT, Int.reduceAdd, Int.reduceSub, Int.reduceMul, Int.reduceNeg, Int.reduceLE, Int.reduceLT, Int.reduceToNat, Int.reduceEq, reduceCtorEq, ld_z, ld_s, st1_0, st1_1, st1_s, st2_0, st2_1, st2_s, isJ_i, isJ_r, isJ_n, isJ_l, cs_nil, cs_i, cs_r, cs_l, kF, List.getElem?_cons_succ, List.getElem?_cons_zero, List.set_cons_zero, List.set_cons_succ, GC_s, GC_n, GK_nil, GK_no, GK_yes, not_false_eq_true, back_eq, inI_eq, inA_eq, true_and, and_true, and_self, if_true, if_false, bI_0, bI_1, bI_in, bI_T, bI_F, fitF, jmpF, nlF, pjA, iVal.eta, iYr.eta, List.getElem?_toArray, List.length_cons, List.length_nil, true_or, or_true, or_false, false_or, Classical.not_not, Bool.false_eq_true, hp_2, Nat.zero_le, Nat.le_refl, Option.some.injEq, Sum.inl.injEq, Sum.inr.injEq, not_true_eq_false, true_implies, false_implies, implies_true, iRy.pj, back_sro, back_sro1, rd_r, rd_o, rd_o_wt, rd_o_en, rd_o_od, sro_rr, sro_srr, sro_sro, sro_wt, sro_en, sro_od, sro_dn, sro_sm, sro_sf, sro_go, wro_wt, wro_en, wro_od, wro_r, wro_o, row_len, inA_one, inA_lik, inA_cpl, gX12_turn, atCouple_eq, q_man, q_wom, q_dds, r_who, doerR_eq, fa, fb', atOne_eq, q_bnd, has_eq, hb0, hb1, t1, t2, t3, t4, mR, atLike_eq, q_lik, r_sl, ew1, x3, zi, ry_wt, ry_en, ry_od, ry_dn, ry_sm, ry_sf, ry_go, List.length_set, eq_true y1, y2, z3', z4', z7, fR]
            · simp (disch := first | assumption | rfl | exact inI_of (by omega) (by omega) | omega | decide | (simp only [sv_ext, sv_mc, Nat.le_refl]; done) | with_unfolding_all (refine @id _ ?_; first | exact Eq.refl _ | exact Nat.le_refl _ | assumption)) only [Nat.reduceAdd, Nat.reduceMul, Nat.reduceLeDiff, Nat.reduceLT, Int.reduceAdd, Int.reduceSub, Int.reduceMul, Int.reduceNeg, Int.reduceLE, Int.reduceLT, Int.reduceToNat, Int.reduceEq, reduceCtorEq, ld_z, ld_s, st1_0, st1_1, st1_s, st2_0, st2_1, st2_s, isJ_i, isJ_r, isJ_n, isJ_l, cs_nil, cs_i, cs_r, cs_l, kF, List.getElem?_cons_succ, List.getElem?_cons_zero, List.set_cons_zero, List.set_cons_succ, GC_s, GC_n, GK_nil, GK_no, GK_yes, not_false_eq_true, back_eq, inI_eq, inA_eq, true_and, and_true, and_self, if_true, if_false, bI_0, bI_1, bI_in, bI_T, bI_F, fitF, jmpF, nlF, pjA, iVal.eta, iYr.eta, List.getElem?_toArray, List.length_cons, List.length_nil, true_or, or_true, or_false, false_or, Classical.not_not, Bool.false_eq_true, hp_2, Nat.zero_le, Nat.le_refl, Option.some.injEq, Sum.inl.injEq, Sum.inr.injEq, not_true_eq_false, true_implies, false_implies, implies_true, iRy.pj, back_sro, back_sro1, rd_r, rd_o, rd_o_wt, rd_o_en, rd_o_od, sro_rr, sro_srr, sro_sro, sro_wt, sro_en, sro_od, sro_dn, sro_sm, sro_sf, sro_go, wro_wt, wro_en, wro_od, wro_r, wro_o, row_len, inA_one, inA_lik, inA_cpl, gX12_turn, atCouple_eq, q_man, q_wom, q_dds, r_who, doerR_eq, fa, fb', atOne_eq, q_bnd, has_eq, hb0, hb1, t1, t2, t3, t4, mR, atLike_eq, q_lik, r_sl, ew1, x3, zi, ry_wt, ry_en, ry_od, ry_dn, ry_sm, ry_sf, ry_go, List.length_set, y1, z3', z4', z7, fR]
          · have z3' := Int.not_lt.mp z3
            by_cases y1 : a = S.1.man c
            · have y2 : ¬ b = S.1.wom c := fun z => z1 ⟨y1, z⟩
              simp (disch := first | assumption | rfl | exact inI_of (by omega) (by omega) | omega | decide | (simp only [sv_ext, sv_mc, Nat.le_refl]; done) | with_unfolding_all (refine @id _ ?_; first | exact Eq.refl _ | exact Nat.le_refl _ | assumption)) only [Nat.reduceAdd, Nat.reduceMul, Nat.reduceLeDiff, Nat.reduceLT, Int.reduceAdd, Int.reduceSub, Int.reduceMul, Int.reduceNeg, Int.reduceLE, Int.reduceLT, Int.reduceToNat, Int.reduceEq, reduceCtorEq, ld_z, ld_s, st1_0, st1_1, st1_s, st2_0, st2_1, st2_s, isJ_i, isJ_r, isJ_n, isJ_l, cs_nil, cs_i, cs_r, cs_l, kF, List.getElem?_cons_succ, List.getElem?_cons_zero, List.set_cons_zero, List.set_cons_succ, GC_s, GC_n, GK_nil, GK_no, GK_yes, not_false_eq_true, back_eq, inI_eq, inA_eq, true_and, and_true, and_self, if_true, if_false, bI_0, bI_1, bI_in, bI_T, bI_F, fitF, jmpF, nlF, pjA, iVal.eta, iYr.eta, List.getElem?_toArray, List.length_cons, List.length_nil, true_or, or_true, or_false, false_or, Classical.not_not, Bool.false_eq_true, hp_2, Nat.zero_le, Nat.le_refl, Option.some.injEq, Sum.inl.injEq, Sum.inr.injEq, not_true_eq_false, true_implies, false_implies, implies_true, iRy.pj, back_sro, back_sro1, rd_r, rd_o, rd_o_wt, rd_o_en, rd_o_od, sro_rr, sro_srr, sro_sro, sro_wt, sro_en, sro_od, sro_dn, sro_sm, sro_sf, sro_go, wro_wt, wro_en, wro_od, wro_r, wro_o, row_len, inA_one, inA_lik, inA_cpl, gX12_turn, atCouple_eq, q_man, q_wom, q_dds, r_who, doerR_eq, fa, fb', atOne_eq, q_bnd, has_eq, hb0, hb1, t1, t2, t3, t4, mR, atLike_eq, q_lik, r_sl, ew1, x3, zi, ry_wt, ry_en, ry_od, ry_dn, ry_sm, ry_sf, ry_go, List.length_set, eq_true y1, y2, z3', z7, fR]
            · simp (disch := first | assumption | rfl | exact inI_of (by omega) (by omega) | omega | decide | (simp only [sv_ext, sv_mc, Nat.le_refl]; done) | with_unfolding_all (refine @id _ ?_; first | exact Eq.refl _ | exact Nat.le_refl _ | assumption)) only [Nat.reduceAdd, Nat.reduceMul, Nat.reduceLeDiff, Nat.reduceLT, Int.reduceAdd, Int.reduceSub, Int.reduceMul, Int.reduceNeg, Int.reduceLE, Int.reduceLT, Int.reduceToNat, Int.reduceEq, reduceCtorEq, ld_z, ld_s, st1_0, st1_1, st1_s, st2_0, st2_1, st2_s, isJ_i, isJ_r, isJ_n, isJ_l, cs_nil, cs_i, cs_r, cs_l, kF, List.getElem?_cons_succ, List.getElem?_cons_zero, List.set_cons_zero, List.set_cons_succ, GC_s, GC_n, GK_nil, GK_no, GK_yes, not_false_eq_true, back_eq, inI_eq, inA_eq, true_and, and_true, and_self, if_true, if_false, bI_0, bI_1, bI_in, bI_T, bI_F, fitF, jmpF, nlF, pjA, iVal.eta, iYr.eta, List.getElem?_toArray, List.length_cons, List.length_nil, true_or, or_true, or_false, false_or, Classical.not_not, Bool.false_eq_true, hp_2, Nat.zero_le, Nat.le_refl, Option.some.injEq, Sum.inl.injEq, Sum.inr.injEq, not_true_eq_false, true_implies, false_implies, implies_true, iRy.pj, back_sro, back_sro1, rd_r, rd_o, rd_o_wt, rd_o_en, rd_o_od, sro_rr, sro_srr, sro_sro, sro_wt, sro_en, sro_od, sro_dn, sro_sm, sro_sf, sro_go, wro_wt, wro_en, wro_od, wro_r, wro_o, row_len, inA_one, inA_lik, inA_cpl, gX12_turn, atCouple_eq, q_man, q_wom, q_dds, r_who, doerR_eq, fa, fb', atOne_eq, q_bnd, has_eq, hb0, hb1, t1, t2, t3, t4, mR, atLike_eq, q_lik, r_sl, ew1, x3, zi, ry_wt, ry_en, ry_od, ry_dn, ry_sm, ry_sf, ry_go, List.length_set, y1, z3', z7, fR]
      · have z7 : S.1.dds c + 1 = 6 := by omega
        have ed : deedA (X, busyY S.2 a b) c = bindA (X.inc c, (iYr.mk ((busyY S.2 a b)).od ((busyY S.2 a b)).bz ((busyY S.2 a b)).wt ((busyY S.2 a b)).en ((busyY S.2 a b)).ps ((busyY S.2 a b).dn + 1) ((busyY S.2 a b)).sp ((busyY S.2 a b)).fs)) c 1 (S.1.man c) (S.1.wom c) := by unfold deedA; rw [if_neg (by show ¬ X.dds c + 1 < 6; omega)]; show bindA _ c 1 (X.man c) (X.wom c) = _; rw [x1, x2]
        rw [ed]
        have bR3 := bR2 z6
        have fR : iRy.mk S.2.wt (enR S.2.en) S.2.od (S.2.dn + 1) S.2.sp (sfR S.2) g = ryOf (iYr.mk S.2.od S.2.bz S.2.wt S.2.en S.2.ps (S.2.dn + 1) S.2.sp S.2.fs) g := rfl
        have fE : hp (A.sro r (rowOf (bindA (X.inc c, (iYr.mk S.2.od S.2.bz S.2.wt S.2.en S.2.ps (S.2.dn + 1) S.2.sp S.2.fs)) c 1 (S.1.man c) (S.1.wom c)).1 e) (ryOf (bindA (X.inc c, (iYr.mk S.2.od S.2.bz S.2.wt S.2.en S.2.ps (S.2.dn + 1) S.2.sp S.2.fs)) c 1 (S.1.man c) (S.1.wom c)).2 g)) = hp (A.sro r (rowOf (bindA (X.inc c, (iYr.mk ((busyY S.2 a b)).od ((busyY S.2 a b)).bz ((busyY S.2 a b)).wt ((busyY S.2 a b)).en ((busyY S.2 a b)).ps ((busyY S.2 a b).dn + 1) ((busyY S.2 a b)).sp ((busyY S.2 a b)).fs)) c 1 (S.1.man c) (S.1.wom c)).1 e) (ryOf (bindA (X.inc c, (iYr.mk ((busyY S.2 a b)).od ((busyY S.2 a b)).bz ((busyY S.2 a b)).wt ((busyY S.2 a b)).en ((busyY S.2 a b)).ps ((busyY S.2 a b).dn + 1) ((busyY S.2 a b)).sp ((busyY S.2 a b)).fs)) c 1 (S.1.man c) (S.1.wom c)).2 g)) := by
          rw [busy_bind (X := X.inc c) (Y := (iYr.mk S.2.od S.2.bz S.2.wt S.2.en S.2.ps (S.2.dn + 1) S.2.sp S.2.fs)) (Y' := (iYr.mk ((busyY S.2 a b)).od ((busyY S.2 a b)).bz ((busyY S.2 a b)).wt ((busyY S.2 a b)).en ((busyY S.2 a b)).ps ((busyY S.2 a b).dn + 1) ((busyY S.2 a b)).sp ((busyY S.2 a b)).fs)) rfl] <;> rfl
        rcases zz with ⟨z1, z2⟩ | ⟨z1, z2⟩
        · simp (disch := first | assumption | rfl | exact inI_of (by omega) (by omega) | omega | decide | (simp only [sv_ext, sv_mc, Nat.le_refl]; done) | with_unfolding_all (refine @id _ ?_; first | exact Eq.refl _ | exact Nat.le_refl _ | assumption)) only [Nat.reduceAdd, Nat.reduceMul, Nat.reduceLeDiff, Nat.reduceLT, Int.reduceAdd, Int.reduceSub, Int.reduceMul, Int.reduceNeg, Int.reduceLE, Int.reduceLT, Int.reduceToNat, Int.reduceEq, reduceCtorEq, ld_z, ld_s, st1_0, st1_1, st1_s, st2_0, st2_1, st2_s, isJ_i, isJ_r, isJ_n, isJ_l, cs_nil, cs_i, cs_r, cs_l, kF, List.getElem?_cons_succ, List.getElem?_cons_zero, List.set_cons_zero, List.set_cons_succ, GC_s, GC_n, GK_nil, GK_no, GK_yes, not_false_eq_true, back_eq, inI_eq, inA_eq, true_and, and_true, and_self, if_true, if_false, bI_0, bI_1, bI_in, bI_T, bI_F, fitF, jmpF, nlF, pjA, iVal.eta, iYr.eta, List.getElem?_toArray, List.length_cons, List.length_nil, true_or, or_true, or_false, false_or, Classical.not_not, Bool.false_eq_true, hp_2, Nat.zero_le, Nat.le_refl, Option.some.injEq, Sum.inl.injEq, Sum.inr.injEq, not_true_eq_false, true_implies, false_implies, implies_true, iRy.pj, back_sro, back_sro1, rd_r, rd_o, rd_o_wt, rd_o_en, rd_o_od, sro_rr, sro_srr, sro_sro, sro_wt, sro_en, sro_od, sro_dn, sro_sm, sro_sf, sro_go, wro_wt, wro_en, wro_od, wro_r, wro_o, row_len, inA_one, inA_lik, inA_cpl, gX12_turn, atCouple_eq, q_man, q_wom, q_dds, r_who, doerR_eq, fa, fb', atOne_eq, q_bnd, has_eq, hb0, hb1, t1, t2, t3, t4, mR, atLike_eq, q_lik, r_sl, ew1, x3, zi, ry_wt, ry_en, ry_od, ry_dn, ry_sm, ry_sf, ry_go, List.length_set, eq_true z1, eq_true z2, eq_true z7, fR, bR3, fE]
        · by_cases z3 : X.sl < X.lik 0 a b
          · have z4 : ¬ X.sl < X.lik 1 b a := fun z => z2 ⟨z3, z⟩
            have z3' := Int.not_le.mpr z3
            have z4' := Int.not_lt.mp z4
            by_cases y1 : a = S.1.man c
            · have y2 : ¬ b = S.1.wom c := fun z => z1 ⟨y1, z⟩
              simp (disch := first | assumption | rfl | exact inI_of (by omega) (by omega) | omega | decide | (simp only [sv_ext, sv_mc, Nat.le_refl]; done) | with_unfolding_all (refine @id _ ?_; first | exact Eq.refl _ | exact Nat.le_refl _ | assumption)) only [Nat.reduceAdd, Nat.reduceMul, Nat.reduceLeDiff, Nat.reduceLT, Int.reduceAdd, Int.reduceSub, Int.reduceMul, Int.reduceNeg, Int.reduceLE, Int.reduceLT, Int.reduceToNat, Int.reduceEq, reduceCtorEq, ld_z, ld_s, st1_0, st1_1, st1_s, st2_0, st2_1, st2_s, isJ_i, isJ_r, isJ_n, isJ_l, cs_nil, cs_i, cs_r, cs_l, kF, List.getElem?_cons_succ, List.getElem?_cons_zero, List.set_cons_zero, List.set_cons_succ, GC_s, GC_n, GK_nil, GK_no, GK_yes, not_false_eq_true, back_eq, inI_eq, inA_eq, true_and, and_true, and_self, if_true, if_false, bI_0, bI_1, bI_in, bI_T, bI_F, fitF, jmpF, nlF, pjA, iVal.eta, iYr.eta, List.getElem?_toArray, List.length_cons, List.length_nil, true_or, or_true, or_false, false_or, Classical.not_not, Bool.false_eq_true, hp_2, Nat.zero_le, Nat.le_refl, Option.some.injEq, Sum.inl.injEq, Sum.inr.injEq, not_true_eq_false, true_implies, false_implies, implies_true, iRy.pj, back_sro, back_sro1, rd_r, rd_o, rd_o_wt, rd_o_en, rd_o_od, sro_rr, sro_srr, sro_sro, sro_wt, sro_en, sro_od, sro_dn, sro_sm, sro_sf, sro_go, wro_wt, wro_en, wro_od, wro_r, wro_o, row_len, inA_one, inA_lik, inA_cpl, gX12_turn, atCouple_eq, q_man, q_wom, q_dds, r_who, doerR_eq, fa, fb', atOne_eq, q_bnd, has_eq, hb0, hb1, t1, t2, t3, t4, mR, atLike_eq, q_lik, r_sl, ew1, x3, zi, ry_wt, ry_en, ry_od, ry_dn, ry_sm, ry_sf, ry_go, List.length_set, eq_true y1, y2, z3', z4', eq_true z7, fR, bR3, fE]
            · simp (disch := first | assumption | rfl | exact inI_of (by omega) (by omega) | omega | decide | (simp only [sv_ext, sv_mc, Nat.le_refl]; done) | with_unfolding_all (refine @id _ ?_; first | exact Eq.refl _ | exact Nat.le_refl _ | assumption)) only [Nat.reduceAdd, Nat.reduceMul, Nat.reduceLeDiff, Nat.reduceLT, Int.reduceAdd, Int.reduceSub, Int.reduceMul, Int.reduceNeg, Int.reduceLE, Int.reduceLT, Int.reduceToNat, Int.reduceEq, reduceCtorEq, ld_z, ld_s, st1_0, st1_1, st1_s, st2_0, st2_1, st2_s, isJ_i, isJ_r, isJ_n, isJ_l, cs_nil, cs_i, cs_r, cs_l, kF, List.getElem?_cons_succ, List.getElem?_cons_zero, List.set_cons_zero, List.set_cons_succ, GC_s, GC_n, GK_nil, GK_no, GK_yes, not_false_eq_true, back_eq, inI_eq, inA_eq, true_and, and_true, and_self, if_true, if_false, bI_0, bI_1, bI_in, bI_T, bI_F, fitF, jmpF, nlF, pjA, iVal.eta, iYr.eta, List.getElem?_toArray, List.length_cons, List.length_nil, true_or, or_true, or_false, false_or, Classical.not_not, Bool.false_eq_true, hp_2, Nat.zero_le, Nat.le_refl, Option.some.injEq, Sum.inl.injEq, Sum.inr.injEq, not_true_eq_false, true_implies, false_implies, implies_true, iRy.pj, back_sro, back_sro1, rd_r, rd_o, rd_o_wt, rd_o_en, rd_o_od, sro_rr, sro_srr, sro_sro, sro_wt, sro_en, sro_od, sro_dn, sro_sm, sro_sf, sro_go, wro_wt, wro_en, wro_od, wro_r, wro_o, row_len, inA_one, inA_lik, inA_cpl, gX12_turn, atCouple_eq, q_man, q_wom, q_dds, r_who, doerR_eq, fa, fb', atOne_eq, q_bnd, has_eq, hb0, hb1, t1, t2, t3, t4, mR, atLike_eq, q_lik, r_sl, ew1, x3, zi, ry_wt, ry_en, ry_od, ry_dn, ry_sm, ry_sf, ry_go, List.length_set, y1, z3', z4', eq_true z7, fR, bR3, fE]
          · have z3' := Int.not_lt.mp z3
            by_cases y1 : a = S.1.man c
            · have y2 : ¬ b = S.1.wom c := fun z => z1 ⟨y1, z⟩
              simp (disch := first | assumption | rfl | exact inI_of (by omega) (by omega) | omega | decide | (simp only [sv_ext, sv_mc, Nat.le_refl]; done) | with_unfolding_all (refine @id _ ?_; first | exact Eq.refl _ | exact Nat.le_refl _ | assumption)) only [Nat.reduceAdd, Nat.reduceMul, Nat.reduceLeDiff, Nat.reduceLT, Int.reduceAdd, Int.reduceSub, Int.reduceMul, Int.reduceNeg, Int.reduceLE, Int.reduceLT, Int.reduceToNat, Int.reduceEq, reduceCtorEq, ld_z, ld_s, st1_0, st1_1, st1_s, st2_0, st2_1, st2_s, isJ_i, isJ_r, isJ_n, isJ_l, cs_nil, cs_i, cs_r, cs_l, kF, List.getElem?_cons_succ, List.getElem?_cons_zero, List.set_cons_zero, List.set_cons_succ, GC_s, GC_n, GK_nil, GK_no, GK_yes, not_false_eq_true, back_eq, inI_eq, inA_eq, true_and, and_true, and_self, if_true, if_false, bI_0, bI_1, bI_in, bI_T, bI_F, fitF, jmpF, nlF, pjA, iVal.eta, iYr.eta, List.getElem?_toArray, List.length_cons, List.length_nil, true_or, or_true, or_false, false_or, Classical.not_not, Bool.false_eq_true, hp_2, Nat.zero_le, Nat.le_refl, Option.some.injEq, Sum.inl.injEq, Sum.inr.injEq, not_true_eq_false, true_implies, false_implies, implies_true, iRy.pj, back_sro, back_sro1, rd_r, rd_o, rd_o_wt, rd_o_en, rd_o_od, sro_rr, sro_srr, sro_sro, sro_wt, sro_en, sro_od, sro_dn, sro_sm, sro_sf, sro_go, wro_wt, wro_en, wro_od, wro_r, wro_o, row_len, inA_one, inA_lik, inA_cpl, gX12_turn, atCouple_eq, q_man, q_wom, q_dds, r_who, doerR_eq, fa, fb', atOne_eq, q_bnd, has_eq, hb0, hb1, t1, t2, t3, t4, mR, atLike_eq, q_lik, r_sl, ew1, x3, zi, ry_wt, ry_en, ry_od, ry_dn, ry_sm, ry_sf, ry_go, List.length_set, eq_true y1, y2, z3', eq_true z7, fR, bR3, fE]
            · simp (disch := first | assumption | rfl | exact inI_of (by omega) (by omega) | omega | decide | (simp only [sv_ext, sv_mc, Nat.le_refl]; done) | with_unfolding_all (refine @id _ ?_; first | exact Eq.refl _ | exact Nat.le_refl _ | assumption)) only [Nat.reduceAdd, Nat.reduceMul, Nat.reduceLeDiff, Nat.reduceLT, Int.reduceAdd, Int.reduceSub, Int.reduceMul, Int.reduceNeg, Int.reduceLE, Int.reduceLT, Int.reduceToNat, Int.reduceEq, reduceCtorEq, ld_z, ld_s, st1_0, st1_1, st1_s, st2_0, st2_1, st2_s, isJ_i, isJ_r, isJ_n, isJ_l, cs_nil, cs_i, cs_r, cs_l, kF, List.getElem?_cons_succ, List.getElem?_cons_zero, List.set_cons_zero, List.set_cons_succ, GC_s, GC_n, GK_nil, GK_no, GK_yes, not_false_eq_true, back_eq, inI_eq, inA_eq, true_and, and_true, and_self, if_true, if_false, bI_0, bI_1, bI_in, bI_T, bI_F, fitF, jmpF, nlF, pjA, iVal.eta, iYr.eta, List.getElem?_toArray, List.length_cons, List.length_nil, true_or, or_true, or_false, false_or, Classical.not_not, Bool.false_eq_true, hp_2, Nat.zero_le, Nat.le_refl, Option.some.injEq, Sum.inl.injEq, Sum.inr.injEq, not_true_eq_false, true_implies, false_implies, implies_true, iRy.pj, back_sro, back_sro1, rd_r, rd_o, rd_o_wt, rd_o_en, rd_o_od, sro_rr, sro_srr, sro_sro, sro_wt, sro_en, sro_od, sro_dn, sro_sm, sro_sf, sro_go, wro_wt, wro_en, wro_od, wro_r, wro_o, row_len, inA_one, inA_lik, inA_cpl, gX12_turn, atCouple_eq, q_man, q_wom, q_dds, r_who, doerR_eq, fa, fb', atOne_eq, q_bnd, has_eq, hb0, hb1, t1, t2, t3, t4, mR, atLike_eq, q_lik, r_sl, ew1, x3, zi, ry_wt, ry_en, ry_od, ry_dn, ry_sm, ry_sf, ry_go, List.length_set, y1, z3', eq_true z7, fR, bR3, fE]
    by_cases zz : a = S.1.man c ∧ b = S.1.wom c
    · rw [if_neg (fun z => z.1 zz)]
      exact deed (Or.inl zz)
    · by_cases zs : X.sl < X.lik 0 a b ∧ X.sl < X.lik 1 b a
      · rw [if_pos ⟨zz, zs⟩]
        have es : slipA (X, busyY S.2 a b) c a b = ((bindA (X, busyY S.2 a b) c 2 a b).1, slipY (bindA (X, busyY S.2 a b) c 2 a b).2) := slip_bind (S := (X, busyY S.2 a b))
        rw [es]
        dsimp only
        rw [← s4]
        have i8 : inI (sfR (bindA (X, busyY S.2 a b) c 2 a b).2) = true := by unfold sfR; split <;> exact inI_of (by omega) (by omega)
        have z3' := Int.not_le.mpr zs.1
        have z4' := Int.not_le.mpr zs.2
        by_cases z8 : sfR (bindA (X, busyY S.2 a b) c 2 a b).2 < 0
        · rw [if_pos z8]
          by_cases y1 : a = S.1.man c
          · have y2 : ¬ b = S.1.wom c := fun z => zz ⟨y1, z⟩
            simp (disch := first | assumption | rfl | exact inI_of (by omega) (by omega) | omega | decide | (simp only [sv_ext, sv_mc, Nat.le_refl]; done) | with_unfolding_all (refine @id _ ?_; first | exact Eq.refl _ | exact Nat.le_refl _ | assumption)) only [Nat.reduceAdd, Nat.reduceMul, Nat.reduceLeDiff, Nat.reduceLT, Int.reduceAdd, Int.reduceSub, Int.reduceMul, Int.reduceNeg, Int.reduceLE, Int.reduceLT, Int.reduceToNat, Int.reduceEq, reduceCtorEq, ld_z, ld_s, st1_0, st1_1, st1_s, st2_0, st2_1, st2_s, isJ_i, isJ_r, isJ_n, isJ_l, cs_nil, cs_i, cs_r, cs_l, kF, List.getElem?_cons_succ, List.getElem?_cons_zero, List.set_cons_zero, List.set_cons_succ, GC_s, GC_n, GK_nil, GK_no, GK_yes, not_false_eq_true, back_eq, inI_eq, inA_eq, true_and, and_true, and_self, if_true, if_false, bI_0, bI_1, bI_in, bI_T, bI_F, fitF, jmpF, nlF, pjA, iVal.eta, iYr.eta, List.getElem?_toArray, List.length_cons, List.length_nil, true_or, or_true, or_false, false_or, Classical.not_not, Bool.false_eq_true, hp_2, Nat.zero_le, Nat.le_refl, Option.some.injEq, Sum.inl.injEq, Sum.inr.injEq, not_true_eq_false, true_implies, false_implies, implies_true, iRy.pj, back_sro, back_sro1, rd_r, rd_o, rd_o_wt, rd_o_en, rd_o_od, sro_rr, sro_srr, sro_sro, sro_wt, sro_en, sro_od, sro_dn, sro_sm, sro_sf, sro_go, wro_wt, wro_en, wro_od, wro_r, wro_o, row_len, inA_one, inA_lik, inA_cpl, gX12_turn, atCouple_eq, q_man, q_wom, q_dds, r_who, doerR_eq, fa, fb', atOne_eq, q_bnd, has_eq, hb0, hb1, t1, t2, t3, t4, mR, atLike_eq, q_lik, r_sl, ew1, x3, zi, ry_wt, ry_en, ry_od, ry_dn, ry_sm, ry_sf, ry_go, List.length_set, eq_true y1, y2, z3', z4', bR1, eq_true z8]
          · simp (disch := first | assumption | rfl | exact inI_of (by omega) (by omega) | omega | decide | (simp only [sv_ext, sv_mc, Nat.le_refl]; done) | with_unfolding_all (refine @id _ ?_; first | exact Eq.refl _ | exact Nat.le_refl _ | assumption)) only [Nat.reduceAdd, Nat.reduceMul, Nat.reduceLeDiff, Nat.reduceLT, Int.reduceAdd, Int.reduceSub, Int.reduceMul, Int.reduceNeg, Int.reduceLE, Int.reduceLT, Int.reduceToNat, Int.reduceEq, reduceCtorEq, ld_z, ld_s, st1_0, st1_1, st1_s, st2_0, st2_1, st2_s, isJ_i, isJ_r, isJ_n, isJ_l, cs_nil, cs_i, cs_r, cs_l, kF, List.getElem?_cons_succ, List.getElem?_cons_zero, List.set_cons_zero, List.set_cons_succ, GC_s, GC_n, GK_nil, GK_no, GK_yes, not_false_eq_true, back_eq, inI_eq, inA_eq, true_and, and_true, and_self, if_true, if_false, bI_0, bI_1, bI_in, bI_T, bI_F, fitF, jmpF, nlF, pjA, iVal.eta, iYr.eta, List.getElem?_toArray, List.length_cons, List.length_nil, true_or, or_true, or_false, false_or, Classical.not_not, Bool.false_eq_true, hp_2, Nat.zero_le, Nat.le_refl, Option.some.injEq, Sum.inl.injEq, Sum.inr.injEq, not_true_eq_false, true_implies, false_implies, implies_true, iRy.pj, back_sro, back_sro1, rd_r, rd_o, rd_o_wt, rd_o_en, rd_o_od, sro_rr, sro_srr, sro_sro, sro_wt, sro_en, sro_od, sro_dn, sro_sm, sro_sf, sro_go, wro_wt, wro_en, wro_od, wro_r, wro_o, row_len, inA_one, inA_lik, inA_cpl, gX12_turn, atCouple_eq, q_man, q_wom, q_dds, r_who, doerR_eq, fa, fb', atOne_eq, q_bnd, has_eq, hb0, hb1, t1, t2, t3, t4, mR, atLike_eq, q_lik, r_sl, ew1, x3, zi, ry_wt, ry_en, ry_od, ry_dn, ry_sm, ry_sf, ry_go, List.length_set, y1, z3', z4', bR1, eq_true z8]
        · rw [if_neg z8]
          have z8' := Int.not_lt.mp z8
          by_cases y1 : a = S.1.man c
          · have y2 : ¬ b = S.1.wom c := fun z => zz ⟨y1, z⟩
            simp (disch := first | assumption | rfl | exact inI_of (by omega) (by omega) | omega | decide | (simp only [sv_ext, sv_mc, Nat.le_refl]; done) | with_unfolding_all (refine @id _ ?_; first | exact Eq.refl _ | exact Nat.le_refl _ | assumption)) only [Nat.reduceAdd, Nat.reduceMul, Nat.reduceLeDiff, Nat.reduceLT, Int.reduceAdd, Int.reduceSub, Int.reduceMul, Int.reduceNeg, Int.reduceLE, Int.reduceLT, Int.reduceToNat, Int.reduceEq, reduceCtorEq, ld_z, ld_s, st1_0, st1_1, st1_s, st2_0, st2_1, st2_s, isJ_i, isJ_r, isJ_n, isJ_l, cs_nil, cs_i, cs_r, cs_l, kF, List.getElem?_cons_succ, List.getElem?_cons_zero, List.set_cons_zero, List.set_cons_succ, GC_s, GC_n, GK_nil, GK_no, GK_yes, not_false_eq_true, back_eq, inI_eq, inA_eq, true_and, and_true, and_self, if_true, if_false, bI_0, bI_1, bI_in, bI_T, bI_F, fitF, jmpF, nlF, pjA, iVal.eta, iYr.eta, List.getElem?_toArray, List.length_cons, List.length_nil, true_or, or_true, or_false, false_or, Classical.not_not, Bool.false_eq_true, hp_2, Nat.zero_le, Nat.le_refl, Option.some.injEq, Sum.inl.injEq, Sum.inr.injEq, not_true_eq_false, true_implies, false_implies, implies_true, iRy.pj, back_sro, back_sro1, rd_r, rd_o, rd_o_wt, rd_o_en, rd_o_od, sro_rr, sro_srr, sro_sro, sro_wt, sro_en, sro_od, sro_dn, sro_sm, sro_sf, sro_go, wro_wt, wro_en, wro_od, wro_r, wro_o, row_len, inA_one, inA_lik, inA_cpl, gX12_turn, atCouple_eq, q_man, q_wom, q_dds, r_who, doerR_eq, fa, fb', atOne_eq, q_bnd, has_eq, hb0, hb1, t1, t2, t3, t4, mR, atLike_eq, q_lik, r_sl, ew1, x3, zi, ry_wt, ry_en, ry_od, ry_dn, ry_sm, ry_sf, ry_go, List.length_set, eq_true y1, y2, z3', z4', bR1, z8']
          · simp (disch := first | assumption | rfl | exact inI_of (by omega) (by omega) | omega | decide | (simp only [sv_ext, sv_mc, Nat.le_refl]; done) | with_unfolding_all (refine @id _ ?_; first | exact Eq.refl _ | exact Nat.le_refl _ | assumption)) only [Nat.reduceAdd, Nat.reduceMul, Nat.reduceLeDiff, Nat.reduceLT, Int.reduceAdd, Int.reduceSub, Int.reduceMul, Int.reduceNeg, Int.reduceLE, Int.reduceLT, Int.reduceToNat, Int.reduceEq, reduceCtorEq, ld_z, ld_s, st1_0, st1_1, st1_s, st2_0, st2_1, st2_s, isJ_i, isJ_r, isJ_n, isJ_l, cs_nil, cs_i, cs_r, cs_l, kF, List.getElem?_cons_succ, List.getElem?_cons_zero, List.set_cons_zero, List.set_cons_succ, GC_s, GC_n, GK_nil, GK_no, GK_yes, not_false_eq_true, back_eq, inI_eq, inA_eq, true_and, and_true, and_self, if_true, if_false, bI_0, bI_1, bI_in, bI_T, bI_F, fitF, jmpF, nlF, pjA, iVal.eta, iYr.eta, List.getElem?_toArray, List.length_cons, List.length_nil, true_or, or_true, or_false, false_or, Classical.not_not, Bool.false_eq_true, hp_2, Nat.zero_le, Nat.le_refl, Option.some.injEq, Sum.inl.injEq, Sum.inr.injEq, not_true_eq_false, true_implies, false_implies, implies_true, iRy.pj, back_sro, back_sro1, rd_r, rd_o, rd_o_wt, rd_o_en, rd_o_od, sro_rr, sro_srr, sro_sro, sro_wt, sro_en, sro_od, sro_dn, sro_sm, sro_sf, sro_go, wro_wt, wro_en, wro_od, wro_r, wro_o, row_len, inA_one, inA_lik, inA_cpl, gX12_turn, atCouple_eq, q_man, q_wom, q_dds, r_who, doerR_eq, fa, fb', atOne_eq, q_bnd, has_eq, hb0, hb1, t1, t2, t3, t4, mR, atLike_eq, q_lik, r_sl, ew1, x3, zi, ry_wt, ry_en, ry_od, ry_dn, ry_sm, ry_sf, ry_go, List.length_set, y1, z3', z4', bR1, z8']
      · rw [if_neg (fun z => zs z.2)]
        exact deed (Or.inr ⟨zz, zs⟩)
  · have et : turnA S c = (S.1, waitY S.2 c) := by unfold turnA; rw [if_neg m]
    have eb : busN S c n = n := by unfold busN; rw [if_neg m]
    rw [et, eb]
    have m2 := fun z => m (m0.mpr z)
    have fw : iRy.mk (S.2.wt.set c.toNat (S.2.wt.getD c.toNat 0 + 1)) (enR S.2.en) S.2.od S.2.dn S.2.sp (sfR S.2) g = ryOf (waitY S.2 c) g := rfl
    by_cases t1 : 0 ≤ S.1.bnd 0 (S.1.doer 0 c)
    · simp (disch := first | assumption | rfl | exact inI_of (by omega) (by omega) | omega | decide | (simp only [sv_ext, sv_mc, Nat.le_refl]; done) | with_unfolding_all (refine @id _ ?_; first | exact Eq.refl _ | exact Nat.le_refl _ | assumption)) only [Nat.reduceAdd, Nat.reduceMul, Nat.reduceLeDiff, Nat.reduceLT, Int.reduceAdd, Int.reduceSub, Int.reduceMul, Int.reduceNeg, Int.reduceLE, Int.reduceLT, Int.reduceToNat, Int.reduceEq, reduceCtorEq, ld_z, ld_s, st1_0, st1_1, st1_s, st2_0, st2_1, st2_s, isJ_i, isJ_r, isJ_n, isJ_l, cs_nil, cs_i, cs_r, cs_l, kF, List.getElem?_cons_succ, List.getElem?_cons_zero, List.set_cons_zero, List.set_cons_succ, GC_s, GC_n, GK_nil, GK_no, GK_yes, not_false_eq_true, back_eq, inI_eq, inA_eq, true_and, and_true, and_self, if_true, if_false, bI_0, bI_1, bI_in, bI_T, bI_F, fitF, jmpF, nlF, pjA, iVal.eta, iYr.eta, List.getElem?_toArray, List.length_cons, List.length_nil, true_or, or_true, or_false, false_or, Classical.not_not, Bool.false_eq_true, hp_2, Nat.zero_le, Nat.le_refl, Option.some.injEq, Sum.inl.injEq, Sum.inr.injEq, not_true_eq_false, true_implies, false_implies, implies_true, iRy.pj, back_sro, back_sro1, rd_r, rd_o, rd_o_wt, rd_o_en, rd_o_od, sro_rr, sro_srr, sro_sro, sro_wt, sro_en, sro_od, sro_dn, sro_sm, sro_sf, sro_go, wro_wt, wro_en, wro_od, wro_r, wro_o, row_len, inA_one, inA_lik, inA_cpl, gX12_turn, atCouple_eq, q_man, q_wom, q_dds, r_who, doerR_eq, fa, fb', atOne_eq, q_bnd, has_eq, hb0, hb1, lw, t1, ry_wt, ry_en, ry_od, ry_dn, ry_sm, ry_sf, ry_go, fw]
    · by_cases t2 : 0 ≤ S.1.bnd 1 (S.1.doer 1 c)
      · simp (disch := first | assumption | rfl | exact inI_of (by omega) (by omega) | omega | decide | (simp only [sv_ext, sv_mc, Nat.le_refl]; done) | with_unfolding_all (refine @id _ ?_; first | exact Eq.refl _ | exact Nat.le_refl _ | assumption)) only [Nat.reduceAdd, Nat.reduceMul, Nat.reduceLeDiff, Nat.reduceLT, Int.reduceAdd, Int.reduceSub, Int.reduceMul, Int.reduceNeg, Int.reduceLE, Int.reduceLT, Int.reduceToNat, Int.reduceEq, reduceCtorEq, ld_z, ld_s, st1_0, st1_1, st1_s, st2_0, st2_1, st2_s, isJ_i, isJ_r, isJ_n, isJ_l, cs_nil, cs_i, cs_r, cs_l, kF, List.getElem?_cons_succ, List.getElem?_cons_zero, List.set_cons_zero, List.set_cons_succ, GC_s, GC_n, GK_nil, GK_no, GK_yes, not_false_eq_true, back_eq, inI_eq, inA_eq, true_and, and_true, and_self, if_true, if_false, bI_0, bI_1, bI_in, bI_T, bI_F, fitF, jmpF, nlF, pjA, iVal.eta, iYr.eta, List.getElem?_toArray, List.length_cons, List.length_nil, true_or, or_true, or_false, false_or, Classical.not_not, Bool.false_eq_true, hp_2, Nat.zero_le, Nat.le_refl, Option.some.injEq, Sum.inl.injEq, Sum.inr.injEq, not_true_eq_false, true_implies, false_implies, implies_true, iRy.pj, back_sro, back_sro1, rd_r, rd_o, rd_o_wt, rd_o_en, rd_o_od, sro_rr, sro_srr, sro_sro, sro_wt, sro_en, sro_od, sro_dn, sro_sm, sro_sf, sro_go, wro_wt, wro_en, wro_od, wro_r, wro_o, row_len, inA_one, inA_lik, inA_cpl, gX12_turn, atCouple_eq, q_man, q_wom, q_dds, r_who, doerR_eq, fa, fb', atOne_eq, q_bnd, has_eq, hb0, hb1, lw, t1, t2, ry_wt, ry_en, ry_od, ry_dn, ry_sm, ry_sf, ry_go, fw]
      · by_cases t3 : S.2.bus (S.1.doer 0 c) = 1
        · simp (disch := first | assumption | rfl | exact inI_of (by omega) (by omega) | omega | decide | (simp only [sv_ext, sv_mc, Nat.le_refl]; done) | with_unfolding_all (refine @id _ ?_; first | exact Eq.refl _ | exact Nat.le_refl _ | assumption)) only [Nat.reduceAdd, Nat.reduceMul, Nat.reduceLeDiff, Nat.reduceLT, Int.reduceAdd, Int.reduceSub, Int.reduceMul, Int.reduceNeg, Int.reduceLE, Int.reduceLT, Int.reduceToNat, Int.reduceEq, reduceCtorEq, ld_z, ld_s, st1_0, st1_1, st1_s, st2_0, st2_1, st2_s, isJ_i, isJ_r, isJ_n, isJ_l, cs_nil, cs_i, cs_r, cs_l, kF, List.getElem?_cons_succ, List.getElem?_cons_zero, List.set_cons_zero, List.set_cons_succ, GC_s, GC_n, GK_nil, GK_no, GK_yes, not_false_eq_true, back_eq, inI_eq, inA_eq, true_and, and_true, and_self, if_true, if_false, bI_0, bI_1, bI_in, bI_T, bI_F, fitF, jmpF, nlF, pjA, iVal.eta, iYr.eta, List.getElem?_toArray, List.length_cons, List.length_nil, true_or, or_true, or_false, false_or, Classical.not_not, Bool.false_eq_true, hp_2, Nat.zero_le, Nat.le_refl, Option.some.injEq, Sum.inl.injEq, Sum.inr.injEq, not_true_eq_false, true_implies, false_implies, implies_true, iRy.pj, back_sro, back_sro1, rd_r, rd_o, rd_o_wt, rd_o_en, rd_o_od, sro_rr, sro_srr, sro_sro, sro_wt, sro_en, sro_od, sro_dn, sro_sm, sro_sf, sro_go, wro_wt, wro_en, wro_od, wro_r, wro_o, row_len, inA_one, inA_lik, inA_cpl, gX12_turn, atCouple_eq, q_man, q_wom, q_dds, r_who, doerR_eq, fa, fb', atOne_eq, q_bnd, has_eq, hb0, hb1, lw, t1, t2, t3, ry_wt, ry_en, ry_od, ry_dn, ry_sm, ry_sf, ry_go, fw]
        · have t4 : S.2.bus (5 + S.1.doer 1 c) = 1 := by
            by_cases t4 : S.2.bus (5 + S.1.doer 1 c) = 1
            · exact t4
            · exact absurd (fun z => by omega) m2
          simp (disch := first | assumption | rfl | exact inI_of (by omega) (by omega) | omega | decide | (simp only [sv_ext, sv_mc, Nat.le_refl]; done) | with_unfolding_all (refine @id _ ?_; first | exact Eq.refl _ | exact Nat.le_refl _ | assumption)) only [Nat.reduceAdd, Nat.reduceMul, Nat.reduceLeDiff, Nat.reduceLT, Int.reduceAdd, Int.reduceSub, Int.reduceMul, Int.reduceNeg, Int.reduceLE, Int.reduceLT, Int.reduceToNat, Int.reduceEq, reduceCtorEq, ld_z, ld_s, st1_0, st1_1, st1_s, st2_0, st2_1, st2_s, isJ_i, isJ_r, isJ_n, isJ_l, cs_nil, cs_i, cs_r, cs_l, kF, List.getElem?_cons_succ, List.getElem?_cons_zero, List.set_cons_zero, List.set_cons_succ, GC_s, GC_n, GK_nil, GK_no, GK_yes, not_false_eq_true, back_eq, inI_eq, inA_eq, true_and, and_true, and_self, if_true, if_false, bI_0, bI_1, bI_in, bI_T, bI_F, fitF, jmpF, nlF, pjA, iVal.eta, iYr.eta, List.getElem?_toArray, List.length_cons, List.length_nil, true_or, or_true, or_false, false_or, Classical.not_not, Bool.false_eq_true, hp_2, Nat.zero_le, Nat.le_refl, Option.some.injEq, Sum.inl.injEq, Sum.inr.injEq, not_true_eq_false, true_implies, false_implies, implies_true, iRy.pj, back_sro, back_sro1, rd_r, rd_o, rd_o_wt, rd_o_en, rd_o_od, sro_rr, sro_srr, sro_sro, sro_wt, sro_en, sro_od, sro_dn, sro_sm, sro_sf, sro_go, wro_wt, wro_en, wro_od, wro_r, wro_o, row_len, inA_one, inA_lik, inA_cpl, gX12_turn, atCouple_eq, q_man, q_wom, q_dds, r_who, doerR_eq, fa, fb', atOne_eq, q_bnd, has_eq, hb0, hb1, lw, t1, t2, t3, t4, ry_wt, ry_en, ry_od, ry_dn, ry_sm, ry_sf, ry_go, fw])
end RT
