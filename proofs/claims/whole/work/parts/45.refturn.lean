set_option maxRecDepth 16384
/-! ===== the reference: a turn, a day ===== -/
def bitsL (n : Nat) : List Int := (List.range 10).map fun i => ((n.testBit i).toNat : Int)
theorem bits_has : ∀ n : Nat, n < 1024 → ∀ k : Nat, k < 10 → (bAnd (bShr (n : Int) (k : Int)) 1 = 1 ↔ (bitsL n).getD k 0 = 1) := by decide +kernel
theorem bOr_nat {a b : Nat} (ha : a < 2147483648) (hb : b < 2147483648) : bOr (a : Int) (b : Int) = ((a ||| b : Nat) : Int) := by
  unfold bOr
  have e1 : Int32.ofInt (a : Int) = Int32.ofNat a := rfl
  have e2 : Int32.ofInt (b : Int) = Int32.ofNat b := rfl
  have e3 : Int32.ofNat a ||| Int32.ofNat b = Int32.ofNat (a ||| b) := by
    apply Int32.toBitVec.inj
    rw [Int32.toBitVec_or]
    exact (BitVec.ofNat_or (w := 32) (x := a) (y := b)).symm
  rw [e1, e2, e3]
  exact Int32.toInt_ofNat_of_lt (Nat.or_lt_two_pow (n := 31) (by omega) (by omega))
theorem bShl_1 : ∀ k : Nat, k < 10 → bShl 1 (k : Int) = ((1 <<< k : Nat) : Int) ∧ 1 <<< k < 1024 := by decide +kernel
theorem bits_len {n : Nat} : (bitsL n).length = 10 := by simp [bitsL]
theorem bits_set {n k : Nat} (hk : k < 10) : bitsL (n ||| 1 <<< k) = (bitsL n).set k 1 := by
  apply List.ext_getElem
  · rw [List.length_set, bits_len, bits_len]
  · intro i h1 h2
    rw [List.getElem_set]
    by_cases c : k = i
    · subst c
      rw [if_pos rfl]
      simp [bitsL, Nat.testBit_or, Nat.one_shiftLeft, Nat.testBit_two_pow]
    · rw [if_neg c]
      simp [bitsL, Nat.testBit_or, Nat.one_shiftLeft, Nat.testBit_two_pow, c]
theorem bits_or {n a b : Nat} (hn : n < 1024) (ha : a < 5) (hb : b < 5) : bOr (bOr (n : Int) (bShl 1 (a : Int))) (bShl 1 (5 + (b : Int))) = ((n ||| 1 <<< a ||| 1 <<< (5 + b) : Nat) : Int) ∧ (n ||| 1 <<< a ||| 1 <<< (5 + b)) < 1024 ∧ bitsL (n ||| 1 <<< a ||| 1 <<< (5 + b)) = ((bitsL n).set a 1).set (5 + b) 1 := by
  have e1 := bShl_1 a (by omega)
  have e2 := bShl_1 (5 + b) (by omega)
  have e3 : (5 : Int) + (b : Int) = ((5 + b : Nat) : Int) := by omega
  have l1 : n ||| 1 <<< a < 1024 := Nat.or_lt_two_pow (n := 10) hn e1.2
  have l2 : n ||| 1 <<< a ||| 1 <<< (5 + b) < 1024 := Nat.or_lt_two_pow (n := 10) l1 e2.2
  refine ⟨?_, l2, ?_⟩
  · rw [e3, e1.1, e2.1, bOr_nat (by omega) (by omega), bOr_nat (by omega) (by omega)]
  · rw [bits_set (by omega), bits_set (by omega)]
theorem bits_0 : bitsL 0 = List.replicate 10 0 := by decide
theorem bAnd_in {a b : Int} : inI (bAnd a b) = true := by
  unfold bAnd
  have h1 := Int32.toInt_lt (Int32.ofInt a &&& Int32.ofInt b)
  have h2 := Int32.le_toInt (Int32.ofInt a &&& Int32.ofInt b)
  exact inI_of (by simpa using h2) (by simpa using h1)
theorem slip_end {S : iXY} {c v : Int} : endA (S.1, slipY S.2) c v = ((endA S c v).1, slipY (endA S c v).2) := rfl
theorem slip_lose {a b : Int} : ∀ (k : Nat) (c : Int) (S : iXY), loseF a b k c (S.1, slipY S.2) = ((loseF a b k c S).1, slipY (loseF a b k c S).2) := by
  intro k
  induction k with
  | zero => intro c S; rfl
  | succ k ih =>
    intro c S
    unfold loseF
    by_cases g : S.1.sta c = 0 ∧ (S.1.man c = a ∨ S.1.wom c = b)
    · rw [if_pos g, if_pos g, slip_end]
      exact ih _ _
    · rw [if_neg g, if_neg g]
      exact ih _ _
theorem slip_bind {S : iXY} {c v a b : Int} : bindA (S.1, slipY S.2) c v a b = ((bindA S c v a b).1, slipY (bindA S c v a b).2) := by
  unfold bindA loseA
  rw [slip_end]
  exact slip_lose _ _ ((endA S c v).1.bind a b, (endA S c v).2)
section RT
variable {sp : Nat → List iV → iH → Option (Option iV × iH)} {sc : List Int} {d : Nat} {A : iA} {r : iR} {R : iRy} {h : iH} {Q : Option iV → iH → Prop} {X : iVal} {e g B : Int} {S : iXY}
theorem bnd_ge (hO : OkV X) {s k : Int} (h0 : 0 ≤ s) (h1 : s < 2) (h2 : 0 ≤ k) (h3 : k < 5) : -1 ≤ X.bnd s k ∧ X.bnd s k < 5 := by
  have := hO.bnd s k h0 h1 h2 h3
  have := hO.num (s := 1 - s) (by omega) (by omega)
  omega
theorem has_eq {n k : Int} : Call sp sc d mX12_has [.inl n, .inl k] h Q = Q (some (.inl (bI (bAnd (bShr n k) 1 = 1)))) h := Call_eq (by
  have := @bAnd_in (bShr n k) 1
  apply eX12_has 30; simp (disch := first | assumption | rfl | exact inI_of (by omega) (by omega) | omega | decide | (simp only [sv_ext, sv_mc, Nat.le_refl]; done) | with_unfolding_all (refine @id _ ?_; first | exact Eq.refl _ | exact Nat.le_refl _ | assumption)) only [Nat.reduceAdd, Nat.reduceMul, Nat.reduceLeDiff, Nat.reduceLT, Int.reduceAdd, Int.reduceSub, Int.reduceMul, Int.reduceNeg, Int.reduceLE, Int.reduceLT, Int.reduceToNat, Int.reduceEq, reduceCtorEq, ld_z, ld_s, st1_0, st1_1, st1_s, st2_0, st2_1, st2_s, isJ_i, isJ_r, isJ_n, isJ_l, cs_nil, cs_i, cs_r, cs_l, kF, List.getElem?_cons_succ, List.getElem?_cons_zero, List.set_cons_zero, List.set_cons_succ, GC_s, GC_n, GK_nil, GK_no, GK_yes, not_false_eq_true, back_eq, back_hp, inI_eq, inA_eq, true_and, and_true, and_self, if_true, if_false, bI_0, bI_1, bI_in, bI_T, bI_F, fitF, jmpF, nlF, pjA, iVal.eta, iYr.eta, List.getElem?_toArray, List.length_cons, List.length_nil, true_or, or_true, or_false, false_or, Classical.not_not, Bool.false_eq_true, hp_2, Nat.zero_le, Nat.le_refl, Option.some.injEq, Sum.inl.injEq, Sum.inr.injEq, not_true_eq_false, true_implies, false_implies, implies_true, gX12_has, this]
  ((repeat' first | intro _ | refine And.intro ?_ ?_) <;> (first | assumption | exact inI_of (by omega) (by omega) | exact inA_of (by omega) (by omega) (by omega) | exact (bI_f (by omega)).symm | exact (bI_t (by omega)).symm | exact bI_f (by omega) | exact bI_t (by omega) | omega | rfl | (simp; done))))
theorem loseR_loop {a b c0 v : Int} (ha : inI a = true) (hb : inI b = true) (hg0 : 0 ≤ g) : ∀ (k : Nat) (c : Int) (S : iXY), OkS S B → S.2.ps = g + 1 → 0 ≤ c → c + k = S.1.cp → Q none (hp (A.sro r (rowOf (loseF a b k c S).1 e) (ryOf (loseF a b k c S).2 g))) → Run sp sc (d + 3) mX12_bind 30 [some (.inr (.inr 140)), some (.inr (.inr (rb r + 2))), some (.inl a), some (.inl b), some (.inl c0), some (.inl v), some (.inl c)] [] (hp (A.sro r (rowOf S.1 e) (ryOf S.2 g))) Q := by
  intro k
  induction k with
  | zero =>
    intro c S hS hg h0 h1 hq
    have hcp := hS.1.cp
    refine G_run (B := [30]) 60 _ _ _ _ ?_
    have e : S.1.cp ≤ c := by omega
    simp (disch := first | assumption | rfl | exact inI_of (by omega) (by omega) | omega | decide | (simp only [sv_ext, sv_mc, Nat.le_refl]; done) | with_unfolding_all (refine @id _ ?_; first | exact Eq.refl _ | exact Nat.le_refl _ | assumption)) only [Nat.reduceAdd, Nat.reduceMul, Nat.reduceLeDiff, Nat.reduceLT, Int.reduceAdd, Int.reduceSub, Int.reduceMul, Int.reduceNeg, Int.reduceLE, Int.reduceLT, Int.reduceToNat, Int.reduceEq, reduceCtorEq, ld_z, ld_s, st1_0, st1_1, st1_s, st2_0, st2_1, st2_s, isJ_i, isJ_r, isJ_n, isJ_l, cs_nil, cs_i, cs_r, cs_l, kF, List.getElem?_cons_succ, List.getElem?_cons_zero, List.set_cons_zero, List.set_cons_succ, GC_s, GC_n, GK_nil, GK_no, GK_yes, not_false_eq_true, back_eq, inI_eq, inA_eq, true_and, and_true, and_self, if_true, if_false, bI_0, bI_1, bI_in, bI_T, bI_F, fitF, jmpF, nlF, pjA, iVal.eta, iYr.eta, List.getElem?_toArray, List.length_cons, List.length_nil, true_or, or_true, or_false, false_or, Classical.not_not, Bool.false_eq_true, hp_2, Nat.zero_le, Nat.le_refl, Option.some.injEq, Sum.inl.injEq, Sum.inr.injEq, not_true_eq_false, true_implies, false_implies, implies_true, iRy.pj, back_sro, back_sro1, rd_r, rd_o, rd_o_wt, rd_o_en, rd_o_od, sro_rr, sro_srr, sro_sro, sro_wt, sro_en, sro_od, sro_dn, sro_sm, sro_sf, sro_go, wro_wt, wro_en, wro_od, wro_r, wro_o, row_len, inA_one, inA_lik, inA_cpl, gX12_bind, r_cp, e]
    exact hq
  | succ k ih =>
    intro c S hS hg h0 h1 hq
    have hO := hS.1
    have hcp := hO.cp
    have n0 := hO.n0
    have n1 := hO.n1
    have em := hO.man c h0 (by omega)
    have ew := hO.wom c h0 (by omega)
    refine G_run (B := [30]) 60 _ _ _ _ ?_
    have e : ¬ S.1.cp ≤ c := by omega
    unfold loseF at hq
    have h4 := okS_end hS h0 (by omega) (by omega : (1 : Int) ≤ 2) (by omega)
    by_cases g1 : S.1.sta c = 0
    · by_cases gm : S.1.man c = a
      · rw [if_pos ⟨g1, Or.inl gm⟩] at hq
        simp (disch := first | assumption | rfl | exact inI_of (by omega) (by omega) | omega | decide | (simp only [sv_ext, sv_mc, Nat.le_refl]; done) | with_unfolding_all (refine @id _ ?_; first | exact Eq.refl _ | exact Nat.le_refl _ | assumption)) only [Nat.reduceAdd, Nat.reduceMul, Nat.reduceLeDiff, Nat.reduceLT, Int.reduceAdd, Int.reduceSub, Int.reduceMul, Int.reduceNeg, Int.reduceLE, Int.reduceLT, Int.reduceToNat, Int.reduceEq, reduceCtorEq, ld_z, ld_s, st1_0, st1_1, st1_s, st2_0, st2_1, st2_s, isJ_i, isJ_r, isJ_n, isJ_l, cs_nil, cs_i, cs_r, cs_l, kF, List.getElem?_cons_succ, List.getElem?_cons_zero, List.set_cons_zero, List.set_cons_succ, GC_s, GC_n, GK_nil, GK_no, GK_yes, not_false_eq_true, back_eq, inI_eq, inA_eq, true_and, and_true, and_self, if_true, if_false, bI_0, bI_1, bI_in, bI_T, bI_F, fitF, jmpF, nlF, pjA, iVal.eta, iYr.eta, List.getElem?_toArray, List.length_cons, List.length_nil, true_or, or_true, or_false, false_or, Classical.not_not, Bool.false_eq_true, hp_2, Nat.zero_le, Nat.le_refl, Option.some.injEq, Sum.inl.injEq, Sum.inr.injEq, not_true_eq_false, true_implies, false_implies, implies_true, iRy.pj, back_sro, back_sro1, rd_r, rd_o, rd_o_wt, rd_o_en, rd_o_od, sro_rr, sro_srr, sro_sro, sro_wt, sro_en, sro_od, sro_dn, sro_sm, sro_sf, sro_go, wro_wt, wro_en, wro_od, wro_r, wro_o, row_len, inA_one, inA_lik, inA_cpl, gX12_bind, r_cp, e, goesOnR_eq, g1, atCouple_eq, q_man, q_wom, gm, ha, ends_eq hS.2.len hS.1.lsa hg hg0]
        exact ih _ _ h4 hg (by omega) (by show c + 1 + k = S.1.cp; omega) hq
      · by_cases gw : S.1.wom c = b
        · rw [if_pos ⟨g1, Or.inr gw⟩] at hq
          simp (disch := first | assumption | rfl | exact inI_of (by omega) (by omega) | omega | decide | (simp only [sv_ext, sv_mc, Nat.le_refl]; done) | with_unfolding_all (refine @id _ ?_; first | exact Eq.refl _ | exact Nat.le_refl _ | assumption)) only [Nat.reduceAdd, Nat.reduceMul, Nat.reduceLeDiff, Nat.reduceLT, Int.reduceAdd, Int.reduceSub, Int.reduceMul, Int.reduceNeg, Int.reduceLE, Int.reduceLT, Int.reduceToNat, Int.reduceEq, reduceCtorEq, ld_z, ld_s, st1_0, st1_1, st1_s, st2_0, st2_1, st2_s, isJ_i, isJ_r, isJ_n, isJ_l, cs_nil, cs_i, cs_r, cs_l, kF, List.getElem?_cons_succ, List.getElem?_cons_zero, List.set_cons_zero, List.set_cons_succ, GC_s, GC_n, GK_nil, GK_no, GK_yes, not_false_eq_true, back_eq, inI_eq, inA_eq, true_and, and_true, and_self, if_true, if_false, bI_0, bI_1, bI_in, bI_T, bI_F, fitF, jmpF, nlF, pjA, iVal.eta, iYr.eta, List.getElem?_toArray, List.length_cons, List.length_nil, true_or, or_true, or_false, false_or, Classical.not_not, Bool.false_eq_true, hp_2, Nat.zero_le, Nat.le_refl, Option.some.injEq, Sum.inl.injEq, Sum.inr.injEq, not_true_eq_false, true_implies, false_implies, implies_true, iRy.pj, back_sro, back_sro1, rd_r, rd_o, rd_o_wt, rd_o_en, rd_o_od, sro_rr, sro_srr, sro_sro, sro_wt, sro_en, sro_od, sro_dn, sro_sm, sro_sf, sro_go, wro_wt, wro_en, wro_od, wro_r, wro_o, row_len, inA_one, inA_lik, inA_cpl, gX12_bind, r_cp, e, goesOnR_eq, g1, atCouple_eq, q_man, q_wom, gm, ha, gw, hb, ends_eq hS.2.len hS.1.lsa hg hg0]
          exact ih _ _ h4 hg (by omega) (by show c + 1 + k = S.1.cp; omega) hq
        · rw [if_neg (by omega)] at hq
          simp (disch := first | assumption | rfl | exact inI_of (by omega) (by omega) | omega | decide | (simp only [sv_ext, sv_mc, Nat.le_refl]; done) | with_unfolding_all (refine @id _ ?_; first | exact Eq.refl _ | exact Nat.le_refl _ | assumption)) only [Nat.reduceAdd, Nat.reduceMul, Nat.reduceLeDiff, Nat.reduceLT, Int.reduceAdd, Int.reduceSub, Int.reduceMul, Int.reduceNeg, Int.reduceLE, Int.reduceLT, Int.reduceToNat, Int.reduceEq, reduceCtorEq, ld_z, ld_s, st1_0, st1_1, st1_s, st2_0, st2_1, st2_s, isJ_i, isJ_r, isJ_n, isJ_l, cs_nil, cs_i, cs_r, cs_l, kF, List.getElem?_cons_succ, List.getElem?_cons_zero, List.set_cons_zero, List.set_cons_succ, GC_s, GC_n, GK_nil, GK_no, GK_yes, not_false_eq_true, back_eq, inI_eq, inA_eq, true_and, and_true, and_self, if_true, if_false, bI_0, bI_1, bI_in, bI_T, bI_F, fitF, jmpF, nlF, pjA, iVal.eta, iYr.eta, List.getElem?_toArray, List.length_cons, List.length_nil, true_or, or_true, or_false, false_or, Classical.not_not, Bool.false_eq_true, hp_2, Nat.zero_le, Nat.le_refl, Option.some.injEq, Sum.inl.injEq, Sum.inr.injEq, not_true_eq_false, true_implies, false_implies, implies_true, iRy.pj, back_sro, back_sro1, rd_r, rd_o, rd_o_wt, rd_o_en, rd_o_od, sro_rr, sro_srr, sro_sro, sro_wt, sro_en, sro_od, sro_dn, sro_sm, sro_sf, sro_go, wro_wt, wro_en, wro_od, wro_r, wro_o, row_len, inA_one, inA_lik, inA_cpl, gX12_bind, r_cp, e, goesOnR_eq, g1, atCouple_eq, q_man, q_wom, gm, ha, gw, hb]
          exact ih _ _ hS hg (by omega) (by omega) hq
    · rw [if_neg (by omega)] at hq
      simp (disch := first | assumption | rfl | exact inI_of (by omega) (by omega) | omega | decide | (simp only [sv_ext, sv_mc, Nat.le_refl]; done) | with_unfolding_all (refine @id _ ?_; first | exact Eq.refl _ | exact Nat.le_refl _ | assumption)) only [Nat.reduceAdd, Nat.reduceMul, Nat.reduceLeDiff, Nat.reduceLT, Int.reduceAdd, Int.reduceSub, Int.reduceMul, Int.reduceNeg, Int.reduceLE, Int.reduceLT, Int.reduceToNat, Int.reduceEq, reduceCtorEq, ld_z, ld_s, st1_0, st1_1, st1_s, st2_0, st2_1, st2_s, isJ_i, isJ_r, isJ_n, isJ_l, cs_nil, cs_i, cs_r, cs_l, kF, List.getElem?_cons_succ, List.getElem?_cons_zero, List.set_cons_zero, List.set_cons_succ, GC_s, GC_n, GK_nil, GK_no, GK_yes, not_false_eq_true, back_eq, inI_eq, inA_eq, true_and, and_true, and_self, if_true, if_false, bI_0, bI_1, bI_in, bI_T, bI_F, fitF, jmpF, nlF, pjA, iVal.eta, iYr.eta, List.getElem?_toArray, List.length_cons, List.length_nil, true_or, or_true, or_false, false_or, Classical.not_not, Bool.false_eq_true, hp_2, Nat.zero_le, Nat.le_refl, Option.some.injEq, Sum.inl.injEq, Sum.inr.injEq, not_true_eq_false, true_implies, false_implies, implies_true, iRy.pj, back_sro, back_sro1, rd_r, rd_o, rd_o_wt, rd_o_en, rd_o_od, sro_rr, sro_srr, sro_sro, sro_wt, sro_en, sro_od, sro_dn, sro_sm, sro_sf, sro_go, wro_wt, wro_en, wro_od, wro_r, wro_o, row_len, inA_one, inA_lik, inA_cpl, gX12_bind, r_cp, e, goesOnR_eq, g1]
      exact ih _ _ hS hg (by omega) (by omega) hq
theorem bindR_eq {c v a b : Int} (hE : OkS (endA (S.1.bind a b, S.2) c v) B) (hg : S.2.ps = g + 1) (hg0 : 0 ≤ g) (h0 : 0 ≤ c) (h1 : c < S.1.cp) (g0 : 0 ≤ a) (g1 : a < S.1.num 0) (g2 : 0 ≤ b) (g3 : b < S.1.num 1) : Call sp sc (d + 3) mX12_bind [.inr (.inr 140), .inr (.inr (rb r + 2)), .inl a, .inl b, .inl c, .inl v] (hp (A.sro r (rowOf S.1 e) (ryOf S.2 g))) Q = Q none (hp (A.sro r (rowOf (bindA S c v a b).1 e) (ryOf (bindA S c v a b).2 g))) := Call_eq (by
  have hO := hE.1
  have hcp : 0 ≤ S.1.cp ∧ S.1.cp ≤ 4 := hO.cp
  have n0 : 0 ≤ S.1.num 0 ∧ S.1.num 0 ≤ 5 := hO.n0
  have n1 : 0 ≤ S.1.num 1 ∧ S.1.num 1 ≤ 5 := hO.n1
  have lb : S.1.bo.length = 10 := by
    have : ((S.1.bo.set a.toNat b).set (5 + b).toNat a).length = 10 := hO.lbo
    rw [List.length_set, List.length_set] at this; exact this
  have ls : (S.1.bind a b, S.2).1.sa.length = 4 := by
    have : (S.1.sa.set c.toNat v).length = 4 := hO.lsa
    rw [List.length_set] at this; exact this
  have le : (S.1.bind a b, S.2).2.en.length = 4 := by
    have : (S.2.en.set c.toNat S.2.ps).length = 4 := hE.2.len
    rw [List.length_set] at this; exact this
  have lb2 : (S.1.sbn 0 a b).bo.length = 10 := by show (S.1.bo.set _ _).length = 10; rw [List.length_set]; exact lb
  have g3' : b < (S.1.sbn 0 a b).num 1 := g3
  have n1' : (S.1.sbn 0 a b).num 1 ≤ 5 := n1.2
  have e1 := fun Q => @ends_eq sp sc (d + 1) A r Q e g (S.1.bind a b, S.2) le ls hg hg0 c v h0 (by omega)
  dsimp only at e1
  have hcE : (endA (S.1.bind a b, S.2) c v).1.cp = S.1.cp := rfl
  apply eX12_bind 60
  simp (disch := first | assumption | rfl | exact inI_of (by omega) (by omega) | omega | decide | (simp only [sv_ext, sv_mc, Nat.le_refl]; done) | with_unfolding_all (refine @id _ ?_; first | exact Eq.refl _ | exact Nat.le_refl _ | assumption)) only [Nat.reduceAdd, Nat.reduceMul, Nat.reduceLeDiff, Nat.reduceLT, Int.reduceAdd, Int.reduceSub, Int.reduceMul, Int.reduceNeg, Int.reduceLE, Int.reduceLT, Int.reduceToNat, Int.reduceEq, reduceCtorEq, ld_z, ld_s, st1_0, st1_1, st1_s, st2_0, st2_1, st2_s, isJ_i, isJ_r, isJ_n, isJ_l, cs_nil, cs_i, cs_r, cs_l, kF, List.getElem?_cons_succ, List.getElem?_cons_zero, List.set_cons_zero, List.set_cons_succ, GC_s, GC_n, GK_nil, GK_no, GK_yes, not_false_eq_true, back_eq, inI_eq, inA_eq, true_and, and_true, and_self, if_true, if_false, bI_0, bI_1, bI_in, bI_T, bI_F, fitF, jmpF, nlF, pjA, iVal.eta, iYr.eta, List.getElem?_toArray, List.length_cons, List.length_nil, true_or, or_true, or_false, false_or, Classical.not_not, Bool.false_eq_true, hp_2, Nat.zero_le, Nat.le_refl, Option.some.injEq, Sum.inl.injEq, Sum.inr.injEq, not_true_eq_false, true_implies, false_implies, implies_true, iRy.pj, back_sro, back_sro1, rd_r, rd_o, rd_o_wt, rd_o_en, rd_o_od, sro_rr, sro_srr, sro_sro, sro_wt, sro_en, sro_od, sro_dn, sro_sm, sro_sf, sro_go, wro_wt, wro_en, wro_od, wro_r, wro_o, row_len, inA_one, inA_lik, inA_cpl, gX12_bind, atOne_eq, w_bnd lb (s := 0) (by omega) (by omega) g0 g1 n0.2, w_bnd lb2 (s := 1) (by omega) (by omega) g2 g3' n1', bind_sbn, e1]
  exact loseR_loop (inI_of (by omega) (by omega)) (inI_of (by omega) (by omega)) hg0 S.1.cp.toNat 0 (endA (S.1.bind a b, S.2) c v) hE hg (by omega) (by rw [hcE]; omega) ⟨rfl, rfl⟩)
/-- who has done something in this day, as bits, behind a turn -/
noncomputable def busN (S : iXY) (c n : Int) : Int := if metA S c then bOr (bOr n (bShl 1 (S.1.doer 0 c))) (bShl 1 (5 + S.1.doer 1 c)) else n
theorem has_bus {n : Nat} {Y : iYr} (hn : n < 1024) (hb : Y.bz = bitsL n) {k : Int} (h0 : 0 ≤ k) (h1 : k < 10) : (bAnd (bShr (n : Int) k) 1 = 1) ↔ Y.bus k = 1 := by
  have e : ((k.toNat : Nat) : Int) = k := by omega
  have := bits_has n hn k.toNat (by omega)
  rw [e] at this
  rw [this]
  unfold iYr.bus
  rw [hb]
theorem busN_ok (hS : OkS S B) {n : Nat} (hn : n < 1024) (hb : S.2.bz = bitsL n) {c : Int} (h0 : 0 ≤ c) (h1 : c < S.1.cp) : ∃ n' : Nat, n' < 1024 ∧ busN S c n = (n' : Int) ∧ (turnA S c).2.bz = bitsL n' := by
  have hO := hS.1
  have n0 := hO.n0
  have n1 := hO.n1
  have da := doer_b hO (s := 0) (c := c) (by omega) (by omega) h0 h1
  have db := doer_b hO (s := 1) (c := c) (by omega) (by omega) h0 h1
  unfold busN turnA
  by_cases m : metA S c
  · rw [if_pos m, if_pos m]
    have ea : ((S.1.doer 0 c).toNat : Int) = S.1.doer 0 c := by omega
    have eb : ((S.1.doer 1 c).toNat : Int) = S.1.doer 1 c := by omega
    have e := bits_or hn (a := (S.1.doer 0 c).toNat) (b := (S.1.doer 1 c).toNat) (by omega) (by omega)
    rw [ea, eb] at e
    refine ⟨_, e.2.1, e.1, ?_⟩
    rw [e.2.2]
    have lem : ∀ T : iXY, T.2.bz = (busyY S.2 (S.1.doer 0 c) (S.1.doer 1 c)).bz → T.2.bz = ((bitsL n).set (S.1.doer 0 c).toNat 1).set (5 + (S.1.doer 1 c).toNat) 1 := fun T h => by
      rw [h]
      show (S.2.bz.set (S.1.doer 0 c).toNat 1).set (5 + S.1.doer 1 c).toNat 1 = _
      rw [hb]
      congr 1
      omega
    apply lem
    have lose : ∀ (k : Nat) (c : Int) (T : iXY) (a b : Int), (loseF a b k c T).2.bz = T.2.bz := by
      intro k
      induction k with
      | zero => intro c T a b; rfl
      | succ k ih =>
        intro c T a b
        unfold loseF
        rw [ih]
        split <;> rfl
    have bnd : ∀ (T : iXY) (c v a b : Int), (bindA T c v a b).2.bz = T.2.bz := fun T c v a b => by
      unfold bindA loseA
      rw [lose]; rfl
    dsimp only
    split
    · exact bnd _ _ _ _ _
    · unfold deedA
      split
      · rfl
      · exact bnd _ _ _ _ _
  · rw [if_neg m, if_neg m]
    exact ⟨n, hn, rfl, hb⟩
theorem slipR {Y : iYr} (hs : 0 ≤ Y.sp) (hf : 0 ≤ Y.fs) (hp : Y.ps = g + 1) : iRy.mk Y.wt (enR Y.en) Y.od Y.dn (Y.sp + 1) (if sfR Y < 0 then g + 1 else sfR Y) g = ryOf (slipY Y) g := by
  have e : (if sfR Y < 0 then g + 1 else sfR Y) = sfR (slipY Y) := by
    show _ = (if Y.sp + 1 = 0 then -4 else (if Y.sp + 1 = 1 then Y.ps else Y.fs))
    rw [if_neg (show ¬ Y.sp + 1 = 0 by omega)]
    unfold sfR
    by_cases z : Y.sp = 0
    · rw [if_pos z, if_pos (by omega), if_pos (by omega), hp]
    · rw [if_neg z, if_neg (by omega), if_neg (by omega)]
  rw [e]
  rfl
theorem busy_bind {X : iVal} {Y Y' : iYr} (h : Y' = (iYr.mk Y.od (Y'.bz) Y.wt Y.en Y.ps Y.dn Y.sp Y.fs)) {c v a b : Int} : bindA (X, Y') c v a b = ((bindA (X, Y) c v a b).1, (iYr.mk ((bindA (X, Y) c v a b).2).od (Y'.bz) ((bindA (X, Y) c v a b).2).wt ((bindA (X, Y) c v a b).2).en ((bindA (X, Y) c v a b).2).ps ((bindA (X, Y) c v a b).2).dn ((bindA (X, Y) c v a b).2).sp ((bindA (X, Y) c v a b).2).fs)) := by
  have key : ∀ (k : Nat) (i : Int) (S : iXY) (z : List Int), loseF a b k i (S.1, (iYr.mk S.2.od (z) S.2.wt S.2.en S.2.ps S.2.dn S.2.sp S.2.fs)) = ((loseF a b k i S).1, (iYr.mk ((loseF a b k i S).2).od (z) ((loseF a b k i S).2).wt ((loseF a b k i S).2).en ((loseF a b k i S).2).ps ((loseF a b k i S).2).dn ((loseF a b k i S).2).sp ((loseF a b k i S).2).fs)) := by
    intro k
    induction k with
    | zero => intro i S z; rfl
    | succ k ih =>
      intro i S z
      unfold loseF
      by_cases g : S.1.sta i = 0 ∧ (S.1.man i = a ∨ S.1.wom i = b)
      · rw [if_pos g, if_pos g]
        exact ih (i + 1) (endA S i 2) z
      · rw [if_neg g, if_neg g]
        exact ih (i + 1) S z
  generalize Y'.bz = z at h
  subst h
  exact key X.cp.toNat 0 ((endA (X, Y) c v).1.bind a b, (endA (X, Y) c v).2) z
theorem sameT_ps {S T : iXY} (h : sameT S T) : T.2.ps = S.2.ps := h.2.2.2.2.2.2.2.2.2.2
section TS
variable {c n a b man wom : Int} {o4 o5 o6 o9 : Option iV} {l l' : List Int} {R' : iRy}
theorem turn_end {t u : Nat} (hq : Q (some (.inl (bOr (bOr n (bShl 1 a)) (bShl 1 (5 + b))))) h) : Run sp sc (d + 4) mX12_turn 260 [some (.inr (.inr (t + 1))), some (.inr (.inr (u + 1))), some (.inl c), some (.inl n), o4, o5, o6, some (.inl a), some (.inl b), o9] [] h Q := by
  refine G_run (B := [109, 117, 143, 175, 216, 260]) 30 _ _ _ _ ?_
  simp (disch := first | assumption | rfl | exact inI_of (by omega) (by omega) | omega | decide | (simp only [sv_ext, sv_mc, Nat.le_refl]; done) | with_unfolding_all (refine @id _ ?_; first | exact Eq.refl _ | exact Nat.le_refl _ | assumption)) only [Nat.reduceAdd, Nat.reduceMul, Nat.reduceLeDiff, Nat.reduceLT, Int.reduceAdd, Int.reduceSub, Int.reduceMul, Int.reduceNeg, Int.reduceLE, Int.reduceLT, Int.reduceToNat, Int.reduceEq, reduceCtorEq, ld_z, ld_s, st1_0, st1_1, st1_s, st2_0, st2_1, st2_s, isJ_i, isJ_r, isJ_n, isJ_l, cs_nil, cs_i, cs_r, cs_l, kF, List.getElem?_cons_succ, List.getElem?_cons_zero, List.set_cons_zero, List.set_cons_succ, GC_s, GC_n, GK_nil, GK_no, GK_yes, not_false_eq_true, back_eq, back_hp, inI_eq, inA_eq, true_and, and_true, and_self, if_true, if_false, bI_0, bI_1, bI_in, bI_T, bI_F, fitF, jmpF, nlF, pjA, iVal.eta, iYr.eta, List.getElem?_toArray, List.length_cons, List.length_nil, true_or, or_true, or_false, false_or, Classical.not_not, Bool.false_eq_true, hp_2, Nat.zero_le, Nat.le_refl, Option.some.injEq, Sum.inl.injEq, Sum.inr.injEq, not_true_eq_false, true_implies, false_implies, implies_true, gX12_turn_m]
  exact hq
theorem turn_deed1 (ldd : X.dd.length = 4) (h0 : 0 ≤ c) (h1 : c < 4) (i1 : inI (X.dds c + 1) = true) (z : ¬ X.dds c + 1 = 6) (hq : Q (some (.inl (bOr (bOr n (bShl 1 a)) (bShl 1 (5 + b))))) (hp (A.sro r (rowOf (X.inc c) e) (iRy.mk R.wt R.en R.od (R.dn + 1) R.sm R.sf R.go)))) : Run sp sc (d + 4) mX12_turn 216 [some (.inr (.inr 140)), some (.inr (.inr (rb r + 2))), some (.inl c), some (.inl n), some (.inl man), some (.inl wom), o6, some (.inl a), some (.inl b), o9] [] (hp (A.sro r (rowOf X e) R)) Q := by
  have zi : (X.inc c).dds c = X.dds c + 1 := by rw [dds_inc ldd h0 h1 h0, if_pos rfl]
  have k := turn_end (sp := sp) (sc := sc) (d := d) (c := c) (o4 := some (.inl man)) (o5 := some (.inl wom)) (o6 := o6) (o9 := o9) (t := 139) (u := rb r + 1) hq
  refine G_run (B := [109, 117, 143, 175, 216, 260]) 60 _ _ _ _ ?_
  simp (disch := first | assumption | rfl | exact inI_of (by omega) (by omega) | omega | decide | (simp only [sv_ext, sv_mc, Nat.le_refl]; done) | with_unfolding_all (refine @id _ ?_; first | exact Eq.refl _ | exact Nat.le_refl _ | assumption)) only [Nat.reduceAdd, Nat.reduceMul, Nat.reduceLeDiff, Nat.reduceLT, Int.reduceAdd, Int.reduceSub, Int.reduceMul, Int.reduceNeg, Int.reduceLE, Int.reduceLT, Int.reduceToNat, Int.reduceEq, reduceCtorEq, ld_z, ld_s, st1_0, st1_1, st1_s, st2_0, st2_1, st2_s, isJ_i, isJ_r, isJ_n, isJ_l, cs_nil, cs_i, cs_r, cs_l, kF, List.getElem?_cons_succ, List.getElem?_cons_zero, List.set_cons_zero, List.set_cons_succ, GC_s, GC_n, GK_nil, GK_no, GK_yes, not_false_eq_true, back_eq, inI_eq, inA_eq, true_and, and_true, and_self, if_true, if_false, bI_0, bI_1, bI_in, bI_T, bI_F, fitF, jmpF, nlF, pjA, iVal.eta, iYr.eta, List.getElem?_toArray, List.length_cons, List.length_nil, true_or, or_true, or_false, false_or, Classical.not_not, Bool.false_eq_true, hp_2, Nat.zero_le, Nat.le_refl, Option.some.injEq, Sum.inl.injEq, Sum.inr.injEq, not_true_eq_false, true_implies, false_implies, implies_true, iRy.pj, back_sro, back_sro1, rd_r, rd_o, rd_o_wt, rd_o_en, rd_o_od, sro_rr, sro_srr, sro_sro, sro_wt, sro_en, sro_od, sro_dn, sro_sm, sro_sf, sro_go, wro_wt, wro_en, wro_od, wro_r, wro_o, row_len, inA_one, inA_lik, inA_cpl, gX12_turn_m, atCouple_eq, q_dds, w_dds ldd h0 h1, zi, z, i1]
  exact k
theorem turn_deed2 (ldd : X.dd.length = 4) (h0 : 0 ≤ c) (h1 : c < 4) (z : X.dds c + 1 = 6) (hb : ∀ Q, Call sp sc (d + 3) mX12_bind [.inr (.inr 140), .inr (.inr (rb r + 2)), .inl man, .inl wom, .inl c, .inl 1] (hp (A.sro r (rowOf (X.inc c) e) (iRy.mk R.wt R.en R.od (R.dn + 1) R.sm R.sf R.go))) Q = Q none (hp (A.sro r l' R'))) (hq : Q (some (.inl (bOr (bOr n (bShl 1 a)) (bShl 1 (5 + b))))) (hp (A.sro r l' R'))) : Run sp sc (d + 4) mX12_turn 216 [some (.inr (.inr 140)), some (.inr (.inr (rb r + 2))), some (.inl c), some (.inl n), some (.inl man), some (.inl wom), o6, some (.inl a), some (.inl b), o9] [] (hp (A.sro r (rowOf X e) R)) Q := by
  have zi : (X.inc c).dds c = X.dds c + 1 := by rw [dds_inc ldd h0 h1 h0, if_pos rfl]
  have k := turn_end (sp := sp) (sc := sc) (d := d) (c := c) (o4 := some (.inl man)) (o5 := some (.inl wom)) (o6 := o6) (o9 := o9) (t := 139) (u := rb r + 1) hq
  refine G_run (B := [109, 117, 143, 175, 216, 260]) 60 _ _ _ _ ?_
  have i1 : inI (X.dds c + 1) = true := by rw [z]; rfl
  simp (disch := first | assumption | rfl | exact inI_of (by omega) (by omega) | omega | decide | (simp only [sv_ext, sv_mc, Nat.le_refl]; done) | with_unfolding_all (refine @id _ ?_; first | exact Eq.refl _ | exact Nat.le_refl _ | assumption)) only [Nat.reduceAdd, Nat.reduceMul, Nat.reduceLeDiff, Nat.reduceLT, Int.reduceAdd, Int.reduceSub, Int.reduceMul, Int.reduceNeg, Int.reduceLE, Int.reduceLT, Int.reduceToNat, Int.reduceEq, reduceCtorEq, ld_z, ld_s, st1_0, st1_1, st1_s, st2_0, st2_1, st2_s, isJ_i, isJ_r, isJ_n, isJ_l, cs_nil, cs_i, cs_r, cs_l, kF, List.getElem?_cons_succ, List.getElem?_cons_zero, List.set_cons_zero, List.set_cons_succ, GC_s, GC_n, GK_nil, GK_no, GK_yes, not_false_eq_true, back_eq, inI_eq, inA_eq, true_and, and_true, and_self, if_true, if_false, bI_0, bI_1, bI_in, bI_T, bI_F, fitF, jmpF, nlF, pjA, iVal.eta, iYr.eta, List.getElem?_toArray, List.length_cons, List.length_nil, true_or, or_true, or_false, false_or, Classical.not_not, Bool.false_eq_true, hp_2, Nat.zero_le, Nat.le_refl, Option.some.injEq, Sum.inl.injEq, Sum.inr.injEq, not_true_eq_false, true_implies, false_implies, implies_true, iRy.pj, back_sro, back_sro1, rd_r, rd_o, rd_o_wt, rd_o_en, rd_o_od, sro_rr, sro_srr, sro_sro, sro_wt, sro_en, sro_od, sro_dn, sro_sm, sro_sf, sro_go, wro_wt, wro_en, wro_od, wro_r, wro_o, row_len, inA_one, inA_lik, inA_cpl, gX12_turn_m, atCouple_eq, q_dds, w_dds ldd h0 h1, zi, eq_true z, i1, hb]
  exact k
theorem turn_slip (hb : ∀ Q, Call sp sc (d + 3) mX12_bind [.inr (.inr 140), .inr (.inr (rb r + 2)), .inl a, .inl b, .inl c, .inl 2] (hp (A.sro r l R)) Q = Q none (hp (A.sro r l' R'))) (i1 : inI R'.sf = true) (hq : Q (some (.inl (bOr (bOr n (bShl 1 a)) (bShl 1 (5 + b))))) (hp (A.sro r l' ((iRy.mk (R'.wt) (R'.en) (R'.od) (R'.dn) (R'.sm + 1) (if R'.sf < 0 then R'.go + 1 else R'.sf) (R'.go)))))) : Run sp sc (d + 4) mX12_turn 175 [some (.inr (.inr 140)), some (.inr (.inr (rb r + 2))), some (.inl c), some (.inl n), some (.inl man), some (.inl wom), o6, some (.inl a), some (.inl b), o9] [] (hp (A.sro r l R)) Q := by
  have k := turn_end (sp := sp) (sc := sc) (d := d) (c := c) (o4 := some (.inl man)) (o5 := some (.inl wom)) (o6 := o6) (o9 := o9) (t := 139) (u := rb r + 1) hq
  refine G_run (B := [109, 117, 143, 175, 216, 260]) 60 _ _ _ _ ?_
  simp (disch := first | assumption | rfl | exact inI_of (by omega) (by omega) | omega | decide | (simp only [sv_ext, sv_mc, Nat.le_refl]; done) | with_unfolding_all (refine @id _ ?_; first | exact Eq.refl _ | exact Nat.le_refl _ | assumption)) only [Nat.reduceAdd, Nat.reduceMul, Nat.reduceLeDiff, Nat.reduceLT, Int.reduceAdd, Int.reduceSub, Int.reduceMul, Int.reduceNeg, Int.reduceLE, Int.reduceLT, Int.reduceToNat, Int.reduceEq, reduceCtorEq, ld_z, ld_s, st1_0, st1_1, st1_s, st2_0, st2_1, st2_s, isJ_i, isJ_r, isJ_n, isJ_l, cs_nil, cs_i, cs_r, cs_l, kF, List.getElem?_cons_succ, List.getElem?_cons_zero, List.set_cons_zero, List.set_cons_succ, GC_s, GC_n, GK_nil, GK_no, GK_yes, not_false_eq_true, back_eq, inI_eq, inA_eq, true_and, and_true, and_self, if_true, if_false, bI_0, bI_1, bI_in, bI_T, bI_F, fitF, jmpF, nlF, pjA, iVal.eta, iYr.eta, List.getElem?_toArray, List.length_cons, List.length_nil, true_or, or_true, or_false, false_or, Classical.not_not, Bool.false_eq_true, hp_2, Nat.zero_le, Nat.le_refl, Option.some.injEq, Sum.inl.injEq, Sum.inr.injEq, not_true_eq_false, true_implies, false_implies, implies_true, iRy.pj, back_sro, back_sro1, rd_r, rd_o, rd_o_wt, rd_o_en, rd_o_od, sro_rr, sro_srr, sro_sro, sro_wt, sro_en, sro_od, sro_dn, sro_sm, sro_sf, sro_go, wro_wt, wro_en, wro_od, wro_r, wro_o, row_len, inA_one, inA_lik, inA_cpl, gX12_turn_m, hb, i1]
  refine ⟨fun z => ?_, fun z => ?_⟩
  · rw [if_neg (by omega)] at k
    exact k
  · rw [if_pos (by omega)] at k
    exact k
theorem turn_143 (ha : 0 ≤ a) (ha2 : a < X.num 0) (hb : 0 ≤ b) (hb2 : b < X.num 1) (n0 : X.num 0 ≤ 5) (n1 : X.num 1 ≤ 5) (sl : 0 ≤ X.sl ∧ X.sl ≤ 99) (l0 : 0 ≤ X.lik 0 a b ∧ X.lik 0 a b ≤ 99) (l1 : 0 ≤ X.lik 1 b a ∧ X.lik 1 b a ≤ 99) (k1 : X.sl < X.lik 0 a b ∧ X.sl < X.lik 1 b a → Run sp sc (d + 4) mX12_turn 175 [some (.inr (.inr 140)), some (.inr (.inr (rb r + 2))), some (.inl c), some (.inl n), some (.inl man), some (.inl wom), o6, some (.inl a), some (.inl b), o9] [] (hp (A.sro r (rowOf X e) R)) Q) (k2 : ¬ (X.sl < X.lik 0 a b ∧ X.sl < X.lik 1 b a) → Run sp sc (d + 4) mX12_turn 216 [some (.inr (.inr 140)), some (.inr (.inr (rb r + 2))), some (.inl c), some (.inl n), some (.inl man), some (.inl wom), o6, some (.inl a), some (.inl b), o9] [] (hp (A.sro r (rowOf X e) R)) Q) : Run sp sc (d + 4) mX12_turn 143 [some (.inr (.inr 140)), some (.inr (.inr (rb r + 2))), some (.inl c), some (.inl n), some (.inl man), some (.inl wom), o6, some (.inl a), some (.inl b), o9] [] (hp (A.sro r (rowOf X e) R)) Q := by
  refine G_run (B := [109, 117, 143, 175, 216, 260]) 60 _ _ _ _ ?_
  simp (disch := first | assumption | rfl | exact inI_of (by omega) (by omega) | omega | decide | (simp only [sv_ext, sv_mc, Nat.le_refl]; done) | with_unfolding_all (refine @id _ ?_; first | exact Eq.refl _ | exact Nat.le_refl _ | assumption)) only [Nat.reduceAdd, Nat.reduceMul, Nat.reduceLeDiff, Nat.reduceLT, Int.reduceAdd, Int.reduceSub, Int.reduceMul, Int.reduceNeg, Int.reduceLE, Int.reduceLT, Int.reduceToNat, Int.reduceEq, reduceCtorEq, ld_z, ld_s, st1_0, st1_1, st1_s, st2_0, st2_1, st2_s, isJ_i, isJ_r, isJ_n, isJ_l, cs_nil, cs_i, cs_r, cs_l, kF, List.getElem?_cons_succ, List.getElem?_cons_zero, List.set_cons_zero, List.set_cons_succ, GC_s, GC_n, GK_nil, GK_no, GK_yes, not_false_eq_true, back_eq, inI_eq, inA_eq, true_and, and_true, and_self, if_true, if_false, bI_0, bI_1, bI_in, bI_T, bI_F, fitF, jmpF, nlF, pjA, iVal.eta, iYr.eta, List.getElem?_toArray, List.length_cons, List.length_nil, true_or, or_true, or_false, false_or, Classical.not_not, Bool.false_eq_true, hp_2, Nat.zero_le, Nat.le_refl, Option.some.injEq, Sum.inl.injEq, Sum.inr.injEq, not_true_eq_false, true_implies, false_implies, implies_true, iRy.pj, back_sro, back_sro1, rd_r, rd_o, rd_o_wt, rd_o_en, rd_o_od, sro_rr, sro_srr, sro_sro, sro_wt, sro_en, sro_od, sro_dn, sro_sm, sro_sf, sro_go, wro_wt, wro_en, wro_od, wro_r, wro_o, row_len, inA_one, inA_lik, inA_cpl, gX12_turn_m, atLike_eq, q_lik, r_sl]
  refine ⟨fun z => k2 (by omega), fun z => ⟨fun y => k2 (by omega), fun y => k1 (by omega)⟩⟩
theorem turn_117 {H : iH} (ia : inI a = true) (ib : inI b = true) (im : inI man = true) (iw : inI wom = true) (k1 : ¬ (a = man ∧ b = wom) → ∀ o9, Run sp sc (d + 4) mX12_turn 143 [some (.inr (.inr 140)), some (.inr (.inr (rb r + 2))), some (.inl c), some (.inl n), some (.inl man), some (.inl wom), o6, some (.inl a), some (.inl b), o9] [] H Q) (k2 : a = man ∧ b = wom → ∀ o9, Run sp sc (d + 4) mX12_turn 216 [some (.inr (.inr 140)), some (.inr (.inr (rb r + 2))), some (.inl c), some (.inl n), some (.inl man), some (.inl wom), o6, some (.inl a), some (.inl b), o9] [] H Q) : Run sp sc (d + 4) mX12_turn 117 [some (.inr (.inr 140)), some (.inr (.inr (rb r + 2))), some (.inl c), some (.inl n), some (.inl man), some (.inl wom), o6, some (.inl a), some (.inl b), o9] [] H Q := by
  refine G_run (B := [109, 117, 143, 175, 216, 260]) 60 _ _ _ _ ?_
  simp (disch := first | assumption | rfl | exact inI_of (by omega) (by omega) | omega | decide | (simp only [sv_ext, sv_mc, Nat.le_refl]; done) | with_unfolding_all (refine @id _ ?_; first | exact Eq.refl _ | exact Nat.le_refl _ | assumption)) only [Nat.reduceAdd, Nat.reduceMul, Nat.reduceLeDiff, Nat.reduceLT, Int.reduceAdd, Int.reduceSub, Int.reduceMul, Int.reduceNeg, Int.reduceLE, Int.reduceLT, Int.reduceToNat, Int.reduceEq, reduceCtorEq, ld_z, ld_s, st1_0, st1_1, st1_s, st2_0, st2_1, st2_s, isJ_i, isJ_r, isJ_n, isJ_l, cs_nil, cs_i, cs_r, cs_l, kF, List.getElem?_cons_succ, List.getElem?_cons_zero, List.set_cons_zero, List.set_cons_succ, GC_s, GC_n, GK_nil, GK_no, GK_yes, not_false_eq_true, back_eq, back_hp, inI_eq, inA_eq, true_and, and_true, and_self, if_true, if_false, bI_0, bI_1, bI_in, bI_T, bI_F, fitF, jmpF, nlF, pjA, iVal.eta, iYr.eta, List.getElem?_toArray, List.length_cons, List.length_nil, true_or, or_true, or_false, false_or, Classical.not_not, Bool.false_eq_true, hp_2, Nat.zero_le, Nat.le_refl, Option.some.injEq, Sum.inl.injEq, Sum.inr.injEq, not_true_eq_false, true_implies, false_implies, implies_true, gX12_turn_m, ia, ib, im, iw]
  refine ⟨fun z => k1 (fun y => z y.1) _, fun z => ⟨fun y => k1 (fun x => y x.2) _, fun y => k2 ⟨z, y⟩ _⟩⟩
end TS
end RT
