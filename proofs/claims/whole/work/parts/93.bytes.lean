set_option maxRecDepth 16384
/-! ===== valley: the bytes of a row, both sides ===== -/
def dbF (b : Int) : Int := if b = 108 then 5 else if b = 100 then 3 else if b = 97 ∨ b = 99 ∨ b = 109 ∨ b = 115 ∨ b = 119 ∨ b = 121 then 2 else -1
theorem dbV : dbF 97 = 2 ∧ dbF 98 = -1 ∧ dbF 99 = 2 ∧ dbF 100 = 3 ∧ dbF 101 = -1 ∧ dbF 102 = -1 ∧ dbF 103 = -1 ∧ dbF 104 = -1 ∧ dbF 105 = -1 ∧ dbF 106 = -1 ∧ dbF 107 = -1 ∧ dbF 108 = 5 ∧ dbF 109 = 2 ∧ dbF 110 = -1 ∧ dbF 111 = -1 ∧ dbF 112 = -1 ∧ dbF 113 = -1 ∧ dbF 114 = -1 ∧ dbF 115 = 2 ∧ dbF 116 = -1 ∧ dbF 117 = -1 ∧ dbF 118 = -1 ∧ dbF 119 = 2 ∧ dbF 120 = -1 ∧ dbF 121 = 2 := by decide
theorem dbF_no {b : Int} (c : b < 97 ∨ 121 < b) : dbF b = -1 := by
  unfold dbF
  rw [if_neg (by omega), if_neg (by omega), if_neg (by omega)]
theorem dbF_b {b : Int} : dbF b = -1 ∨ dbF b = 2 ∨ dbF b = 3 ∨ dbF b = 5 := by
  unfold dbF
  split
  · omega
  · split
    · omega
    · split <;> omega
/-- a byte as the reference sees it -/
def uF (b : Int) : Int := if 0 ≤ b then b else b + 256
theorem and_nat : ∀ n : Nat, n < 256 → bAnd ((n : Int) - 128) 255 = if 128 ≤ n then (n : Int) - 128 else (n : Int) + 128 := by decide +kernel
theorem and_uF {b : Int} (h0 : -128 ≤ b) (h1 : b ≤ 127) : bAnd b 255 = uF b := by
  have k := and_nat (b + 128).toNat (by omega)
  have e : (((b + 128).toNat : Nat) : Int) = b + 128 := by omega
  have e2 : b + 128 - 128 = b := by omega
  rw [e, e2] at k
  rw [k]
  unfold uF
  by_cases c : 0 ≤ b
  · rw [if_pos c, if_pos (by omega)]
  · rw [if_neg c, if_neg (by omega)]; omega
/-- a byte of a shelf's row: 0 past its end -/
def bFc (l : List Int) (z i : Int) : Int := if 0 ≤ i ∧ i < z then l.getD i.toNat 0 else 0
def rFc (l : List Int) (z i : Int) : Int := if i < z then uF (l.getD i.toNat 0) else -1
section OPS
variable {sp : Nat → List iV → iH → Option (Option iV × iH)} {sc : List Int} {d : Nat} {A A' : iA} {Q : Option iV → iH → Prop} {h : iH} {X : iVal} {D : Nat} {l : List Int} {z i x : Int}
theorem digitsBehind_eq {b : Int} (ib : inI b = true) : Call sp sc d mX11_digitsBehind [.inl b] h Q = Q (some (.inl (dbF b))) h := Call_eq (by
  apply eX11_digitsBehind 20
  by_cases c : b < 97 ∨ 121 < b
  · rw [dbF_no c]
    simp (disch := first | assumption | rfl | exact inI_of (by omega) (by omega) | omega | decide | (simp only [sv_ext, sv_mc, Nat.le_refl]; done) | with_unfolding_all (refine @id _ ?_; first | exact Eq.refl _ | exact Nat.le_refl _ | assumption)) only [Nat.reduceAdd, Nat.reduceMul, Nat.reduceLeDiff, Nat.reduceLT, Int.reduceAdd, Int.reduceSub, Int.reduceMul, Int.reduceNeg, Int.reduceLE, Int.reduceLT, Int.reduceToNat, Int.reduceEq, reduceCtorEq, ld_z, ld_s, st1_0, st1_1, st1_s, st2_0, st2_1, st2_s, isJ_i, isJ_r, isJ_n, isJ_l, cs_nil, cs_i, cs_r, cs_l, kF, List.getElem?_cons_succ, List.getElem?_cons_zero, List.set_cons_zero, List.set_cons_succ, GC_s, GC_n, GK_nil, GK_no, GK_yes, not_false_eq_true, back_eq, back_hp, inI_eq, inA_eq, true_and, and_true, and_self, if_true, if_false, bI_0, bI_1, bI_in, bI_T, bI_F, fitF, jmpF, nlF, pjA, iVal.eta, iYr.eta, List.getElem?_toArray, List.length_cons, List.length_nil, true_or, or_true, or_false, false_or, Classical.not_not, Bool.false_eq_true, hp_2, Nat.zero_le, Nat.le_refl, Option.some.injEq, Sum.inl.injEq, Sum.inr.injEq, not_true_eq_false, true_implies, false_implies, implies_true, Int.le_refl, gX11_digitsBehind, c, ib]
  · have : b = 97 ∨ b = 98 ∨ b = 99 ∨ b = 100 ∨ b = 101 ∨ b = 102 ∨ b = 103 ∨ b = 104 ∨ b = 105 ∨ b = 106 ∨ b = 107 ∨ b = 108 ∨ b = 109 ∨ b = 110 ∨ b = 111 ∨ b = 112 ∨ b = 113 ∨ b = 114 ∨ b = 115 ∨ b = 116 ∨ b = 117 ∨ b = 118 ∨ b = 119 ∨ b = 120 ∨ b = 121 := by omega
    rcases this with rfl | rfl | rfl | rfl | rfl | rfl | rfl | rfl | rfl | rfl | rfl | rfl | rfl | rfl | rfl | rfl | rfl | rfl | rfl | rfl | rfl | rfl | rfl | rfl | rfl <;> simp (disch := first | assumption | rfl | exact inI_of (by omega) (by omega) | omega | decide | (simp only [sv_ext, sv_mc, Nat.le_refl]; done) | with_unfolding_all (refine @id _ ?_; first | exact Eq.refl _ | exact Nat.le_refl _ | assumption)) only [Nat.reduceAdd, Nat.reduceMul, Nat.reduceLeDiff, Nat.reduceLT, Int.reduceAdd, Int.reduceSub, Int.reduceMul, Int.reduceNeg, Int.reduceLE, Int.reduceLT, Int.reduceToNat, Int.reduceEq, reduceCtorEq, ld_z, ld_s, st1_0, st1_1, st1_s, st2_0, st2_1, st2_s, isJ_i, isJ_r, isJ_n, isJ_l, cs_nil, cs_i, cs_r, cs_l, kF, List.getElem?_cons_succ, List.getElem?_cons_zero, List.set_cons_zero, List.set_cons_succ, GC_s, GC_n, GK_nil, GK_no, GK_yes, not_false_eq_true, back_eq, back_hp, inI_eq, inA_eq, true_and, and_true, and_self, if_true, if_false, bI_0, bI_1, bI_in, bI_T, bI_F, fitF, jmpF, nlF, pjA, iVal.eta, iYr.eta, List.getElem?_toArray, List.length_cons, List.length_nil, true_or, or_true, or_false, false_or, Classical.not_not, Bool.false_eq_true, hp_2, Nat.zero_le, Nat.le_refl, Option.some.injEq, Sum.inl.injEq, Sum.inr.injEq, not_true_eq_false, true_implies, false_implies, implies_true, Int.le_refl, gX11_digitsBehind, dbV])
theorem bFc_b (hb : ∀ i : Int, 0 ≤ i → i < z → -128 ≤ l.getD i.toNat 0 ∧ l.getD i.toNat 0 ≤ 127) : -128 ≤ bFc l z i ∧ bFc l z i ≤ 127 := by
  unfold bFc
  by_cases c : 0 ≤ i ∧ i < z
  · rw [if_pos c]; exact hb i c.1 c.2
  · rw [if_neg c]; omega
theorem bFc_rFc (hb : ∀ i : Int, 0 ≤ i → i < z → -128 ≤ l.getD i.toNat 0 ∧ l.getD i.toNat 0 ≤ 127) (h0 : 0 ≤ i) {b : Int} (b0 : 0 < b) (b1 : b ≤ 127) : bFc l z i = b ↔ rFc l z i = b := by
  unfold bFc rFc
  by_cases c : i < z
  · rw [if_pos ⟨h0, c⟩, if_pos c]
    have := hb i h0 c
    unfold uF
    split <;> omega
  · rw [if_neg (fun y => c y.2), if_neg c]; omega
theorem byteAt_eq (hd : D < 8) (hc : celC A D) (hsz : 0 ≤ (A.sh D).sz ∧ (A.sh D).sz ≤ 100) (hl : (A.sh D).sz ≤ ((A.cel D).length : Int)) (hl2 : (A.cel D).length ≤ 1000) (ii : inI i = true) : Call sp sc (d + 1) mX5_byteAt [.inr (.inr (107 + 2 * D + 2)), .inl i] (hp A) Q = Q (some (.inl (bFc (A.cel D) (A.sh D).sz i))) (hp A) := Call_eq (by
  apply eX5_byteAt 40
  unfold bFc
  by_cases c : 0 ≤ i ∧ i < (A.sh D).sz
  · rw [if_pos c]
    have hh : ∀ Q, Call sp sc d mX5_hasPlace [.inr (.inr (107 + 2 * D + 2)), .inl i] (hp A) Q = Q (some (.inl 1)) (hp A) := fun Q => by rw [hasPlace_eq hd hsz ii, bI_t c]
    have ia : inA i (A.cel D).length = true := inA_of c.1 (by omega) hl2
    simp (disch := first | assumption | rfl | exact inI_of (by omega) (by omega) | omega | decide | (simp only [sv_ext, sv_mc, Nat.le_refl]; done) | with_unfolding_all (refine @id _ ?_; first | exact Eq.refl _ | exact Nat.le_refl _ | assumption)) only [Nat.reduceAdd, Nat.reduceMul, Nat.reduceLeDiff, Nat.reduceLT, Int.reduceAdd, Int.reduceSub, Int.reduceMul, Int.reduceNeg, Int.reduceLE, Int.reduceLT, Int.reduceToNat, Int.reduceEq, reduceCtorEq, ld_z, ld_s, st1_0, st1_1, st1_s, st2_0, st2_1, st2_s, isJ_i, isJ_r, isJ_n, isJ_l, cs_nil, cs_i, cs_r, cs_l, kF, List.getElem?_cons_succ, List.getElem?_cons_zero, List.set_cons_zero, List.set_cons_succ, GC_s, GC_n, GK_nil, GK_no, GK_yes, not_false_eq_true, back_eq, back_hp, inI_eq, inA_eq, true_and, and_true, and_self, if_true, if_false, bI_0, bI_1, bI_in, bI_T, bI_F, fitF, jmpF, nlF, pjA, iVal.eta, iYr.eta, List.getElem?_toArray, List.length_cons, List.length_nil, true_or, or_true, or_false, false_or, Classical.not_not, Bool.false_eq_true, hp_2, Nat.zero_le, Nat.le_refl, Option.some.injEq, Sum.inl.injEq, Sum.inr.injEq, not_true_eq_false, true_implies, false_implies, implies_true, Int.le_refl, gX5_byteAt, rd_s, hh, rd_c hd hc, ia]
  · rw [if_neg c]
    have hh : ∀ Q, Call sp sc d mX5_hasPlace [.inr (.inr (107 + 2 * D + 2)), .inl i] (hp A) Q = Q (some (.inl 0)) (hp A) := fun Q => by rw [hasPlace_eq hd hsz ii, bI_f c]
    simp (disch := first | assumption | rfl | exact inI_of (by omega) (by omega) | omega | decide | (simp only [sv_ext, sv_mc, Nat.le_refl]; done) | with_unfolding_all (refine @id _ ?_; first | exact Eq.refl _ | exact Nat.le_refl _ | assumption)) only [Nat.reduceAdd, Nat.reduceMul, Nat.reduceLeDiff, Nat.reduceLT, Int.reduceAdd, Int.reduceSub, Int.reduceMul, Int.reduceNeg, Int.reduceLE, Int.reduceLT, Int.reduceToNat, Int.reduceEq, reduceCtorEq, ld_z, ld_s, st1_0, st1_1, st1_s, st2_0, st2_1, st2_s, isJ_i, isJ_r, isJ_n, isJ_l, cs_nil, cs_i, cs_r, cs_l, kF, List.getElem?_cons_succ, List.getElem?_cons_zero, List.set_cons_zero, List.set_cons_succ, GC_s, GC_n, GK_nil, GK_no, GK_yes, not_false_eq_true, back_eq, back_hp, inI_eq, inA_eq, true_and, and_true, and_self, if_true, if_false, bI_0, bI_1, bI_in, bI_T, bI_F, fitF, jmpF, nlF, pjA, iVal.eta, iYr.eta, List.getElem?_toArray, List.length_cons, List.length_nil, true_or, or_true, or_false, false_or, Classical.not_not, Bool.false_eq_true, hp_2, Nat.zero_le, Nat.le_refl, Option.some.injEq, Sum.inl.injEq, Sum.inr.injEq, not_true_eq_false, true_implies, false_implies, implies_true, Int.le_refl, gX5_byteAt, rd_s, hh])
theorem digitAt_eq (hd : D < 8) (hc : celC A D) (hsz : 0 ≤ (A.sh D).sz ∧ (A.sh D).sz ≤ 100) (hl : (A.sh D).sz ≤ ((A.cel D).length : Int)) (hl2 : (A.cel D).length ≤ 1000) (ii : inI i = true) : Call sp sc (d + 2) mX5_digitAt [.inr (.inr (107 + 2 * D + 2)), .inl i] (hp A) Q = Q (some (.inl (bFc (A.cel D) (A.sh D).sz i - 48))) (hp A) := Call_eq (by
  have hb := fun Q => @byteAt_eq sp sc d A Q D i hd hc hsz hl hl2 ii
  apply eX5_digitAt 40
  simp (disch := first | assumption | rfl | exact inI_of (by omega) (by omega) | omega | decide | (simp only [sv_ext, sv_mc, Nat.le_refl]; done) | with_unfolding_all (refine @id _ ?_; first | exact Eq.refl _ | exact Nat.le_refl _ | assumption)) only [Nat.reduceAdd, Nat.reduceMul, Nat.reduceLeDiff, Nat.reduceLT, Int.reduceAdd, Int.reduceSub, Int.reduceMul, Int.reduceNeg, Int.reduceLE, Int.reduceLT, Int.reduceToNat, Int.reduceEq, reduceCtorEq, ld_z, ld_s, st1_0, st1_1, st1_s, st2_0, st2_1, st2_s, isJ_i, isJ_r, isJ_n, isJ_l, cs_nil, cs_i, cs_r, cs_l, kF, List.getElem?_cons_succ, List.getElem?_cons_zero, List.set_cons_zero, List.set_cons_succ, GC_s, GC_n, GK_nil, GK_no, GK_yes, not_false_eq_true, back_eq, back_hp, inI_eq, inA_eq, true_and, and_true, and_self, if_true, if_false, bI_0, bI_1, bI_in, bI_T, bI_F, fitF, jmpF, nlF, pjA, iVal.eta, iYr.eta, List.getElem?_toArray, List.length_cons, List.length_nil, true_or, or_true, or_false, false_or, Classical.not_not, Bool.false_eq_true, hp_2, Nat.zero_le, Nat.le_refl, Option.some.injEq, Sum.inl.injEq, Sum.inr.injEq, not_true_eq_false, true_implies, false_implies, implies_true, Int.le_refl, gX5_digitAt, rd_s, hb])
theorem here_eq (h0 : 0 ≤ A.mo.at_) (ha : A.mo.at_ ≤ 200) (hz : A.mo.re ≤ 100 ∧ 0 ≤ A.mo.re) (hr : A.mo.ra = 100 * (D : Int)) (hd : D < 8) (le : A.mo.el.length = 800) (hx : ∀ i : Int, 0 ≤ i → i < A.mo.re → A.mo.el.getD (100 * (D : Int) + i).toNat 0 = l.getD i.toNat 0) (hb : ∀ i : Int, 0 ≤ i → i < A.mo.re → -128 ≤ l.getD i.toNat 0 ∧ l.getD i.toNat 0 ≤ 127) : Call sp sc d mX12_here [.inr (.inr 140)] (hp A) Q = Q (some (.inl (rFc l A.mo.re A.mo.at_))) (hp A) := Call_eq (by
  have i1 : inI A.mo.at_ = true := inI_of (by omega) (by omega)
  have i2 : inI A.mo.re = true := inI_of (by omega) (by omega)
  apply eX12_here 40
  unfold rFc
  by_cases c : A.mo.at_ < A.mo.re
  · rw [if_pos c]
    have c2 : ¬ A.mo.re ≤ A.mo.at_ := by omega
    have b := hb _ h0 c
    have x := hx _ h0 c
    have ia : inA (100 * (D : Int) + A.mo.at_) 800 = true := inA_of (by omega) (by omega) (by omega)
    rw [← and_uF b.1 b.2, ← x]
    simp (disch := first | assumption | rfl | exact inI_of (by omega) (by omega) | omega | decide | (simp only [sv_ext, sv_mc, Nat.le_refl]; done) | with_unfolding_all (refine @id _ ?_; first | exact Eq.refl _ | exact Nat.le_refl _ | assumption)) only [Nat.reduceAdd, Nat.reduceMul, Nat.reduceLeDiff, Nat.reduceLT, Int.reduceAdd, Int.reduceSub, Int.reduceMul, Int.reduceNeg, Int.reduceLE, Int.reduceLT, Int.reduceToNat, Int.reduceEq, reduceCtorEq, ld_z, ld_s, st1_0, st1_1, st1_s, st2_0, st2_1, st2_s, isJ_i, isJ_r, isJ_n, isJ_l, cs_nil, cs_i, cs_r, cs_l, kF, List.getElem?_cons_succ, List.getElem?_cons_zero, List.set_cons_zero, List.set_cons_succ, GC_s, GC_n, GK_nil, GK_no, GK_yes, not_false_eq_true, back_eq, back_hp, inI_eq, inA_eq, true_and, and_true, and_self, if_true, if_false, bI_0, bI_1, bI_in, bI_T, bI_F, fitF, jmpF, nlF, pjA, iVal.eta, iYr.eta, List.getElem?_toArray, List.length_cons, List.length_nil, true_or, or_true, or_false, false_or, Classical.not_not, Bool.false_eq_true, hp_2, Nat.zero_le, Nat.le_refl, Option.some.injEq, Sum.inl.injEq, Sum.inr.injEq, not_true_eq_false, true_implies, false_implies, implies_true, Int.le_refl, gX12_here, rd_o, rd_o_el, hr, le, c2, i1, i2, ia]
  · rw [if_neg c]
    have c2 : A.mo.re ≤ A.mo.at_ := by omega
    simp (disch := first | assumption | rfl | exact inI_of (by omega) (by omega) | omega | decide | (simp only [sv_ext, sv_mc, Nat.le_refl]; done) | with_unfolding_all (refine @id _ ?_; first | exact Eq.refl _ | exact Nat.le_refl _ | assumption)) only [Nat.reduceAdd, Nat.reduceMul, Nat.reduceLeDiff, Nat.reduceLT, Int.reduceAdd, Int.reduceSub, Int.reduceMul, Int.reduceNeg, Int.reduceLE, Int.reduceLT, Int.reduceToNat, Int.reduceEq, reduceCtorEq, ld_z, ld_s, st1_0, st1_1, st1_s, st2_0, st2_1, st2_s, isJ_i, isJ_r, isJ_n, isJ_l, cs_nil, cs_i, cs_r, cs_l, kF, List.getElem?_cons_succ, List.getElem?_cons_zero, List.set_cons_zero, List.set_cons_succ, GC_s, GC_n, GK_nil, GK_no, GK_yes, not_false_eq_true, back_eq, back_hp, inI_eq, inA_eq, true_and, and_true, and_self, if_true, if_false, bI_0, bI_1, bI_in, bI_T, bI_F, fitF, jmpF, nlF, pjA, iVal.eta, iYr.eta, List.getElem?_toArray, List.length_cons, List.length_nil, true_or, or_true, or_false, false_or, Classical.not_not, Bool.false_eq_true, hp_2, Nat.zero_le, Nat.le_refl, Option.some.injEq, Sum.inl.injEq, Sum.inr.injEq, not_true_eq_false, true_implies, false_implies, implies_true, Int.le_refl, gX12_here, rd_o, c2, i1, i2])
end OPS
