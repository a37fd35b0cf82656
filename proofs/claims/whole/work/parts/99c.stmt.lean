set_option maxRecDepth 16384
/-! ===== valley: the digits of a statement; a one and a couple more in any valley of the class ===== -/
theorem ndF_full {l : List Int} {z : Int} : ∀ (q : Nat) (p : Int), ndF l z q p = p + q → ∀ j : Int, 0 ≤ j → j < q → 48 ≤ bFc l z (p + j) ∧ bFc l z (p + j) ≤ 57 := by
  intro q
  induction q with
  | zero => intro p h j h0 h1; omega
  | succ q ih =>
    intro p h j h0 h1
    unfold ndF at h
    by_cases c : 48 ≤ bFc l z p ∧ bFc l z p ≤ 57
    · rw [if_pos c] at h
      by_cases j0 : j = 0
      · have e : p + j = p := by omega
        rw [e]; exact c
      · have k := ih (p + 1) (by omega) (j - 1) (by omega) (by omega)
        have e : p + 1 + (j - 1) = p + j := by omega
        rw [e] at k; exact k
    · rw [if_neg c] at h; omega
theorem stm_dig {l : List Int} {z p k : Int} (hk : dbF (bFc l z p) = k) (es : stmF l z p = -1) (h0 : 0 ≤ p) : 0 ≤ k ∧ ∀ j : Int, 1 ≤ j → j < k + 1 → 0 ≤ bFc l z (p + j) - 48 ∧ bFc l z (p + j) - 48 ≤ 9 := by
  unfold stmF at es
  rw [hk] at es
  by_cases c : k < 0
  · rw [if_pos c] at es; omega
  · rw [if_neg c] at es
    by_cases c2 : ndF l z k.toNat (p + 1) = p + 1 + k ∧ bFc l z (p + 1 + k) = 59
    · refine ⟨by omega, fun j g0 g1 => ?_⟩
      have e : ((k.toNat : Nat) : Int) = k := by omega
      have f := ndF_full (l := l) (z := z) k.toNat (p + 1) (by rw [e]; exact c2.1) (j - 1) (by omega) (by omega)
      have e2 : p + 1 + (j - 1) = p + j := by omega
      rw [e2] at f
      omega
    · rw [if_neg c2] at es
      have := @ndF_b l z k.toNat (p + 1)
      omega
/-- what the numbers are behind a statement that is well formed -/
def nuOK (l : List Int) (z p : Int) (nu : List Int) : Prop :=
  ((bFc l z p = 97 ∨ bFc l z p = 99 ∨ bFc l z p = 109 ∨ bFc l z p = 119) → nu.getD 0 0 = bFc l z (p + 1) - 48 ∧ nu.getD 1 0 = bFc l z (p + 2) - 48) ∧
  ((bFc l z p = 115 ∨ bFc l z p = 121) → nu.getD 0 0 = 10 * (bFc l z (p + 1) - 48) + (bFc l z (p + 2) - 48)) ∧
  (bFc l z p = 100 → nu.getD 0 0 = bFc l z (p + 1) - 48 ∧ nu.getD 1 0 = bFc l z (p + 2) - 48 ∧ nu.getD 2 0 = bFc l z (p + 3) - 48) ∧
  (bFc l z p = 108 → nu.getD 0 0 = bFc l z (p + 1) - 48 ∧ nu.getD 1 0 = bFc l z (p + 2) - 48 ∧ nu.getD 2 0 = bFc l z (p + 3) - 48 ∧ nu.getD 3 0 = 10 * (bFc l z (p + 4) - 48) + (bFc l z (p + 5) - 48))
section OPS
variable {sp : Nat → List iV → iH → Option (Option iV × iH)} {sc : List Int} {d : Nat} {A A' : iA} {Q : Option iV → iH → Prop} {h : iH} {X : iVal} {D : Nat} {l nu nu2 : List Int} {z i x p p2 : Int} {w : iW}
theorem rs_ok (hH : okR A l z) (hb : okB l z) (h0 : 0 ≤ p) (h1 : p ≤ 150) (ln : nu.length = 4) : ∃ nu' : List Int, nu'.length = 4 ∧ (stmF l z p = -1 → nuOK l z p nu') ∧ ∀ Q, Call sp sc (d + 2) mX12_readsStatement [.inr (.inr 140)] (hp (A.sRd p nu)) Q = Q (some (.inl (rdR l z p))) (hp (A.sRd (rdP l z p) nu')) := by
  have e2 : p + 1 + 1 = p + 2 := by omega
  have e3 : p + 1 + 2 = p + 3 := by omega
  have e4 : p + 1 + 3 = p + 4 := by omega
  have e5 : p + 4 + 1 = p + 5 := by omega
  by_cases c : dbF (bFc l z p) = -1
  · have nn := dbF_non c
    exact ⟨nu, ln, fun _ => ⟨fun y => absurd y (by omega), fun y => absurd y (by omega), fun y => absurd y (by omega), fun y => absurd y (by omega)⟩, rs_none hH hb h0 h1 c⟩
  · rcases dbF_let c with y | y | y | y
    · obtain ⟨nu', a, v, b⟩ := @rs_like sp sc d A l nu z p hH hb h0 h1 ln y
      rw [e4, e5, e3, e2] at v
      exact ⟨nu', a, fun es => ⟨fun u => absurd u (by omega), fun u => absurd u (by omega), fun u => absurd u (by omega), fun _ => v es⟩, b⟩
    · obtain ⟨nu', a, v, b⟩ := @rs_dep sp sc d A l nu z p hH hb h0 h1 ln y
      rw [e3, e2] at v
      exact ⟨nu', a, fun es => ⟨fun u => absurd u (by omega), fun u => absurd u (by omega), fun _ => v es, fun u => absurd u (by omega)⟩, b⟩
    · obtain ⟨nu', a, v, b⟩ := @rs_two sp sc d A l nu z p hH hb h0 h1 ln y
      exact ⟨nu', a, fun es => ⟨fun _ => v es, fun u => absurd u (by omega), fun u => absurd u (by omega), fun u => absurd u (by omega)⟩, b⟩
    · obtain ⟨nu', a, v, b⟩ := @rs_day sp sc d A l nu z p hH hb h0 h1 ln y
      rw [e2] at v
      exact ⟨nu', a, fun es => ⟨fun u => absurd u (by omega), fun _ => v es, fun u => absurd u (by omega), fun u => absurd u (by omega)⟩, b⟩
theorem admitW_eq (hO : OkV (A.v w)) {s : Int} {x : Nat} (h0 : 0 ≤ s) (h1 : s < 2) (h2 : (A.v w).num s < 5) (hx : NatOK x) : Call sp sc (d + 1) mX8_admit [.inr (.inr (vb w + 2)), .inl s, .inr (.inr (x + 2))] (hp A) Q = Q (some (.inl ((A.v w).num s))) (hp (A.sv w ((A.v w).addO s x))) := Call_eq (by
  have nn := hO.num h0 h1
  have ta := asT_cls (nK_lt x)
  have ex : x + 1 + 1 = x + 2 := rfl
  apply eX8_admit 60
  simp (disch := first | assumption | rfl | exact inI_of (by omega) (by omega) | omega | decide | (simp only [sv_ext, sv_mc, Nat.le_refl]; done) | with_unfolding_all (refine @id _ ?_; first | exact Eq.refl _ | exact Nat.le_refl _ | assumption)) only [Nat.reduceAdd, Nat.reduceMul, Nat.reduceLeDiff, Nat.reduceLT, Int.reduceAdd, Int.reduceSub, Int.reduceMul, Int.reduceNeg, Int.reduceLE, Int.reduceLT, Int.reduceToNat, Int.reduceEq, reduceCtorEq, ld_z, ld_s, st1_0, st1_1, st1_s, st2_0, st2_1, st2_s, isJ_i, isJ_r, isJ_n, isJ_l, cs_nil, cs_i, cs_r, cs_l, kF, List.getElem?_cons_succ, List.getElem?_cons_zero, List.set_cons_zero, List.set_cons_succ, GC_s, GC_n, GK_nil, GK_no, GK_yes, not_false_eq_true, back_eq, back_hp, inI_eq, inA_eq, true_and, and_true, and_self, if_true, if_false, bI_0, bI_1, bI_in, bI_T, bI_F, fitF, jmpF, nlF, pjA, iVal.eta, iYr.eta, List.getElem?_toArray, List.length_cons, List.length_nil, true_or, or_true, or_false, false_or, Classical.not_not, Bool.false_eq_true, hp_2, Nat.zero_le, Nat.le_refl, Option.some.injEq, Sum.inl.injEq, Sum.inr.injEq, not_true_eq_false, true_implies, false_implies, implies_true, Int.le_refl, rd_v, f_num, f_lik, f_dep, f_bnd, f_man, f_wom, f_sta, f_dds, f_who, rd_e, v_now, hasOne_eq, hasTwo_eq, hasCouple_eq, orNone_eq, natureOf_eq, rd_nat, place_eq, rd_v1, rd_v3, rd_v4, rd_v6, rd_v7, rd_v8, rd_v9, rd_v10, isShelf_eq, isSide_eq, isDeed_eq, isKind_eq, isMindSpan_eq, gX8_admit, h2, hO.lon, hO.lna, ex, ta, rd_v2, wr_v1, wr_v2, sv_v, sv_sv]
  rfl)
theorem admitW_full (hO : OkV (A.v w)) {s : Int} {x : Nat} (h0 : 0 ≤ s) (h1 : s < 2) (h2 : ¬ (A.v w).num s < 5) : Call sp sc (d + 1) mX8_admit [.inr (.inr (vb w + 2)), .inl s, .inr (.inr (x + 2))] (hp A) Q = Q (some (.inl (-2))) (hp A) := Call_eq (by
  have nn := hO.num h0 h1
  apply eX8_admit 60
  simp (disch := first | assumption | rfl | exact inI_of (by omega) (by omega) | omega | decide | (simp only [sv_ext, sv_mc, Nat.le_refl]; done) | with_unfolding_all (refine @id _ ?_; first | exact Eq.refl _ | exact Nat.le_refl _ | assumption)) only [Nat.reduceAdd, Nat.reduceMul, Nat.reduceLeDiff, Nat.reduceLT, Int.reduceAdd, Int.reduceSub, Int.reduceMul, Int.reduceNeg, Int.reduceLE, Int.reduceLT, Int.reduceToNat, Int.reduceEq, reduceCtorEq, ld_z, ld_s, st1_0, st1_1, st1_s, st2_0, st2_1, st2_s, isJ_i, isJ_r, isJ_n, isJ_l, cs_nil, cs_i, cs_r, cs_l, kF, List.getElem?_cons_succ, List.getElem?_cons_zero, List.set_cons_zero, List.set_cons_succ, GC_s, GC_n, GK_nil, GK_no, GK_yes, not_false_eq_true, back_eq, back_hp, inI_eq, inA_eq, true_and, and_true, and_self, if_true, if_false, bI_0, bI_1, bI_in, bI_T, bI_F, fitF, jmpF, nlF, pjA, iVal.eta, iYr.eta, List.getElem?_toArray, List.length_cons, List.length_nil, true_or, or_true, or_false, false_or, Classical.not_not, Bool.false_eq_true, hp_2, Nat.zero_le, Nat.le_refl, Option.some.injEq, Sum.inl.injEq, Sum.inr.injEq, not_true_eq_false, true_implies, false_implies, implies_true, Int.le_refl, rd_v, f_num, f_lik, f_dep, f_bnd, f_man, f_wom, f_sta, f_dds, f_who, rd_e, v_now, hasOne_eq, hasTwo_eq, hasCouple_eq, orNone_eq, natureOf_eq, rd_nat, place_eq, rd_v1, rd_v3, rd_v4, rd_v6, rd_v7, rd_v8, rd_v9, rd_v10, isShelf_eq, isSide_eq, isDeed_eq, isKind_eq, isMindSpan_eq, gX8_admit, hO.lon, h2])
theorem pairW_st (hO : OkV (A.v w)) {m v : Int} (c1 : 0 ≤ m ∧ m < (A.v w).num 0) (c2 : 0 ≤ v ∧ v < (A.v w).num 1) (k1 : (A.v w).pairF m v (A.v w).cp.toNat 0 = 1 → Q (some (.inl (-3))) (hp A)) (k0 : (A.v w).pairF m v (A.v w).cp.toNat 0 = 0 → Run sp sc (d + 2) mX8_pair 22 [some (.inr (.inr (vb w + 2))), some (.inl m), some (.inl v), some (.inl (A.v w).cp)] [] (hp A) Q) : Call sp sc (d + 2) mX8_pair [.inr (.inr (vb w + 2)), .inl m, .inl v] (hp A) Q := by
  have d0 : (0 : Int) ≤ 0 ∧ (0 : Int) < 2 := by omega
  have d1 : (0 : Int) ≤ 1 ∧ (1 : Int) < 2 := by omega
  have n0 := hO.n0
  have n1 := hO.n1
  have hcp := hO.cp
  have im : inI m = true := inI_of (by omega) (by omega)
  have iv : inI v = true := inI_of (by omega) (by omega)
  apply eX8_pair 60; simp (disch := first | assumption | rfl | exact inI_of (by omega) (by omega) | omega | decide | (simp only [sv_ext, sv_mc, Nat.le_refl]; done) | with_unfolding_all (refine @id _ ?_; first | exact Eq.refl _ | exact Nat.le_refl _ | assumption)) only [Nat.reduceAdd, Nat.reduceMul, Nat.reduceLeDiff, Nat.reduceLT, Int.reduceAdd, Int.reduceSub, Int.reduceMul, Int.reduceNeg, Int.reduceLE, Int.reduceLT, Int.reduceToNat, Int.reduceEq, reduceCtorEq, ld_z, ld_s, st1_0, st1_1, st1_s, st2_0, st2_1, st2_s, isJ_i, isJ_r, isJ_n, isJ_l, cs_nil, cs_i, cs_r, cs_l, kF, List.getElem?_cons_succ, List.getElem?_cons_zero, List.set_cons_zero, List.set_cons_succ, GC_s, GC_n, GK_nil, GK_no, GK_yes, not_false_eq_true, back_eq, back_hp, inI_eq, inA_eq, true_and, and_true, and_self, if_true, if_false, bI_0, bI_1, bI_in, bI_T, bI_F, fitF, jmpF, nlF, pjA, iVal.eta, iYr.eta, List.getElem?_toArray, List.length_cons, List.length_nil, true_or, or_true, or_false, false_or, Classical.not_not, Bool.false_eq_true, hp_2, Nat.zero_le, Nat.le_refl, Option.some.injEq, Sum.inl.injEq, Sum.inr.injEq, not_true_eq_false, true_implies, false_implies, implies_true, Int.le_refl, rd_v, f_num, f_lik, f_dep, f_bnd, f_man, f_wom, f_sta, f_dds, f_who, rd_e, v_now, hasOne_eq, hasTwo_eq, hasCouple_eq, orNone_eq, natureOf_eq, rd_nat, place_eq, rd_v1, rd_v3, rd_v4, rd_v6, rd_v7, rd_v8, rd_v9, rd_v10, isShelf_eq, isSide_eq, isDeed_eq, isKind_eq, isMindSpan_eq, gX8_pair, d0, d1, c1, c2]
  exact pair_loop hO im iv (A.v w).cp.toNat 0 (by omega) (by omega) k1 k0
/-- the two can be a couple -/
def iVal.can (X : iVal) (m v : Int) : Prop := (0 ≤ m ∧ m < X.num 0) ∧ (0 ≤ v ∧ v < X.num 1) ∧ X.bnd 0 m = -1 ∧ X.bnd 1 v = -1 ∧ X.pairF m v X.cp.toNat 0 = 0 ∧ X.cp < 4
theorem pairW_no (hO : OkV (A.v w)) {m v : Int} (im : inI m = true) (iv : inI v = true) (hn : ¬ (A.v w).can m v) : ∃ r : Int, r < 0 ∧ -5 < r ∧ ∀ Q, Call sp sc (d + 2) mX8_pair [.inr (.inr (vb w + 2)), .inl m, .inl v] (hp A) Q = Q (some (.inl r)) (hp A) := by
  have d0 : (0 : Int) ≤ 0 ∧ (0 : Int) < 2 := by omega
  have d1 : (0 : Int) ≤ 1 ∧ (1 : Int) < 2 := by omega
  have n0 := hO.n0
  have n1 := hO.n1
  have hcp := hO.cp
  by_cases c1 : 0 ≤ m ∧ m < (A.v w).num 0
  · by_cases c2 : 0 ≤ v ∧ v < (A.v w).num 1
    · have P := @pairF_b (A.v w) m v (A.v w).cp.toNat 0
      have b0 := bnd_ge hO (s := 0) (k := m) (by omega) (by omega) c1.1 (by omega)
      have b1 := bnd_ge hO (s := 1) (k := v) (by omega) (by omega) c2.1 (by omega)
      by_cases p : (A.v w).pairF m v (A.v w).cp.toNat 0 = 1
      · exact ⟨-3, by omega, by omega, fun Q => Call_eq (pairW_st hO c1 c2 (fun _ => ⟨rfl, rfl⟩) (fun y => absurd y (by omega)))⟩
      · have p0 : (A.v w).pairF m v (A.v w).cp.toNat 0 = 0 := by omega
        by_cases q0 : (A.v w).bnd 0 m = -1
        · by_cases q1 : (A.v w).bnd 1 v = -1
          · have f2 : ¬ (A.v w).cp < 4 := fun y => hn ⟨c1, c2, q0, q1, p0, y⟩
            refine ⟨-2, by omega, by omega, fun Q => Call_eq (pairW_st hO c1 c2 (fun y => absurd y p) (fun _ => ?_))⟩
            refine G_run (B := [22]) 60 _ _ _ _ ?_
            simp (disch := first | assumption | rfl | exact inI_of (by omega) (by omega) | omega | decide | (simp only [sv_ext, sv_mc, Nat.le_refl]; done) | with_unfolding_all (refine @id _ ?_; first | exact Eq.refl _ | exact Nat.le_refl _ | assumption)) only [Nat.reduceAdd, Nat.reduceMul, Nat.reduceLeDiff, Nat.reduceLT, Int.reduceAdd, Int.reduceSub, Int.reduceMul, Int.reduceNeg, Int.reduceLE, Int.reduceLT, Int.reduceToNat, Int.reduceEq, reduceCtorEq, ld_z, ld_s, st1_0, st1_1, st1_s, st2_0, st2_1, st2_s, isJ_i, isJ_r, isJ_n, isJ_l, cs_nil, cs_i, cs_r, cs_l, kF, List.getElem?_cons_succ, List.getElem?_cons_zero, List.set_cons_zero, List.set_cons_succ, GC_s, GC_n, GK_nil, GK_no, GK_yes, not_false_eq_true, back_eq, back_hp, inI_eq, inA_eq, true_and, and_true, and_self, if_true, if_false, bI_0, bI_1, bI_in, bI_T, bI_F, fitF, jmpF, nlF, pjA, iVal.eta, iYr.eta, List.getElem?_toArray, List.length_cons, List.length_nil, true_or, or_true, or_false, false_or, Classical.not_not, Bool.false_eq_true, hp_2, Nat.zero_le, Nat.le_refl, Option.some.injEq, Sum.inl.injEq, Sum.inr.injEq, not_true_eq_false, true_implies, false_implies, implies_true, Int.le_refl, rd_v, f_num, f_lik, f_dep, f_bnd, f_man, f_wom, f_sta, f_dds, f_who, rd_e, v_now, hasOne_eq, hasTwo_eq, hasCouple_eq, orNone_eq, natureOf_eq, rd_nat, place_eq, rd_v1, rd_v3, rd_v4, rd_v6, rd_v7, rd_v8, rd_v9, rd_v10, isShelf_eq, isSide_eq, isDeed_eq, isKind_eq, isMindSpan_eq, gX8_pair, isBound_eq, Int.le_refl, eq_true q0, eq_true q1, f2]
          · refine ⟨-3, by omega, by omega, fun Q => Call_eq (pairW_st hO c1 c2 (fun y => absurd y p) (fun _ => ?_))⟩
            refine G_run (B := [22]) 60 _ _ _ _ ?_
            simp (disch := first | assumption | rfl | exact inI_of (by omega) (by omega) | omega | decide | (simp only [sv_ext, sv_mc, Nat.le_refl]; done) | with_unfolding_all (refine @id _ ?_; first | exact Eq.refl _ | exact Nat.le_refl _ | assumption)) only [Nat.reduceAdd, Nat.reduceMul, Nat.reduceLeDiff, Nat.reduceLT, Int.reduceAdd, Int.reduceSub, Int.reduceMul, Int.reduceNeg, Int.reduceLE, Int.reduceLT, Int.reduceToNat, Int.reduceEq, reduceCtorEq, ld_z, ld_s, st1_0, st1_1, st1_s, st2_0, st2_1, st2_s, isJ_i, isJ_r, isJ_n, isJ_l, cs_nil, cs_i, cs_r, cs_l, kF, List.getElem?_cons_succ, List.getElem?_cons_zero, List.set_cons_zero, List.set_cons_succ, GC_s, GC_n, GK_nil, GK_no, GK_yes, not_false_eq_true, back_eq, back_hp, inI_eq, inA_eq, true_and, and_true, and_self, if_true, if_false, bI_0, bI_1, bI_in, bI_T, bI_F, fitF, jmpF, nlF, pjA, iVal.eta, iYr.eta, List.getElem?_toArray, List.length_cons, List.length_nil, true_or, or_true, or_false, false_or, Classical.not_not, Bool.false_eq_true, hp_2, Nat.zero_le, Nat.le_refl, Option.some.injEq, Sum.inl.injEq, Sum.inr.injEq, not_true_eq_false, true_implies, false_implies, implies_true, Int.le_refl, rd_v, f_num, f_lik, f_dep, f_bnd, f_man, f_wom, f_sta, f_dds, f_who, rd_e, v_now, hasOne_eq, hasTwo_eq, hasCouple_eq, orNone_eq, natureOf_eq, rd_nat, place_eq, rd_v1, rd_v3, rd_v4, rd_v6, rd_v7, rd_v8, rd_v9, rd_v10, isShelf_eq, isSide_eq, isDeed_eq, isKind_eq, isMindSpan_eq, gX8_pair, isBound_eq, Int.le_refl, eq_true q0, q1]
        · refine ⟨-3, by omega, by omega, fun Q => Call_eq (pairW_st hO c1 c2 (fun y => absurd y p) (fun _ => ?_))⟩
          refine G_run (B := [22]) 60 _ _ _ _ ?_
          simp (disch := first | assumption | rfl | exact inI_of (by omega) (by omega) | omega | decide | (simp only [sv_ext, sv_mc, Nat.le_refl]; done) | with_unfolding_all (refine @id _ ?_; first | exact Eq.refl _ | exact Nat.le_refl _ | assumption)) only [Nat.reduceAdd, Nat.reduceMul, Nat.reduceLeDiff, Nat.reduceLT, Int.reduceAdd, Int.reduceSub, Int.reduceMul, Int.reduceNeg, Int.reduceLE, Int.reduceLT, Int.reduceToNat, Int.reduceEq, reduceCtorEq, ld_z, ld_s, st1_0, st1_1, st1_s, st2_0, st2_1, st2_s, isJ_i, isJ_r, isJ_n, isJ_l, cs_nil, cs_i, cs_r, cs_l, kF, List.getElem?_cons_succ, List.getElem?_cons_zero, List.set_cons_zero, List.set_cons_succ, GC_s, GC_n, GK_nil, GK_no, GK_yes, not_false_eq_true, back_eq, back_hp, inI_eq, inA_eq, true_and, and_true, and_self, if_true, if_false, bI_0, bI_1, bI_in, bI_T, bI_F, fitF, jmpF, nlF, pjA, iVal.eta, iYr.eta, List.getElem?_toArray, List.length_cons, List.length_nil, true_or, or_true, or_false, false_or, Classical.not_not, Bool.false_eq_true, hp_2, Nat.zero_le, Nat.le_refl, Option.some.injEq, Sum.inl.injEq, Sum.inr.injEq, not_true_eq_false, true_implies, false_implies, implies_true, Int.le_refl, rd_v, f_num, f_lik, f_dep, f_bnd, f_man, f_wom, f_sta, f_dds, f_who, rd_e, v_now, hasOne_eq, hasTwo_eq, hasCouple_eq, orNone_eq, natureOf_eq, rd_nat, place_eq, rd_v1, rd_v3, rd_v4, rd_v6, rd_v7, rd_v8, rd_v9, rd_v10, isShelf_eq, isSide_eq, isDeed_eq, isKind_eq, isMindSpan_eq, gX8_pair, isBound_eq, Int.le_refl, q0]
    · refine ⟨-1, by omega, by omega, fun Q => Call_eq ?_⟩
      apply eX8_pair 60; simp (disch := first | assumption | rfl | exact inI_of (by omega) (by omega) | omega | decide | (simp only [sv_ext, sv_mc, Nat.le_refl]; done) | with_unfolding_all (refine @id _ ?_; first | exact Eq.refl _ | exact Nat.le_refl _ | assumption)) only [Nat.reduceAdd, Nat.reduceMul, Nat.reduceLeDiff, Nat.reduceLT, Int.reduceAdd, Int.reduceSub, Int.reduceMul, Int.reduceNeg, Int.reduceLE, Int.reduceLT, Int.reduceToNat, Int.reduceEq, reduceCtorEq, ld_z, ld_s, st1_0, st1_1, st1_s, st2_0, st2_1, st2_s, isJ_i, isJ_r, isJ_n, isJ_l, cs_nil, cs_i, cs_r, cs_l, kF, List.getElem?_cons_succ, List.getElem?_cons_zero, List.set_cons_zero, List.set_cons_succ, GC_s, GC_n, GK_nil, GK_no, GK_yes, not_false_eq_true, back_eq, back_hp, inI_eq, inA_eq, true_and, and_true, and_self, if_true, if_false, bI_0, bI_1, bI_in, bI_T, bI_F, fitF, jmpF, nlF, pjA, iVal.eta, iYr.eta, List.getElem?_toArray, List.length_cons, List.length_nil, true_or, or_true, or_false, false_or, Classical.not_not, Bool.false_eq_true, hp_2, Nat.zero_le, Nat.le_refl, Option.some.injEq, Sum.inl.injEq, Sum.inr.injEq, not_true_eq_false, true_implies, false_implies, implies_true, Int.le_refl, rd_v, f_num, f_lik, f_dep, f_bnd, f_man, f_wom, f_sta, f_dds, f_who, rd_e, v_now, hasOne_eq, hasTwo_eq, hasCouple_eq, orNone_eq, natureOf_eq, rd_nat, place_eq, rd_v1, rd_v3, rd_v4, rd_v6, rd_v7, rd_v8, rd_v9, rd_v10, isShelf_eq, isSide_eq, isDeed_eq, isKind_eq, isMindSpan_eq, gX8_pair, d0, d1, c1, c2]
  · refine ⟨-1, by omega, by omega, fun Q => Call_eq ?_⟩
    apply eX8_pair 60; simp (disch := first | assumption | rfl | exact inI_of (by omega) (by omega) | omega | decide | (simp only [sv_ext, sv_mc, Nat.le_refl]; done) | with_unfolding_all (refine @id _ ?_; first | exact Eq.refl _ | exact Nat.le_refl _ | assumption)) only [Nat.reduceAdd, Nat.reduceMul, Nat.reduceLeDiff, Nat.reduceLT, Int.reduceAdd, Int.reduceSub, Int.reduceMul, Int.reduceNeg, Int.reduceLE, Int.reduceLT, Int.reduceToNat, Int.reduceEq, reduceCtorEq, ld_z, ld_s, st1_0, st1_1, st1_s, st2_0, st2_1, st2_s, isJ_i, isJ_r, isJ_n, isJ_l, cs_nil, cs_i, cs_r, cs_l, kF, List.getElem?_cons_succ, List.getElem?_cons_zero, List.set_cons_zero, List.set_cons_succ, GC_s, GC_n, GK_nil, GK_no, GK_yes, not_false_eq_true, back_eq, back_hp, inI_eq, inA_eq, true_and, and_true, and_self, if_true, if_false, bI_0, bI_1, bI_in, bI_T, bI_F, fitF, jmpF, nlF, pjA, iVal.eta, iYr.eta, List.getElem?_toArray, List.length_cons, List.length_nil, true_or, or_true, or_false, false_or, Classical.not_not, Bool.false_eq_true, hp_2, Nat.zero_le, Nat.le_refl, Option.some.injEq, Sum.inl.injEq, Sum.inr.injEq, not_true_eq_false, true_implies, false_implies, implies_true, Int.le_refl, rd_v, f_num, f_lik, f_dep, f_bnd, f_man, f_wom, f_sta, f_dds, f_who, rd_e, v_now, hasOne_eq, hasTwo_eq, hasCouple_eq, orNone_eq, natureOf_eq, rd_nat, place_eq, rd_v1, rd_v3, rd_v4, rd_v6, rd_v7, rd_v8, rd_v9, rd_v10, isShelf_eq, isSide_eq, isDeed_eq, isKind_eq, isMindSpan_eq, gX8_pair, d0, d1, c1]
theorem pairW_ok (hO : OkV (A.v w)) {m v : Int} (hc : (A.v w).can m v) : Call sp sc (d + 2) mX8_pair [.inr (.inr (vb w + 2)), .inl m, .inl v] (hp A) Q = Q (some (.inl (A.v w).cp)) (hp (A.sv w ((A.v w).addC m v))) := Call_eq (by
  have n0 := hO.n0
  have n1 := hO.n1
  have hcp := hO.cp
  obtain ⟨c1, c2, q0, q1, p0, f1⟩ := hc
  refine pairW_st hO c1 c2 (fun y => absurd y (by omega)) (fun _ => ?_)
  refine G_run (B := [22]) 90 _ _ _ _ ?_
  have e1 : (A.v w).cp + 1 - 1 = (A.v w).cp := by omega
  simp (disch := first | assumption | rfl | exact inI_of (by omega) (by omega) | omega | decide | (simp only [sv_ext, sv_mc, Nat.le_refl]; done) | with_unfolding_all (refine @id _ ?_; first | exact Eq.refl _ | exact Nat.le_refl _ | assumption)) only [Nat.reduceAdd, Nat.reduceMul, Nat.reduceLeDiff, Nat.reduceLT, Int.reduceAdd, Int.reduceSub, Int.reduceMul, Int.reduceNeg, Int.reduceLE, Int.reduceLT, Int.reduceToNat, Int.reduceEq, reduceCtorEq, ld_z, ld_s, st1_0, st1_1, st1_s, st2_0, st2_1, st2_s, isJ_i, isJ_r, isJ_n, isJ_l, cs_nil, cs_i, cs_r, cs_l, kF, List.getElem?_cons_succ, List.getElem?_cons_zero, List.set_cons_zero, List.set_cons_succ, GC_s, GC_n, GK_nil, GK_no, GK_yes, not_false_eq_true, back_eq, back_hp, inI_eq, inA_eq, true_and, and_true, and_self, if_true, if_false, bI_0, bI_1, bI_in, bI_T, bI_F, fitF, jmpF, nlF, pjA, iVal.eta, iYr.eta, List.getElem?_toArray, List.length_cons, List.length_nil, true_or, or_true, or_false, false_or, Classical.not_not, Bool.false_eq_true, hp_2, Nat.zero_le, Nat.le_refl, Option.some.injEq, Sum.inl.injEq, Sum.inr.injEq, not_true_eq_false, true_implies, false_implies, implies_true, Int.le_refl, rd_v, f_num, f_lik, f_dep, f_bnd, f_man, f_wom, f_sta, f_dds, f_who, rd_e, v_now, hasOne_eq, hasTwo_eq, hasCouple_eq, orNone_eq, natureOf_eq, rd_nat, place_eq, rd_v1, rd_v3, rd_v4, rd_v6, rd_v7, rd_v8, rd_v9, rd_v10, isShelf_eq, isSide_eq, isDeed_eq, isKind_eq, isMindSpan_eq, gX8_pair, isBound_eq, Int.le_refl, eq_true q0, eq_true q1, f1, hO.lme, hO.lwo, wr_v, wr_v6, wr_v7, sv_v, sv_sv, e1, List.length_set]
  rfl)
end OPS
