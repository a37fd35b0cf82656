set_option maxRecDepth 16384
/-! ===== a valley: loops ===== -/
section VAL
variable {sp : Nat → List iV → iH → Option (Option iV × iH)} {sc : List Int} {d : Nat} {A : iA} {w : iW} {Q : Option iV → iH → Prop}
def iVal.ownF (X : iVal) (a b : Int) : Nat → Int → Int
  | 0, _ => 0
  | k + 1, c => if X.sta c = 0 ∧ X.man c = a ∧ X.wom c = b then 1 else X.ownF a b k (c + 1)
theorem areOwn_loop (hO : OkV (A.v w)) {a b : Int} (ha : inI a = true) (hb : inI b = true) : ∀ (k : Nat) (c : Int), 0 ≤ c → c + k = (A.v w).cp → Q (some (.inl ((A.v w).ownF a b k c))) (hp A) → Run sp sc (d + 1) mX8_areOwn 2 [some (.inr (.inr (vb w + 2))), some (.inl a), some (.inl b), some (.inl c)] [] (hp A) Q := by
  have hcp := hO.cp
  intro k
  induction k with
  | zero =>
    intro c h0 h1 hq
    refine G_run (B := [2]) 40 _ _ _ _ ?_
    have e : (A.v w).cp ≤ c := by omega
    simp (disch := first | assumption | rfl | exact inI_of (by omega) (by omega) | omega | decide | (simp only [sv_ext, sv_mc, Nat.le_refl]; done) | with_unfolding_all (refine @id _ ?_; first | exact Eq.refl _ | exact Nat.le_refl _ | assumption)) only [Nat.reduceAdd, Nat.reduceMul, Nat.reduceLeDiff, Nat.reduceLT, Int.reduceAdd, Int.reduceSub, Int.reduceMul, Int.reduceNeg, Int.reduceLE, Int.reduceLT, Int.reduceToNat, Int.reduceEq, reduceCtorEq, ld_z, ld_s, st1_0, st1_1, st1_s, st2_0, st2_1, st2_s, isJ_i, isJ_r, isJ_n, isJ_l, cs_nil, cs_i, cs_r, cs_l, kF, List.getElem?_cons_succ, List.getElem?_cons_zero, List.set_cons_zero, List.set_cons_succ, GC_s, GC_n, GK_nil, GK_no, GK_yes, not_false_eq_true, back_eq, back_hp, inI_eq, inA_eq, true_and, and_true, and_self, if_true, if_false, bI_0, bI_1, bI_in, bI_T, bI_F, fitF, jmpF, nlF, pjA, iVal.eta, iYr.eta, List.getElem?_toArray, List.length_cons, List.length_nil, true_or, or_true, or_false, false_or, Classical.not_not, Bool.false_eq_true, hp_2, Nat.zero_le, Nat.le_refl, Option.some.injEq, Sum.inl.injEq, Sum.inr.injEq, not_true_eq_false, true_implies, false_implies, implies_true, gX8_areOwn, rd_v, e]
    exact hq
  | succ k ih =>
    intro c h0 h1 hq
    refine G_run (B := [2]) 40 _ _ _ _ ?_
    have e : ¬ (A.v w).cp ≤ c := by omega
    have e1 := hO.man c (by omega) (by omega)
    have e2 := hO.wom c (by omega) (by omega)
    have n0 := hO.n0
    have n1 := hO.n1
    have ih := ih (c + 1) (by omega) (by omega)
    unfold iVal.ownF at hq
    simp (disch := first | assumption | rfl | exact inI_of (by omega) (by omega) | omega | decide | (simp only [sv_ext, sv_mc, Nat.le_refl]; done) | with_unfolding_all (refine @id _ ?_; first | exact Eq.refl _ | exact Nat.le_refl _ | assumption)) only [Nat.reduceAdd, Nat.reduceMul, Nat.reduceLeDiff, Nat.reduceLT, Int.reduceAdd, Int.reduceSub, Int.reduceMul, Int.reduceNeg, Int.reduceLE, Int.reduceLT, Int.reduceToNat, Int.reduceEq, reduceCtorEq, ld_z, ld_s, st1_0, st1_1, st1_s, st2_0, st2_1, st2_s, isJ_i, isJ_r, isJ_n, isJ_l, cs_nil, cs_i, cs_r, cs_l, kF, List.getElem?_cons_succ, List.getElem?_cons_zero, List.set_cons_zero, List.set_cons_succ, GC_s, GC_n, GK_nil, GK_no, GK_yes, not_false_eq_true, back_eq, back_hp, inI_eq, inA_eq, true_and, and_true, and_self, if_true, if_false, bI_0, bI_1, bI_in, bI_T, bI_F, fitF, jmpF, nlF, pjA, iVal.eta, iYr.eta, List.getElem?_toArray, List.length_cons, List.length_nil, true_or, or_true, or_false, false_or, Classical.not_not, Bool.false_eq_true, hp_2, Nat.zero_le, Nat.le_refl, Option.some.injEq, Sum.inl.injEq, Sum.inr.injEq, not_true_eq_false, true_implies, false_implies, implies_true, rd_v, f_num, f_lik, f_dep, f_bnd, f_man, f_wom, f_sta, f_dds, f_who, gX8_areOwn, goesOn_eq, rd_v6, rd_v7, hO.lme, hO.lwo, e]
    ((repeat' first | intro _ | refine And.intro ?_ ?_) <;> first | exact hq | exact ih hq | (rw [if_pos (by omega)] at hq; first | exact hq | exact ih hq) | (rw [if_neg (by omega)] at hq; first | exact hq | exact ih hq) | (first | assumption | exact inI_of (by omega) (by omega) | exact inA_of (by omega) (by omega) (by omega) | exact (bI_f (by omega)).symm | exact (bI_t (by omega)).symm | exact bI_f (by omega) | exact bI_t (by omega) | omega | rfl | (simp; done)))
theorem ownF_b {X : iVal} {a b : Int} (k : Nat) (c : Int) : X.ownF a b k c = 0 ∨ X.ownF a b k c = 1 := by
  induction k generalizing c with
  | zero => left; rfl
  | succ k ih => unfold iVal.ownF; split; right; rfl; exact ih _
def iVal.own (X : iVal) (a b : Int) : Int := X.ownF a b X.cp.toNat 0
theorem areOwn_eq (hO : OkV (A.v w)) {a b : Int} (ha : inI a = true) (hb : inI b = true) : Call sp sc (d + 1) mX8_areOwn [.inr (.inr (vb w + 2)), .inl a, .inl b] (hp A) Q = Q (some (.inl ((A.v w).own a b))) (hp A) := Call_eq (by
  have := hO.cp
  apply eX8_areOwn 40; simp (disch := first | assumption | rfl | exact inI_of (by omega) (by omega) | omega | decide | (simp only [sv_ext, sv_mc, Nat.le_refl]; done) | with_unfolding_all (refine @id _ ?_; first | exact Eq.refl _ | exact Nat.le_refl _ | assumption)) only [Nat.reduceAdd, Nat.reduceMul, Nat.reduceLeDiff, Nat.reduceLT, Int.reduceAdd, Int.reduceSub, Int.reduceMul, Int.reduceNeg, Int.reduceLE, Int.reduceLT, Int.reduceToNat, Int.reduceEq, reduceCtorEq, ld_z, ld_s, st1_0, st1_1, st1_s, st2_0, st2_1, st2_s, isJ_i, isJ_r, isJ_n, isJ_l, cs_nil, cs_i, cs_r, cs_l, kF, List.getElem?_cons_succ, List.getElem?_cons_zero, List.set_cons_zero, List.set_cons_succ, GC_s, GC_n, GK_nil, GK_no, GK_yes, not_false_eq_true, back_eq, back_hp, inI_eq, inA_eq, true_and, and_true, and_self, if_true, if_false, bI_0, bI_1, bI_in, bI_T, bI_F, fitF, jmpF, nlF, pjA, iVal.eta, iYr.eta, List.getElem?_toArray, List.length_cons, List.length_nil, true_or, or_true, or_false, false_or, Classical.not_not, Bool.false_eq_true, hp_2, Nat.zero_le, Nat.le_refl, Option.some.injEq, Sum.inl.injEq, Sum.inr.injEq, not_true_eq_false, true_implies, false_implies, implies_true, gX8_areOwn]
  refine areOwn_loop hO ha hb (A.v w).cp.toNat 0 (by omega) (by omega) ⟨rfl, rfl⟩)
def iVal.manyF (X : iVal) (z : Int) : Nat → Int → Int → Int
  | 0, _, n => n
  | k + 1, c, n => if X.sta c = z then X.manyF z k (c + 1) (n + 1) else X.manyF z k (c + 1) n
theorem howMany_loop (hO : OkV (A.v w)) {z : Int} (hz : inI z = true) : ∀ (k : Nat) (c n : Int), 0 ≤ c → c + k = (A.v w).cp → Q (some (.inl ((A.v w).manyF z k c n))) (hp A) → Run sp sc d mX8_howMany 4 [some (.inr (.inr (vb w + 2))), some (.inl z), some (.inl n), some (.inl c)] [] (hp A) Q := by
  have hcp := hO.cp
  intro k
  induction k with
  | zero =>
    intro c n h0 h1 hq
    refine G_run (B := [4]) 40 _ _ _ _ ?_
    have e : (A.v w).cp ≤ c := by omega
    simp (disch := first | assumption | rfl | exact inI_of (by omega) (by omega) | omega | decide | (simp only [sv_ext, sv_mc, Nat.le_refl]; done) | with_unfolding_all (refine @id _ ?_; first | exact Eq.refl _ | exact Nat.le_refl _ | assumption)) only [Nat.reduceAdd, Nat.reduceMul, Nat.reduceLeDiff, Nat.reduceLT, Int.reduceAdd, Int.reduceSub, Int.reduceMul, Int.reduceNeg, Int.reduceLE, Int.reduceLT, Int.reduceToNat, Int.reduceEq, reduceCtorEq, ld_z, ld_s, st1_0, st1_1, st1_s, st2_0, st2_1, st2_s, isJ_i, isJ_r, isJ_n, isJ_l, cs_nil, cs_i, cs_r, cs_l, kF, List.getElem?_cons_succ, List.getElem?_cons_zero, List.set_cons_zero, List.set_cons_succ, GC_s, GC_n, GK_nil, GK_no, GK_yes, not_false_eq_true, back_eq, back_hp, inI_eq, inA_eq, true_and, and_true, and_self, if_true, if_false, bI_0, bI_1, bI_in, bI_T, bI_F, fitF, jmpF, nlF, pjA, iVal.eta, iYr.eta, List.getElem?_toArray, List.length_cons, List.length_nil, true_or, or_true, or_false, false_or, Classical.not_not, Bool.false_eq_true, hp_2, Nat.zero_le, Nat.le_refl, Option.some.injEq, Sum.inl.injEq, Sum.inr.injEq, not_true_eq_false, true_implies, false_implies, implies_true, rd_v, f_num, f_lik, f_dep, f_bnd, f_man, f_wom, f_sta, f_dds, f_who, gX8_howMany, e]
    exact hq
  | succ k ih =>
    intro c n h0 h1 hq
    refine G_run (B := [4]) 40 _ _ _ _ ?_
    have e : ¬ (A.v w).cp ≤ c := by omega
    have e1 := hO.sta c (by omega) (by omega)
    unfold iVal.manyF at hq
    simp (disch := first | assumption | rfl | exact inI_of (by omega) (by omega) | omega | decide | (simp only [sv_ext, sv_mc, Nat.le_refl]; done) | with_unfolding_all (refine @id _ ?_; first | exact Eq.refl _ | exact Nat.le_refl _ | assumption)) only [Nat.reduceAdd, Nat.reduceMul, Nat.reduceLeDiff, Nat.reduceLT, Int.reduceAdd, Int.reduceSub, Int.reduceMul, Int.reduceNeg, Int.reduceLE, Int.reduceLT, Int.reduceToNat, Int.reduceEq, reduceCtorEq, ld_z, ld_s, st1_0, st1_1, st1_s, st2_0, st2_1, st2_s, isJ_i, isJ_r, isJ_n, isJ_l, cs_nil, cs_i, cs_r, cs_l, kF, List.getElem?_cons_succ, List.getElem?_cons_zero, List.set_cons_zero, List.set_cons_succ, GC_s, GC_n, GK_nil, GK_no, GK_yes, not_false_eq_true, back_eq, back_hp, inI_eq, inA_eq, true_and, and_true, and_self, if_true, if_false, bI_0, bI_1, bI_in, bI_T, bI_F, fitF, jmpF, nlF, pjA, iVal.eta, iYr.eta, List.getElem?_toArray, List.length_cons, List.length_nil, true_or, or_true, or_false, false_or, Classical.not_not, Bool.false_eq_true, hp_2, Nat.zero_le, Nat.le_refl, Option.some.injEq, Sum.inl.injEq, Sum.inr.injEq, not_true_eq_false, true_implies, false_implies, implies_true, rd_v, f_num, f_lik, f_dep, f_bnd, f_man, f_wom, f_sta, f_dds, f_who, gX8_howMany, rd_v8, hO.lsa, e]
    have ih := fun n => ih (c + 1) n (by omega) (by omega)
    refine ⟨hz, fun g => ?_, fun g => ?_⟩
    · rw [if_neg g] at hq; exact ih _ hq
    · rw [if_pos (by omega)] at hq; exact ih _ hq
def iVal.many (X : iVal) (z : Int) : Int := X.manyF z X.cp.toNat 0 0
theorem howMany_eq (hO : OkV (A.v w)) {z : Int} (hz : inI z = true) : Call sp sc d mX8_howMany [.inr (.inr (vb w + 2)), .inl z] (hp A) Q = Q (some (.inl ((A.v w).many z))) (hp A) := Call_eq (by
  have := hO.cp
  apply eX8_howMany 40; simp (disch := first | assumption | rfl | exact inI_of (by omega) (by omega) | omega | decide | (simp only [sv_ext, sv_mc, Nat.le_refl]; done) | with_unfolding_all (refine @id _ ?_; first | exact Eq.refl _ | exact Nat.le_refl _ | assumption)) only [Nat.reduceAdd, Nat.reduceMul, Nat.reduceLeDiff, Nat.reduceLT, Int.reduceAdd, Int.reduceSub, Int.reduceMul, Int.reduceNeg, Int.reduceLE, Int.reduceLT, Int.reduceToNat, Int.reduceEq, reduceCtorEq, ld_z, ld_s, st1_0, st1_1, st1_s, st2_0, st2_1, st2_s, isJ_i, isJ_r, isJ_n, isJ_l, cs_nil, cs_i, cs_r, cs_l, kF, List.getElem?_cons_succ, List.getElem?_cons_zero, List.set_cons_zero, List.set_cons_succ, GC_s, GC_n, GK_nil, GK_no, GK_yes, not_false_eq_true, back_eq, back_hp, inI_eq, inA_eq, true_and, and_true, and_self, if_true, if_false, bI_0, bI_1, bI_in, bI_T, bI_F, fitF, jmpF, nlF, pjA, iVal.eta, iYr.eta, List.getElem?_toArray, List.length_cons, List.length_nil, true_or, or_true, or_false, false_or, Classical.not_not, Bool.false_eq_true, hp_2, Nat.zero_le, Nat.le_refl, Option.some.injEq, Sum.inl.injEq, Sum.inr.injEq, not_true_eq_false, true_implies, false_implies, implies_true, gX8_howMany]
  refine howMany_loop hO hz (A.v w).cp.toNat 0 0 (by omega) (by omega) ⟨rfl, rfl⟩)
def iVal.stepF (X : iVal) (s : Int) : Nat → Int → Int
  | 0, k => k
  | n + 1, k => X.stepF s n (if X.dep s k = -1 then k else X.dep s k)
theorem stepF_b {X : iVal} (hO : OkV X) {s : Int} (h0 : 0 ≤ s) (h1 : s < 2) : ∀ (n : Nat) (k : Int), 0 ≤ k → k < X.num s → 0 ≤ X.stepF s n k ∧ X.stepF s n k < X.num s := by
  intro n
  have e := hO.num h0 h1
  induction n with
  | zero => intro k h2 h3; exact ⟨h2, h3⟩
  | succ n ih =>
    intro k h2 h3
    have := hO.dep s k h0 h1 h2 (by omega)
    unfold iVal.stepF
    split
    · exact ih _ h2 h3
    · exact ih _ (by omega) (by omega)
def iVal.doer (X : iVal) (s c : Int) : Int := X.stepF s (X.who (X.dds c)).toNat (if s = 0 then X.man c else X.wom c)
theorem doer_b {X : iVal} (hO : OkV X) {s c : Int} (h0 : 0 ≤ s) (h1 : s < 2) (h2 : 0 ≤ c) (h3 : c < X.cp) : 0 ≤ X.doer s c ∧ X.doer s c < X.num s := by
  unfold iVal.doer
  have e1 := hO.man c h2 h3
  have e2 := hO.wom c h2 h3
  have : s = 0 ∨ s = 1 := by omega
  rcases this with rfl | rfl
  · exact stepF_b hO (by omega) (by omega) _ _ e1.1 e1.2
  · exact stepF_b hO (by omega) (by omega) _ _ e2.1 e2.2
theorem doer_loop (hO : OkV (A.v w)) {s c0 dd n : Int} (h0 : 0 ≤ s) (h1 : s < 2) (hn : inI n = true) : ∀ (m : Nat) (k i : Int) (o : Option iV), 0 ≤ k → k < (A.v w).num s → 0 ≤ i → i + m = n → Q (some (.inl ((A.v w).stepF s m k))) (hp A) → Run sp sc (d + 1) mX8_doer 52 [some (.inr (.inr (vb w + 2))), some (.inl s), some (.inl c0), some (.inl k), some (.inl dd), some (.inl n), some (.inl i), o] [] (hp A) Q := by
  have e := hO.num h0 h1
  have hn2 := inI_iff.mp hn
  intro m
  induction m with
  | zero =>
    intro k i o h2 h3 h4 h5 hq
    refine G_run (B := [52]) 40 _ _ _ _ ?_
    have e : n ≤ i := by omega
    simp (disch := first | assumption | rfl | exact inI_of (by omega) (by omega) | omega | decide | (simp only [sv_ext, sv_mc, Nat.le_refl]; done) | with_unfolding_all (refine @id _ ?_; first | exact Eq.refl _ | exact Nat.le_refl _ | assumption)) only [Nat.reduceAdd, Nat.reduceMul, Nat.reduceLeDiff, Nat.reduceLT, Int.reduceAdd, Int.reduceSub, Int.reduceMul, Int.reduceNeg, Int.reduceLE, Int.reduceLT, Int.reduceToNat, Int.reduceEq, reduceCtorEq, ld_z, ld_s, st1_0, st1_1, st1_s, st2_0, st2_1, st2_s, isJ_i, isJ_r, isJ_n, isJ_l, cs_nil, cs_i, cs_r, cs_l, kF, List.getElem?_cons_succ, List.getElem?_cons_zero, List.set_cons_zero, List.set_cons_succ, GC_s, GC_n, GK_nil, GK_no, GK_yes, not_false_eq_true, back_eq, back_hp, inI_eq, inA_eq, true_and, and_true, and_self, if_true, if_false, bI_0, bI_1, bI_in, bI_T, bI_F, fitF, jmpF, nlF, pjA, iVal.eta, iYr.eta, List.getElem?_toArray, List.length_cons, List.length_nil, true_or, or_true, or_false, false_or, Classical.not_not, Bool.false_eq_true, hp_2, Nat.zero_le, Nat.le_refl, Option.some.injEq, Sum.inl.injEq, Sum.inr.injEq, not_true_eq_false, true_implies, false_implies, implies_true, rd_v, f_num, f_lik, f_dep, f_bnd, f_man, f_wom, f_sta, f_dds, f_who, gX8_doer, e]
    exact hq
  | succ m ih =>
    intro k i o h2 h3 h4 h5 hq
    refine G_run (B := [52]) 40 _ _ _ _ ?_
    have e : ¬ n ≤ i := by omega
    have e2 := hO.dep s k h0 h1 h2 (by omega)
    unfold iVal.stepF at hq
    simp (disch := first | assumption | rfl | exact inI_of (by omega) (by omega) | omega | decide | (simp only [sv_ext, sv_mc, Nat.le_refl]; done) | with_unfolding_all (refine @id _ ?_; first | exact Eq.refl _ | exact Nat.le_refl _ | assumption)) only [Nat.reduceAdd, Nat.reduceMul, Nat.reduceLeDiff, Nat.reduceLT, Int.reduceAdd, Int.reduceSub, Int.reduceMul, Int.reduceNeg, Int.reduceLE, Int.reduceLT, Int.reduceToNat, Int.reduceEq, reduceCtorEq, ld_z, ld_s, st1_0, st1_1, st1_s, st2_0, st2_1, st2_s, isJ_i, isJ_r, isJ_n, isJ_l, cs_nil, cs_i, cs_r, cs_l, kF, List.getElem?_cons_succ, List.getElem?_cons_zero, List.set_cons_zero, List.set_cons_succ, GC_s, GC_n, GK_nil, GK_no, GK_yes, not_false_eq_true, back_eq, back_hp, inI_eq, inA_eq, true_and, and_true, and_self, if_true, if_false, bI_0, bI_1, bI_in, bI_T, bI_F, fitF, jmpF, nlF, pjA, iVal.eta, iYr.eta, List.getElem?_toArray, List.length_cons, List.length_nil, true_or, or_true, or_false, false_or, Classical.not_not, Bool.false_eq_true, hp_2, Nat.zero_le, Nat.le_refl, Option.some.injEq, Sum.inl.injEq, Sum.inr.injEq, not_true_eq_false, true_implies, false_implies, implies_true, rd_v, f_num, f_lik, f_dep, f_bnd, f_man, f_wom, f_sta, f_dds, f_who, gX8_doer, rd_v3, hO.lde, e, place_eq]
    refine ⟨fun g => ?_, fun g => ?_⟩
    · rw [if_pos (by omega)] at hq; exact ih _ (i + 1) _ (by omega) (by omega) (by omega) (by omega) hq
    · rw [if_neg g] at hq; exact ih _ (i + 1) _ (by omega) (by omega) (by omega) (by omega) hq
theorem doer_eq (hO : OkV (A.v w)) {s c : Int} (h0 : 0 ≤ s) (h1 : s < 2) (h2 : 0 ≤ c) (h3 : c < (A.v w).cp) (h4 : (A.v w).sta c = 0) : Call sp sc (d + 1) mX8_doer [.inr (.inr (vb w + 2)), .inl s, .inl c] (hp A) Q = Q (some (.inl ((A.v w).doer s c))) (hp A) := Call_eq (by
  have hcp := hO.cp
  have e1 := hO.man c h2 h3
  have e2 := hO.wom c h2 h3
  have e3 := hO.dds c h2 (by omega)
  have e4 := hO.ddg c h2 (by omega) h4
  have e5 := hO.who ((A.v w).dds c) (by omega) (by omega)
  apply eX8_doer 60
  have : s = 0 ∨ s = 1 := by omega
  rcases this with rfl | rfl
  · simp (disch := first | assumption | rfl | exact inI_of (by omega) (by omega) | omega | decide | (simp only [sv_ext, sv_mc, Nat.le_refl]; done) | with_unfolding_all (refine @id _ ?_; first | exact Eq.refl _ | exact Nat.le_refl _ | assumption)) only [Nat.reduceAdd, Nat.reduceMul, Nat.reduceLeDiff, Nat.reduceLT, Int.reduceAdd, Int.reduceSub, Int.reduceMul, Int.reduceNeg, Int.reduceLE, Int.reduceLT, Int.reduceToNat, Int.reduceEq, reduceCtorEq, ld_z, ld_s, st1_0, st1_1, st1_s, st2_0, st2_1, st2_s, isJ_i, isJ_r, isJ_n, isJ_l, cs_nil, cs_i, cs_r, cs_l, kF, List.getElem?_cons_succ, List.getElem?_cons_zero, List.set_cons_zero, List.set_cons_succ, GC_s, GC_n, GK_nil, GK_no, GK_yes, not_false_eq_true, back_eq, back_hp, inI_eq, inA_eq, true_and, and_true, and_self, if_true, if_false, bI_0, bI_1, bI_in, bI_T, bI_F, fitF, jmpF, nlF, pjA, iVal.eta, iYr.eta, List.getElem?_toArray, List.length_cons, List.length_nil, true_or, or_true, or_false, false_or, Classical.not_not, Bool.false_eq_true, hp_2, Nat.zero_le, Nat.le_refl, Option.some.injEq, Sum.inl.injEq, Sum.inr.injEq, not_true_eq_false, true_implies, false_implies, implies_true, rd_v, f_num, f_lik, f_dep, f_bnd, f_man, f_wom, f_sta, f_dds, f_who, gX8_doer, rd_v6, rd_v9, rd_v10, hO.lme, hO.ldd, hO.lwh, isDeed_eq]
    refine ⟨fun g => absurd ⟨e3.1, by omega⟩ g, fun _ => ?_⟩
    exact doer_loop hO (by omega) (by omega) (inI_of (by omega) (by omega)) ((A.v w).who ((A.v w).dds c)).toNat _ 0 _ e1.1 e1.2 (by omega) (by omega) ⟨rfl, rfl⟩
  · simp (disch := first | assumption | rfl | exact inI_of (by omega) (by omega) | omega | decide | (simp only [sv_ext, sv_mc, Nat.le_refl]; done) | with_unfolding_all (refine @id _ ?_; first | exact Eq.refl _ | exact Nat.le_refl _ | assumption)) only [Nat.reduceAdd, Nat.reduceMul, Nat.reduceLeDiff, Nat.reduceLT, Int.reduceAdd, Int.reduceSub, Int.reduceMul, Int.reduceNeg, Int.reduceLE, Int.reduceLT, Int.reduceToNat, Int.reduceEq, reduceCtorEq, ld_z, ld_s, st1_0, st1_1, st1_s, st2_0, st2_1, st2_s, isJ_i, isJ_r, isJ_n, isJ_l, cs_nil, cs_i, cs_r, cs_l, kF, List.getElem?_cons_succ, List.getElem?_cons_zero, List.set_cons_zero, List.set_cons_succ, GC_s, GC_n, GK_nil, GK_no, GK_yes, not_false_eq_true, back_eq, back_hp, inI_eq, inA_eq, true_and, and_true, and_self, if_true, if_false, bI_0, bI_1, bI_in, bI_T, bI_F, fitF, jmpF, nlF, pjA, iVal.eta, iYr.eta, List.getElem?_toArray, List.length_cons, List.length_nil, true_or, or_true, or_false, false_or, Classical.not_not, Bool.false_eq_true, hp_2, Nat.zero_le, Nat.le_refl, Option.some.injEq, Sum.inl.injEq, Sum.inr.injEq, not_true_eq_false, true_implies, false_implies, implies_true, rd_v, f_num, f_lik, f_dep, f_bnd, f_man, f_wom, f_sta, f_dds, f_who, gX8_doer, rd_v7, rd_v9, rd_v10, hO.lwo, hO.ldd, hO.lwh, isDeed_eq]
    refine ⟨fun g => absurd ⟨e3.1, by omega⟩ g, fun _ => ?_⟩
    exact doer_loop hO (by omega) (by omega) (inI_of (by omega) (by omega)) ((A.v w).who ((A.v w).dds c)).toNat _ 0 _ e2.1 e2.2 (by omega) (by omega) ⟨rfl, rfl⟩)
end VAL
