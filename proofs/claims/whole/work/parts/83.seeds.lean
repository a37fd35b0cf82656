set_option maxRecDepth 16384
/-! ===== years by seeds ===== -/
def drN (z : Int) : Int := z * 1103515245 + 12345
def drV (z : Int) : Int := ((bAnd (drN z) 2147483647).tdiv 65536).tmod 60
theorem bAnd_nn (a : Int) : 0 ≤ bAnd a 2147483647 := by
  unfold bAnd
  have : (Int32.ofInt a &&& Int32.ofInt 2147483647).toBitVec.msb = false := by
    rw [Int32.toBitVec_and, BitVec.msb_and]
    have : (Int32.ofInt 2147483647).toBitVec.msb = false := by decide
    rw [this, Bool.and_false]
  show 0 ≤ (Int32.ofInt a &&& Int32.ofInt 2147483647).toBitVec.toInt
  rw [BitVec.toInt_eq_toNat_of_msb this]
  omega
theorem drV_b (z : Int) : 0 ≤ drV z ∧ drV z < 60 := by
  unfold drV
  have h := bAnd_nn (drN z)
  have h2 : 0 ≤ (bAnd (drN z) 2147483647).tdiv 65536 := Int.tdiv_nonneg h (by omega)
  exact ⟨Int.tmod_nonneg _ h2, Int.tmod_lt_of_pos _ (by omega)⟩
abbrev iXz : Type := iVal × Int
def drJ (s k : Int) : Nat → Int → iXz → iXz
  | 0, _, P => P
  | q + 1, j, P => drJ s k q (j + 1) (P.1.slk s k j (drV P.2), drN P.2)
def drK (s : Int) (n : Nat) : Nat → Int → iXz → iXz
  | 0, _, P => P
  | q + 1, k, P => drK s n q (k + 1) (drJ s k n 0 P)
def drX (X : iVal) (z : Int) : iXz := drK 1 (X.num 0).toNat (X.num 1).toNat 0 (drK 0 (X.num 1).toNat (X.num 0).toNat 0 (X, z))
def okP (X : iVal) (P : iXz) : Prop := (OkV P.1 ∧ P.1.on = X.on ∧ P.1.dy = X.dy) ∨ False
section OPS
variable {sp : Nat → List iV → iH → Option (Option iV × iH)} {sc : List Int} {d : Nat} {A : iA} {Q : Option iV → iH → Prop} {h : iH} {X : iVal} {e g B : Int} {P : iXz} {Y : iYr} {S T : iXY}
theorem okP_step (h : okP X P) {s k j : Int} (h0 : 0 ≤ s) (h1 : s < 2) (h2 : 0 ≤ k) (h3 : k < X.num s) (h4 : 0 ≤ j) (h5 : j < X.num (1 - s)) : okP X (P.1.slk s k j (drV P.2), drN P.2) := by
  have g := h.elim id False.elim
  have e : ∀ t, P.1.num t = X.num t := num_of_on g.2.1
  exact Or.inl ⟨okV_slk g.1 h0 h1 h2 (by rw [e]; exact h3) h4 (by rw [e]; exact h5), g.2.1, g.2.2⟩
theorem okP_J {s k : Int} (h0 : 0 ≤ s) (h1 : s < 2) (h2 : 0 ≤ k) (h3 : k < X.num s) : ∀ (q : Nat) (j : Int) (P : iXz), okP X P → 0 ≤ j → j + q ≤ X.num (1 - s) → okP X (drJ s k q j P) := by
  intro q
  induction q with
  | zero => intro j P h _ _; exact h
  | succ q ih => intro j P h a b; exact ih (j + 1) _ (okP_step h h0 h1 h2 h3 a (by omega)) (by omega) (by omega)
theorem okP_K {s : Int} {n : Nat} (h0 : 0 ≤ s) (h1 : s < 2) (hn : (n : Int) ≤ X.num (1 - s)) : ∀ (q : Nat) (k : Int) (P : iXz), okP X P → 0 ≤ k → k + q ≤ X.num s → okP X (drK s n q k P) := by
  intro q
  induction q with
  | zero => intro k P h _ _; exact h
  | succ q ih => intro k P h a b; exact ih (k + 1) _ (okP_J h0 h1 a (by omega) n 0 P h (by omega) (by omega)) (by omega) (by omega)
theorem okP_X (hO : OkV X) {z : Int} : okP X (drX X z) := by
  have n0 := hO.n0
  have n1 := hO.n1
  unfold drX
  exact okP_K (s := 1) (by omega) (by omega) (by show ((X.num 0).toNat : Int) ≤ X.num 0; omega) _ 0 _ (okP_K (s := 0) (by omega) (by omega) (by show ((X.num 1).toNat : Int) ≤ X.num 1; omega) _ 0 _ (Or.inl ⟨hO, rfl, rfl⟩) (by omega) (by omega)) (by omega) (by omega)
theorem djC_loop {s k z : Int} (h0 : 0 ≤ s) (h1 : s < 2) (h2 : 0 ≤ k) (h3 : k < X.num s) : ∀ (q : Nat) (j : Int) (P : iXz), okP X P → 0 ≤ j → j + q = X.num (1 - s) → Run sp sc (d + 2) mX8_drawLikings 26 [some (.inr (.inr (vb .mnd + 2))), some (.inl z), some (.inl (drJ s k q j P).2), some (.inl s), some (.inl k), some (.inl (X.num (1 - s)))] [] (hp (A.sv .mnd (drJ s k q j P).1)) Q → Run sp sc (d + 2) mX8_drawLikings 26 [some (.inr (.inr (vb .mnd + 2))), some (.inl z), some (.inl P.2), some (.inl s), some (.inl k), some (.inl j)] [] (hp (A.sv .mnd P.1)) Q := by
  intro q
  induction q with
  | zero =>
    intro j P hP a b hq
    have : j = X.num (1 - s) := by omega
    rw [this]; exact hq
  | succ q ih =>
    intro j P hP a b hq
    have g := hP.elim id False.elim
    have e : ∀ t, P.1.num t = X.num t := num_of_on g.2.1
    have ns := g.1.num h0 h1
    have n1 := g.1.num (s := 1 - s) (by omega) (by omega)
    have e1 : ¬ P.1.num (1 - s) ≤ j := by rw [e]; omega
    have hO2 : OkV ((A.sv .mnd P.1).v .mnd) := by rw [sv_v]; exact g.1
    have db := drV_b P.2
    have sl := fun Q => @setLiking_eq sp sc d (A.sv .mnd P.1) .mnd Q hO2 s k j (drV P.2) h0 h1 h2 (by have := e s; omega) a (by have := e (1 - s); omega) (by omega) (by omega)
    rw [sv_v, sv_sv] at sl
    have fd : ((bAnd (P.2 * 1103515245 + 12345) 2147483647).tdiv 65536).tmod 60 = drV P.2 := rfl
    have fn : P.2 * 1103515245 + 12345 = drN P.2 := rfl
    have i1 : inI (bAnd (P.2 * 1103515245 + 12345) 2147483647) = true := bAnd_in
    have nn := bAnd_nn (P.2 * 1103515245 + 12345)
    have ii := inI_iff.mp i1
    have i2 : inI ((bAnd (P.2 * 1103515245 + 12345) 2147483647).tdiv 65536) = true := by
      rw [Int.tdiv_eq_ediv_of_nonneg nn]
      exact inI_of (by omega) (by omega)
    have is : inI (1 - s) = true := inI_of (by omega) (by omega)
    have lo := g.1.lon
    have bk : ∀ (L : List (Option iV)) (rest : List iV), back (hp (A.sv .mnd P.1)) (hp (A.sv .mnd (P.1.slk s k j (drV P.2)))) L rest = True := fun L rest => back_hp (by rw [sv_ext, sv_ext]) (by rw [sv_mc, sv_mc]; exact Nat.le_refl _)
    refine G_run (B := [4, 12, 26]) 60 _ _ _ _ ?_
    simp (disch := first | assumption | rfl | exact inI_of (by omega) (by omega) | omega | decide | (simp only [sv_ext, sv_mc, Nat.le_refl]; done) | with_unfolding_all (refine @id _ ?_; first | exact Eq.refl _ | exact Nat.le_refl _ | assumption)) only [Nat.reduceAdd, Nat.reduceMul, Nat.reduceLeDiff, Nat.reduceLT, Int.reduceAdd, Int.reduceSub, Int.reduceMul, Int.reduceNeg, Int.reduceLE, Int.reduceLT, Int.reduceToNat, Int.reduceEq, reduceCtorEq, ld_z, ld_s, st1_0, st1_1, st1_s, st2_0, st2_1, st2_s, isJ_i, isJ_r, isJ_n, isJ_l, cs_nil, cs_i, cs_r, cs_l, kF, List.getElem?_cons_succ, List.getElem?_cons_zero, List.set_cons_zero, List.set_cons_succ, GC_s, GC_n, GK_nil, GK_no, GK_yes, not_false_eq_true, back_eq, back_hp, inI_eq, inA_eq, true_and, and_true, and_self, if_true, if_false, bI_0, bI_1, bI_in, bI_T, bI_F, fitF, jmpF, nlF, pjA, iVal.eta, iYr.eta, List.getElem?_toArray, List.length_cons, List.length_nil, true_or, or_true, or_false, false_or, Classical.not_not, Bool.false_eq_true, hp_2, Nat.zero_le, Nat.le_refl, Option.some.injEq, Sum.inl.injEq, Sum.inr.injEq, not_true_eq_false, true_implies, false_implies, implies_true, Int.le_refl, rd_v, f_num, f_lik, f_dep, f_bnd, f_man, f_wom, f_sta, f_dds, f_who, gX8_drawLikings, rd_v1, sv_v, lo, e1, i1, i2, is, fd, sl, bk]
    rw [fn]
    exact ih (j + 1) _ (okP_step hP h0 h1 h2 h3 a (by omega)) (by omega) (by omega) hq
theorem dkC_loop {s z : Int} (hO : OkV X) (h0 : 0 ≤ s) (h1 : s < 2) : ∀ (q : Nat) (k : Int) (P : iXz) (o5 : Option iV), okP X P → 0 ≤ k → k + q = X.num s → (∀ o5, Run sp sc (d + 2) mX8_drawLikings 12 [some (.inr (.inr (vb .mnd + 2))), some (.inl z), some (.inl (drK s (X.num (1 - s)).toNat q k P).2), some (.inl s), some (.inl (X.num s)), o5] [] (hp (A.sv .mnd (drK s (X.num (1 - s)).toNat q k P).1)) Q) → Run sp sc (d + 2) mX8_drawLikings 12 [some (.inr (.inr (vb .mnd + 2))), some (.inl z), some (.inl P.2), some (.inl s), some (.inl k), o5] [] (hp (A.sv .mnd P.1)) Q := by
  have ns := hO.num h0 h1
  have n1 := hO.num (s := 1 - s) (by omega) (by omega)
  intro q
  induction q with
  | zero =>
    intro k P o5 hP a b hq
    have : k = X.num s := by omega
    rw [this]; exact hq _
  | succ q ih =>
    intro k P o5 hP a b hq
    have g := hP.elim id False.elim
    have e : ∀ t, P.1.num t = X.num t := num_of_on g.2.1
    have e1 : ¬ P.1.num s ≤ k := by rw [e]; omega
    have lo := g.1.lon
    have is : inI (P.1.num s) = true := by rw [e]; exact inI_of (by omega) (by omega)
    refine G_run (B := [4, 12, 26]) 60 _ _ _ _ ?_
    simp (disch := first | assumption | rfl | exact inI_of (by omega) (by omega) | omega | decide | (simp only [sv_ext, sv_mc, Nat.le_refl]; done) | with_unfolding_all (refine @id _ ?_; first | exact Eq.refl _ | exact Nat.le_refl _ | assumption)) only [Nat.reduceAdd, Nat.reduceMul, Nat.reduceLeDiff, Nat.reduceLT, Int.reduceAdd, Int.reduceSub, Int.reduceMul, Int.reduceNeg, Int.reduceLE, Int.reduceLT, Int.reduceToNat, Int.reduceEq, reduceCtorEq, ld_z, ld_s, st1_0, st1_1, st1_s, st2_0, st2_1, st2_s, isJ_i, isJ_r, isJ_n, isJ_l, cs_nil, cs_i, cs_r, cs_l, kF, List.getElem?_cons_succ, List.getElem?_cons_zero, List.set_cons_zero, List.set_cons_succ, GC_s, GC_n, GK_nil, GK_no, GK_yes, not_false_eq_true, back_eq, back_hp, inI_eq, inA_eq, true_and, and_true, and_self, if_true, if_false, bI_0, bI_1, bI_in, bI_T, bI_F, fitF, jmpF, nlF, pjA, iVal.eta, iYr.eta, List.getElem?_toArray, List.length_cons, List.length_nil, true_or, or_true, or_false, false_or, Classical.not_not, Bool.false_eq_true, hp_2, Nat.zero_le, Nat.le_refl, Option.some.injEq, Sum.inl.injEq, Sum.inr.injEq, not_true_eq_false, true_implies, false_implies, implies_true, Int.le_refl, rd_v, f_num, f_lik, f_dep, f_bnd, f_man, f_wom, f_sta, f_dds, f_who, gX8_drawLikings, rd_v1, sv_v, lo, e1, is]
    refine djC_loop (X := X) h0 h1 a (by omega) (X.num (1 - s)).toNat 0 P hP (by omega) (by omega) ?_
    have hJ := okP_J h0 h1 a (show k < X.num s by omega) (X.num (1 - s)).toNat 0 P hP (by omega) (by omega)
    have hq : ∀ o5, Run sp sc (d + 2) mX8_drawLikings 12 [some (.inr (.inr (vb .mnd + 2))), some (.inl z), some (.inl (drK s (X.num (1 - s)).toNat q (k + 1) (drJ s k (X.num (1 - s)).toNat 0 P)).2), some (.inl s), some (.inl (X.num s)), o5] [] (hp (A.sv .mnd (drK s (X.num (1 - s)).toNat q (k + 1) (drJ s k (X.num (1 - s)).toNat 0 P)).1)) Q := hq
    generalize drJ s k (X.num (1 - s)).toNat 0 P = P2 at *
    have g2 := hJ.elim id False.elim
    have e2 : ∀ t, P2.1.num t = X.num t := num_of_on g2.2.1
    have lo2 := g2.1.lon
    have e3 : P2.1.num (1 - s) ≤ X.num (1 - s) := by rw [e2]; exact Int.le_refl _
    have is : inI (1 - s) = true := inI_of (by omega) (by omega)
    have i3 : inI (P2.1.num (1 - s)) = true := by rw [e2]; exact inI_of (by omega) (by omega)
    refine G_run (B := [4, 12, 26]) 60 _ _ _ _ ?_
    simp (disch := first | assumption | rfl | exact inI_of (by omega) (by omega) | omega | decide | (simp only [sv_ext, sv_mc, Nat.le_refl]; done) | with_unfolding_all (refine @id _ ?_; first | exact Eq.refl _ | exact Nat.le_refl _ | assumption)) only [Nat.reduceAdd, Nat.reduceMul, Nat.reduceLeDiff, Nat.reduceLT, Int.reduceAdd, Int.reduceSub, Int.reduceMul, Int.reduceNeg, Int.reduceLE, Int.reduceLT, Int.reduceToNat, Int.reduceEq, reduceCtorEq, ld_z, ld_s, st1_0, st1_1, st1_s, st2_0, st2_1, st2_s, isJ_i, isJ_r, isJ_n, isJ_l, cs_nil, cs_i, cs_r, cs_l, kF, List.getElem?_cons_succ, List.getElem?_cons_zero, List.set_cons_zero, List.set_cons_succ, GC_s, GC_n, GK_nil, GK_no, GK_yes, not_false_eq_true, back_eq, back_hp, inI_eq, inA_eq, true_and, and_true, and_self, if_true, if_false, bI_0, bI_1, bI_in, bI_T, bI_F, fitF, jmpF, nlF, pjA, iVal.eta, iYr.eta, List.getElem?_toArray, List.length_cons, List.length_nil, true_or, or_true, or_false, false_or, Classical.not_not, Bool.false_eq_true, hp_2, Nat.zero_le, Nat.le_refl, Option.some.injEq, Sum.inl.injEq, Sum.inr.injEq, not_true_eq_false, true_implies, false_implies, implies_true, Int.le_refl, rd_v, f_num, f_lik, f_dep, f_bnd, f_man, f_wom, f_sta, f_dds, f_who, gX8_drawLikings, rd_v1, sv_v, lo2, e3, is, i3]
    exact ih (k + 1) P2 _ hJ (by omega) (by omega) hq
theorem draw_eq (hO : OkV (A.v .mnd)) {z : Int} : Call sp sc (d + 2) mX8_drawLikings [.inr (.inr (vb .mnd + 2)), .inl z] (hp A) Q = Q (some (.inl (drX (A.v .mnd) z).2)) (hp (A.sv .mnd (drX (A.v .mnd) z).1)) := Call_eq (by
  have n0 := hO.n0
  have n1 := hO.n1
  apply eX8_drawLikings 40; simp (disch := first | assumption | rfl | exact inI_of (by omega) (by omega) | omega | decide | (simp only [sv_ext, sv_mc, Nat.le_refl]; done) | with_unfolding_all (refine @id _ ?_; first | exact Eq.refl _ | exact Nat.le_refl _ | assumption)) only [Nat.reduceAdd, Nat.reduceMul, Nat.reduceLeDiff, Nat.reduceLT, Int.reduceAdd, Int.reduceSub, Int.reduceMul, Int.reduceNeg, Int.reduceLE, Int.reduceLT, Int.reduceToNat, Int.reduceEq, reduceCtorEq, ld_z, ld_s, st1_0, st1_1, st1_s, st2_0, st2_1, st2_s, isJ_i, isJ_r, isJ_n, isJ_l, cs_nil, cs_i, cs_r, cs_l, kF, List.getElem?_cons_succ, List.getElem?_cons_zero, List.set_cons_zero, List.set_cons_succ, GC_s, GC_n, GK_nil, GK_no, GK_yes, not_false_eq_true, back_eq, back_hp, inI_eq, inA_eq, true_and, and_true, and_self, if_true, if_false, bI_0, bI_1, bI_in, bI_T, bI_F, fitF, jmpF, nlF, pjA, iVal.eta, iYr.eta, List.getElem?_toArray, List.length_cons, List.length_nil, true_or, or_true, or_false, false_or, Classical.not_not, Bool.false_eq_true, hp_2, Nat.zero_le, Nat.le_refl, Option.some.injEq, Sum.inl.injEq, Sum.inr.injEq, not_true_eq_false, true_implies, false_implies, implies_true, Int.le_refl, rd_v, f_num, f_lik, f_dep, f_bnd, f_man, f_wom, f_sta, f_dds, f_who, gX8_drawLikings]
  have eA : hp A = hp (A.sv .mnd ((A.v .mnd, z) : iXz).1) := by rw [sv_self]
  have h00 : okP (A.v .mnd) (A.v .mnd, z) := Or.inl ⟨hO, rfl, rfl⟩
  rw [eA]
  refine G_run (B := [4, 12, 26]) 40 _ _ _ _ ?_
  simp (disch := first | assumption | rfl | exact inI_of (by omega) (by omega) | omega | decide | (simp only [sv_ext, sv_mc, Nat.le_refl]; done) | with_unfolding_all (refine @id _ ?_; first | exact Eq.refl _ | exact Nat.le_refl _ | assumption)) only [Nat.reduceAdd, Nat.reduceMul, Nat.reduceLeDiff, Nat.reduceLT, Int.reduceAdd, Int.reduceSub, Int.reduceMul, Int.reduceNeg, Int.reduceLE, Int.reduceLT, Int.reduceToNat, Int.reduceEq, reduceCtorEq, ld_z, ld_s, st1_0, st1_1, st1_s, st2_0, st2_1, st2_s, isJ_i, isJ_r, isJ_n, isJ_l, cs_nil, cs_i, cs_r, cs_l, kF, List.getElem?_cons_succ, List.getElem?_cons_zero, List.set_cons_zero, List.set_cons_succ, GC_s, GC_n, GK_nil, GK_no, GK_yes, not_false_eq_true, back_eq, back_hp, inI_eq, inA_eq, true_and, and_true, and_self, if_true, if_false, bI_0, bI_1, bI_in, bI_T, bI_F, fitF, jmpF, nlF, pjA, iVal.eta, iYr.eta, List.getElem?_toArray, List.length_cons, List.length_nil, true_or, or_true, or_false, false_or, Classical.not_not, Bool.false_eq_true, hp_2, Nat.zero_le, Nat.le_refl, Option.some.injEq, Sum.inl.injEq, Sum.inr.injEq, not_true_eq_false, true_implies, false_implies, implies_true, Int.le_refl, rd_v, f_num, f_lik, f_dep, f_bnd, f_man, f_wom, f_sta, f_dds, f_who, gX8_drawLikings]
  refine dkC_loop (d := d) (X := A.v .mnd) (s := 0) hO (by omega) (by omega) ((A.v .mnd).num 0).toNat 0 (A.v .mnd, z) none h00 (by omega) (by omega) (fun o5 => ?_)
  have k1 : okP (A.v .mnd) (drK 0 ((A.v .mnd).num (1 - 0)).toNat ((A.v .mnd).num 0).toNat 0 (A.v .mnd, z)) := okP_K (s := 0) (by omega) (by omega) (by show (((A.v .mnd).num 1).toNat : Int) ≤ (A.v .mnd).num 1; omega) _ 0 _ h00 (by omega) (by omega)
  have ed : drX (A.v .mnd) z = drK 1 ((A.v .mnd).num (1 - 1)).toNat ((A.v .mnd).num 1).toNat 0 (drK 0 ((A.v .mnd).num (1 - 0)).toNat ((A.v .mnd).num 0).toNat 0 (A.v .mnd, z)) := rfl
  rw [ed]
  generalize drK 0 ((A.v .mnd).num (1 - 0)).toNat ((A.v .mnd).num 0).toNat 0 (A.v .mnd, z) = P at *
  have g := k1.elim id False.elim
  have e : ∀ t, P.1.num t = (A.v .mnd).num t := num_of_on g.2.1
  have lo := g.1.lon
  have e1 : P.1.num 0 ≤ (A.v .mnd).num 0 := by rw [e]; exact Int.le_refl _
  have i1 : inI (P.1.num 0) = true := by rw [e]; exact inI_of (by omega) (by omega)
  refine G_run (B := [4, 12, 26]) 60 _ _ _ _ ?_
  simp (disch := first | assumption | rfl | exact inI_of (by omega) (by omega) | omega | decide | (simp only [sv_ext, sv_mc, Nat.le_refl]; done) | with_unfolding_all (refine @id _ ?_; first | exact Eq.refl _ | exact Nat.le_refl _ | assumption)) only [Nat.reduceAdd, Nat.reduceMul, Nat.reduceLeDiff, Nat.reduceLT, Int.reduceAdd, Int.reduceSub, Int.reduceMul, Int.reduceNeg, Int.reduceLE, Int.reduceLT, Int.reduceToNat, Int.reduceEq, reduceCtorEq, ld_z, ld_s, st1_0, st1_1, st1_s, st2_0, st2_1, st2_s, isJ_i, isJ_r, isJ_n, isJ_l, cs_nil, cs_i, cs_r, cs_l, kF, List.getElem?_cons_succ, List.getElem?_cons_zero, List.set_cons_zero, List.set_cons_succ, GC_s, GC_n, GK_nil, GK_no, GK_yes, not_false_eq_true, back_eq, back_hp, inI_eq, inA_eq, true_and, and_true, and_self, if_true, if_false, bI_0, bI_1, bI_in, bI_T, bI_F, fitF, jmpF, nlF, pjA, iVal.eta, iYr.eta, List.getElem?_toArray, List.length_cons, List.length_nil, true_or, or_true, or_false, false_or, Classical.not_not, Bool.false_eq_true, hp_2, Nat.zero_le, Nat.le_refl, Option.some.injEq, Sum.inl.injEq, Sum.inr.injEq, not_true_eq_false, true_implies, false_implies, implies_true, Int.le_refl, rd_v, f_num, f_lik, f_dep, f_bnd, f_man, f_wom, f_sta, f_dds, f_who, gX8_drawLikings, rd_v1, sv_v, lo, f_n0, e1, i1]
  refine G_run (B := [4, 12, 26]) 60 _ _ _ _ ?_
  simp (disch := first | assumption | rfl | exact inI_of (by omega) (by omega) | omega | decide | (simp only [sv_ext, sv_mc, Nat.le_refl]; done) | with_unfolding_all (refine @id _ ?_; first | exact Eq.refl _ | exact Nat.le_refl _ | assumption)) only [Nat.reduceAdd, Nat.reduceMul, Nat.reduceLeDiff, Nat.reduceLT, Int.reduceAdd, Int.reduceSub, Int.reduceMul, Int.reduceNeg, Int.reduceLE, Int.reduceLT, Int.reduceToNat, Int.reduceEq, reduceCtorEq, ld_z, ld_s, st1_0, st1_1, st1_s, st2_0, st2_1, st2_s, isJ_i, isJ_r, isJ_n, isJ_l, cs_nil, cs_i, cs_r, cs_l, kF, List.getElem?_cons_succ, List.getElem?_cons_zero, List.set_cons_zero, List.set_cons_succ, GC_s, GC_n, GK_nil, GK_no, GK_yes, not_false_eq_true, back_eq, back_hp, inI_eq, inA_eq, true_and, and_true, and_self, if_true, if_false, bI_0, bI_1, bI_in, bI_T, bI_F, fitF, jmpF, nlF, pjA, iVal.eta, iYr.eta, List.getElem?_toArray, List.length_cons, List.length_nil, true_or, or_true, or_false, false_or, Classical.not_not, Bool.false_eq_true, hp_2, Nat.zero_le, Nat.le_refl, Option.some.injEq, Sum.inl.injEq, Sum.inr.injEq, not_true_eq_false, true_implies, false_implies, implies_true, Int.le_refl, rd_v, f_num, f_lik, f_dep, f_bnd, f_man, f_wom, f_sta, f_dds, f_who, gX8_drawLikings]
  refine dkC_loop (d := d) (X := A.v .mnd) (s := 1) hO (by omega) (by omega) ((A.v .mnd).num 1).toNat 0 P _ k1 (by omega) (by omega) (fun o5 => ?_)
  have k2 : okP (A.v .mnd) (drK 1 ((A.v .mnd).num (1 - 1)).toNat ((A.v .mnd).num 1).toNat 0 P) := okP_K (s := 1) (by omega) (by omega) (by show (((A.v .mnd).num 0).toNat : Int) ≤ (A.v .mnd).num 0; omega) _ 0 _ k1 (by omega) (by omega)
  generalize hP2 : drK 1 ((A.v .mnd).num (1 - 1)).toNat ((A.v .mnd).num 1).toNat 0 P = P2 at *
  have hP3 : drK 1 ((A.v .mnd).num 0).toNat ((A.v .mnd).num 1).toNat 0 P = P2 := hP2
  have g2 := k2.elim id False.elim
  have e' : ∀ t, P2.1.num t = (A.v .mnd).num t := num_of_on g2.2.1
  have lo2 := g2.1.lon
  have e2 : P2.1.num 1 ≤ (A.v .mnd).num 1 := by rw [e']; exact Int.le_refl _
  have i2 : inI (P2.1.num 1) = true := by rw [e']; exact inI_of (by omega) (by omega)
  refine G_run (B := [4, 12, 26]) 60 _ _ _ _ ?_
  simp (disch := first | assumption | rfl | exact inI_of (by omega) (by omega) | omega | decide | (simp only [sv_ext, sv_mc, Nat.le_refl]; done) | with_unfolding_all (refine @id _ ?_; first | exact Eq.refl _ | exact Nat.le_refl _ | assumption)) only [Nat.reduceAdd, Nat.reduceMul, Nat.reduceLeDiff, Nat.reduceLT, Int.reduceAdd, Int.reduceSub, Int.reduceMul, Int.reduceNeg, Int.reduceLE, Int.reduceLT, Int.reduceToNat, Int.reduceEq, reduceCtorEq, ld_z, ld_s, st1_0, st1_1, st1_s, st2_0, st2_1, st2_s, isJ_i, isJ_r, isJ_n, isJ_l, cs_nil, cs_i, cs_r, cs_l, kF, List.getElem?_cons_succ, List.getElem?_cons_zero, List.set_cons_zero, List.set_cons_succ, GC_s, GC_n, GK_nil, GK_no, GK_yes, not_false_eq_true, back_eq, back_hp, inI_eq, inA_eq, true_and, and_true, and_self, if_true, if_false, bI_0, bI_1, bI_in, bI_T, bI_F, fitF, jmpF, nlF, pjA, iVal.eta, iYr.eta, List.getElem?_toArray, List.length_cons, List.length_nil, true_or, or_true, or_false, false_or, Classical.not_not, Bool.false_eq_true, hp_2, Nat.zero_le, Nat.le_refl, Option.some.injEq, Sum.inl.injEq, Sum.inr.injEq, not_true_eq_false, true_implies, false_implies, implies_true, Int.le_refl, rd_v, f_num, f_lik, f_dep, f_bnd, f_man, f_wom, f_sta, f_dds, f_who, gX8_drawLikings, rd_v1, sv_v, lo2, f_n1, e2, i2]
  refine G_run (B := [4, 12, 26]) 60 _ _ _ _ ?_
  simp (disch := first | assumption | rfl | exact inI_of (by omega) (by omega) | omega | decide | (simp only [sv_ext, sv_mc, Nat.le_refl]; done) | with_unfolding_all (refine @id _ ?_; first | exact Eq.refl _ | exact Nat.le_refl _ | assumption)) only [Nat.reduceAdd, Nat.reduceMul, Nat.reduceLeDiff, Nat.reduceLT, Int.reduceAdd, Int.reduceSub, Int.reduceMul, Int.reduceNeg, Int.reduceLE, Int.reduceLT, Int.reduceToNat, Int.reduceEq, reduceCtorEq, ld_z, ld_s, st1_0, st1_1, st1_s, st2_0, st2_1, st2_s, isJ_i, isJ_r, isJ_n, isJ_l, cs_nil, cs_i, cs_r, cs_l, kF, List.getElem?_cons_succ, List.getElem?_cons_zero, List.set_cons_zero, List.set_cons_succ, GC_s, GC_n, GK_nil, GK_no, GK_yes, not_false_eq_true, back_eq, back_hp, inI_eq, inA_eq, true_and, and_true, and_self, if_true, if_false, bI_0, bI_1, bI_in, bI_T, bI_F, fitF, jmpF, nlF, pjA, iVal.eta, iYr.eta, List.getElem?_toArray, List.length_cons, List.length_nil, true_or, or_true, or_false, false_or, Classical.not_not, Bool.false_eq_true, hp_2, Nat.zero_le, Nat.le_refl, Option.some.injEq, Sum.inl.injEq, Sum.inr.injEq, not_true_eq_false, true_implies, false_implies, implies_true, Int.le_refl, rd_v, f_num, f_lik, f_dep, f_bnd, f_man, f_wom, f_sta, f_dds, f_who, gX8_drawLikings, hP3])
def sdD (N : Nat) (X : iVal) (z : Int) : iXY := daysA N ((drX X z).1, yr0 [0, 1, 2, 3] z10)
def sdF (N : Nat) (X : iVal) : Nat → Int → Int × Int → Int × Int
  | 0, _, t => t
  | k + 1, z, t => sdF N X k (drX X z).2 (t.1 + (sdD N X z).1.many 1, t.2 + (sdD N X z).2.sp)
theorem sdD_ok (hO : OkV X) {N : Nat} (hN : N = 30) {z : Int} {bz : List Int} (lb : bz.length = 10) (hb : ∀ i, 0 ≤ i → i < 10 → gt0 bz i = 0 ∨ gt0 bz i = 1) : OkS ((drX X z).1, yr0 [0, 1, 2, 3] bz) 0 ∧ OkS (sdD N X z) 150 ∧ daysA N ((drX X z).1, yr0 [0, 1, 2, 3] bz) = sdD N X z ∧ (sdD N X z).2.ps = 30 := by
  have g := (okP_X hO (z := z)).elim id False.elim
  have k := okS_yr0 g.1 lb hb
  have k2 := okS_yr0 g.1 z10_ok.1 z10_ok.2
  have d := okS_days N _ 0 k2
  refine ⟨k, ⟨d.1.1, d.1.2.mono (by omega)⟩, daysA_bz (by omega), ?_⟩
  have := d.2.1
  have e0 : (((drX X z).1, yr0 [0, 1, 2, 3] z10) : iXY).2.ps = 0 := rfl
  show (daysA N ((drX X z).1, yr0 [0, 1, 2, 3] z10)).2.ps = 30
  rw [this, e0]; omega
theorem sdF_b (hO : OkV X) {N : Nat} (hN : N = 30) : ∀ (k : Nat) (z : Int) (t : Int × Int), (t.1 ≤ (sdF N X k z t).1 ∧ (sdF N X k z t).1 ≤ t.1 + 4 * k) ∧ t.2 ≤ (sdF N X k z t).2 ∧ (sdF N X k z t).2 ≤ t.2 + 150 * k := by
  intro k
  induction k with
  | zero => intro z t; show (t.1 ≤ t.1 ∧ t.1 ≤ t.1 + 4 * ((0 : Nat) : Int)) ∧ t.2 ≤ t.2 ∧ t.2 ≤ t.2 + 150 * ((0 : Nat) : Int); omega
  | succ k ih =>
    intro z t
    have D := (sdD_ok hO hN (z := z) z10_ok.1 z10_ok.2).2.1
    have m := @many_b _ D.1 1
    have s := D.2.sp
    have := ih (drX X z).2 (t.1 + (sdD N X z).1.many 1, t.2 + (sdD N X z).2.sp)
    dsimp only at this
    unfold sdF
    omega
theorem sdC_loop (hO : OkV A.now) {N : Nat} (hN : N = 30) {n z0 w : Int} (iw : inI w = true) (hn : n ≤ 20) : ∀ (k : Nat) (i z : Int) (t : Int × Int) (S : iXY), goodS S → 0 ≤ i → i + k = n → 0 ≤ t.1 → t.1 ≤ 4 * i → 0 ≤ t.2 → t.2 ≤ 150 * i → ∃ T : iXY, goodS T ∧ ∀ Q, Q (some (.inl (if w = 0 then (sdF N A.now k z t).1 else (sdF N A.now k z t).2))) (hp (A.sxy T)) → Run sp sc (d + 7) mX11_seeds 34 [some (.inr (.inr 2)), some (.inl n), some (.inl z0), some (.inl w), some (.inl t.1), some (.inl t.2), some (.inl z), some (.inl i)] [] (hp (A.sxy S)) Q := by
  intro k
  induction k with
  | zero =>
    intro i z t S hS h0 h1 h2 h3 h4 h5
    refine ⟨S, hS, fun Q hq => ?_⟩
    refine G_run (B := [34]) 40 _ _ _ _ ?_
    have e1 : n ≤ i := by omega
    unfold sdF at hq
    by_cases c : w = 0
    · rw [if_pos c] at hq
      simp (disch := first | assumption | rfl | exact inI_of (by omega) (by omega) | omega | decide | (simp only [sv_ext, sv_mc, Nat.le_refl]; done) | with_unfolding_all (refine @id _ ?_; first | exact Eq.refl _ | exact Nat.le_refl _ | assumption)) only [Nat.reduceAdd, Nat.reduceMul, Nat.reduceLeDiff, Nat.reduceLT, Int.reduceAdd, Int.reduceSub, Int.reduceMul, Int.reduceNeg, Int.reduceLE, Int.reduceLT, Int.reduceToNat, Int.reduceEq, reduceCtorEq, ld_z, ld_s, st1_0, st1_1, st1_s, st2_0, st2_1, st2_s, isJ_i, isJ_r, isJ_n, isJ_l, cs_nil, cs_i, cs_r, cs_l, kF, List.getElem?_cons_succ, List.getElem?_cons_zero, List.set_cons_zero, List.set_cons_succ, GC_s, GC_n, GK_nil, GK_no, GK_yes, not_false_eq_true, back_eq, inI_eq, inA_eq, true_and, and_true, and_self, if_true, if_false, bI_0, bI_1, bI_in, bI_T, bI_F, fitF, jmpF, nlF, pjA, iVal.eta, iYr.eta, List.getElem?_toArray, List.length_cons, List.length_nil, true_or, or_true, or_false, false_or, Classical.not_not, Bool.false_eq_true, hp_2, Nat.zero_le, Nat.le_refl, Option.some.injEq, Sum.inl.injEq, Sum.inr.injEq, not_true_eq_false, true_implies, false_implies, implies_true, Int.le_refl, rd_v, f_num, f_lik, f_dep, f_bnd, f_man, f_wom, f_sta, f_dds, f_who, rd_y, rd_y1, rd_y2, rd_y3, rd_y4, wy, wy1, wy2, wy3, wy4, sxy_mnd, sxy_now, sxy_img, sxy_yr, sxy_xy, sxy_sxy, sv_sxy, f_ord, f_bus, f_wai, f_fin, rd_e, v_now, hasOne_eq, hasTwo_eq, hasCouple_eq, orNone_eq, natureOf_eq, rd_nat, place_eq, rd_v1, rd_v3, rd_v4, rd_v6, rd_v7, rd_v8, rd_v9, rd_v10, isShelf_eq, isSide_eq, isDeed_eq, isKind_eq, isMindSpan_eq, back_sxy, back_sxy1, f_orN, gX11_seeds, e1, eq_true c]
      exact hq
    · rw [if_neg c] at hq
      simp (disch := first | assumption | rfl | exact inI_of (by omega) (by omega) | omega | decide | (simp only [sv_ext, sv_mc, Nat.le_refl]; done) | with_unfolding_all (refine @id _ ?_; first | exact Eq.refl _ | exact Nat.le_refl _ | assumption)) only [Nat.reduceAdd, Nat.reduceMul, Nat.reduceLeDiff, Nat.reduceLT, Int.reduceAdd, Int.reduceSub, Int.reduceMul, Int.reduceNeg, Int.reduceLE, Int.reduceLT, Int.reduceToNat, Int.reduceEq, reduceCtorEq, ld_z, ld_s, st1_0, st1_1, st1_s, st2_0, st2_1, st2_s, isJ_i, isJ_r, isJ_n, isJ_l, cs_nil, cs_i, cs_r, cs_l, kF, List.getElem?_cons_succ, List.getElem?_cons_zero, List.set_cons_zero, List.set_cons_succ, GC_s, GC_n, GK_nil, GK_no, GK_yes, not_false_eq_true, back_eq, inI_eq, inA_eq, true_and, and_true, and_self, if_true, if_false, bI_0, bI_1, bI_in, bI_T, bI_F, fitF, jmpF, nlF, pjA, iVal.eta, iYr.eta, List.getElem?_toArray, List.length_cons, List.length_nil, true_or, or_true, or_false, false_or, Classical.not_not, Bool.false_eq_true, hp_2, Nat.zero_le, Nat.le_refl, Option.some.injEq, Sum.inl.injEq, Sum.inr.injEq, not_true_eq_false, true_implies, false_implies, implies_true, Int.le_refl, rd_v, f_num, f_lik, f_dep, f_bnd, f_man, f_wom, f_sta, f_dds, f_who, rd_y, rd_y1, rd_y2, rd_y3, rd_y4, wy, wy1, wy2, wy3, wy4, sxy_mnd, sxy_now, sxy_img, sxy_yr, sxy_xy, sxy_sxy, sv_sxy, f_ord, f_bus, f_wai, f_fin, rd_e, v_now, hasOne_eq, hasTwo_eq, hasCouple_eq, orNone_eq, natureOf_eq, rd_nat, place_eq, rd_v1, rd_v3, rd_v4, rd_v6, rd_v7, rd_v8, rd_v9, rd_v10, isShelf_eq, isSide_eq, isDeed_eq, isKind_eq, isMindSpan_eq, back_sxy, back_sxy1, f_orN, gX11_seeds, e1, c, iw]
      exact hq
  | succ k ih =>
    intro i z t S hS h0 h1 h2 h3 h4 h5
    have g := hS.elim id False.elim
    have D := sdD_ok hO hN (z := z) g.2.lbz g.2.bus
    have m := @many_b _ D.2.1.1 1
    have s := D.2.1.2.sp
    obtain ⟨T, hT, hr⟩ := ih (i + 1) (drX A.now z).2 (t.1 + (sdD N A.now z).1.many 1, t.2 + (sdD N A.now z).2.sp) (sdD N A.now z) (goodS.of D.2.1) (by omega) (by omega) (by show 0 ≤ t.1 + _; omega) (by show t.1 + _ ≤ _; omega) (by show 0 ≤ t.2 + _; omega) (by show t.2 + _ ≤ _; omega)
    refine ⟨T, hT, fun Q hq => ?_⟩
    have e1 : ¬ n ≤ i := by omega
    have beg : ∀ Q, Call sp sc (d + 6) mX10_begin [.inr (.inr 31), .inr (.inr (vb .now + 2))] (hp (A.sxy S)) Q = Q none (hp (A.sxy (A.now, yr0 [0, 1, 2, 3] S.2.bz))) := fun Q => begin_eq (d := d + 3) (A := A.sxy S) hO g.1.len g.2
    have hOm : OkV ((A.sxy (A.now, yr0 [0, 1, 2, 3] S.2.bz)).v .mnd) := hO
    have dr : ∀ Q, Call sp sc (d + 6) mX8_drawLikings [.inr (.inr (vb .mnd + 2)), .inl z] (hp (A.sxy (A.now, yr0 [0, 1, 2, 3] S.2.bz))) Q = Q (some (.inl (drX A.now z).2)) (hp (A.sxy ((drX A.now z).1, yr0 [0, 1, 2, 3] S.2.bz))) := fun Q => @draw_eq sp sc (d + 4) (A.sxy (A.now, yr0 [0, 1, 2, 3] S.2.bz)) Q hOm z
    have ps : ∀ Q, Call sp sc (d + 6) mX10_pass [.inr (.inr 31), .inl 30] (hp (A.sxy ((drX A.now z).1, yr0 [0, 1, 2, 3] S.2.bz))) Q = Q none (hp (A.sxy (sdD N A.now z))) := fun Q => by
      have := @passC sp sc d A Q 0 _ D.1 (by omega) N (by omega)
      have en : ((N : Nat) : Int) = 30 := by omega
      rw [D.2.2.1, en] at this
      exact this
    have hS1 : OkV ((A.sxy (sdD N A.now z)).v .mnd) := D.2.1.1
    have hm := fun Q => @howMany_eq sp sc (d + 6) (A.sxy (sdD N A.now z)) .mnd Q hS1 1 rfl
    have ev : ((A.sxy (sdD N A.now z)).v .mnd).many 1 = (sdD N A.now z).1.many 1 := rfl
    rw [ev] at hm
    unfold sdF at hq
    generalize sdD N A.now z = D1 at *
    generalize drX A.now z = P at *
    refine G_run (B := [34]) 60 _ _ _ _ ?_
    simp (disch := first | assumption | rfl | exact inI_of (by omega) (by omega) | omega | decide | (simp only [sv_ext, sv_mc, Nat.le_refl]; done) | with_unfolding_all (refine @id _ ?_; first | exact Eq.refl _ | exact Nat.le_refl _ | assumption)) only [Nat.reduceAdd, Nat.reduceMul, Nat.reduceLeDiff, Nat.reduceLT, Int.reduceAdd, Int.reduceSub, Int.reduceMul, Int.reduceNeg, Int.reduceLE, Int.reduceLT, Int.reduceToNat, Int.reduceEq, reduceCtorEq, ld_z, ld_s, st1_0, st1_1, st1_s, st2_0, st2_1, st2_s, isJ_i, isJ_r, isJ_n, isJ_l, cs_nil, cs_i, cs_r, cs_l, kF, List.getElem?_cons_succ, List.getElem?_cons_zero, List.set_cons_zero, List.set_cons_succ, GC_s, GC_n, GK_nil, GK_no, GK_yes, not_false_eq_true, back_eq, inI_eq, inA_eq, true_and, and_true, and_self, if_true, if_false, bI_0, bI_1, bI_in, bI_T, bI_F, fitF, jmpF, nlF, pjA, iVal.eta, iYr.eta, List.getElem?_toArray, List.length_cons, List.length_nil, true_or, or_true, or_false, false_or, Classical.not_not, Bool.false_eq_true, hp_2, Nat.zero_le, Nat.le_refl, Option.some.injEq, Sum.inl.injEq, Sum.inr.injEq, not_true_eq_false, true_implies, false_implies, implies_true, Int.le_refl, rd_v, f_num, f_lik, f_dep, f_bnd, f_man, f_wom, f_sta, f_dds, f_who, rd_y, rd_y1, rd_y2, rd_y3, rd_y4, wy, wy1, wy2, wy3, wy4, sxy_mnd, sxy_now, sxy_img, sxy_yr, sxy_xy, sxy_sxy, sv_sxy, f_ord, f_bus, f_wai, f_fin, rd_e, v_now, hasOne_eq, hasTwo_eq, hasCouple_eq, orNone_eq, natureOf_eq, rd_nat, place_eq, rd_v1, rd_v3, rd_v4, rd_v6, rd_v7, rd_v8, rd_v9, rd_v10, isShelf_eq, isSide_eq, isDeed_eq, isKind_eq, isMindSpan_eq, back_sxy, back_sxy1, f_orN, gX11_seeds, e1, beg, dr, ps, hm]
    exact hr Q hq
end OPS
