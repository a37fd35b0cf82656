set_option maxRecDepth 16384
/-! ===== deputies: the reference ===== -/
section OPS
variable {sp : Nat → List iV → iH → Option (Option iV × iH)} {sc : List Int} {d : Nat} {A A0 : iA} {Q : Option iV → iH → Prop} {h : iH} {X : iVal} {e g B : Int} {S T : iXY}
def dR (R : List Int) (m w u v : Int) : List Int := (R.set (aOne 0 m 2).toNat u).set (aOne 1 w 2).toNat v
theorem set4 {R : List Int} {i k : Nat} {a b c f : Int} (ne : ¬ i = k) : (((R.set i a).set k b).set i c).set k f = (R.set i c).set k f := by
  apply List.ext_getElem
  · simp only [List.length_set]
  · intro j h1 h2
    simp only [List.getElem_set]
    by_cases x : k = j
    · rw [if_pos x, if_pos x]
    · rw [if_neg x, if_neg x]
      by_cases y : i = j
      · rw [if_pos y, if_pos y, if_neg x]
      · rw [if_neg y, if_neg x, if_neg y, if_neg y]
theorem dR_len {R : List Int} {m w u v : Int} : (dR R m w u v).length = R.length := by unfold dR; rw [List.length_set, List.length_set]
theorem dR_dR {R : List Int} {m w u v u' v' : Int} (h0 : 0 ≤ m) (h1 : m < 5) (h2 : 0 ≤ w) (h3 : w < 5) : dR (dR R m w u v) m w u' v' = dR R m w u' v' := by
  have ne : ¬ (aOne 0 m 2).toNat = (aOne 1 w 2).toNat := by unfold aOne; omega
  exact set4 ne
theorem dR_row (hO : OkV X) {m w u v : Int} (h0 : 0 ≤ m) (h1 : m < X.num 0) (h2 : 0 ≤ w) (h3 : w < X.num 1) (hu : ¬ u = m) (hv : ¬ v = w) (u0 : -1 ≤ u) (u1 : u < X.num 0) (v0 : -1 ≤ v) (v1 : v < X.num 1) : dR (rowOf X e) m w u v = rowOf (X.dS m w u v) e := by
  have a1 : 0 ≤ (if u = -1 then m else u) ∧ (if u = -1 then m else u) < X.num 0 := by split <;> omega
  have e1 : (if (if u = -1 then m else u) = m then (-1 : Int) else (if u = -1 then m else u)) = u := by
    by_cases z : u = -1
    · rw [if_pos z, if_pos rfl]; exact z.symm
    · rw [if_neg z, if_neg hu]
  have e2 : (if (if v = -1 then w else v) = w then (-1 : Int) else (if v = -1 then w else v)) = v := by
    by_cases z : v = -1
    · rw [if_pos z, if_pos rfl]; exact z.symm
    · rw [if_neg z, if_neg hv]
  have k := okV_sdp hO (s := 0) (k := m) (by omega) (by omega) h0 h1 a1.1 a1.2
  have w1 := w_dep (e := e) (j := (if u = -1 then m else u)) hO (s := 0) (a := m) (by omega) (by omega) h0 h1
  rw [e1] at w1
  have w2 := w_dep (e := e) (j := (if v = -1 then w else v)) k (s := 1) (a := w) (by omega) (by omega) h2 h3
  rw [e2] at w2
  rw [dS_sdp hu hv, ← w2, ← w1]
  rfl
theorem dR_self (hO : OkV X) {m w : Int} (h0 : 0 ≤ m) (h1 : m < X.num 0) (h2 : 0 ≤ w) (h3 : w < X.num 1) : dR (rowOf X e) m w (X.dep 0 m) (X.dep 1 w) = rowOf X e := by
  have n0 := hO.n0
  have n1 := hO.n1
  have r1 : (rowOf X e).getD (aOne 0 m 2).toNat 0 = X.dep 0 m := q_dep (by omega) (by omega) h0 h1 n0.2
  have r2 : (rowOf X e).getD (aOne 1 w 2).toNat 0 = X.dep 1 w := q_dep (by omega) (by omega) h2 h3 n1.2
  have S : ∀ (l : List Int) (i : Nat) (v : Int), l.getD i 0 = v → l.set i v = l := fun l i v hv => by
    apply List.ext_getElem
    · rw [List.length_set]
    · intro j a b
      rw [List.getElem_set]
      split
      · rename_i c
        subst c
        rw [← hv, List.getD_eq_getElem?_getD, List.getElem?_eq_getElem b]; rfl
      · rfl
  unfold dR
  rw [S _ _ _ r1, S _ _ _ r2]
/-- the reference's state while deputies are tried -/
def invD (A0 A : iA) (m w : Int) : Prop := (Rel (A.sS (rowOf A0.now A0.now.dy)) ∧ A.now = A0.now ∧ ((∀ u v, dR A.mo.s m w u v = dR (rowOf A0.now A0.now.dy) m w u v) ∧ A.mo.s.length = 117 ∧ A.mo.s.getD 0 0 = A0.now.num 0 ∧ A.mo.s.getD 1 0 = A0.now.num 1) ∧ A.mc = A0.mc ∧ A.ext.length = A0.ext.length) ∨ False
theorem dR_low {R : List Int} {m w u v : Int} {i : Nat} (h0 : 0 ≤ m) (h2 : 0 ≤ w) (hi : i < 11) : (dR R m w u v).getD i 0 = R.getD i 0 := by
  unfold dR
  rw [gsd (by unfold aOne; omega), gsd (by unfold aOne; omega)]
/-- found, soonest: as the class has them -/
def fD (t : Int × Int) : Int × Int := (t.2, if t.2 = -4 then 1000000000 else t.1)
theorem dpR_in (hO : OkV A0.now) {n : Nat} (hn : n = 60) {c w0 x z5 z6 : Int} (c0 : 0 ≤ c) (c1 : c < A0.now.cp) (hs : A0.now.sta c = 0) (x0 : 0 ≤ x) (x1 : x ≤ A0.now.num 0) : ∀ (k : Nat) (y : Int) (A : iA) (t : Int × Int), invD A0 A (A0.now.man c) (A0.now.wom c) → tD t → 0 ≤ y → y + k = A0.now.num 1 + 1 → ∃ T : iA, invD A0 T (A0.now.man c) (A0.now.wom c) ∧ ∀ Q, (∀ o10, Run sp sc (d + 7) mX12_deputies 94 [some (.inr (.inr 140)), some (.inl c), some (.inl w0), some (.inl (A0.now.man c)), some (.inl (A0.now.wom c)), some (.inl z5), some (.inl z6), some (.inl (fD (dpI n A0.now c (A0.now.man c) (A0.now.wom c) (x - 1) k (y - 1) t)).1), some (.inl (fD (dpI n A0.now c (A0.now.man c) (A0.now.wom c) (x - 1) k (y - 1) t)).2), some (.inl (x + 1)), o10] [] (hp T) Q) → Run sp sc (d + 7) mX12_deputies 108 [some (.inr (.inr 140)), some (.inl c), some (.inl w0), some (.inl (A0.now.man c)), some (.inl (A0.now.wom c)), some (.inl z5), some (.inl z6), some (.inl (fD t).1), some (.inl (fD t).2), some (.inl x), some (.inl y)] [] (hp A) Q := by
  have hcp := hO.cp
  have hm := hO.man c c0 c1
  have hw := hO.wom c c0 c1
  have n0 := hO.n0
  have n1 := hO.n1
  have im : inI (A0.now.man c) = true := inI_of (by omega) (by omega)
  have iw : inI (A0.now.wom c) = true := inI_of (by omega) (by omega)
  have i1 : inI (x - 1) = true := inI_of (by omega) (by omega)
  intro k
  induction k with
  | zero =>
    intro y A t hA ht h0 h1
    refine ⟨A, hA, fun Q hq => ?_⟩
    have g := hA.elim id False.elim
    have s1 := g.2.2.1.2.1
    have s2 := g.2.2.1.2.2.2
    refine G_run (B := [94, 108]) 60 _ _ _ _ ?_
    have e1 : A0.now.num 1 < y := by omega
    simp (disch := first | assumption | rfl | exact inI_of (by omega) (by omega) | omega | decide | (simp only [sv_ext, sv_mc, Nat.le_refl]; done) | with_unfolding_all (refine @id _ ?_; first | exact Eq.refl _ | exact Nat.le_refl _ | assumption)) only [Nat.reduceAdd, Nat.reduceMul, Nat.reduceLeDiff, Nat.reduceLT, Int.reduceAdd, Int.reduceSub, Int.reduceMul, Int.reduceNeg, Int.reduceLE, Int.reduceLT, Int.reduceToNat, Int.reduceEq, reduceCtorEq, ld_z, ld_s, st1_0, st1_1, st1_s, st2_0, st2_1, st2_s, isJ_i, isJ_r, isJ_n, isJ_l, cs_nil, cs_i, cs_r, cs_l, kF, List.getElem?_cons_succ, List.getElem?_cons_zero, List.set_cons_zero, List.set_cons_succ, GC_s, GC_n, GK_nil, GK_no, GK_yes, not_false_eq_true, back_eq, back_hp, inI_eq, inA_eq, true_and, and_true, and_self, if_true, if_false, bI_0, bI_1, bI_in, bI_T, bI_F, fitF, jmpF, nlF, pjA, iVal.eta, iYr.eta, List.getElem?_toArray, List.length_cons, List.length_nil, true_or, or_true, or_false, false_or, Classical.not_not, Bool.false_eq_true, hp_2, Nat.zero_le, Nat.le_refl, Option.some.injEq, Sum.inl.injEq, Sum.inr.injEq, not_true_eq_false, true_implies, false_implies, implies_true, Int.le_refl, gX12_deputies, rd_o, rd_o_s, s1, s2, e1]
    exact hq _
  | succ k ih =>
    intro y A t hA ht h0 h1
    have g := hA.elim id False.elim
    have s1 := g.2.2.1.2.1
    have s2 := g.2.2.1.2.2.2
    have e1 : ¬ A0.now.num 1 < y := by omega
    have i2 : inI (y - 1) = true := inI_of (by omega) (by omega)
    have ey : y + 1 - 1 = y - 1 + 1 := by omega
    unfold dpI
    by_cases z1 : x - 1 = A0.now.man c
    · obtain ⟨T, hT, hr⟩ := ih (y + 1) A t hA ht (by omega) (by omega)
      rw [if_neg (fun u => u.1.1 z1)]
      refine ⟨T, hT, fun Q hq => ?_⟩
      refine G_run (B := [94, 108]) 60 _ _ _ _ ?_
      simp (disch := first | assumption | rfl | exact inI_of (by omega) (by omega) | omega | decide | (simp only [sv_ext, sv_mc, Nat.le_refl]; done) | with_unfolding_all (refine @id _ ?_; first | exact Eq.refl _ | exact Nat.le_refl _ | assumption)) only [Nat.reduceAdd, Nat.reduceMul, Nat.reduceLeDiff, Nat.reduceLT, Int.reduceAdd, Int.reduceSub, Int.reduceMul, Int.reduceNeg, Int.reduceLE, Int.reduceLT, Int.reduceToNat, Int.reduceEq, reduceCtorEq, ld_z, ld_s, st1_0, st1_1, st1_s, st2_0, st2_1, st2_s, isJ_i, isJ_r, isJ_n, isJ_l, cs_nil, cs_i, cs_r, cs_l, kF, List.getElem?_cons_succ, List.getElem?_cons_zero, List.set_cons_zero, List.set_cons_succ, GC_s, GC_n, GK_nil, GK_no, GK_yes, not_false_eq_true, back_eq, back_hp, inI_eq, inA_eq, true_and, and_true, and_self, if_true, if_false, bI_0, bI_1, bI_in, bI_T, bI_F, fitF, jmpF, nlF, pjA, iVal.eta, iYr.eta, List.getElem?_toArray, List.length_cons, List.length_nil, true_or, or_true, or_false, false_or, Classical.not_not, Bool.false_eq_true, hp_2, Nat.zero_le, Nat.le_refl, Option.some.injEq, Sum.inl.injEq, Sum.inr.injEq, not_true_eq_false, true_implies, false_implies, implies_true, Int.le_refl, gX12_deputies, rd_o, rd_o_s, s1, s2, e1, eq_true z1]
      rw [ey] at hr
      exact hr Q hq
    · by_cases z2 : y - 1 = A0.now.wom c
      · obtain ⟨T, hT, hr⟩ := ih (y + 1) A t hA ht (by omega) (by omega)
        rw [if_neg (fun u => u.1.2 z2)]
        refine ⟨T, hT, fun Q hq => ?_⟩
        refine G_run (B := [94, 108]) 60 _ _ _ _ ?_
        simp (disch := first | assumption | rfl | exact inI_of (by omega) (by omega) | omega | decide | (simp only [sv_ext, sv_mc, Nat.le_refl]; done) | with_unfolding_all (refine @id _ ?_; first | exact Eq.refl _ | exact Nat.le_refl _ | assumption)) only [Nat.reduceAdd, Nat.reduceMul, Nat.reduceLeDiff, Nat.reduceLT, Int.reduceAdd, Int.reduceSub, Int.reduceMul, Int.reduceNeg, Int.reduceLE, Int.reduceLT, Int.reduceToNat, Int.reduceEq, reduceCtorEq, ld_z, ld_s, st1_0, st1_1, st1_s, st2_0, st2_1, st2_s, isJ_i, isJ_r, isJ_n, isJ_l, cs_nil, cs_i, cs_r, cs_l, kF, List.getElem?_cons_succ, List.getElem?_cons_zero, List.set_cons_zero, List.set_cons_succ, GC_s, GC_n, GK_nil, GK_no, GK_yes, not_false_eq_true, back_eq, back_hp, inI_eq, inA_eq, true_and, and_true, and_self, if_true, if_false, bI_0, bI_1, bI_in, bI_T, bI_F, fitF, jmpF, nlF, pjA, iVal.eta, iYr.eta, List.getElem?_toArray, List.length_cons, List.length_nil, true_or, or_true, or_false, false_or, Classical.not_not, Bool.false_eq_true, hp_2, Nat.zero_le, Nat.le_refl, Option.some.injEq, Sum.inl.injEq, Sum.inr.injEq, not_true_eq_false, true_implies, false_implies, implies_true, Int.le_refl, gX12_deputies, rd_o, rd_o_s, s1, s2, e1, z1, eq_true z2]
        rw [ey] at hr
        exact hr Q hq
      · have vb := vD_b hO hn c0 (by omega) hs hm.1 hm.2 hw.1 hw.2 z1 z2 (u := x - 1) (by omega) (by omega) (v := y - 1) (by omega) (by omega)
        have ok := okS_dS hO hm.1 hm.2 hw.1 hw.2 z1 z2 (u := x - 1) (by omega) (by omega) (v := y - 1) (by omega) (by omega) z10_ok.1 z10_ok.2
        have okD := okS_days n _ 0 ok
        have er := dR_row (e := A0.now.dy) hO hm.1 hm.2 hw.1 hw.2 z1 z2 (u := x - 1) (by omega) (by omega) (v := y - 1) (by omega) (by omega)
        have es : dR A.mo.s (A0.now.man c) (A0.now.wom c) (x - 1) (y - 1) = rowOf (A0.now.dS (A0.now.man c) (A0.now.wom c) (x - 1) (y - 1)) A0.now.dy := (g.2.2.1.1 _ _).trans er
        have es2 : (A.mo.s.set (aOne 0 (A0.now.man c) 2).toNat (x - 1)).set (aOne 1 (A0.now.wom c) 2).toNat (y - 1) = rowOf (A0.now.dS (A0.now.man c) (A0.now.wom c) (x - 1) (y - 1)) A0.now.dy := es
        have lrA : LR A := (LR.of g.1).elim (fun q => Or.inl q) False.elim
        have lr : LR (A.sS (rowOf (A0.now.dS (A0.now.man c) (A0.now.wom c) (x - 1) (y - 1)) A0.now.dy)) := LR.sS lrA
        have md : ∀ Q, Call sp sc (d + 6) mX12_inMind [.inr (.inr 140), .inl 60] (hp (A.sS (rowOf (A0.now.dS (A0.now.man c) (A0.now.wom c) (x - 1) (y - 1)) A0.now.dy))) Q = Q none (hp ((A.sS (rowOf (A0.now.dS (A0.now.man c) (A0.now.wom c) (x - 1) (y - 1)) A0.now.dy)).mr (daysA n (A0.now.dS (A0.now.man c) (A0.now.wom c) (x - 1) (y - 1), yr0 [0, 1, 2, 3] z10)) A0.now.dy)) := fun Q => by
          have := @mr_mind sp sc d (A.sS (rowOf (A0.now.dS (A0.now.man c) (A0.now.wom c) (x - 1) (y - 1)) A0.now.dy)) Q (A0.now.dS (A0.now.man c) (A0.now.wom c) (x - 1) (y - 1)) A0.now.dy ok.1 rfl lr z10 z10_ok.1 z10_ok.2 n (by omega)
          have en : ((n : Nat) : Int) = 60 := by omega
          rw [en] at this
          exact this
        have hinv : invD A0 ((A.sS (rowOf (A0.now.dS (A0.now.man c) (A0.now.wom c) (x - 1) (y - 1)) A0.now.dy)).mr (daysA n (A0.now.dS (A0.now.man c) (A0.now.wom c) (x - 1) (y - 1), yr0 [0, 1, 2, 3] z10)) A0.now.dy) (A0.now.man c) (A0.now.wom c) := by
          refine Or.inl ⟨?_, g.2.1, ⟨fun u v => ?_, ?_, ?_, ?_⟩, g.2.2.2.1, g.2.2.2.2⟩
          · rw [mr_sS, sS_sS]
            exact rel_mr g.1 okD.1
          · show dR (rowOf (A0.now.dS (A0.now.man c) (A0.now.wom c) (x - 1) (y - 1)) A0.now.dy) (A0.now.man c) (A0.now.wom c) u v = _
            rw [← er, dR_dR hm.1 (by omega) hw.1 (by omega)]
          · exact row_len
          · show (rowOf (A0.now.dS (A0.now.man c) (A0.now.wom c) (x - 1) (y - 1)) A0.now.dy).getD 0 0 = _
            rw [← er, dR_low hm.1 hw.1 (by omega)]; exact q_n0
          · show (rowOf (A0.now.dS (A0.now.man c) (A0.now.wom c) (x - 1) (y - 1)) A0.now.dy).getD 1 0 = _
            rw [← er, dR_low hm.1 hw.1 (by omega)]; exact q_n1
        have len := okD.1.2.len
        have lsa := okD.1.1.lsa
        have st := okD.1.1.sta c c0 (by omega)
        have fb := okD.1.2.fin c c0 (by omega)
        have ef := enR_get (l := (daysA n (A0.now.dS (A0.now.man c) (A0.now.wom c) (x - 1) (y - 1), yr0 [0, 1, 2, 3] z10)).2.en) c0 (by omega)
        generalize hD : daysA n (A0.now.dS (A0.now.man c) (A0.now.wom c) (x - 1) (y - 1), yr0 [0, 1, 2, 3] z10) = D at *
        generalize vD n A0.now c (A0.now.man c) (A0.now.wom c) (x - 1) (y - 1) = V at *
        have f2 : D.2.en.getD c.toNat 0 = D.2.fin c := rfl
        rw [f2] at ef
        have l117 := fun (i : Nat) (v : Int) => (show (A.mo.s.set i v).length = 117 from by rw [List.length_set]; exact s1)
        have men : ((A.sS (rowOf (A0.now.dS (A0.now.man c) (A0.now.wom c) (x - 1) (y - 1)) A0.now.dy)).mr D A0.now.dy).mo.en = enR D.2.en := rfl
        have le : (enR D.2.en).length = 4 := by rw [enR_len]; exact len
        have tb : 1 ≤ t.1 ∧ t.1 ≤ 61 := by rcases ht with u | u <;> omega
        have ib : inI (fD t).2 = true := by
          unfold fD
          by_cases u : t.2 = -4
          · rw [if_pos u]; rfl
          · rw [if_neg u]; exact inI_of (by omega) (by omega)
        by_cases z3 : D.1.sta c = 1
        · have v1 := vb.2.1 z3
          rw [v1.1] at *
          have nf : ¬ D.2.fin c = 0 := by omega
          rw [if_neg nf] at ef
          by_cases z4 : D.2.fin c < t.1
          · rw [if_pos ⟨⟨z1, z2⟩, z4⟩]
            obtain ⟨T, hT, hr⟩ := ih (y + 1) _ (D.2.fin c, 10 * (x - 1 + 1) + (y - 1) + 1) hinv (Or.inr ⟨by omega, by omega, by omega, by omega⟩) (by omega) (by omega)
            refine ⟨T, hT, fun Q hq => ?_⟩
            have z5' : D.2.fin c < (fD t).2 := by
              unfold fD
              by_cases u : t.2 = -4
              · rw [if_pos u]; omega
              · rw [if_neg u]; exact z4
            have fe : fD (D.2.fin c, 10 * (x - 1 + 1) + (y - 1) + 1) = (10 * x + y, D.2.fin c) := by
              unfold fD
              dsimp only
              rw [if_neg (by omega)]
              have : 10 * (x - 1 + 1) + (y - 1) + 1 = 10 * x + y := by omega
              rw [this]
            rw [ey, fe] at hr
            refine G_run (B := [94, 108]) 90 _ _ _ _ ?_
            simp (disch := first | assumption | rfl | exact inI_of (by omega) (by omega) | omega | decide | (simp only [sv_ext, sv_mc, Nat.le_refl]; done) | with_unfolding_all (refine @id _ ?_; first | exact Eq.refl _ | exact Nat.le_refl _ | assumption)) only [Nat.reduceAdd, Nat.reduceMul, Nat.reduceLeDiff, Nat.reduceLT, Int.reduceAdd, Int.reduceSub, Int.reduceMul, Int.reduceNeg, Int.reduceLE, Int.reduceLT, Int.reduceToNat, Int.reduceEq, reduceCtorEq, ld_z, ld_s, st1_0, st1_1, st1_s, st2_0, st2_1, st2_s, isJ_i, isJ_r, isJ_n, isJ_l, cs_nil, cs_i, cs_r, cs_l, kF, List.getElem?_cons_succ, List.getElem?_cons_zero, List.set_cons_zero, List.set_cons_succ, GC_s, GC_n, GK_nil, GK_no, GK_yes, not_false_eq_true, back_eq, back_hp, inI_eq, inA_eq, true_and, and_true, and_self, if_true, if_false, bI_0, bI_1, bI_in, bI_T, bI_F, fitF, jmpF, nlF, pjA, iVal.eta, iYr.eta, List.getElem?_toArray, List.length_cons, List.length_nil, true_or, or_true, or_false, false_or, Classical.not_not, Bool.false_eq_true, hp_2, Nat.zero_le, Nat.le_refl, Option.some.injEq, Sum.inl.injEq, Sum.inr.injEq, not_true_eq_false, true_implies, false_implies, implies_true, Int.le_refl, gX12_deputies, rd_o, rd_o_s, rd_o_m, rd_o_en, s1, s2, e1, z1, z2, inA_one, inA_cpl, atOne_eq, atCouple_eq, wr_sS, sS_s, sS_sS, l117, es2, md, back_mr1, mr_m, row_len, q_sta, eq_true z3, men, le, ef, z5', ib]
            exact hr Q hq
          · rw [if_neg (fun u => z4 u.2)]
            obtain ⟨T, hT, hr⟩ := ih (y + 1) _ t hinv ht (by omega) (by omega)
            refine ⟨T, hT, fun Q hq => ?_⟩
            have z5' : ¬ D.2.fin c < (fD t).2 := by
              unfold fD
              by_cases u : t.2 = -4
              · rcases ht with v | v
                · omega
                · omega
              · rw [if_neg u]; exact z4
            rw [ey] at hr
            refine G_run (B := [94, 108]) 90 _ _ _ _ ?_
            simp (disch := first | assumption | rfl | exact inI_of (by omega) (by omega) | omega | decide | (simp only [sv_ext, sv_mc, Nat.le_refl]; done) | with_unfolding_all (refine @id _ ?_; first | exact Eq.refl _ | exact Nat.le_refl _ | assumption)) only [Nat.reduceAdd, Nat.reduceMul, Nat.reduceLeDiff, Nat.reduceLT, Int.reduceAdd, Int.reduceSub, Int.reduceMul, Int.reduceNeg, Int.reduceLE, Int.reduceLT, Int.reduceToNat, Int.reduceEq, reduceCtorEq, ld_z, ld_s, st1_0, st1_1, st1_s, st2_0, st2_1, st2_s, isJ_i, isJ_r, isJ_n, isJ_l, cs_nil, cs_i, cs_r, cs_l, kF, List.getElem?_cons_succ, List.getElem?_cons_zero, List.set_cons_zero, List.set_cons_succ, GC_s, GC_n, GK_nil, GK_no, GK_yes, not_false_eq_true, back_eq, back_hp, inI_eq, inA_eq, true_and, and_true, and_self, if_true, if_false, bI_0, bI_1, bI_in, bI_T, bI_F, fitF, jmpF, nlF, pjA, iVal.eta, iYr.eta, List.getElem?_toArray, List.length_cons, List.length_nil, true_or, or_true, or_false, false_or, Classical.not_not, Bool.false_eq_true, hp_2, Nat.zero_le, Nat.le_refl, Option.some.injEq, Sum.inl.injEq, Sum.inr.injEq, not_true_eq_false, true_implies, false_implies, implies_true, Int.le_refl, gX12_deputies, rd_o, rd_o_s, rd_o_m, rd_o_en, s1, s2, e1, z1, z2, inA_one, inA_cpl, atOne_eq, atCouple_eq, wr_sS, sS_s, sS_sS, l117, es2, md, back_mr1, mr_m, row_len, q_sta, eq_true z3, men, le, ef, z5', ib]
            exact hr Q hq
        · have v1 := vb.2.2 z3
          rw [if_neg (fun u => by have := u.2; omega)]
          obtain ⟨T, hT, hr⟩ := ih (y + 1) _ t hinv ht (by omega) (by omega)
          refine ⟨T, hT, fun Q hq => ?_⟩
          rw [ey] at hr
          refine G_run (B := [94, 108]) 90 _ _ _ _ ?_
          simp (disch := first | assumption | rfl | exact inI_of (by omega) (by omega) | omega | decide | (simp only [sv_ext, sv_mc, Nat.le_refl]; done) | with_unfolding_all (refine @id _ ?_; first | exact Eq.refl _ | exact Nat.le_refl _ | assumption)) only [Nat.reduceAdd, Nat.reduceMul, Nat.reduceLeDiff, Nat.reduceLT, Int.reduceAdd, Int.reduceSub, Int.reduceMul, Int.reduceNeg, Int.reduceLE, Int.reduceLT, Int.reduceToNat, Int.reduceEq, reduceCtorEq, ld_z, ld_s, st1_0, st1_1, st1_s, st2_0, st2_1, st2_s, isJ_i, isJ_r, isJ_n, isJ_l, cs_nil, cs_i, cs_r, cs_l, kF, List.getElem?_cons_succ, List.getElem?_cons_zero, List.set_cons_zero, List.set_cons_succ, GC_s, GC_n, GK_nil, GK_no, GK_yes, not_false_eq_true, back_eq, back_hp, inI_eq, inA_eq, true_and, and_true, and_self, if_true, if_false, bI_0, bI_1, bI_in, bI_T, bI_F, fitF, jmpF, nlF, pjA, iVal.eta, iYr.eta, List.getElem?_toArray, List.length_cons, List.length_nil, true_or, or_true, or_false, false_or, Classical.not_not, Bool.false_eq_true, hp_2, Nat.zero_le, Nat.le_refl, Option.some.injEq, Sum.inl.injEq, Sum.inr.injEq, not_true_eq_false, true_implies, false_implies, implies_true, Int.le_refl, gX12_deputies, rd_o, rd_o_s, rd_o_m, rd_o_en, s1, s2, e1, z1, z2, inA_one, inA_cpl, atOne_eq, atCouple_eq, wr_sS, sS_s, sS_sS, l117, es2, md, back_mr1, mr_m, row_len, q_sta, z3]
          exact hr Q hq
theorem dpI_t {n : Nat} {X : iVal} (hO : OkV X) (hn : n = 60) {c u : Int} (c0 : 0 ≤ c) (c1 : c < X.cp) (hs : X.sta c = 0) (u0 : -1 ≤ u) (u1 : u < X.num 0) : ∀ (k : Nat) (v : Int) (t : Int × Int), tD t → -1 ≤ v → v + k = X.num 1 → tD (dpI n X c (X.man c) (X.wom c) u k v t) := by
  have hcp := hO.cp
  have hm := hO.man c c0 c1
  have hw := hO.wom c c0 c1
  have n0 := hO.n0
  have n1 := hO.n1
  intro k
  induction k with
  | zero => intro v t ht _ _; exact ht
  | succ k ih =>
    intro v t ht h0 h1
    unfold dpI
    apply ih _ _ ?_ (by omega) (by omega)
    by_cases z : (¬ u = X.man c ∧ ¬ v = X.wom c) ∧ vD n X c (X.man c) (X.wom c) u v < t.1
    · rw [if_pos z]
      have vb := (vD_b hO hn c0 (by omega) hs hm.1 hm.2 hw.1 hw.2 z.1.1 z.1.2 u0 u1 (v := v) (by omega) (by omega)).1
      have tb : 1 ≤ t.1 ∧ t.1 ≤ 61 := by rcases ht with y | y <;> omega
      have z2 := z.2
      exact Or.inr ⟨by omega, by omega, by omega, by omega⟩
    · rw [if_neg z]; exact ht
theorem dpR_out (hO : OkV A0.now) {n : Nat} (hn : n = 60) {c w0 : Int} (iw0 : inI w0 = true) (c0 : 0 ≤ c) (c1 : c < A0.now.cp) (hs : A0.now.sta c = 0) {k1 : Nat} (hk : -1 + (k1 : Int) = A0.now.num 1) : ∀ (k : Nat) (x : Int) (A : iA) (t : Int × Int), invD A0 A (A0.now.man c) (A0.now.wom c) → tD t → 0 ≤ x → x + k = A0.now.num 0 + 1 → ∃ T : iA, invD A0 T (A0.now.man c) (A0.now.wom c) ∧ tD (dpO n A0.now c (A0.now.man c) (A0.now.wom c) k1 k (x - 1) t) ∧ ∀ (o10 : Option iV) Q, (Q (some (.inl (if w0 = 0 ∨ (dpO n A0.now c (A0.now.man c) (A0.now.wom c) k1 k (x - 1) t).2 = -4 then (dpO n A0.now c (A0.now.man c) (A0.now.wom c) k1 k (x - 1) t).2 else (dpO n A0.now c (A0.now.man c) (A0.now.wom c) k1 k (x - 1) t).1))) (hp (T.sS (rowOf A0.now A0.now.dy)))) → Run sp sc (d + 7) mX12_deputies 94 [some (.inr (.inr 140)), some (.inl c), some (.inl w0), some (.inl (A0.now.man c)), some (.inl (A0.now.wom c)), some (.inl (A0.now.dep 0 (A0.now.man c))), some (.inl (A0.now.dep 1 (A0.now.wom c))), some (.inl (fD t).1), some (.inl (fD t).2), some (.inl x), o10] [] (hp A) Q := by
  have hcp := hO.cp
  have hm := hO.man c c0 c1
  have hw := hO.wom c c0 c1
  have n0 := hO.n0
  have n1 := hO.n1
  intro k
  induction k with
  | zero =>
    intro x A t hA ht h0 h1
    refine ⟨A, hA, ht, fun o10 Q hq => ?_⟩
    have g := hA.elim id False.elim
    have s1 := g.2.2.1.2.1
    have s2 := g.2.2.1.2.2.1
    have l117 := fun (i : Nat) (v : Int) => (show (A.mo.s.set i v).length = 117 from by rw [List.length_set]; exact s1)
    have es : (A.mo.s.set (aOne 0 (A0.now.man c) 2).toNat (A0.now.dep 0 (A0.now.man c))).set (aOne 1 (A0.now.wom c) 2).toNat (A0.now.dep 1 (A0.now.wom c)) = rowOf A0.now A0.now.dy := (g.2.2.1.1 _ _).trans (dR_self hO hm.1 hm.2 hw.1 hw.2)
    refine G_run (B := [94, 108]) 60 _ _ _ _ ?_
    have e1 : A0.now.num 0 < x := by omega
    unfold dpO at hq
    have it : inI t.2 = true := by rcases ht with y | y <;> exact inI_of (by omega) (by omega)
    have f1 : (fD t).1 = t.2 := rfl
    by_cases z : t.2 = -4
    · rw [if_pos (Or.inr z)] at hq
      rw [z] at hq
      simp (disch := first | assumption | rfl | exact inI_of (by omega) (by omega) | omega | decide | (simp only [sv_ext, sv_mc, Nat.le_refl]; done) | with_unfolding_all (refine @id _ ?_; first | exact Eq.refl _ | exact Nat.le_refl _ | assumption)) only [Nat.reduceAdd, Nat.reduceMul, Nat.reduceLeDiff, Nat.reduceLT, Int.reduceAdd, Int.reduceSub, Int.reduceMul, Int.reduceNeg, Int.reduceLE, Int.reduceLT, Int.reduceToNat, Int.reduceEq, reduceCtorEq, ld_z, ld_s, st1_0, st1_1, st1_s, st2_0, st2_1, st2_s, isJ_i, isJ_r, isJ_n, isJ_l, cs_nil, cs_i, cs_r, cs_l, kF, List.getElem?_cons_succ, List.getElem?_cons_zero, List.set_cons_zero, List.set_cons_succ, GC_s, GC_n, GK_nil, GK_no, GK_yes, not_false_eq_true, back_eq, back_hp, inI_eq, inA_eq, true_and, and_true, and_self, if_true, if_false, bI_0, bI_1, bI_in, bI_T, bI_F, fitF, jmpF, nlF, pjA, iVal.eta, iYr.eta, List.getElem?_toArray, List.length_cons, List.length_nil, true_or, or_true, or_false, false_or, Classical.not_not, Bool.false_eq_true, hp_2, Nat.zero_le, Nat.le_refl, Option.some.injEq, Sum.inl.injEq, Sum.inr.injEq, not_true_eq_false, true_implies, false_implies, implies_true, Int.le_refl, gX12_deputies, rd_o, rd_o_s, s1, s2, e1, inA_one, atOne_eq, wr_sS, sS_s, sS_sS, l117, es, f1, z]
      exact hq
    · have t0 : ¬ t.2 < 0 := by rcases ht with y | y <;> omega
      by_cases y : w0 = 0
      · rw [if_pos (Or.inl y)] at hq
        simp (disch := first | assumption | rfl | exact inI_of (by omega) (by omega) | omega | decide | (simp only [sv_ext, sv_mc, Nat.le_refl]; done) | with_unfolding_all (refine @id _ ?_; first | exact Eq.refl _ | exact Nat.le_refl _ | assumption)) only [Nat.reduceAdd, Nat.reduceMul, Nat.reduceLeDiff, Nat.reduceLT, Int.reduceAdd, Int.reduceSub, Int.reduceMul, Int.reduceNeg, Int.reduceLE, Int.reduceLT, Int.reduceToNat, Int.reduceEq, reduceCtorEq, ld_z, ld_s, st1_0, st1_1, st1_s, st2_0, st2_1, st2_s, isJ_i, isJ_r, isJ_n, isJ_l, cs_nil, cs_i, cs_r, cs_l, kF, List.getElem?_cons_succ, List.getElem?_cons_zero, List.set_cons_zero, List.set_cons_succ, GC_s, GC_n, GK_nil, GK_no, GK_yes, not_false_eq_true, back_eq, back_hp, inI_eq, inA_eq, true_and, and_true, and_self, if_true, if_false, bI_0, bI_1, bI_in, bI_T, bI_F, fitF, jmpF, nlF, pjA, iVal.eta, iYr.eta, List.getElem?_toArray, List.length_cons, List.length_nil, true_or, or_true, or_false, false_or, Classical.not_not, Bool.false_eq_true, hp_2, Nat.zero_le, Nat.le_refl, Option.some.injEq, Sum.inl.injEq, Sum.inr.injEq, not_true_eq_false, true_implies, false_implies, implies_true, Int.le_refl, gX12_deputies, rd_o, rd_o_s, s1, s2, e1, inA_one, atOne_eq, wr_sS, sS_s, sS_sS, l117, es, f1, t0, it, eq_true y]
        exact hq
      · rw [if_neg (fun u => u.elim y z)] at hq
        have f2 : (fD t).2 = t.1 := if_neg z
        simp (disch := first | assumption | rfl | exact inI_of (by omega) (by omega) | omega | decide | (simp only [sv_ext, sv_mc, Nat.le_refl]; done) | with_unfolding_all (refine @id _ ?_; first | exact Eq.refl _ | exact Nat.le_refl _ | assumption)) only [Nat.reduceAdd, Nat.reduceMul, Nat.reduceLeDiff, Nat.reduceLT, Int.reduceAdd, Int.reduceSub, Int.reduceMul, Int.reduceNeg, Int.reduceLE, Int.reduceLT, Int.reduceToNat, Int.reduceEq, reduceCtorEq, ld_z, ld_s, st1_0, st1_1, st1_s, st2_0, st2_1, st2_s, isJ_i, isJ_r, isJ_n, isJ_l, cs_nil, cs_i, cs_r, cs_l, kF, List.getElem?_cons_succ, List.getElem?_cons_zero, List.set_cons_zero, List.set_cons_succ, GC_s, GC_n, GK_nil, GK_no, GK_yes, not_false_eq_true, back_eq, back_hp, inI_eq, inA_eq, true_and, and_true, and_self, if_true, if_false, bI_0, bI_1, bI_in, bI_T, bI_F, fitF, jmpF, nlF, pjA, iVal.eta, iYr.eta, List.getElem?_toArray, List.length_cons, List.length_nil, true_or, or_true, or_false, false_or, Classical.not_not, Bool.false_eq_true, hp_2, Nat.zero_le, Nat.le_refl, Option.some.injEq, Sum.inl.injEq, Sum.inr.injEq, not_true_eq_false, true_implies, false_implies, implies_true, Int.le_refl, gX12_deputies, rd_o, rd_o_s, s1, s2, e1, inA_one, atOne_eq, wr_sS, sS_s, sS_sS, l117, es, f1, f2, t0, it, y, iw0]
        exact hq
  | succ k ih =>
    intro x A t hA ht h0 h1
    have e1 : ¬ A0.now.num 0 < x := by omega
    have g := hA.elim id False.elim
    have s1 := g.2.2.1.2.1
    have s2 := g.2.2.1.2.2.1
    have ex : x + 1 - 1 = x - 1 + 1 := by omega
    obtain ⟨A1, hA1, hr1⟩ := @dpR_in sp sc d A0 hO n hn c w0 x (A0.now.dep 0 (A0.now.man c)) (A0.now.dep 1 (A0.now.wom c)) c0 c1 hs h0 (by omega) k1 0 A t hA ht (by omega) (by omega)
    have e0 : (0 : Int) - 1 = -1 := by omega
    rw [e0] at hr1
    have ht1 := dpI_t hO hn c0 c1 hs (u := x - 1) (by omega) (by omega) k1 (-1) t ht (by omega) hk
    obtain ⟨T, hT, hD, hr⟩ := ih (x + 1) A1 (dpI n A0.now c (A0.now.man c) (A0.now.wom c) (x - 1) k1 (-1) t) hA1 ht1 (by omega) (by omega)
    rw [ex] at hD hr
    refine ⟨T, hT, hD, fun o10 Q hq => ?_⟩
    refine G_run (B := [94, 108]) 60 _ _ _ _ ?_
    simp (disch := first | assumption | rfl | exact inI_of (by omega) (by omega) | omega | decide | (simp only [sv_ext, sv_mc, Nat.le_refl]; done) | with_unfolding_all (refine @id _ ?_; first | exact Eq.refl _ | exact Nat.le_refl _ | assumption)) only [Nat.reduceAdd, Nat.reduceMul, Nat.reduceLeDiff, Nat.reduceLT, Int.reduceAdd, Int.reduceSub, Int.reduceMul, Int.reduceNeg, Int.reduceLE, Int.reduceLT, Int.reduceToNat, Int.reduceEq, reduceCtorEq, ld_z, ld_s, st1_0, st1_1, st1_s, st2_0, st2_1, st2_s, isJ_i, isJ_r, isJ_n, isJ_l, cs_nil, cs_i, cs_r, cs_l, kF, List.getElem?_cons_succ, List.getElem?_cons_zero, List.set_cons_zero, List.set_cons_succ, GC_s, GC_n, GK_nil, GK_no, GK_yes, not_false_eq_true, back_eq, back_hp, inI_eq, inA_eq, true_and, and_true, and_self, if_true, if_false, bI_0, bI_1, bI_in, bI_T, bI_F, fitF, jmpF, nlF, pjA, iVal.eta, iYr.eta, List.getElem?_toArray, List.length_cons, List.length_nil, true_or, or_true, or_false, false_or, Classical.not_not, Bool.false_eq_true, hp_2, Nat.zero_le, Nat.le_refl, Option.some.injEq, Sum.inl.injEq, Sum.inr.injEq, not_true_eq_false, true_implies, false_implies, implies_true, Int.le_refl, gX12_deputies, rd_o, rd_o_s, s1, s2, e1]
    exact hr1 Q (fun o10 => hr o10 Q hq)
theorem ag_deputies (hR : Rel A) {c w : Int} (ic : inI c = true) (iw : inI w = true) : Agree sp sc mX11_deputies mX12_deputies [.inl c, .inl w] A := by
  have hO := hR.now
  have hr := hR.row
  have hcp := hO.cp
  have n0 := hO.n0
  have n1 := hO.n1
  by_cases c1 : 0 ≤ c ∧ c < A.now.cp
  · by_cases c3 : 0 ≤ w ∧ w ≤ 1
    · have z1 : ¬ w < 0 := by omega
      have hO1 : OkV (A.v .now) := hO
      have go := fun Q => @goesOn_eq sp sc 18 A .now Q hO1 c c1.1 (by omega)
      have eg : (A.v .now).sta c = A.now.sta c := rfl
      rw [eg] at go
      by_cases c4 : A.now.sta c = 0
      · have hm := hO.man c c1.1 c1.2
        have hw := hO.wom c c1.1 c1.2
        obtain ⟨n, hn⟩ : ∃ n : Nat, n = 60 := ⟨60, rfl⟩
        obtain ⟨k0, hk0⟩ : ∃ k0 : Nat, -1 + (k0 : Int) = A.now.num 0 := ⟨(A.now.num 0 + 1).toNat, by omega⟩
        obtain ⟨k1, hk1⟩ : ∃ k1 : Nat, -1 + (k1 : Int) = A.now.num 1 := ⟨(A.now.num 1 + 1).toNat, by omega⟩
        have t0 : tD (61, -4) := Or.inl ⟨rfl, rfl⟩
        obtain ⟨S, hS, htD, hC⟩ := @dpC_out sp sc 11 A hO n hn c w iw c1.1 c1.2 c4 k1 hk1 k0 (-1) (A.v .mnd, A.yr) (61, -4) (Or.inl ⟨hR.mok, hR.yr⟩) t0 (by omega) (by omega)
        have hRS : Rel (A.sxy S) := rel_good hR hS
        have eS : (A.sxy S).sS (rowOf (A.sxy S).now (A.sxy S).now.dy) = A.sxy S := by
          have : rowOf (A.sxy S).now (A.sxy S).now.dy = (A.sxy S).mo.s := hRS.row.symm
          rw [this]; rfl
        have hinv : invD (A.sxy S) (A.sxy S) (A.now.man c) (A.now.wom c) := Or.inl ⟨by rw [eS]; exact hRS, rfl, ⟨fun u v => by rw [hRS.row], by rw [hRS.row]; exact row_len, by rw [hRS.row]; exact q_n0, by rw [hRS.row]; exact q_n1⟩, rfl, rfl⟩
        obtain ⟨T, hT, -, hRr⟩ := @dpR_out sp sc 12 (A.sxy S) hO n hn c w iw c1.1 c1.2 c4 k1 hk1 k0 0 (A.sxy S) (61, -4) hinv t0 (by omega) (by show (0 : Int) + k0 = A.now.num 0 + 1; omega)
        have gT := hT.elim id False.elim
        have e0 : (0 : Int) - 1 = -1 := by omega
        rw [e0] at hRr
        have en : (A.sxy S).now = A.now := rfl
        rw [en] at hRr
        have ef : fD (61, -4) = (-4, 1000000000) := rfl
        rw [ef] at hRr
        have hr2 : (A.sxy S).mo.s = rowOf A.now A.now.dy := hr
        have go1 : ∀ Q, Call sp sc 18 mX8_goesOn [.inr (.inr (vb .now + 2)), .inl c] (hp A) Q = Q (some (.inl 1)) (hp A) := fun Q => by rw [go, bI_t c4]
        have gr1 : ∀ Q, Call sp sc 18 mX12_goesOn [.inr (.inr 141), .inl c] (hp (A.sxy S)) Q = Q (some (.inl 1)) (hp (A.sxy S)) := fun Q => by
          have := @goesOnR_eq sp sc 17 (A.sxy S) .s (A.sxy S).ry Q A.now A.now.dy hO c c1.1 (by omega)
          have es : (A.sxy S).sro .s (rowOf A.now A.now.dy) (A.sxy S).ry = A.sxy S := by rw [← hr2]; exact sro_id
          rw [es, bI_t c4] at this
          exact this
        generalize dpO n A.now c (A.now.man c) (A.now.wom c) k1 k0 (-1) (61, -4) = t at *
        refine Agree.of (if w = 0 ∨ t.2 = -4 then t.2 else t.1) (A.sxy S) (T.sS (rowOf A.now A.now.dy)) (by rcases htD with y | y <;> split <;> exact inI_of (by omega) (by omega)) (fun Q => Call_eq ?_) (fun Q => Call_eq ?_) rfl gT.2.2.2.1 gT.1
        · apply eX11_deputies 60; simp (disch := first | assumption | rfl | exact inI_of (by omega) (by omega) | omega | decide | (simp only [sv_ext, sv_mc, Nat.le_refl]; done) | with_unfolding_all (refine @id _ ?_; first | exact Eq.refl _ | exact Nat.le_refl _ | assumption)) only [Nat.reduceAdd, Nat.reduceMul, Nat.reduceLeDiff, Nat.reduceLT, Int.reduceAdd, Int.reduceSub, Int.reduceMul, Int.reduceNeg, Int.reduceLE, Int.reduceLT, Int.reduceToNat, Int.reduceEq, reduceCtorEq, ld_z, ld_s, st1_0, st1_1, st1_s, st2_0, st2_1, st2_s, isJ_i, isJ_r, isJ_n, isJ_l, cs_nil, cs_i, cs_r, cs_l, kF, List.getElem?_cons_succ, List.getElem?_cons_zero, List.set_cons_zero, List.set_cons_succ, GC_s, GC_n, GK_nil, GK_no, GK_yes, not_false_eq_true, back_eq, inI_eq, inA_eq, true_and, and_true, and_self, if_true, if_false, bI_0, bI_1, bI_in, bI_T, bI_F, fitF, jmpF, nlF, pjA, iVal.eta, iYr.eta, List.getElem?_toArray, List.length_cons, List.length_nil, true_or, or_true, or_false, false_or, Classical.not_not, Bool.false_eq_true, hp_2, Nat.zero_le, Nat.le_refl, Option.some.injEq, Sum.inl.injEq, Sum.inr.injEq, not_true_eq_false, true_implies, false_implies, implies_true, Int.le_refl, rd_v, f_num, f_lik, f_dep, f_bnd, f_man, f_wom, f_sta, f_dds, f_who, rd_y, rd_y1, rd_y2, rd_y3, rd_y4, wy, wy1, wy2, wy3, wy4, sxy_mnd, sxy_now, sxy_img, sxy_yr, sxy_xy, sxy_sxy, sv_sxy, f_ord, f_bus, f_wai, f_fin, rd_e, v_now, hasOne_eq, hasTwo_eq, hasCouple_eq, orNone_eq, natureOf_eq, rd_nat, place_eq, rd_v1, rd_v3, rd_v4, rd_v6, rd_v7, rd_v8, rd_v9, rd_v10, isShelf_eq, isSide_eq, isDeed_eq, isKind_eq, isMindSpan_eq, back_sxy, back_sxy1, f_orN, gX11_deputies, c1, c3, z1, iw, go1, hO.lme, hO.lwo]
          exact hC _ _ _ ⟨rfl, rfl⟩
        · have hr := hr2
          apply eX12_deputies 60; simp (disch := first | assumption | rfl | exact inI_of (by omega) (by omega) | omega | decide | (simp only [sv_ext, sv_mc, Nat.le_refl]; done) | with_unfolding_all (refine @id _ ?_; first | exact Eq.refl _ | exact Nat.le_refl _ | assumption)) only [Nat.reduceAdd, Nat.reduceMul, Nat.reduceLeDiff, Nat.reduceLT, Int.reduceAdd, Int.reduceSub, Int.reduceMul, Int.reduceNeg, Int.reduceLE, Int.reduceLT, Int.reduceToNat, Int.reduceEq, reduceCtorEq, ld_z, ld_s, st1_0, st1_1, st1_s, st2_0, st2_1, st2_s, isJ_i, isJ_r, isJ_n, isJ_l, cs_nil, cs_i, cs_r, cs_l, kF, List.getElem?_cons_succ, List.getElem?_cons_zero, List.set_cons_zero, List.set_cons_succ, GC_s, GC_n, GK_nil, GK_no, GK_yes, not_false_eq_true, back_eq, back_hp, inI_eq, inA_eq, true_and, and_true, and_self, if_true, if_false, bI_0, bI_1, bI_in, bI_T, bI_F, fitF, jmpF, nlF, pjA, iVal.eta, iYr.eta, List.getElem?_toArray, List.length_cons, List.length_nil, true_or, or_true, or_false, false_or, Classical.not_not, Bool.false_eq_true, hp_2, Nat.zero_le, Nat.le_refl, Option.some.injEq, Sum.inl.injEq, Sum.inr.injEq, not_true_eq_false, true_implies, false_implies, implies_true, Int.le_refl, rd_o, rd_o_s, hr, row_len, inA_one, inA_lik, inA_cpl, isOne_eq hO hr, isCouple_eq hO hr, isIn_eq, atOne_eq, atLike_eq, atCouple_eq, r_num, q_n0, q_n1, r_cp, r_dy, r_sl, r_who, q_kind, q_fig, q_dep, q_bnd, q_lik, q_man, q_wom, q_sta, q_dds, orNoneR_eq, Int.zero_add, gX12_deputies, c1, c3, gr1]
          exact hRr _ _ ⟨rfl, rfl⟩
      · have go1 : ∀ Q, Call sp sc 18 mX8_goesOn [.inr (.inr (vb .now + 2)), .inl c] (hp A) Q = Q (some (.inl 0)) (hp A) := fun Q => by rw [go, bI_f c4]
        have gr1 : ∀ Q, Call sp sc 18 mX12_goesOn [.inr (.inr 141), .inl c] (hp A) Q = Q (some (.inl 0)) (hp A) := fun Q => by
          have := @goesOnR_eq sp sc 17 A .s A.ry Q A.now A.now.dy hO c c1.1 (by omega)
          have es : A.sro .s (rowOf A.now A.now.dy) A.ry = A := by rw [← hr]; exact sro_id
          rw [es, bI_f c4] at this
          exact this
        refine Agree.of (-4) A A rfl (fun Q => Call_eq ?_) (fun Q => Call_eq ?_) rfl rfl hR
        · apply eX11_deputies 60; simp (disch := first | assumption | rfl | exact inI_of (by omega) (by omega) | omega | decide | (simp only [sv_ext, sv_mc, Nat.le_refl]; done) | with_unfolding_all (refine @id _ ?_; first | exact Eq.refl _ | exact Nat.le_refl _ | assumption)) only [Nat.reduceAdd, Nat.reduceMul, Nat.reduceLeDiff, Nat.reduceLT, Int.reduceAdd, Int.reduceSub, Int.reduceMul, Int.reduceNeg, Int.reduceLE, Int.reduceLT, Int.reduceToNat, Int.reduceEq, reduceCtorEq, ld_z, ld_s, st1_0, st1_1, st1_s, st2_0, st2_1, st2_s, isJ_i, isJ_r, isJ_n, isJ_l, cs_nil, cs_i, cs_r, cs_l, kF, List.getElem?_cons_succ, List.getElem?_cons_zero, List.set_cons_zero, List.set_cons_succ, GC_s, GC_n, GK_nil, GK_no, GK_yes, not_false_eq_true, back_eq, inI_eq, inA_eq, true_and, and_true, and_self, if_true, if_false, bI_0, bI_1, bI_in, bI_T, bI_F, fitF, jmpF, nlF, pjA, iVal.eta, iYr.eta, List.getElem?_toArray, List.length_cons, List.length_nil, true_or, or_true, or_false, false_or, Classical.not_not, Bool.false_eq_true, hp_2, Nat.zero_le, Nat.le_refl, Option.some.injEq, Sum.inl.injEq, Sum.inr.injEq, not_true_eq_false, true_implies, false_implies, implies_true, Int.le_refl, rd_v, f_num, f_lik, f_dep, f_bnd, f_man, f_wom, f_sta, f_dds, f_who, rd_y, rd_y1, rd_y2, rd_y3, rd_y4, wy, wy1, wy2, wy3, wy4, sxy_mnd, sxy_now, sxy_img, sxy_yr, sxy_xy, sxy_sxy, sv_sxy, f_ord, f_bus, f_wai, f_fin, rd_e, v_now, hasOne_eq, hasTwo_eq, hasCouple_eq, orNone_eq, natureOf_eq, rd_nat, place_eq, rd_v1, rd_v3, rd_v4, rd_v6, rd_v7, rd_v8, rd_v9, rd_v10, isShelf_eq, isSide_eq, isDeed_eq, isKind_eq, isMindSpan_eq, back_sxy, back_sxy1, f_orN, gX11_deputies, c1, c3, z1, iw, go1]
        · apply eX12_deputies 60; simp (disch := first | assumption | rfl | exact inI_of (by omega) (by omega) | omega | decide | (simp only [sv_ext, sv_mc, Nat.le_refl]; done) | with_unfolding_all (refine @id _ ?_; first | exact Eq.refl _ | exact Nat.le_refl _ | assumption)) only [Nat.reduceAdd, Nat.reduceMul, Nat.reduceLeDiff, Nat.reduceLT, Int.reduceAdd, Int.reduceSub, Int.reduceMul, Int.reduceNeg, Int.reduceLE, Int.reduceLT, Int.reduceToNat, Int.reduceEq, reduceCtorEq, ld_z, ld_s, st1_0, st1_1, st1_s, st2_0, st2_1, st2_s, isJ_i, isJ_r, isJ_n, isJ_l, cs_nil, cs_i, cs_r, cs_l, kF, List.getElem?_cons_succ, List.getElem?_cons_zero, List.set_cons_zero, List.set_cons_succ, GC_s, GC_n, GK_nil, GK_no, GK_yes, not_false_eq_true, back_eq, back_hp, inI_eq, inA_eq, true_and, and_true, and_self, if_true, if_false, bI_0, bI_1, bI_in, bI_T, bI_F, fitF, jmpF, nlF, pjA, iVal.eta, iYr.eta, List.getElem?_toArray, List.length_cons, List.length_nil, true_or, or_true, or_false, false_or, Classical.not_not, Bool.false_eq_true, hp_2, Nat.zero_le, Nat.le_refl, Option.some.injEq, Sum.inl.injEq, Sum.inr.injEq, not_true_eq_false, true_implies, false_implies, implies_true, Int.le_refl, rd_o, rd_o_s, hr, row_len, inA_one, inA_lik, inA_cpl, isOne_eq hO hr, isCouple_eq hO hr, isIn_eq, atOne_eq, atLike_eq, atCouple_eq, r_num, q_n0, q_n1, r_cp, r_dy, r_sl, r_who, q_kind, q_fig, q_dep, q_bnd, q_lik, q_man, q_wom, q_sta, q_dds, orNoneR_eq, Int.zero_add, gX12_deputies, c1, c3, gr1]
    · refine Agree.of (-1) A A rfl (fun Q => Call_eq ?_) (fun Q => Call_eq ?_) rfl rfl hR
      · by_cases z1 : w < 0
        · apply eX11_deputies 60; simp (disch := first | assumption | rfl | exact inI_of (by omega) (by omega) | omega | decide | (simp only [sv_ext, sv_mc, Nat.le_refl]; done) | with_unfolding_all (refine @id _ ?_; first | exact Eq.refl _ | exact Nat.le_refl _ | assumption)) only [Nat.reduceAdd, Nat.reduceMul, Nat.reduceLeDiff, Nat.reduceLT, Int.reduceAdd, Int.reduceSub, Int.reduceMul, Int.reduceNeg, Int.reduceLE, Int.reduceLT, Int.reduceToNat, Int.reduceEq, reduceCtorEq, ld_z, ld_s, st1_0, st1_1, st1_s, st2_0, st2_1, st2_s, isJ_i, isJ_r, isJ_n, isJ_l, cs_nil, cs_i, cs_r, cs_l, kF, List.getElem?_cons_succ, List.getElem?_cons_zero, List.set_cons_zero, List.set_cons_succ, GC_s, GC_n, GK_nil, GK_no, GK_yes, not_false_eq_true, back_eq, inI_eq, inA_eq, true_and, and_true, and_self, if_true, if_false, bI_0, bI_1, bI_in, bI_T, bI_F, fitF, jmpF, nlF, pjA, iVal.eta, iYr.eta, List.getElem?_toArray, List.length_cons, List.length_nil, true_or, or_true, or_false, false_or, Classical.not_not, Bool.false_eq_true, hp_2, Nat.zero_le, Nat.le_refl, Option.some.injEq, Sum.inl.injEq, Sum.inr.injEq, not_true_eq_false, true_implies, false_implies, implies_true, Int.le_refl, rd_v, f_num, f_lik, f_dep, f_bnd, f_man, f_wom, f_sta, f_dds, f_who, rd_y, rd_y1, rd_y2, rd_y3, rd_y4, wy, wy1, wy2, wy3, wy4, sxy_mnd, sxy_now, sxy_img, sxy_yr, sxy_xy, sxy_sxy, sv_sxy, f_ord, f_bus, f_wai, f_fin, rd_e, v_now, hasOne_eq, hasTwo_eq, hasCouple_eq, orNone_eq, natureOf_eq, rd_nat, place_eq, rd_v1, rd_v3, rd_v4, rd_v6, rd_v7, rd_v8, rd_v9, rd_v10, isShelf_eq, isSide_eq, isDeed_eq, isKind_eq, isMindSpan_eq, back_sxy, back_sxy1, f_orN, gX11_deputies, c1, z1, iw]
        · have z2 : ¬ w ≤ 1 := by omega
          apply eX11_deputies 60; simp (disch := first | assumption | rfl | exact inI_of (by omega) (by omega) | omega | decide | (simp only [sv_ext, sv_mc, Nat.le_refl]; done) | with_unfolding_all (refine @id _ ?_; first | exact Eq.refl _ | exact Nat.le_refl _ | assumption)) only [Nat.reduceAdd, Nat.reduceMul, Nat.reduceLeDiff, Nat.reduceLT, Int.reduceAdd, Int.reduceSub, Int.reduceMul, Int.reduceNeg, Int.reduceLE, Int.reduceLT, Int.reduceToNat, Int.reduceEq, reduceCtorEq, ld_z, ld_s, st1_0, st1_1, st1_s, st2_0, st2_1, st2_s, isJ_i, isJ_r, isJ_n, isJ_l, cs_nil, cs_i, cs_r, cs_l, kF, List.getElem?_cons_succ, List.getElem?_cons_zero, List.set_cons_zero, List.set_cons_succ, GC_s, GC_n, GK_nil, GK_no, GK_yes, not_false_eq_true, back_eq, inI_eq, inA_eq, true_and, and_true, and_self, if_true, if_false, bI_0, bI_1, bI_in, bI_T, bI_F, fitF, jmpF, nlF, pjA, iVal.eta, iYr.eta, List.getElem?_toArray, List.length_cons, List.length_nil, true_or, or_true, or_false, false_or, Classical.not_not, Bool.false_eq_true, hp_2, Nat.zero_le, Nat.le_refl, Option.some.injEq, Sum.inl.injEq, Sum.inr.injEq, not_true_eq_false, true_implies, false_implies, implies_true, Int.le_refl, rd_v, f_num, f_lik, f_dep, f_bnd, f_man, f_wom, f_sta, f_dds, f_who, rd_y, rd_y1, rd_y2, rd_y3, rd_y4, wy, wy1, wy2, wy3, wy4, sxy_mnd, sxy_now, sxy_img, sxy_yr, sxy_xy, sxy_sxy, sv_sxy, f_ord, f_bus, f_wai, f_fin, rd_e, v_now, hasOne_eq, hasTwo_eq, hasCouple_eq, orNone_eq, natureOf_eq, rd_nat, place_eq, rd_v1, rd_v3, rd_v4, rd_v6, rd_v7, rd_v8, rd_v9, rd_v10, isShelf_eq, isSide_eq, isDeed_eq, isKind_eq, isMindSpan_eq, back_sxy, back_sxy1, f_orN, gX11_deputies, c1, z1, z2, iw]
      · apply eX12_deputies 60; simp (disch := first | assumption | rfl | exact inI_of (by omega) (by omega) | omega | decide | (simp only [sv_ext, sv_mc, Nat.le_refl]; done) | with_unfolding_all (refine @id _ ?_; first | exact Eq.refl _ | exact Nat.le_refl _ | assumption)) only [Nat.reduceAdd, Nat.reduceMul, Nat.reduceLeDiff, Nat.reduceLT, Int.reduceAdd, Int.reduceSub, Int.reduceMul, Int.reduceNeg, Int.reduceLE, Int.reduceLT, Int.reduceToNat, Int.reduceEq, reduceCtorEq, ld_z, ld_s, st1_0, st1_1, st1_s, st2_0, st2_1, st2_s, isJ_i, isJ_r, isJ_n, isJ_l, cs_nil, cs_i, cs_r, cs_l, kF, List.getElem?_cons_succ, List.getElem?_cons_zero, List.set_cons_zero, List.set_cons_succ, GC_s, GC_n, GK_nil, GK_no, GK_yes, not_false_eq_true, back_eq, back_hp, inI_eq, inA_eq, true_and, and_true, and_self, if_true, if_false, bI_0, bI_1, bI_in, bI_T, bI_F, fitF, jmpF, nlF, pjA, iVal.eta, iYr.eta, List.getElem?_toArray, List.length_cons, List.length_nil, true_or, or_true, or_false, false_or, Classical.not_not, Bool.false_eq_true, hp_2, Nat.zero_le, Nat.le_refl, Option.some.injEq, Sum.inl.injEq, Sum.inr.injEq, not_true_eq_false, true_implies, false_implies, implies_true, Int.le_refl, rd_o, rd_o_s, hr, row_len, inA_one, inA_lik, inA_cpl, isOne_eq hO hr, isCouple_eq hO hr, isIn_eq, atOne_eq, atLike_eq, atCouple_eq, r_num, q_n0, q_n1, r_cp, r_dy, r_sl, r_who, q_kind, q_fig, q_dep, q_bnd, q_lik, q_man, q_wom, q_sta, q_dds, orNoneR_eq, Int.zero_add, gX12_deputies, c1, c3]
  · refine Agree.of (-1) A A rfl (fun Q => Call_eq ?_) (fun Q => Call_eq ?_) rfl rfl hR
    · apply eX11_deputies 60; simp (disch := first | assumption | rfl | exact inI_of (by omega) (by omega) | omega | decide | (simp only [sv_ext, sv_mc, Nat.le_refl]; done) | with_unfolding_all (refine @id _ ?_; first | exact Eq.refl _ | exact Nat.le_refl _ | assumption)) only [Nat.reduceAdd, Nat.reduceMul, Nat.reduceLeDiff, Nat.reduceLT, Int.reduceAdd, Int.reduceSub, Int.reduceMul, Int.reduceNeg, Int.reduceLE, Int.reduceLT, Int.reduceToNat, Int.reduceEq, reduceCtorEq, ld_z, ld_s, st1_0, st1_1, st1_s, st2_0, st2_1, st2_s, isJ_i, isJ_r, isJ_n, isJ_l, cs_nil, cs_i, cs_r, cs_l, kF, List.getElem?_cons_succ, List.getElem?_cons_zero, List.set_cons_zero, List.set_cons_succ, GC_s, GC_n, GK_nil, GK_no, GK_yes, not_false_eq_true, back_eq, inI_eq, inA_eq, true_and, and_true, and_self, if_true, if_false, bI_0, bI_1, bI_in, bI_T, bI_F, fitF, jmpF, nlF, pjA, iVal.eta, iYr.eta, List.getElem?_toArray, List.length_cons, List.length_nil, true_or, or_true, or_false, false_or, Classical.not_not, Bool.false_eq_true, hp_2, Nat.zero_le, Nat.le_refl, Option.some.injEq, Sum.inl.injEq, Sum.inr.injEq, not_true_eq_false, true_implies, false_implies, implies_true, Int.le_refl, rd_v, f_num, f_lik, f_dep, f_bnd, f_man, f_wom, f_sta, f_dds, f_who, rd_y, rd_y1, rd_y2, rd_y3, rd_y4, wy, wy1, wy2, wy3, wy4, sxy_mnd, sxy_now, sxy_img, sxy_yr, sxy_xy, sxy_sxy, sv_sxy, f_ord, f_bus, f_wai, f_fin, rd_e, v_now, hasOne_eq, hasTwo_eq, hasCouple_eq, orNone_eq, natureOf_eq, rd_nat, place_eq, rd_v1, rd_v3, rd_v4, rd_v6, rd_v7, rd_v8, rd_v9, rd_v10, isShelf_eq, isSide_eq, isDeed_eq, isKind_eq, isMindSpan_eq, back_sxy, back_sxy1, f_orN, gX11_deputies, c1]
    · apply eX12_deputies 60; simp (disch := first | assumption | rfl | exact inI_of (by omega) (by omega) | omega | decide | (simp only [sv_ext, sv_mc, Nat.le_refl]; done) | with_unfolding_all (refine @id _ ?_; first | exact Eq.refl _ | exact Nat.le_refl _ | assumption)) only [Nat.reduceAdd, Nat.reduceMul, Nat.reduceLeDiff, Nat.reduceLT, Int.reduceAdd, Int.reduceSub, Int.reduceMul, Int.reduceNeg, Int.reduceLE, Int.reduceLT, Int.reduceToNat, Int.reduceEq, reduceCtorEq, ld_z, ld_s, st1_0, st1_1, st1_s, st2_0, st2_1, st2_s, isJ_i, isJ_r, isJ_n, isJ_l, cs_nil, cs_i, cs_r, cs_l, kF, List.getElem?_cons_succ, List.getElem?_cons_zero, List.set_cons_zero, List.set_cons_succ, GC_s, GC_n, GK_nil, GK_no, GK_yes, not_false_eq_true, back_eq, back_hp, inI_eq, inA_eq, true_and, and_true, and_self, if_true, if_false, bI_0, bI_1, bI_in, bI_T, bI_F, fitF, jmpF, nlF, pjA, iVal.eta, iYr.eta, List.getElem?_toArray, List.length_cons, List.length_nil, true_or, or_true, or_false, false_or, Classical.not_not, Bool.false_eq_true, hp_2, Nat.zero_le, Nat.le_refl, Option.some.injEq, Sum.inl.injEq, Sum.inr.injEq, not_true_eq_false, true_implies, false_implies, implies_true, Int.le_refl, rd_o, rd_o_s, hr, row_len, inA_one, inA_lik, inA_cpl, isOne_eq hO hr, isCouple_eq hO hr, isIn_eq, atOne_eq, atLike_eq, atCouple_eq, r_num, q_n0, q_n1, r_cp, r_dy, r_sl, r_who, q_kind, q_fig, q_dep, q_bnd, q_lik, q_man, q_wom, q_sta, q_dds, orNoneR_eq, Int.zero_add, gX12_deputies, c1]
end OPS
