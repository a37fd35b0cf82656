set_option maxRecDepth 16384
/-! ===== the class: a valley taken from another, days ===== -/
def LenV (X : iVal) : Prop := ((X.on.length = 2) ∧ (X.na.length = 10) ∧ (X.de.length = 10) ∧ (X.bo.length = 10) ∧ (X.li.length = 50) ∧ (X.me.length = 4) ∧ (X.wo.length = 4) ∧ (X.sa.length = 4) ∧ (X.dd.length = 4) ∧ (X.wh.length = 6)) ∨ False
theorem LenV.mk {X : iVal} (a_lon : X.on.length = 2) (a_lna : X.na.length = 10) (a_lde : X.de.length = 10) (a_lbo : X.bo.length = 10) (a_lli : X.li.length = 50) (a_lme : X.me.length = 4) (a_lwo : X.wo.length = 4) (a_lsa : X.sa.length = 4) (a_ldd : X.dd.length = 4) (a_lwh : X.wh.length = 6) : LenV X := Or.inl ⟨a_lon, a_lna, a_lde, a_lbo, a_lli, a_lme, a_lwo, a_lsa, a_ldd, a_lwh⟩
theorem LenV.lon {X : iVal} (h : LenV X) : X.on.length = 2 := (h.elim id False.elim).1
theorem LenV.lna {X : iVal} (h : LenV X) : X.na.length = 10 := (h.elim id False.elim).2.1
theorem LenV.lde {X : iVal} (h : LenV X) : X.de.length = 10 := (h.elim id False.elim).2.2.1
theorem LenV.lbo {X : iVal} (h : LenV X) : X.bo.length = 10 := (h.elim id False.elim).2.2.2.1
theorem LenV.lli {X : iVal} (h : LenV X) : X.li.length = 50 := (h.elim id False.elim).2.2.2.2.1
theorem LenV.lme {X : iVal} (h : LenV X) : X.me.length = 4 := (h.elim id False.elim).2.2.2.2.2.1
theorem LenV.lwo {X : iVal} (h : LenV X) : X.wo.length = 4 := (h.elim id False.elim).2.2.2.2.2.2.1
theorem LenV.lsa {X : iVal} (h : LenV X) : X.sa.length = 4 := (h.elim id False.elim).2.2.2.2.2.2.2.1
theorem LenV.ldd {X : iVal} (h : LenV X) : X.dd.length = 4 := (h.elim id False.elim).2.2.2.2.2.2.2.2.1
theorem LenV.lwh {X : iVal} (h : LenV X) : X.wh.length = 6 := (h.elim id False.elim).2.2.2.2.2.2.2.2.2
theorem OkV.len {X : iVal} (h : OkV X) : LenV X := LenV.mk h.lon h.lna h.lde h.lbo h.lli h.lme h.lwo h.lsa h.ldd h.lwh
theorem cpy_all {α : Type} {xs ys : List α} {n : Nat} (h1 : xs.length = n) (h2 : ys.length = n) : cpy xs ys 0 0 n = xs := by
  unfold cpy
  rw [List.take_zero, List.drop_zero, List.nil_append, Nat.zero_add]
  rw [List.take_of_length_le (by omega), List.drop_of_length_le (by omega), List.append_nil]
theorem in3s : in3 0 0 2 2 2 = true ∧ in3 0 0 10 10 10 = true ∧ in3 0 0 50 50 50 = true ∧ in3 0 0 4 4 4 = true ∧ in3 0 0 6 6 6 = true := by decide
theorem asT_cls {k : Nat} : k < 6 → asT 3 (cls k) = true := by
  intro hk
  match k, hk with
  | 0, _ => rfl
  | 1, _ => rfl
  | 2, _ => rfl
  | 3, _ => rfl
  | 4, _ => rfl
  | 5, _ => rfl
theorem lt6s : ((2 : Nat) < 6) = True ∧ ((0 : Nat) < 6) = True ∧ ((3 : Nat) < 6) = True ∧ ((1 : Nat) < 6) = True ∧ ((4 : Nat) < 6) = True ∧ ((5 : Nat) < 6) = True := by decide
section TF
variable {sp : Nat → List iV → iH → Option (Option iV × iH)} {sc : List Int} {d : Nat} {A : iA} {w u : iW} {Q : Option iV → iH → Prop}
theorem sv_ne {x : iVal} (h : ¬ u = w) : (A.sv w x).v u = A.v u := by rcases w with _ | _ | _ <;> rcases u with _ | _ | _ <;> first | rfl | exact absurd rfl h
theorem ftf (pc : Nat) (h : pc = 15 ∨ pc = 33 ∨ pc = 51 ∨ pc = 69 ∨ pc = 87 ∨ pc = 105 ∨ pc = 123 ∨ pc = 141 ∨ pc = 159) : fetch mX8_takeFrom pc = some (.invokestatic 92) := by
  rcases h with h | h | h | h | h | h | h | h | h <;> subst h <;> decide +kernel
theorem ftx : lk2 xTab (oY mX8_takeFrom) 92 = none := by decide +kernel
theorem fty : isIn yTab (oY mX8_takeFrom) 92 = true := by decide +kernel
theorem nat_all {X : iVal} (hO : OkV X) : ∀ x, x ∈ X.na → ∃ v ci fs, x = v + 2 ∧ (hp A).1[v]? = some (.inl (ci, fs)) ∧ asT 3 ci = true := by
  intro x hx
  obtain ⟨i, hi, rfl⟩ := List.mem_iff_getElem.mp hx
  have hl := hO.lna
  have e := hO.nat ((i / 5 : Nat) : Int) ((i % 5 : Nat) : Int) (by omega) (by omega) (by omega) (by omega)
  have e2 : X.nr ((i / 5 : Nat) : Int) ((i % 5 : Nat) : Int) = X.na[i] := by
    have : ((((i / 5 : Nat) : Int) * 5 + ((i % 5 : Nat) : Int))).toNat = i := by omega
    unfold iVal.nr
    rw [this, List.getD_eq_getElem?_getD, List.getElem?_eq_getElem hi, Option.getD_some]
  rw [e2] at e
  exact ⟨_, _, _, e.1, rd_nat e.2, asT_cls (nK_lt _)⟩
theorem takeFrom_loop (hO : OkV (A.v u)) (hne : ¬ u = w) : ∀ (k : Nat) (i : Int) (l : List Nat), 0 ≤ i → i + k = 10 → l.length = 10 → (∀ j : Nat, (j : Int) < i → l[j]? = (A.v u).na[j]?) → Q none (hp (A.sv w (A.v u))) → Run sp sc (d + 1) mX8_takeFrom 188 [some (.inr (.inr (vb w + 2))), some (.inr (.inr (vb u + 2))), some (.inl i)] [] (hp (A.sv w (iVal.mk (A.v u).on (l) (A.v u).de (A.v u).bo (A.v u).li (A.v u).cp (A.v u).me (A.v u).wo (A.v u).sa (A.v u).dd (A.v u).wh (A.v u).sl (A.v u).dy))) Q := by
  have hna := hO.lna
  intro k
  induction k with
  | zero =>
    intro i l h0 h1 hl hj hq
    refine G_run (B := [188]) 40 _ _ _ _ ?_
    have e : (10 : Int) ≤ i := by omega
    have el : l = (A.v u).na := by
      apply List.ext_getElem?
      intro j
      by_cases c : j < 10
      · exact hj j (by omega)
      · rw [List.getElem?_eq_none (by omega), List.getElem?_eq_none (by omega)]
    subst el
    simp (disch := first | assumption | rfl | exact inI_of (by omega) (by omega) | omega | decide | (simp only [sv_ext, sv_mc, Nat.le_refl]; done) | with_unfolding_all (refine @id _ ?_; first | exact Eq.refl _ | exact Nat.le_refl _ | assumption)) only [Nat.reduceAdd, Nat.reduceMul, Nat.reduceLeDiff, Nat.reduceLT, Int.reduceAdd, Int.reduceSub, Int.reduceMul, Int.reduceNeg, Int.reduceLE, Int.reduceLT, Int.reduceToNat, Int.reduceEq, reduceCtorEq, ld_z, ld_s, st1_0, st1_1, st1_s, st2_0, st2_1, st2_s, isJ_i, isJ_r, isJ_n, isJ_l, cs_nil, cs_i, cs_r, cs_l, kF, List.getElem?_cons_succ, List.getElem?_cons_zero, List.set_cons_zero, List.set_cons_succ, GC_s, GC_n, GK_nil, GK_no, GK_yes, not_false_eq_true, back_eq, back_hp, inI_eq, inA_eq, true_and, and_true, and_self, if_true, if_false, bI_0, bI_1, bI_in, bI_T, bI_F, fitF, jmpF, nlF, pjA, iVal.eta, iYr.eta, List.getElem?_toArray, List.length_cons, List.length_nil, true_or, or_true, or_false, false_or, Classical.not_not, Bool.false_eq_true, hp_2, Nat.zero_le, Nat.le_refl, Option.some.injEq, Sum.inl.injEq, Sum.inr.injEq, not_true_eq_false, true_implies, false_implies, implies_true, gX8_takeFrom, rd_v, rd_v2, sv_v, lt6s, hna, Int.cast_ofNat_Int, e]
    exact hq
  | succ k ih =>
    intro i l h0 h1 hl hj hq
    refine G_run (B := [188]) 40 _ _ _ _ ?_
    have e : ¬ (10 : Int) ≤ i := by omega
    have hi : i.toNat < (A.v u).na.length := by omega
    obtain ⟨v, ci, fs, hv, hc, ht⟩ := nat_all (A := A.sv w (iVal.mk (A.v u).on (l) (A.v u).de (A.v u).bo (A.v u).li (A.v u).cp (A.v u).me (A.v u).wo (A.v u).sa (A.v u).dd (A.v u).wh (A.v u).sl (A.v u).dy)) hO _ (List.getElem_mem hi)
    have hg : (A.v u).na.getD i.toNat 0 = v + 2 := by rw [List.getD_eq_getElem?_getD, List.getElem?_eq_getElem hi, Option.getD_some, hv]
    have ih := ih (i + 1) (l.set i.toNat (v + 2)) (by omega) (by omega) (by rw [List.length_set]; exact hl) (by
      intro j hjl
      rw [List.getElem?_set]
      by_cases c : i.toNat = j
      · subst c; rw [if_pos rfl, if_pos (by omega), List.getElem?_eq_getElem hi, hv]
      · rw [if_neg c]; exact hj j (by omega)) hq
    have a1 : inA i 10 = true := inA_of (by omega) (by omega) (by omega)
    simp (disch := first | assumption | rfl | exact inI_of (by omega) (by omega) | omega | decide | (simp only [sv_ext, sv_mc, Nat.le_refl]; done) | with_unfolding_all (refine @id _ ?_; first | exact Eq.refl _ | exact Nat.le_refl _ | assumption)) only [Nat.reduceAdd, Nat.reduceMul, Nat.reduceLeDiff, Nat.reduceLT, Int.reduceAdd, Int.reduceSub, Int.reduceMul, Int.reduceNeg, Int.reduceLE, Int.reduceLT, Int.reduceToNat, Int.reduceEq, reduceCtorEq, ld_z, ld_s, st1_0, st1_1, st1_s, st2_0, st2_1, st2_s, isJ_i, isJ_r, isJ_n, isJ_l, cs_nil, cs_i, cs_r, cs_l, kF, List.getElem?_cons_succ, List.getElem?_cons_zero, List.set_cons_zero, List.set_cons_succ, GC_s, GC_n, GK_nil, GK_no, GK_yes, not_false_eq_true, back_eq, back_hp, inI_eq, inA_eq, true_and, and_true, and_self, if_true, if_false, bI_0, bI_1, bI_in, bI_T, bI_F, fitF, jmpF, nlF, pjA, iVal.eta, iYr.eta, List.getElem?_toArray, List.length_cons, List.length_nil, true_or, or_true, or_false, false_or, Classical.not_not, Bool.false_eq_true, hp_2, Nat.zero_le, Nat.le_refl, Option.some.injEq, Sum.inl.injEq, Sum.inr.injEq, not_true_eq_false, true_implies, false_implies, implies_true, gX8_takeFrom, rd_v, rd_v2, sv_v, sv_sv, sv_ne, lt6s, hna, hl, Int.cast_ofNat_Int, e, hg, hc, ht, a1, wr_v2]
    exact ih
theorem takeFrom_eq (hO : OkV (A.v u)) (hL : LenV (A.v w)) (hne : ¬ u = w) : Call sp sc (d + 1) mX8_takeFrom [.inr (.inr (vb w + 2)), .inr (.inr (vb u + 2))] (hp A) Q = Q none (hp (A.sv w (A.v u))) := Call_eq (by
  have hne2 : ¬ w = u := fun z => hne z.symm
  apply eX8_takeFrom 190
  simp (disch := first | assumption | rfl | exact inI_of (by omega) (by omega) | omega | decide | (simp only [sv_ext, sv_mc, Nat.le_refl]; done) | with_unfolding_all (refine @id _ ?_; first | exact Eq.refl _ | exact Nat.le_refl _ | assumption)) only [Nat.reduceAdd, Nat.reduceMul, Nat.reduceLeDiff, Nat.reduceLT, Int.reduceAdd, Int.reduceSub, Int.reduceMul, Int.reduceNeg, Int.reduceLE, Int.reduceLT, Int.reduceToNat, Int.reduceEq, reduceCtorEq, ld_z, ld_s, st1_0, st1_1, st1_s, st2_0, st2_1, st2_s, isJ_i, isJ_r, isJ_n, isJ_l, cs_nil, cs_i, cs_r, cs_l, kF, List.getElem?_cons_succ, List.getElem?_cons_zero, List.set_cons_zero, List.set_cons_succ, GC_s, GC_n, GK_nil, GK_no, GK_yes, not_false_eq_true, back_eq, back_hp, inI_eq, inA_eq, true_and, and_true, and_self, if_true, if_false, bI_0, bI_1, bI_in, bI_T, bI_F, fitF, jmpF, nlF, pjA, iVal.eta, iYr.eta, List.getElem?_toArray, List.length_cons, List.length_nil, true_or, or_true, or_false, false_or, Classical.not_not, Bool.false_eq_true, hp_2, Nat.zero_le, Nat.le_refl, Option.some.injEq, Sum.inl.injEq, Sum.inr.injEq, not_true_eq_false, true_implies, false_implies, implies_true, gX8_takeFrom, rd_v, lt6s, in3s, Int.toNat_natCast, sv_v, sv_sv, sv_ne, wr_v, G_copyI (ftf 15 (by omega)) ftx fty rd_v1 rd_v1 (by decide), cpy_all hO.lon hL.lon, hO.lon, hL.lon, rd_v1, wr_v1, G_copyI (ftf 33 (by omega)) ftx fty rd_v3 rd_v3 (by decide), cpy_all hO.lde hL.lde, hO.lde, hL.lde, rd_v3, wr_v3, G_copyI (ftf 51 (by omega)) ftx fty rd_v4 rd_v4 (by decide), cpy_all hO.lbo hL.lbo, hO.lbo, hL.lbo, rd_v4, wr_v4, G_copyI (ftf 69 (by omega)) ftx fty rd_v5 rd_v5 (by decide), cpy_all hO.lli hL.lli, hO.lli, hL.lli, rd_v5, wr_v5, G_copyI (ftf 87 (by omega)) ftx fty rd_v6 rd_v6 (by decide), cpy_all hO.lme hL.lme, hO.lme, hL.lme, rd_v6, wr_v6, G_copyI (ftf 105 (by omega)) ftx fty rd_v7 rd_v7 (by decide), cpy_all hO.lwo hL.lwo, hO.lwo, hL.lwo, rd_v7, wr_v7, G_copyI (ftf 123 (by omega)) ftx fty rd_v8 rd_v8 (by decide), cpy_all hO.lsa hL.lsa, hO.lsa, hL.lsa, rd_v8, wr_v8, G_copyI (ftf 141 (by omega)) ftx fty rd_v9 rd_v9 (by decide), cpy_all hO.ldd hL.ldd, hO.ldd, hL.ldd, rd_v9, wr_v9, G_copyI (ftf 159 (by omega)) ftx fty rd_v10 rd_v10 (by decide), cpy_all hO.lwh hL.lwh, hO.lwh, hL.lwh, rd_v10, wr_v10]
  exact takeFrom_loop hO hne 10 0 _ (by omega) (by omega) hL.lna (fun j h => absurd h (by omega)) ⟨rfl, rfl⟩)
end TF
