set_option maxRecDepth 16384
/-! ===== a call: row ===== -/
def iA.sR (A : iA) (ke so sz el : List Int) : iA := (iA.mk A.now A.img A.mnd A.imd A.yr A.mt A.sh A.pt ((iMo.mk A.mo.s A.mo.m A.mo.im A.mo.was A.mo.hi A.mo.wt A.mo.en A.mo.od A.mo.dn A.mo.sm A.mo.sf A.mo.go A.mo.at_ A.mo.ra A.mo.re A.mo.nu A.mo.bd A.mo.bg A.mo.he A.mo.bh A.mo.ak A.mo.st A.mo.ml A.mo.fi A.mo.th A.mo.se (ke) A.mo.kk A.mo.kf (so) (sz) (el) A.mo.tn)) A.out A.ext A.mc)
section OPS
variable {sp : Nat → List iV → iH → Option (Option iV × iH)} {sc : List Int} {d : Nat} {A A' : iA} {Q : Option iV → iH → Prop} {h : iH} {X : iVal} {e : Nat} {D : Nat}
theorem cel_eq {A' : iA} {e : Nat} (h1 : A'.sh e = A.sh e) (h2 : 159 ≤ (A.sh e).ca → A'.ext.getD ((A.sh e).ca - 159) [] = A.ext.getD ((A.sh e).ca - 159) []) : A'.cel e = A.cel e := by
  unfold iA.cel
  rw [h1]
  by_cases c : (A.sh e).ca < 159
  · rw [if_pos c, if_pos c]
  · rw [if_neg c, if_neg c]; exact h2 (by omega)
theorem rel_rw (hR : Rel A) (hd : D < 8) {s : iSh} {ex : List (List Int)} {m : Nat} {ke so sz el : List Int} (l1 : ke.length = 8) (l2 : so.length = 8) (l3 : sz.length = 8) (l4 : el.length = 800) (hx : A.ext.length ≤ ex.length) (hD : RelS (A.rw D s ex m ke so sz el) D)
    (ho : ∀ e, e < 8 → ¬ e = D → ke.getD e 0 = A.mo.ke.getD e 0 ∧ so.getD e 0 = A.mo.so.getD e 0 ∧ sz.getD e 0 = A.mo.sz.getD e 0 ∧ (∀ i : Int, 0 ≤ i → i < 100 → el.getD (100 * (e : Int) + i).toNat 0 = A.mo.el.getD (100 * (e : Int) + i).toNat 0) ∧ (159 ≤ (A.sh e).ca → ex.getD ((A.sh e).ca - 159) [] = A.ext.getD ((A.sh e).ca - 159) []) ∧ ¬ s.ca = (A.sh e).ca) : Rel (A.rw D s ex m ke so sz el) := by
  have hsD : (A.rw D s ex m ke so sz el).sh D = s := if_pos rfl
  have hsN : ∀ e, ¬ e = D → (A.rw D s ex m ke so sz el).sh e = A.sh e := fun e c => if_neg c
  refine (Rel.mk hR.now hR.img hR.mnd hR.mok hR.yr hR.ndy hR.idy hR.row hR.imd hR.him hR.imr hR.lim hR.lm hR.lwas hR.lwt hR.len hR.lod hR.lnu hR.lhe hR.lbh hR.lak hR.lfi hR.lth (l1) hR.lkk hR.lkf (l2) (l3) (l4) hR.lwv hR.lhb hR.lfm hR.lmk hR.lpt hR.lout (fun e he => ?_) (fun a b ha hb z => ?_))
  · by_cases c : e = D
    · rw [c]; exact hD
    · have h := ho e he c
      exact relS_other (hR.shs e he) (hsN e c) h.1 rfl rfl h.2.1 h.2.2.1 h.2.2.2.1 hx (cel_eq (hsN e c) h.2.2.2.2.1)
  · by_cases c : a = D <;> by_cases c2 : b = D
    · rw [c, c2]
    · rw [c, hsD, hsN b c2] at z
      exact absurd z (ho b hb c2).2.2.2.2.2
    · rw [c2, hsD, hsN a c] at z
      exact absurd z.symm (ho a ha c).2.2.2.2.2
    · rw [hsN a c, hsN b c2] at z
      exact hR.inj a b ha hb z
theorem getD_set8 {l : List Int} {v : Int} (hl : l.length = 8) (hd : D < 8) : (l.set D v).getD D 0 = v := by
  rw [List.getD_eq_getElem?_getD, List.getElem?_set_self (by omega)]; rfl
theorem wr_Rke {l : List Int} : ((hp A).1.set 152 (.inr (.inl (0, l))), A.mc) = hp (A.sR l A.mo.so A.mo.sz A.mo.el) := wr_o_ke
theorem wr_Rso {l : List Int} : ((hp A).1.set 155 (.inr (.inl (0, l))), A.mc) = hp (A.sR A.mo.ke l A.mo.sz A.mo.el) := wr_o_so
theorem wr_Rsz {l : List Int} : ((hp A).1.set 156 (.inr (.inl (0, l))), A.mc) = hp (A.sR A.mo.ke A.mo.so l A.mo.el) := wr_o_sz
theorem wr_Rel {l : List Int} : ((hp A).1.set 157 (.inr (.inl (0, l))), A.mc) = hp (A.sR A.mo.ke A.mo.so A.mo.sz l) := wr_o_el
theorem sR_ke {a b c f : List Int} : (A.sR a b c f).mo.ke = a := rfl
theorem sR_so {a b c f : List Int} : (A.sR a b c f).mo.so = b := rfl
theorem sR_sz {a b c f : List Int} : (A.sR a b c f).mo.sz = c := rfl
theorem sR_el {a b c f : List Int} : (A.sR a b c f).mo.el = f := rfl
theorem sR_sR {a b c f a' b' c' f' : List Int} : (A.sR a b c f).sR a' b' c' f' = A.sR a' b' c' f' := rfl
theorem sR_mc {a b c f : List Int} : (A.sR a b c f).mc = A.mc := rfl
theorem rowR_loop {M : Nat} (hM : M = 100) {a s n : Int} (h0 : 0 ≤ a) (h1 : a < 8) {E x y w : List Int} (hl : E.length = 800) : ∀ (k : Nat) (i : Int), 0 ≤ i → i + k = 100 → Q (some (.inl 0)) (hp (A.sR x y w (zE a M E))) → Run sp sc d mX12_row 55 [some (.inr (.inr 140)), some (.inl a), some (.inl s), some (.inl n), some (.inl i)] [] (hp (A.sR x y w (zE a i.toNat E))) Q := by
  intro k
  induction k with
  | zero =>
    intro i h2 h3 hq
    refine G_run (B := [55]) 60 _ _ _ _ ?_
    have e1 : (100 : Int) ≤ i := by omega
    have e2 : i.toNat = M := by omega
    rw [e2]
    simp (disch := first | assumption | rfl | exact inI_of (by omega) (by omega) | omega | decide | (simp only [sv_ext, sv_mc, Nat.le_refl]; done) | with_unfolding_all (refine @id _ ?_; first | exact Eq.refl _ | exact Nat.le_refl _ | assumption)) only [Nat.reduceAdd, Nat.reduceMul, Nat.reduceLeDiff, Nat.reduceLT, Int.reduceAdd, Int.reduceSub, Int.reduceMul, Int.reduceNeg, Int.reduceLE, Int.reduceLT, Int.reduceToNat, Int.reduceEq, reduceCtorEq, ld_z, ld_s, st1_0, st1_1, st1_s, st2_0, st2_1, st2_s, isJ_i, isJ_r, isJ_n, isJ_l, cs_nil, cs_i, cs_r, cs_l, kF, List.getElem?_cons_succ, List.getElem?_cons_zero, List.set_cons_zero, List.set_cons_succ, GC_s, GC_n, GK_nil, GK_no, GK_yes, not_false_eq_true, back_eq, back_hp, inI_eq, inA_eq, true_and, and_true, and_self, if_true, if_false, bI_0, bI_1, bI_in, bI_T, bI_F, fitF, jmpF, nlF, pjA, iVal.eta, iYr.eta, List.getElem?_toArray, List.length_cons, List.length_nil, true_or, or_true, or_false, false_or, Classical.not_not, Bool.false_eq_true, hp_2, Nat.zero_le, Nat.le_refl, Option.some.injEq, Sum.inl.injEq, Sum.inr.injEq, not_true_eq_false, true_implies, false_implies, implies_true, gX12_row, e1]
    exact hq
  | succ k ih =>
    intro i h2 h3 hq
    have ih := ih (i + 1) (by omega) (by omega) hq
    refine G_run (B := [55]) 60 _ _ _ _ ?_
    have e1 : ¬ (100 : Int) ≤ i := by omega
    have lz : (zE a i.toNat E).length = 800 := by rw [zE_len, hl]
    have es : (zE a i.toNat E).set (100 * a + i).toNat 0 = zE a (i + 1).toNat E := by
      have : (i + 1).toNat = i.toNat + 1 := by omega
      rw [this]
      show _ = (zE a i.toNat E).set (100 * a + (i.toNat : Int)).toNat 0
      have : ((i.toNat : Nat) : Int) = i := by omega
      rw [this]
    simp (disch := first | assumption | rfl | exact inI_of (by omega) (by omega) | omega | decide | (simp only [sv_ext, sv_mc, Nat.le_refl]; done) | with_unfolding_all (refine @id _ ?_; first | exact Eq.refl _ | exact Nat.le_refl _ | assumption)) only [Nat.reduceAdd, Nat.reduceMul, Nat.reduceLeDiff, Nat.reduceLT, Int.reduceAdd, Int.reduceSub, Int.reduceMul, Int.reduceNeg, Int.reduceLE, Int.reduceLT, Int.reduceToNat, Int.reduceEq, reduceCtorEq, ld_z, ld_s, st1_0, st1_1, st1_s, st2_0, st2_1, st2_s, isJ_i, isJ_r, isJ_n, isJ_l, cs_nil, cs_i, cs_r, cs_l, kF, List.getElem?_cons_succ, List.getElem?_cons_zero, List.set_cons_zero, List.set_cons_succ, GC_s, GC_n, GK_nil, GK_no, GK_yes, not_false_eq_true, back_eq, back_hp, inI_eq, inA_eq, true_and, and_true, and_self, if_true, if_false, bI_0, bI_1, bI_in, bI_T, bI_F, fitF, jmpF, nlF, pjA, iVal.eta, iYr.eta, List.getElem?_toArray, List.length_cons, List.length_nil, true_or, or_true, or_false, false_or, Classical.not_not, Bool.false_eq_true, hp_2, Nat.zero_le, Nat.le_refl, Option.some.injEq, Sum.inl.injEq, Sum.inr.injEq, not_true_eq_false, true_implies, false_implies, implies_true, gX12_row, e1, rd_o, rd_o_el, sR_el, lz, es, wr_Rel, sR_ke, sR_so, sR_sz, sR_sR]
    exact ih
theorem rowR_eq {M : Nat} (hM : M = 100) {a s n : Int} (ia : inI a = true) (is : inI s = true) (in_ : inI n = true) (c : 0 ≤ a ∧ a < 8) (hs : 0 ≤ s ∧ s ≤ 2) (h0 : 0 ≤ n) (h1 : n ≤ 100) (l1 : A.mo.ke.length = 8) (l2 : A.mo.so.length = 8) (l3 : A.mo.sz.length = 8) (l4 : A.mo.el.length = 800) : Call sp sc (d + 2) mX12_row [.inr (.inr 140), .inl a, .inl s, .inl n] (hp A) Q = Q (some (.inl 0)) (hp (A.sR (A.mo.ke.set a.toNat 2) (A.mo.so.set a.toNat s) (A.mo.sz.set a.toNat n) (zE a M A.mo.el))) := Call_eq (by
  apply eX12_row 60
  simp (disch := first | assumption | rfl | exact inI_of (by omega) (by omega) | omega | decide | (simp only [sv_ext, sv_mc, Nat.le_refl]; done) | with_unfolding_all (refine @id _ ?_; first | exact Eq.refl _ | exact Nat.le_refl _ | assumption)) only [Nat.reduceAdd, Nat.reduceMul, Nat.reduceLeDiff, Nat.reduceLT, Int.reduceAdd, Int.reduceSub, Int.reduceMul, Int.reduceNeg, Int.reduceLE, Int.reduceLT, Int.reduceToNat, Int.reduceEq, reduceCtorEq, ld_z, ld_s, st1_0, st1_1, st1_s, st2_0, st2_1, st2_s, isJ_i, isJ_r, isJ_n, isJ_l, cs_nil, cs_i, cs_r, cs_l, kF, List.getElem?_cons_succ, List.getElem?_cons_zero, List.set_cons_zero, List.set_cons_succ, GC_s, GC_n, GK_nil, GK_no, GK_yes, not_false_eq_true, back_eq, back_hp, inI_eq, inA_eq, true_and, and_true, and_self, if_true, if_false, bI_0, bI_1, bI_in, bI_T, bI_F, fitF, jmpF, nlF, pjA, iVal.eta, iYr.eta, List.getElem?_toArray, List.length_cons, List.length_nil, true_or, or_true, or_false, false_or, Classical.not_not, Bool.false_eq_true, hp_2, Nat.zero_le, Nat.le_refl, Option.some.injEq, Sum.inl.injEq, Sum.inr.injEq, not_true_eq_false, true_implies, false_implies, implies_true, gX12_row, isShelfR_eq, c, isIn_eq, hs, h0, h1, rd_o, rd_o_ke, rd_o_so, rd_o_sz, l1, l2, l3, wr_Rke, wr_Rso, wr_Rsz, sR_ke, sR_so, sR_sz, sR_el, sR_sR]
  refine rowR_loop (d := d + 2) hM c.1 c.2 (E := A.mo.el) l4 M 0 (by omega) (by omega) ?_
  exact ⟨rfl, rfl⟩)
theorem rowR_bad {a s n v : Int} (ia : inI a = true) (is : inI s = true) (in_ : inI n = true) (hb : (¬ ((0 ≤ a ∧ a < 8) ∧ (0 ≤ s ∧ s ≤ 2) ∧ n ≤ 100) ∧ v = -1) ∨ (((0 ≤ a ∧ a < 8) ∧ (0 ≤ s ∧ s ≤ 2) ∧ n < 0) ∧ v = -14)) : Call sp sc (d + 2) mX12_row [.inr (.inr 140), .inl a, .inl s, .inl n] (hp A) Q = Q (some (.inl v)) (hp A) := Call_eq (by
  apply eX12_row 60
  rcases hb with ⟨hb, rfl⟩ | ⟨⟨c, c1, e1⟩, rfl⟩
  · by_cases c : 0 ≤ a ∧ a < 8
    · by_cases c1 : 0 ≤ s ∧ s ≤ 2
      · have e1 : ¬ n ≤ 100 := by omega
        simp (disch := first | assumption | rfl | exact inI_of (by omega) (by omega) | omega | decide | (simp only [sv_ext, sv_mc, Nat.le_refl]; done) | with_unfolding_all (refine @id _ ?_; first | exact Eq.refl _ | exact Nat.le_refl _ | assumption)) only [Nat.reduceAdd, Nat.reduceMul, Nat.reduceLeDiff, Nat.reduceLT, Int.reduceAdd, Int.reduceSub, Int.reduceMul, Int.reduceNeg, Int.reduceLE, Int.reduceLT, Int.reduceToNat, Int.reduceEq, reduceCtorEq, ld_z, ld_s, st1_0, st1_1, st1_s, st2_0, st2_1, st2_s, isJ_i, isJ_r, isJ_n, isJ_l, cs_nil, cs_i, cs_r, cs_l, kF, List.getElem?_cons_succ, List.getElem?_cons_zero, List.set_cons_zero, List.set_cons_succ, GC_s, GC_n, GK_nil, GK_no, GK_yes, not_false_eq_true, back_eq, back_hp, inI_eq, inA_eq, true_and, and_true, and_self, if_true, if_false, bI_0, bI_1, bI_in, bI_T, bI_F, fitF, jmpF, nlF, pjA, iVal.eta, iYr.eta, List.getElem?_toArray, List.length_cons, List.length_nil, true_or, or_true, or_false, false_or, Classical.not_not, Bool.false_eq_true, hp_2, Nat.zero_le, Nat.le_refl, Option.some.injEq, Sum.inl.injEq, Sum.inr.injEq, not_true_eq_false, true_implies, false_implies, implies_true, gX12_row, isShelfR_eq, c, isIn_eq, c1, e1, in_]
      · simp (disch := first | assumption | rfl | exact inI_of (by omega) (by omega) | omega | decide | (simp only [sv_ext, sv_mc, Nat.le_refl]; done) | with_unfolding_all (refine @id _ ?_; first | exact Eq.refl _ | exact Nat.le_refl _ | assumption)) only [Nat.reduceAdd, Nat.reduceMul, Nat.reduceLeDiff, Nat.reduceLT, Int.reduceAdd, Int.reduceSub, Int.reduceMul, Int.reduceNeg, Int.reduceLE, Int.reduceLT, Int.reduceToNat, Int.reduceEq, reduceCtorEq, ld_z, ld_s, st1_0, st1_1, st1_s, st2_0, st2_1, st2_s, isJ_i, isJ_r, isJ_n, isJ_l, cs_nil, cs_i, cs_r, cs_l, kF, List.getElem?_cons_succ, List.getElem?_cons_zero, List.set_cons_zero, List.set_cons_succ, GC_s, GC_n, GK_nil, GK_no, GK_yes, not_false_eq_true, back_eq, back_hp, inI_eq, inA_eq, true_and, and_true, and_self, if_true, if_false, bI_0, bI_1, bI_in, bI_T, bI_F, fitF, jmpF, nlF, pjA, iVal.eta, iYr.eta, List.getElem?_toArray, List.length_cons, List.length_nil, true_or, or_true, or_false, false_or, Classical.not_not, Bool.false_eq_true, hp_2, Nat.zero_le, Nat.le_refl, Option.some.injEq, Sum.inl.injEq, Sum.inr.injEq, not_true_eq_false, true_implies, false_implies, implies_true, gX12_row, isShelfR_eq, c, isIn_eq, c1]
    · simp (disch := first | assumption | rfl | exact inI_of (by omega) (by omega) | omega | decide | (simp only [sv_ext, sv_mc, Nat.le_refl]; done) | with_unfolding_all (refine @id _ ?_; first | exact Eq.refl _ | exact Nat.le_refl _ | assumption)) only [Nat.reduceAdd, Nat.reduceMul, Nat.reduceLeDiff, Nat.reduceLT, Int.reduceAdd, Int.reduceSub, Int.reduceMul, Int.reduceNeg, Int.reduceLE, Int.reduceLT, Int.reduceToNat, Int.reduceEq, reduceCtorEq, ld_z, ld_s, st1_0, st1_1, st1_s, st2_0, st2_1, st2_s, isJ_i, isJ_r, isJ_n, isJ_l, cs_nil, cs_i, cs_r, cs_l, kF, List.getElem?_cons_succ, List.getElem?_cons_zero, List.set_cons_zero, List.set_cons_succ, GC_s, GC_n, GK_nil, GK_no, GK_yes, not_false_eq_true, back_eq, back_hp, inI_eq, inA_eq, true_and, and_true, and_self, if_true, if_false, bI_0, bI_1, bI_in, bI_T, bI_F, fitF, jmpF, nlF, pjA, iVal.eta, iYr.eta, List.getElem?_toArray, List.length_cons, List.length_nil, true_or, or_true, or_false, false_or, Classical.not_not, Bool.false_eq_true, hp_2, Nat.zero_le, Nat.le_refl, Option.some.injEq, Sum.inl.injEq, Sum.inr.injEq, not_true_eq_false, true_implies, false_implies, implies_true, gX12_row, isShelfR_eq, c]
  · have e2 : n ≤ 100 := by omega
    have e3 : ¬ 0 ≤ n := by omega
    simp (disch := first | assumption | rfl | exact inI_of (by omega) (by omega) | omega | decide | (simp only [sv_ext, sv_mc, Nat.le_refl]; done) | with_unfolding_all (refine @id _ ?_; first | exact Eq.refl _ | exact Nat.le_refl _ | assumption)) only [Nat.reduceAdd, Nat.reduceMul, Nat.reduceLeDiff, Nat.reduceLT, Int.reduceAdd, Int.reduceSub, Int.reduceMul, Int.reduceNeg, Int.reduceLE, Int.reduceLT, Int.reduceToNat, Int.reduceEq, reduceCtorEq, ld_z, ld_s, st1_0, st1_1, st1_s, st2_0, st2_1, st2_s, isJ_i, isJ_r, isJ_n, isJ_l, cs_nil, cs_i, cs_r, cs_l, kF, List.getElem?_cons_succ, List.getElem?_cons_zero, List.set_cons_zero, List.set_cons_succ, GC_s, GC_n, GK_nil, GK_no, GK_yes, not_false_eq_true, back_eq, back_hp, inI_eq, inA_eq, true_and, and_true, and_self, if_true, if_false, bI_0, bI_1, bI_in, bI_T, bI_F, fitF, jmpF, nlF, pjA, iVal.eta, iYr.eta, List.getElem?_toArray, List.length_cons, List.length_nil, true_or, or_true, or_false, false_or, Classical.not_not, Bool.false_eq_true, hp_2, Nat.zero_le, Nat.le_refl, Option.some.injEq, Sum.inl.injEq, Sum.inr.injEq, not_true_eq_false, true_implies, false_implies, implies_true, gX12_row, isShelfR_eq, c, isIn_eq, c1, e2, e3, in_])
/-- a shelf's row, made anew -/
theorem relS_row (hR : Rel A) (hd : D < 8) {E : List Int} (lE : E.length = 800) (hE : ∀ c : Int, 0 ≤ c → c < 8 → ∀ i : Int, 0 ≤ i → i < 100 → E.getD (100 * c + i).toNat 0 = if (D : Int) = c then 0 else A.mo.el.getD (100 * c + i).toNat 0) {s n : Int} {ca m : Nat} {ex : List (List Int)} {cl : List Int} (hs : 0 ≤ s ∧ s ≤ 2) (h0 : 0 ≤ n) (h1 : n ≤ 100) (hx : A.ext.length ≤ ex.length)
    (hc : (ca = 108 + 2 * D ∧ cl = [] ∧ n = 0) ∨ (159 ≤ ca ∧ ca < 159 + ex.length ∧ ex.getD (ca - 159) [] = cl ∧ cl.length = 100)) (hz : ∀ i : Nat, (i : Int) < n → cl.getD i 0 = 0)
    (ho : ∀ e, e < 8 → ¬ e = D → (159 ≤ (A.sh e).ca → ex.getD ((A.sh e).ca - 159) [] = A.ext.getD ((A.sh e).ca - 159) []) ∧ ¬ ca = (A.sh e).ca) : Rel (A.rw D ((iSh.mk (2) ((A.sh D).na) (s) (n) (ca))) ex m (A.mo.ke.set D 2) (A.mo.so.set D s) (A.mo.sz.set D n) E) := by
  have hS := hR.shs D hd
  refine rel_rw hR hd (by rw [List.length_set]; exact hR.lke) (by rw [List.length_set]; exact hR.lso) (by rw [List.length_set]; exact hR.lsz) lE hx ?_ (fun e he c => ?_)
  · have hsh : (A.rw D ((iSh.mk (2) ((A.sh D).na) (s) (n) (ca))) ex m (A.mo.ke.set D 2) (A.mo.so.set D s) (A.mo.sz.set D n) E).sh D = (iSh.mk (2) ((A.sh D).na) (s) (n) (ca)) := if_pos rfl
    have hcl : (A.rw D ((iSh.mk (2) ((A.sh D).na) (s) (n) (ca))) ex m (A.mo.ke.set D 2) (A.mo.so.set D s) (A.mo.sz.set D n) E).cel D = cl := by
      unfold iA.cel
      rw [hsh]
      show (if ca < 159 then [] else ex.getD (ca - 159) []) = cl
      rcases hc with z | z
      · rw [if_pos (by omega)]; exact z.2.1.symm
      · rw [if_neg (by omega)]; exact z.2.2.1
    have hz2 : ∀ i : Int, 0 ≤ i → i < n → cl.getD i.toNat 0 = 0 := fun i a b => hz i.toNat (by omega)
    refine RelS.mk ?_ ?_ ?_ ?_ ?_ ?_ ?_ ?_ ?_ ?_ ?_ ?_ ?_ ?_
    · rw [hsh]; exact getD_set8 hR.lke hd
    · rw [hsh]; exact Or.inr (Or.inr rfl)
    · rw [hsh]; exact hS.na
    · rw [hsh]; intro z; exact absurd (show (2 : Int) = 1 from z) (by decide)
    · rw [hsh]; intro z; exact absurd (show (2 : Int) = 1 from z) (by decide)
    · rw [hsh]; exact hs
    · rw [hsh]; exact ⟨h0, h1⟩
    · rw [hsh]; intro _; exact getD_set8 hR.lso hd
    · rw [hsh]; intro _; exact getD_set8 hR.lsz hd
    · rw [hsh, hcl]
      show ca = 108 + 2 * D ∨ (159 ≤ ca ∧ ca < 159 + ex.length ∧ cl.length = 100)
      rcases hc with z | z
      · exact Or.inl z.1
      · exact Or.inr ⟨z.1, z.2.1, z.2.2.2⟩
    · rw [hsh, hcl]
      show n ≤ (cl.length : Int)
      rcases hc with z | z
      · omega
      · omega
    · rw [hsh, hcl]
      intro _ i a b
      rw [hz2 i a b]
      have b : i < n := b
      have := hE (D : Int) (by omega) (by omega) i a (by omega)
      rw [if_pos rfl] at this
      exact this
    · rw [hsh, hcl]
      intro _ i a b
      rw [hz2 i a b]; rfl
    · rw [hsh, hcl]
      intro _ _ i a b
      rw [hz2 i a b]; omega
  · have ho := ho e he c
    refine ⟨gsd (fun z => c z.symm), gsd (fun z => c z.symm), gsd (fun z => c z.symm), fun i a b => ?_, ho.1, ho.2⟩
    rw [hE (e : Int) (by omega) (by omega) i a b, if_neg (fun z => c (by omega))]
theorem Agree.of2 {y1 y2 : Nat} {av : List iV} (v : Int) (A1 A2 : iA) (hv : inI v = true) (h1 : ∀ Q, Call sp sc 19 y1 (.inr (.inr 2) :: av) (hp A) Q = Q (some (.inl v)) (hp A1)) (h2 : ∀ Q, Call sp sc 19 y2 (.inr (.inr 140) :: av) (hp A1) Q = Q (some (.inl v)) (hp A2)) (m1 : A1.mc = A.mc + 1) (m2 : A2.mc = A.mc + 1) (hR : Rel A2) : Agree sp sc y1 y2 av A :=
  ⟨v, A1, A2, hv, h1, h2, by omega, by omega, by omega, hR⟩
theorem ca_ne (hR : Rel A) (hd : D < 8) {e : Nat} (he : e < 8) (c : ¬ e = D) : ¬ (A.sh D).ca = (A.sh e).ca := fun z => c (hR.inj e D he hd z.symm)
theorem back_pu {l : List Int} {s : iSh} {L : List (Option iV)} {rest : List iV} (h : (vL (159 + A.ext.length) L && rest.all (vV (159 + A.ext.length))) = true) : back (hp A) (hp ((A.pu l).sSh D s)) L rest = True := by
  refine eq_true ⟨Nat.le_succ _, Or.inr ?_⟩
  rw [hp_len]; exact h
theorem ag_row (hR : Rel A) {a s n : Int} (ia : inI a = true) (is : inI s = true) (in_ : inI n = true) : Agree sp sc mX11_row mX12_row [.inl a, .inl s, .inl n] A := by
  have ns : ([109, 111, 113, 115, 117, 119, 121, 123] : List Nat).length = 8 := rfl
  obtain ⟨M, hM⟩ : ∃ M : Nat, M = 100 := ⟨100, rfl⟩
  by_cases c : 0 ≤ a ∧ a < 8
  · have hd : a.toNat < 8 := by omega
    have hS := hR.shs a.toNat hd
    have ea : ((a.toNat : Nat) : Int) = a := by omega
    have lE : (zE a M A.mo.el).length = 800 := by rw [zE_len]; exact hR.lel
    have hE : ∀ c : Int, 0 ≤ c → c < 8 → ∀ i : Int, 0 ≤ i → i < 100 → (zE a M A.mo.el).getD (100 * c + i).toNat 0 = if ((a.toNat : Nat) : Int) = c then 0 else A.mo.el.getD (100 * c + i).toNat 0 := fun q a1 b1 i a2 b2 => by
      rw [zE_get c.1 c.2 a1 b1 a2 b2 hR.lel M (by omega), ea]
      by_cases z : a = q
      · rw [if_pos ⟨z, by omega⟩, if_pos z]
      · rw [if_neg (fun y => z y.1), if_neg z]
    by_cases c1 : 0 ≤ s ∧ s ≤ 2
    · have z1 : ¬ s < 0 := by omega
      have z2 : ¬ 2 < s := by omega
      by_cases c2 : n ≤ 100
      · by_cases c3 : n < 0
        · have c6 : ¬ 0 ≤ n := by omega
          refine Agree.of (-14) A A rfl (fun Q => Call_eq ?_) (fun Q => rowR_bad (d := 17) ia is in_ (Or.inr ⟨⟨c, c1, c3⟩, rfl⟩)) rfl rfl hR
          apply eX11_row 60; simp (disch := first | assumption | rfl | exact inI_of (by omega) (by omega) | omega | decide | (simp only [sv_ext, sv_mc, Nat.le_refl]; done) | with_unfolding_all (refine @id _ ?_; first | exact Eq.refl _ | exact Nat.le_refl _ | assumption)) only [Nat.reduceAdd, Nat.reduceMul, Nat.reduceLeDiff, Nat.reduceLT, Int.reduceAdd, Int.reduceSub, Int.reduceMul, Int.reduceNeg, Int.reduceLE, Int.reduceLT, Int.reduceToNat, Int.reduceEq, reduceCtorEq, ld_z, ld_s, st1_0, st1_1, st1_s, st2_0, st2_1, st2_s, isJ_i, isJ_r, isJ_n, isJ_l, cs_nil, cs_i, cs_r, cs_l, kF, List.getElem?_cons_succ, List.getElem?_cons_zero, List.set_cons_zero, List.set_cons_succ, GC_s, GC_n, GK_nil, GK_no, GK_yes, not_false_eq_true, back_eq, back_hp, inI_eq, inA_eq, true_and, and_true, and_self, if_true, if_false, bI_0, bI_1, bI_in, bI_T, bI_F, fitF, jmpF, nlF, pjA, iVal.eta, iYr.eta, List.getElem?_toArray, List.length_cons, List.length_nil, true_or, or_true, or_false, false_or, Classical.not_not, Bool.false_eq_true, hp_2, Nat.zero_le, Nat.le_refl, Option.some.injEq, Sum.inl.injEq, Sum.inr.injEq, not_true_eq_false, true_implies, false_implies, implies_true, rd_v, f_num, f_lik, f_dep, f_bnd, f_man, f_wom, f_sta, f_dds, f_who, rd_e, v_now, hasOne_eq, hasTwo_eq, hasCouple_eq, orNone_eq, natureOf_eq, rd_nat, place_eq, rd_v1, rd_v3, rd_v4, rd_v6, rd_v7, rd_v8, rd_v9, rd_v10, isShelf_eq, isSide_eq, isDeed_eq, isKind_eq, isMindSpan_eq, gX11_row, c, c2, c6, z1, z2, is, in_]
        · have c6 : 0 ≤ n := by omega
          have l100 : (A.cel a.toNat).length ≤ 100 := by
            rcases hS.ca with z | z
            · have : A.cel a.toNat = [] := by unfold iA.cel; rw [if_pos (by omega)]
              rw [this]; exact Nat.zero_le _
            · omega
          by_cases c4 : ((A.cel a.toNat).length : Int) < n
          · have hr := fun Q => @holdRow_new sp sc 18 A Q a.toNat hR hd s n c4 c2
            have bk : back (hp A) (hp ((A.pu (List.replicate 100 0)).sSh a.toNat ((iSh.mk (2) ((A.sh a.toNat).na) (s) (n) (159 + A.ext.length))))) [some (.inr (.inr 2)), some (.inl a), some (.inl s), some (.inl n)] [] = True := back_pu (by
              simp only [vL, List.all_cons, List.all_nil, vV_i, vV_r, Bool.and_true, Bool.true_and, decide_eq_true_eq]; omega)
            refine Agree.of2 0 ((A.pu (List.replicate 100 0)).sSh a.toNat ((iSh.mk (2) ((A.sh a.toNat).na) (s) (n) (159 + A.ext.length)))) _ rfl (fun Q => Call_eq ?_) (fun Q => rowR_eq (d := 17) hM ia is in_ c c1 (by omega) c2 hR.lke hR.lso hR.lsz hR.lel) rfl rfl ?_
            · apply eX11_row 60; simp (disch := first | assumption | rfl | exact inI_of (by omega) (by omega) | omega | decide | (simp only [sv_ext, sv_mc, Nat.le_refl]; done) | with_unfolding_all (refine @id _ ?_; first | exact Eq.refl _ | exact Nat.le_refl _ | assumption)) only [Nat.reduceAdd, Nat.reduceMul, Nat.reduceLeDiff, Nat.reduceLT, Int.reduceAdd, Int.reduceSub, Int.reduceMul, Int.reduceNeg, Int.reduceLE, Int.reduceLT, Int.reduceToNat, Int.reduceEq, reduceCtorEq, ld_z, ld_s, st1_0, st1_1, st1_s, st2_0, st2_1, st2_s, isJ_i, isJ_r, isJ_n, isJ_l, cs_nil, cs_i, cs_r, cs_l, kF, List.getElem?_cons_succ, List.getElem?_cons_zero, List.set_cons_zero, List.set_cons_succ, GC_s, GC_n, GK_nil, GK_no, GK_yes, not_false_eq_true, back_eq, back_hp, inI_eq, inA_eq, true_and, and_true, and_self, if_true, if_false, bI_0, bI_1, bI_in, bI_T, bI_F, fitF, jmpF, nlF, pjA, iVal.eta, iYr.eta, List.getElem?_toArray, List.length_cons, List.length_nil, true_or, or_true, or_false, false_or, Classical.not_not, Bool.false_eq_true, hp_2, Nat.zero_le, Nat.le_refl, Option.some.injEq, Sum.inl.injEq, Sum.inr.injEq, not_true_eq_false, true_implies, false_implies, implies_true, rd_v, f_num, f_lik, f_dep, f_bnd, f_man, f_wom, f_sta, f_dds, f_who, rd_e, v_now, hasOne_eq, hasTwo_eq, hasCouple_eq, orNone_eq, natureOf_eq, rd_nat, place_eq, rd_v1, rd_v3, rd_v4, rd_v6, rd_v7, rd_v8, rd_v9, rd_v10, isShelf_eq, isSide_eq, isDeed_eq, isKind_eq, isMindSpan_eq, gX11_row, c, c2, c6, z1, z2, is, in_, rd_ss, ns, sh_at, rd_s, hr, bk]
            · have := @relS_row A a.toNat hR hd (zE a M A.mo.el) lE hE s n (159 + A.ext.length) (A.mc + 1) (A.ext ++ [List.replicate 100 0]) (List.replicate 100 0) c1 (by omega) c2 (by rw [List.length_append]; omega) (Or.inr ⟨by omega, by rw [List.length_append]; show _ < 159 + (A.ext.length + 1); omega, by
                have : 159 + A.ext.length - 159 = A.ext.length := by omega
                rw [this, List.getD_eq_getElem?_getD, List.getElem?_append_right (Nat.le_refl _), Nat.sub_self]; rfl, List.length_replicate⟩) (fun i hi => by
                rw [List.getD_eq_getElem?_getD, List.getElem?_replicate, if_pos (by omega)]; rfl) (fun e he ce => by
                have hse := (hR.shs e he).ca
                refine ⟨fun h159 => ?_, by omega⟩
                rw [List.getD_eq_getElem?_getD, List.getElem?_append_left (by omega), ← List.getD_eq_getElem?_getD])
              exact this
          · by_cases c5 : n = 0
            · subst c5
              have hr := fun Q => @holdRow_0 sp sc 18 A Q a.toNat hd s (celC_of hS) (by omega)
              refine Agree.of 0 (A.sSh a.toNat ((iSh.mk (2) ((A.sh a.toNat).na) (s) (0) ((A.sh a.toNat).ca)))) _ rfl (fun Q => Call_eq ?_) (fun Q => rowR_eq (d := 17) hM ia is in_ c c1 (by omega) c2 hR.lke hR.lso hR.lsz hR.lel) rfl rfl ?_
              · apply eX11_row 60; simp (disch := first | assumption | rfl | exact inI_of (by omega) (by omega) | omega | decide | (simp only [sv_ext, sv_mc, Nat.le_refl]; done) | with_unfolding_all (refine @id _ ?_; first | exact Eq.refl _ | exact Nat.le_refl _ | assumption)) only [Nat.reduceAdd, Nat.reduceMul, Nat.reduceLeDiff, Nat.reduceLT, Int.reduceAdd, Int.reduceSub, Int.reduceMul, Int.reduceNeg, Int.reduceLE, Int.reduceLT, Int.reduceToNat, Int.reduceEq, reduceCtorEq, ld_z, ld_s, st1_0, st1_1, st1_s, st2_0, st2_1, st2_s, isJ_i, isJ_r, isJ_n, isJ_l, cs_nil, cs_i, cs_r, cs_l, kF, List.getElem?_cons_succ, List.getElem?_cons_zero, List.set_cons_zero, List.set_cons_succ, GC_s, GC_n, GK_nil, GK_no, GK_yes, not_false_eq_true, back_eq, back_hp, inI_eq, inA_eq, true_and, and_true, and_self, if_true, if_false, bI_0, bI_1, bI_in, bI_T, bI_F, fitF, jmpF, nlF, pjA, iVal.eta, iYr.eta, List.getElem?_toArray, List.length_cons, List.length_nil, true_or, or_true, or_false, false_or, Classical.not_not, Bool.false_eq_true, hp_2, Nat.zero_le, Nat.le_refl, Option.some.injEq, Sum.inl.injEq, Sum.inr.injEq, not_true_eq_false, true_implies, false_implies, implies_true, rd_v, f_num, f_lik, f_dep, f_bnd, f_man, f_wom, f_sta, f_dds, f_who, rd_e, v_now, hasOne_eq, hasTwo_eq, hasCouple_eq, orNone_eq, natureOf_eq, rd_nat, place_eq, rd_v1, rd_v3, rd_v4, rd_v6, rd_v7, rd_v8, rd_v9, rd_v10, isShelf_eq, isSide_eq, isDeed_eq, isKind_eq, isMindSpan_eq, gX11_row, c, c2, c6, z1, z2, is, in_, rd_ss, ns, sh_at, rd_s, hr, back_sSh]
              · have := @relS_row A a.toNat hR hd (zE a M A.mo.el) lE hE s 0 (A.sh a.toNat).ca A.mc A.ext (A.cel a.toNat) c1 (by omega) c2 (Nat.le_refl _) (by
                  rcases hS.ca with z | z
                  · exact Or.inl ⟨z, by unfold iA.cel; rw [if_pos (by omega)], rfl⟩
                  · exact Or.inr ⟨z.1, z.2.1, (cel_x ⟨z.1, z.2.1⟩).symm, z.2.2⟩) (fun i hi => by omega) (fun e he ce => ⟨fun _ => rfl, ca_ne hR hd he ce⟩)
                exact this
            · have hx := inX_of hd hS (by omega)
              have lz : (A.cel a.toNat).length = 100 := by
                rcases hS.ca with z | z
                · have := hx.1; omega
                · exact z.2.2
              have hr := fun Q => @holdRow_old sp sc 18 A Q a.toNat hd s n hx (by omega) (by omega) (by omega)
              have bk : back (hp A) (hp ((A.sSh a.toNat ((iSh.mk (2) ((A.sh a.toNat).na) (s) (n) ((A.sh a.toNat).ca)))).sX ((A.sh a.toNat).ca - 159) (zf n.toNat (A.cel a.toNat)))) [some (.inr (.inr 2)), some (.inl a), some (.inl s), some (.inl n)] [] = True := back_hp (List.length_set ..) (Nat.le_refl _)
              refine Agree.of 0 ((A.sSh a.toNat ((iSh.mk (2) ((A.sh a.toNat).na) (s) (n) ((A.sh a.toNat).ca)))).sX ((A.sh a.toNat).ca - 159) (zf n.toNat (A.cel a.toNat))) _ rfl (fun Q => Call_eq ?_) (fun Q => rowR_eq (d := 17) hM ia is in_ c c1 (by omega) c2 hR.lke hR.lso hR.lsz hR.lel) rfl rfl ?_
              · apply eX11_row 60; simp (disch := first | assumption | rfl | exact inI_of (by omega) (by omega) | omega | decide | (simp only [sv_ext, sv_mc, Nat.le_refl]; done) | with_unfolding_all (refine @id _ ?_; first | exact Eq.refl _ | exact Nat.le_refl _ | assumption)) only [Nat.reduceAdd, Nat.reduceMul, Nat.reduceLeDiff, Nat.reduceLT, Int.reduceAdd, Int.reduceSub, Int.reduceMul, Int.reduceNeg, Int.reduceLE, Int.reduceLT, Int.reduceToNat, Int.reduceEq, reduceCtorEq, ld_z, ld_s, st1_0, st1_1, st1_s, st2_0, st2_1, st2_s, isJ_i, isJ_r, isJ_n, isJ_l, cs_nil, cs_i, cs_r, cs_l, kF, List.getElem?_cons_succ, List.getElem?_cons_zero, List.set_cons_zero, List.set_cons_succ, GC_s, GC_n, GK_nil, GK_no, GK_yes, not_false_eq_true, back_eq, back_hp, inI_eq, inA_eq, true_and, and_true, and_self, if_true, if_false, bI_0, bI_1, bI_in, bI_T, bI_F, fitF, jmpF, nlF, pjA, iVal.eta, iYr.eta, List.getElem?_toArray, List.length_cons, List.length_nil, true_or, or_true, or_false, false_or, Classical.not_not, Bool.false_eq_true, hp_2, Nat.zero_le, Nat.le_refl, Option.some.injEq, Sum.inl.injEq, Sum.inr.injEq, not_true_eq_false, true_implies, false_implies, implies_true, rd_v, f_num, f_lik, f_dep, f_bnd, f_man, f_wom, f_sta, f_dds, f_who, rd_e, v_now, hasOne_eq, hasTwo_eq, hasCouple_eq, orNone_eq, natureOf_eq, rd_nat, place_eq, rd_v1, rd_v3, rd_v4, rd_v6, rd_v7, rd_v8, rd_v9, rd_v10, isShelf_eq, isSide_eq, isDeed_eq, isKind_eq, isMindSpan_eq, gX11_row, c, c2, c6, z1, z2, is, in_, rd_ss, ns, sh_at, rd_s, hr, bk]
              · have := @relS_row A a.toNat hR hd (zE a M A.mo.el) lE hE s n (A.sh a.toNat).ca A.mc (A.ext.set ((A.sh a.toNat).ca - 159) (zf n.toNat (A.cel a.toNat))) (zf n.toNat (A.cel a.toNat)) c1 (by omega) c2 (by rw [List.length_set]; omega) (Or.inr ⟨hx.1, by rw [List.length_set]; exact hx.2, by
                  rw [List.getD_eq_getElem?_getD, List.getElem?_set_self (by have := hx.1; have := hx.2; omega)]; rfl, by rw [zf_len (by omega), lz]⟩) (fun i hi => zf_get (by omega)) (fun e he ce => by
                  refine ⟨fun h159 => ?_, ca_ne hR hd he ce⟩
                  have := ca_ne hR hd he ce
                  have := hx.1
                  rw [List.getD_eq_getElem?_getD, List.getElem?_set_ne (by omega), ← List.getD_eq_getElem?_getD])
                exact this
      · refine Agree.of (-1) A A rfl (fun Q => Call_eq ?_) (fun Q => rowR_bad (d := 17) ia is in_ (Or.inl ⟨by omega, rfl⟩)) rfl rfl hR
        apply eX11_row 60; simp (disch := first | assumption | rfl | exact inI_of (by omega) (by omega) | omega | decide | (simp only [sv_ext, sv_mc, Nat.le_refl]; done) | with_unfolding_all (refine @id _ ?_; first | exact Eq.refl _ | exact Nat.le_refl _ | assumption)) only [Nat.reduceAdd, Nat.reduceMul, Nat.reduceLeDiff, Nat.reduceLT, Int.reduceAdd, Int.reduceSub, Int.reduceMul, Int.reduceNeg, Int.reduceLE, Int.reduceLT, Int.reduceToNat, Int.reduceEq, reduceCtorEq, ld_z, ld_s, st1_0, st1_1, st1_s, st2_0, st2_1, st2_s, isJ_i, isJ_r, isJ_n, isJ_l, cs_nil, cs_i, cs_r, cs_l, kF, List.getElem?_cons_succ, List.getElem?_cons_zero, List.set_cons_zero, List.set_cons_succ, GC_s, GC_n, GK_nil, GK_no, GK_yes, not_false_eq_true, back_eq, back_hp, inI_eq, inA_eq, true_and, and_true, and_self, if_true, if_false, bI_0, bI_1, bI_in, bI_T, bI_F, fitF, jmpF, nlF, pjA, iVal.eta, iYr.eta, List.getElem?_toArray, List.length_cons, List.length_nil, true_or, or_true, or_false, false_or, Classical.not_not, Bool.false_eq_true, hp_2, Nat.zero_le, Nat.le_refl, Option.some.injEq, Sum.inl.injEq, Sum.inr.injEq, not_true_eq_false, true_implies, false_implies, implies_true, rd_v, f_num, f_lik, f_dep, f_bnd, f_man, f_wom, f_sta, f_dds, f_who, rd_e, v_now, hasOne_eq, hasTwo_eq, hasCouple_eq, orNone_eq, natureOf_eq, rd_nat, place_eq, rd_v1, rd_v3, rd_v4, rd_v6, rd_v7, rd_v8, rd_v9, rd_v10, isShelf_eq, isSide_eq, isDeed_eq, isKind_eq, isMindSpan_eq, gX11_row, c, c2, z1, z2, is, in_]
    · refine Agree.of (-1) A A rfl (fun Q => Call_eq ?_) (fun Q => rowR_bad (d := 17) ia is in_ (Or.inl ⟨by omega, rfl⟩)) rfl rfl hR
      by_cases z1 : s < 0
      · apply eX11_row 60; simp (disch := first | assumption | rfl | exact inI_of (by omega) (by omega) | omega | decide | (simp only [sv_ext, sv_mc, Nat.le_refl]; done) | with_unfolding_all (refine @id _ ?_; first | exact Eq.refl _ | exact Nat.le_refl _ | assumption)) only [Nat.reduceAdd, Nat.reduceMul, Nat.reduceLeDiff, Nat.reduceLT, Int.reduceAdd, Int.reduceSub, Int.reduceMul, Int.reduceNeg, Int.reduceLE, Int.reduceLT, Int.reduceToNat, Int.reduceEq, reduceCtorEq, ld_z, ld_s, st1_0, st1_1, st1_s, st2_0, st2_1, st2_s, isJ_i, isJ_r, isJ_n, isJ_l, cs_nil, cs_i, cs_r, cs_l, kF, List.getElem?_cons_succ, List.getElem?_cons_zero, List.set_cons_zero, List.set_cons_succ, GC_s, GC_n, GK_nil, GK_no, GK_yes, not_false_eq_true, back_eq, back_hp, inI_eq, inA_eq, true_and, and_true, and_self, if_true, if_false, bI_0, bI_1, bI_in, bI_T, bI_F, fitF, jmpF, nlF, pjA, iVal.eta, iYr.eta, List.getElem?_toArray, List.length_cons, List.length_nil, true_or, or_true, or_false, false_or, Classical.not_not, Bool.false_eq_true, hp_2, Nat.zero_le, Nat.le_refl, Option.some.injEq, Sum.inl.injEq, Sum.inr.injEq, not_true_eq_false, true_implies, false_implies, implies_true, rd_v, f_num, f_lik, f_dep, f_bnd, f_man, f_wom, f_sta, f_dds, f_who, rd_e, v_now, hasOne_eq, hasTwo_eq, hasCouple_eq, orNone_eq, natureOf_eq, rd_nat, place_eq, rd_v1, rd_v3, rd_v4, rd_v6, rd_v7, rd_v8, rd_v9, rd_v10, isShelf_eq, isSide_eq, isDeed_eq, isKind_eq, isMindSpan_eq, gX11_row, c, z1, is, in_]
      · have z2 : ¬ s ≤ 2 := by omega
        have z3 : 2 < s := by omega
        apply eX11_row 60; simp (disch := first | assumption | rfl | exact inI_of (by omega) (by omega) | omega | decide | (simp only [sv_ext, sv_mc, Nat.le_refl]; done) | with_unfolding_all (refine @id _ ?_; first | exact Eq.refl _ | exact Nat.le_refl _ | assumption)) only [Nat.reduceAdd, Nat.reduceMul, Nat.reduceLeDiff, Nat.reduceLT, Int.reduceAdd, Int.reduceSub, Int.reduceMul, Int.reduceNeg, Int.reduceLE, Int.reduceLT, Int.reduceToNat, Int.reduceEq, reduceCtorEq, ld_z, ld_s, st1_0, st1_1, st1_s, st2_0, st2_1, st2_s, isJ_i, isJ_r, isJ_n, isJ_l, cs_nil, cs_i, cs_r, cs_l, kF, List.getElem?_cons_succ, List.getElem?_cons_zero, List.set_cons_zero, List.set_cons_succ, GC_s, GC_n, GK_nil, GK_no, GK_yes, not_false_eq_true, back_eq, back_hp, inI_eq, inA_eq, true_and, and_true, and_self, if_true, if_false, bI_0, bI_1, bI_in, bI_T, bI_F, fitF, jmpF, nlF, pjA, iVal.eta, iYr.eta, List.getElem?_toArray, List.length_cons, List.length_nil, true_or, or_true, or_false, false_or, Classical.not_not, Bool.false_eq_true, hp_2, Nat.zero_le, Nat.le_refl, Option.some.injEq, Sum.inl.injEq, Sum.inr.injEq, not_true_eq_false, true_implies, false_implies, implies_true, rd_v, f_num, f_lik, f_dep, f_bnd, f_man, f_wom, f_sta, f_dds, f_who, rd_e, v_now, hasOne_eq, hasTwo_eq, hasCouple_eq, orNone_eq, natureOf_eq, rd_nat, place_eq, rd_v1, rd_v3, rd_v4, rd_v6, rd_v7, rd_v8, rd_v9, rd_v10, isShelf_eq, isSide_eq, isDeed_eq, isKind_eq, isMindSpan_eq, gX11_row, c, z1, z2, z3, is, in_]
  · refine Agree.of (-1) A A rfl (fun Q => Call_eq ?_) (fun Q => rowR_bad (d := 17) ia is in_ (Or.inl ⟨by omega, rfl⟩)) rfl rfl hR
    apply eX11_row 60; simp (disch := first | assumption | rfl | exact inI_of (by omega) (by omega) | omega | decide | (simp only [sv_ext, sv_mc, Nat.le_refl]; done) | with_unfolding_all (refine @id _ ?_; first | exact Eq.refl _ | exact Nat.le_refl _ | assumption)) only [Nat.reduceAdd, Nat.reduceMul, Nat.reduceLeDiff, Nat.reduceLT, Int.reduceAdd, Int.reduceSub, Int.reduceMul, Int.reduceNeg, Int.reduceLE, Int.reduceLT, Int.reduceToNat, Int.reduceEq, reduceCtorEq, ld_z, ld_s, st1_0, st1_1, st1_s, st2_0, st2_1, st2_s, isJ_i, isJ_r, isJ_n, isJ_l, cs_nil, cs_i, cs_r, cs_l, kF, List.getElem?_cons_succ, List.getElem?_cons_zero, List.set_cons_zero, List.set_cons_succ, GC_s, GC_n, GK_nil, GK_no, GK_yes, not_false_eq_true, back_eq, back_hp, inI_eq, inA_eq, true_and, and_true, and_self, if_true, if_false, bI_0, bI_1, bI_in, bI_T, bI_F, fitF, jmpF, nlF, pjA, iVal.eta, iYr.eta, List.getElem?_toArray, List.length_cons, List.length_nil, true_or, or_true, or_false, false_or, Classical.not_not, Bool.false_eq_true, hp_2, Nat.zero_le, Nat.le_refl, Option.some.injEq, Sum.inl.injEq, Sum.inr.injEq, not_true_eq_false, true_implies, false_implies, implies_true, rd_v, f_num, f_lik, f_dep, f_bnd, f_man, f_wom, f_sta, f_dds, f_who, rd_e, v_now, hasOne_eq, hasTwo_eq, hasCouple_eq, orNone_eq, natureOf_eq, rd_nat, place_eq, rd_v1, rd_v3, rd_v4, rd_v6, rd_v7, rd_v8, rd_v9, rd_v10, isShelf_eq, isSide_eq, isDeed_eq, isKind_eq, isMindSpan_eq, gX11_row, c]
end OPS
