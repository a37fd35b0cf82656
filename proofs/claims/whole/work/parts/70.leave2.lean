set_option maxRecDepth 16384
/-! ===== a call: leave ===== -/
def iA.sM (A : iA) (wv hb : List Int) : iA := (iA.mk A.now A.img A.mnd A.imd A.yr ((iMt.mk (wv) (hb) A.mt.fm A.mt.ak A.mt.un A.mt.ml)) A.sh A.pt A.mo A.out A.ext A.mc)
def iA.sH (A : iA) (he : List Int) : iA := (iA.mk A.now A.img A.mnd A.imd A.yr A.mt A.sh A.pt ((iMo.mk A.mo.s A.mo.m A.mo.im A.mo.was A.mo.hi A.mo.wt A.mo.en A.mo.od A.mo.dn A.mo.sm A.mo.sf A.mo.go A.mo.at_ A.mo.ra A.mo.re A.mo.nu A.mo.bd A.mo.bg (he) A.mo.bh A.mo.ak A.mo.st A.mo.ml A.mo.fi A.mo.th A.mo.se A.mo.ke A.mo.kk A.mo.kf A.mo.so A.mo.sz A.mo.el A.mo.tn)) A.out A.ext A.mc)
/-- the row of women, taken over: 1 not as it must be; wives, husbands; the reference's row -/
def lvR (X : iVal) (cl : List Int) : Nat → Int → List Int → List Int → List Int → Int × List Int × List Int × List Int
  | 0, _, wv, hb, he => (0, wv, hb, he)
  | k + 1, i, wv, hb, he =>
    if cl.getD i.toNat 0 < -1 ∨ X.num 1 ≤ cl.getD i.toNat 0 then (1, wv, hb, he)
    else if cl.getD i.toNat 0 = -1 then lvR X cl k (i + 1) wv hb (he.set i.toNat (-4))
    else if gt0 hb (cl.getD i.toNat 0) = -1 then lvR X cl k (i + 1) (wv.set i.toNat (cl.getD i.toNat 0)) (hb.set (cl.getD i.toNat 0).toNat i) (he.set i.toNat (cl.getD i.toNat 0))
    else (1, wv, hb, he)
theorem gt_set {l : List Int} {i j v : Int} (h0 : 0 ≤ i) (h1 : 0 ≤ j) (hl : i < (l.length : Int)) : gt0 (l.set i.toNat v) j = if i = j then v else gt0 l j := gs h0 h1 hl
theorem okM_join {X : iVal} {wv hb : List Int} (hM : OkM X wv hb) {m w : Int} (h0 : 0 ≤ m) (h1 : m < X.num 0) (h1' : m < 5) (h2 : 0 ≤ w) (h3 : w < X.num 1) (h3' : w < 5) (e1 : gt0 wv m = -1) (e2 : gt0 hb w = -1) : OkM X (wv.set m.toNat w) (hb.set w.toNat m) := by
  have lw := hM.lw
  have lh := hM.lh
  refine OkM.mk (by rw [List.length_set]; exact lw) (by rw [List.length_set]; exact lh) (fun j a b => ?_) (fun j a b => ?_)
  · rw [gt_set h0 a (by omega)]
    by_cases c : m = j
    · rw [if_pos c]
      right
      rw [gt_set h2 h2 (by omega), if_pos rfl]
      exact ⟨h2, h3, c⟩
    · rw [if_neg c]
      rcases hM.wi j a b with z | z
      · left; exact z
      · right
        refine ⟨z.1, z.2.1, ?_⟩
        rw [gt_set h2 z.1 (by omega), if_neg (fun y => by rw [← y] at z; omega)]
        exact z.2.2
  · rw [gt_set h2 a (by omega)]
    by_cases c : w = j
    · rw [if_pos c]
      right
      rw [gt_set h0 h0 (by omega), if_pos rfl]
      exact ⟨h0, h1, c⟩
    · rw [if_neg c]
      rcases hM.hu j a b with z | z
      · left; exact z
      · right
        refine ⟨z.1, z.2.1, ?_⟩
        rw [gt_set h0 z.1 (by omega), if_neg (fun y => by rw [← y] at z; omega)]
        exact z.2.2
/-- bits that tell who of the women is taken -/
def seenOK (hb : List Int) (n : Nat) : Prop := n < 1024 ∧ ∀ w : Int, 0 ≤ w → w < 5 → (bAnd (bShr (n : Int) w) 1 = 1 ↔ ¬ gt0 hb w = -1)
theorem seen_add {hb : List Int} {n : Nat} (hn : seenOK hb n) {w m : Int} (h0 : 0 ≤ w) (h1 : w < 5) (hm : 0 ≤ m) (lh : hb.length = 5) : ∃ n' : Nat, bOr (n : Int) (bShl 1 w) = (n' : Int) ∧ seenOK (hb.set w.toNat m) n' := by
  have ew : ((w.toNat : Nat) : Int) = w := by omega
  have b := bShl_1 w.toNat (by omega)
  rw [ew] at b
  have l1 : n ||| 1 <<< w.toNat < 1024 := Nat.or_lt_two_pow (n := 10) hn.1 b.2
  refine ⟨n ||| 1 <<< w.toNat, ?_, l1, fun j a c => ?_⟩
  · rw [b.1, bOr_nat (by have := hn.1; omega) (by omega)]
  · have ej : ((j.toNat : Nat) : Int) = j := by omega
    have p := bits_has _ l1 j.toNat (by omega)
    rw [ej] at p
    have q := bits_has _ hn.1 j.toNat (by omega)
    rw [ej] at q
    rw [p, bits_set (by omega), gt_set h0 a (by omega)]
    by_cases z : w = j
    · rw [if_pos z, z, getD_set1 (by rw [bits_len]; omega)]
      constructor
      · intro _; omega
      · intro _; rfl
    · rw [if_neg z, gsd (by omega), ← q]
      exact hn.2 j a c
theorem sameH_b {X : iVal} {wv he : List Int} (h : sameH X wv he) : he.length = 5 := h.1
theorem lvR_len {X : iVal} {cl : List Int} : ∀ (k : Nat) (i : Int) (wv hb he : List Int), (lvR X cl k i wv hb he).2.1.length = wv.length ∧ (lvR X cl k i wv hb he).2.2.1.length = hb.length ∧ (lvR X cl k i wv hb he).2.2.2.length = he.length := by
  intro k
  induction k with
  | zero => intro i wv hb he; exact ⟨rfl, rfl, rfl⟩
  | succ k ih =>
    intro i wv hb he
    unfold lvR
    split
    · exact ⟨rfl, rfl, rfl⟩
    · split
      · have := ih (i + 1) wv hb (he.set i.toNat (-4))
        rw [List.length_set] at this; exact this
      · split
        · have := ih (i + 1) (wv.set i.toNat (cl.getD i.toNat 0)) (hb.set (cl.getD i.toNat 0).toNat i) (he.set i.toNat (cl.getD i.toNat 0))
          rw [List.length_set, List.length_set, List.length_set] at this; exact this
        · exact ⟨rfl, rfl, rfl⟩
section OPS
variable {sp : Nat → List iV → iH → Option (Option iV × iH)} {sc : List Int} {d : Nat} {A A' : iA} {Q : Option iV → iH → Prop} {h : iH} {X : iVal} {e : Int} {D : Nat}
theorem sM_now {a b : List Int} : (A.sM a b).now = A.now := rfl
theorem sM_wv {a b : List Int} : (A.sM a b).mt.wv = a := rfl
theorem sM_hb {a b : List Int} : (A.sM a b).mt.hb = b := rfl
theorem sM_sM {a b c f : List Int} : (A.sM a b).sM c f = A.sM c f := rfl
theorem sM_sh {a b : List Int} : (A.sM a b).sh = A.sh := rfl
theorem sM_mc {a b : List Int} : (A.sM a b).mc = A.mc := rfl
theorem wr_Mwv {l : List Int} : ((hp A).1.set 14 (.inr (.inl (0, l))), A.mc) = hp (A.sM l A.mt.hb) := wr_m1
theorem wr_Mhb {l : List Int} : ((hp A).1.set 15 (.inr (.inl (0, l))), A.mc) = hp (A.sM A.mt.wv l) := wr_m2
theorem back_sM {a b : List Int} {L : List (Option iV)} {rest : List iV} : back (hp A) (hp (A.sM a b)) L rest = True := back_hp rfl (Nat.le_refl _)
theorem back_sM2 {a b c f : List Int} {L : List (Option iV)} {rest : List iV} : back (hp (A.sM a b)) (hp (A.sM c f)) L rest = True := back_hp rfl (Nat.le_refl _)
def m5 : List Int := [-1, -1, -1, -1, -1]
theorem clear_it {i : Int} (h0 : 0 ≤ i) (h1 : i < 5) (l1 : A.mt.wv.length = 5) (l2 : A.mt.hb.length = 5) (hq : Run sp sc d mX4_clear 2 [some (.inr (.inr 15)), some (.inl (i + 1))] [] (hp (A.sM (A.mt.wv.set i.toNat (-1)) (A.mt.hb.set i.toNat (-1)))) Q) : Run sp sc d mX4_clear 2 [some (.inr (.inr 15)), some (.inl i)] [] (hp A) Q := by
  refine G_run (B := [2]) 40 _ _ _ _ ?_
  have e1 : ¬ 5 ≤ i := by omega
  simp (disch := first | assumption | rfl | exact inI_of (by omega) (by omega) | omega | decide | (simp only [sv_ext, sv_mc, Nat.le_refl]; done) | with_unfolding_all (refine @id _ ?_; first | exact Eq.refl _ | exact Nat.le_refl _ | assumption)) only [Nat.reduceAdd, Nat.reduceMul, Nat.reduceLeDiff, Nat.reduceLT, Int.reduceAdd, Int.reduceSub, Int.reduceMul, Int.reduceNeg, Int.reduceLE, Int.reduceLT, Int.reduceToNat, Int.reduceEq, reduceCtorEq, ld_z, ld_s, st1_0, st1_1, st1_s, st2_0, st2_1, st2_s, isJ_i, isJ_r, isJ_n, isJ_l, cs_nil, cs_i, cs_r, cs_l, kF, List.getElem?_cons_succ, List.getElem?_cons_zero, List.set_cons_zero, List.set_cons_succ, GC_s, GC_n, GK_nil, GK_no, GK_yes, not_false_eq_true, back_eq, back_hp, inI_eq, inA_eq, true_and, and_true, and_self, if_true, if_false, bI_0, bI_1, bI_in, bI_T, bI_F, fitF, jmpF, nlF, pjA, iVal.eta, iYr.eta, List.getElem?_toArray, List.length_cons, List.length_nil, true_or, or_true, or_false, false_or, Classical.not_not, Bool.false_eq_true, hp_2, Nat.zero_le, Nat.le_refl, Option.some.injEq, Sum.inl.injEq, Sum.inr.injEq, not_true_eq_false, true_implies, false_implies, implies_true, gX4_clear, e1, rd_m, rd_m1, rd_m2, l1, l2, wr_Mwv, wr_Mhb, sM_wv, sM_hb, sM_sM]
  exact hq
theorem clr5 {l : List Int} (h : l.length = 5) : ((((l.set 0 (-1)).set 1 (-1)).set 2 (-1)).set 3 (-1)).set 4 (-1) = m5 := by
  match l, h with
  | [a, b, c, x, y], _ => rfl
theorem clear_eq (l1 : A.mt.wv.length = 5) (l2 : A.mt.hb.length = 5) : Call sp sc d mX4_clear [.inr (.inr 15)] (hp A) Q = Q none (hp (A.sM m5 m5)) := Call_eq (by
  apply eX4_clear 40; simp (disch := first | assumption | rfl | exact inI_of (by omega) (by omega) | omega | decide | (simp only [sv_ext, sv_mc, Nat.le_refl]; done) | with_unfolding_all (refine @id _ ?_; first | exact Eq.refl _ | exact Nat.le_refl _ | assumption)) only [Nat.reduceAdd, Nat.reduceMul, Nat.reduceLeDiff, Nat.reduceLT, Int.reduceAdd, Int.reduceSub, Int.reduceMul, Int.reduceNeg, Int.reduceLE, Int.reduceLT, Int.reduceToNat, Int.reduceEq, reduceCtorEq, ld_z, ld_s, st1_0, st1_1, st1_s, st2_0, st2_1, st2_s, isJ_i, isJ_r, isJ_n, isJ_l, cs_nil, cs_i, cs_r, cs_l, kF, List.getElem?_cons_succ, List.getElem?_cons_zero, List.set_cons_zero, List.set_cons_succ, GC_s, GC_n, GK_nil, GK_no, GK_yes, not_false_eq_true, back_eq, back_hp, inI_eq, inA_eq, true_and, and_true, and_self, if_true, if_false, bI_0, bI_1, bI_in, bI_T, bI_F, fitF, jmpF, nlF, pjA, iVal.eta, iYr.eta, List.getElem?_toArray, List.length_cons, List.length_nil, true_or, or_true, or_false, false_or, Classical.not_not, Bool.false_eq_true, hp_2, Nat.zero_le, Nat.le_refl, Option.some.injEq, Sum.inl.injEq, Sum.inr.injEq, not_true_eq_false, true_implies, false_implies, implies_true, gX4_clear]
  have L := fun (l : List Int) (v : Int) (i : Nat) (h : l.length = 5) => (show (l.set i v).length = 5 from by rw [List.length_set]; exact h)
  refine clear_it (by omega) (by omega) l1 l2 ?_
  refine clear_it (by omega) (by omega) (L _ _ _ l1) (L _ _ _ l2) ?_
  refine clear_it (by omega) (by omega) (L _ _ _ (L _ _ _ l1)) (L _ _ _ (L _ _ _ l2)) ?_
  refine clear_it (by omega) (by omega) (L _ _ _ (L _ _ _ (L _ _ _ l1))) (L _ _ _ (L _ _ _ (L _ _ _ l2))) ?_
  refine clear_it (by omega) (by omega) (L _ _ _ (L _ _ _ (L _ _ _ (L _ _ _ l1)))) (L _ _ _ (L _ _ _ (L _ _ _ (L _ _ _ l2)))) ?_
  refine G_run (B := [2]) 40 _ _ _ _ ?_
  have ce : A.sM (((((A.mt.wv.set 0 (-1)).set 1 (-1)).set 2 (-1)).set 3 (-1)).set 4 (-1)) (((((A.mt.hb.set 0 (-1)).set 1 (-1)).set 2 (-1)).set 3 (-1)).set 4 (-1)) = A.sM m5 m5 := by rw [clr5 l1, clr5 l2]
  simp (disch := first | assumption | rfl | exact inI_of (by omega) (by omega) | omega | decide | (simp only [sv_ext, sv_mc, Nat.le_refl]; done) | with_unfolding_all (refine @id _ ?_; first | exact Eq.refl _ | exact Nat.le_refl _ | assumption)) only [Nat.reduceAdd, Nat.reduceMul, Nat.reduceLeDiff, Nat.reduceLT, Int.reduceAdd, Int.reduceSub, Int.reduceMul, Int.reduceNeg, Int.reduceLE, Int.reduceLT, Int.reduceToNat, Int.reduceEq, reduceCtorEq, ld_z, ld_s, st1_0, st1_1, st1_s, st2_0, st2_1, st2_s, isJ_i, isJ_r, isJ_n, isJ_l, cs_nil, cs_i, cs_r, cs_l, kF, List.getElem?_cons_succ, List.getElem?_cons_zero, List.set_cons_zero, List.set_cons_succ, GC_s, GC_n, GK_nil, GK_no, GK_yes, not_false_eq_true, back_eq, back_hp, inI_eq, inA_eq, true_and, and_true, and_self, if_true, if_false, bI_0, bI_1, bI_in, bI_T, bI_F, fitF, jmpF, nlF, pjA, iVal.eta, iYr.eta, List.getElem?_toArray, List.length_cons, List.length_nil, true_or, or_true, or_false, false_or, Classical.not_not, Bool.false_eq_true, hp_2, Nat.zero_le, Nat.le_refl, Option.some.injEq, Sum.inl.injEq, Sum.inr.injEq, not_true_eq_false, true_implies, false_implies, implies_true, gX4_clear]
  first | exact congrArg hp ce | exact ⟨rfl, congrArg hp ce⟩)
theorem join_eq {m w : Int} (h0 : 0 ≤ m) (h1 : m < 5) (h2 : 0 ≤ w) (h3 : w < 5) (l1 : A.mt.wv.length = 5) (l2 : A.mt.hb.length = 5) : Call sp sc d mX4_join [.inr (.inr 15), .inl m, .inl w] (hp A) Q = Q none (hp (A.sM (A.mt.wv.set m.toNat w) (A.mt.hb.set w.toNat m))) := Call_eq (by
  apply eX4_join 40; simp (disch := first | assumption | rfl | exact inI_of (by omega) (by omega) | omega | decide | (simp only [sv_ext, sv_mc, Nat.le_refl]; done) | with_unfolding_all (refine @id _ ?_; first | exact Eq.refl _ | exact Nat.le_refl _ | assumption)) only [Nat.reduceAdd, Nat.reduceMul, Nat.reduceLeDiff, Nat.reduceLT, Int.reduceAdd, Int.reduceSub, Int.reduceMul, Int.reduceNeg, Int.reduceLE, Int.reduceLT, Int.reduceToNat, Int.reduceEq, reduceCtorEq, ld_z, ld_s, st1_0, st1_1, st1_s, st2_0, st2_1, st2_s, isJ_i, isJ_r, isJ_n, isJ_l, cs_nil, cs_i, cs_r, cs_l, kF, List.getElem?_cons_succ, List.getElem?_cons_zero, List.set_cons_zero, List.set_cons_succ, GC_s, GC_n, GK_nil, GK_no, GK_yes, not_false_eq_true, back_eq, back_hp, inI_eq, inA_eq, true_and, and_true, and_self, if_true, if_false, bI_0, bI_1, bI_in, bI_T, bI_F, fitF, jmpF, nlF, pjA, iVal.eta, iYr.eta, List.getElem?_toArray, List.length_cons, List.length_nil, true_or, or_true, or_false, false_or, Classical.not_not, Bool.false_eq_true, hp_2, Nat.zero_le, Nat.le_refl, Option.some.injEq, Sum.inl.injEq, Sum.inr.injEq, not_true_eq_false, true_implies, false_implies, implies_true, gX4_join, rd_m, rd_m1, rd_m2, l1, l2, wr_Mwv, wr_Mhb, sM_wv, sM_hb, sM_sM])
theorem joinFree_yes {m w : Int} (h0 : 0 ≤ m) (h1 : m < 5) (h2 : 0 ≤ w) (h3 : w < 5) (l1 : A.mt.wv.length = 5) (l2 : A.mt.hb.length = 5) (e1 : gt0 A.mt.hb w = -1) : Call sp sc (d + 1) mX4_joinFree [.inr (.inr 15), .inl m, .inl w] (hp A) Q = Q (some (.inl 1)) (hp (A.sM (A.mt.wv.set m.toNat w) (A.mt.hb.set w.toNat m))) := Call_eq (by
  have je := fun Q => @join_eq sp sc d A Q m w h0 h1 h2 h3 l1 l2
  apply eX4_joinFree 40; simp (disch := first | assumption | rfl | exact inI_of (by omega) (by omega) | omega | decide | (simp only [sv_ext, sv_mc, Nat.le_refl]; done) | with_unfolding_all (refine @id _ ?_; first | exact Eq.refl _ | exact Nat.le_refl _ | assumption)) only [Nat.reduceAdd, Nat.reduceMul, Nat.reduceLeDiff, Nat.reduceLT, Int.reduceAdd, Int.reduceSub, Int.reduceMul, Int.reduceNeg, Int.reduceLE, Int.reduceLT, Int.reduceToNat, Int.reduceEq, reduceCtorEq, ld_z, ld_s, st1_0, st1_1, st1_s, st2_0, st2_1, st2_s, isJ_i, isJ_r, isJ_n, isJ_l, cs_nil, cs_i, cs_r, cs_l, kF, List.getElem?_cons_succ, List.getElem?_cons_zero, List.set_cons_zero, List.set_cons_succ, GC_s, GC_n, GK_nil, GK_no, GK_yes, not_false_eq_true, back_eq, back_hp, inI_eq, inA_eq, true_and, and_true, and_self, if_true, if_false, bI_0, bI_1, bI_in, bI_T, bI_F, fitF, jmpF, nlF, pjA, iVal.eta, iYr.eta, List.getElem?_toArray, List.length_cons, List.length_nil, true_or, or_true, or_false, false_or, Classical.not_not, Bool.false_eq_true, hp_2, Nat.zero_le, Nat.le_refl, Option.some.injEq, Sum.inl.injEq, Sum.inr.injEq, not_true_eq_false, true_implies, false_implies, implies_true, gX4_joinFree, rd_m, rd_m2, l2, f_gt0, e1, je, back_sM])
theorem joinFree_no {m w : Int} (h2 : 0 ≤ w) (h3 : w < 5) (l2 : A.mt.hb.length = 5) (e1 : ¬ gt0 A.mt.hb w = -1) (ib : inI (gt0 A.mt.hb w) = true) : Call sp sc (d + 1) mX4_joinFree [.inr (.inr 15), .inl m, .inl w] (hp A) Q = Q (some (.inl 0)) (hp A) := Call_eq (by
  apply eX4_joinFree 40; simp (disch := first | assumption | rfl | exact inI_of (by omega) (by omega) | omega | decide | (simp only [sv_ext, sv_mc, Nat.le_refl]; done) | with_unfolding_all (refine @id _ ?_; first | exact Eq.refl _ | exact Nat.le_refl _ | assumption)) only [Nat.reduceAdd, Nat.reduceMul, Nat.reduceLeDiff, Nat.reduceLT, Int.reduceAdd, Int.reduceSub, Int.reduceMul, Int.reduceNeg, Int.reduceLE, Int.reduceLT, Int.reduceToNat, Int.reduceEq, reduceCtorEq, ld_z, ld_s, st1_0, st1_1, st1_s, st2_0, st2_1, st2_s, isJ_i, isJ_r, isJ_n, isJ_l, cs_nil, cs_i, cs_r, cs_l, kF, List.getElem?_cons_succ, List.getElem?_cons_zero, List.set_cons_zero, List.set_cons_succ, GC_s, GC_n, GK_nil, GK_no, GK_yes, not_false_eq_true, back_eq, back_hp, inI_eq, inA_eq, true_and, and_true, and_self, if_true, if_false, bI_0, bI_1, bI_in, bI_T, bI_F, fitF, jmpF, nlF, pjA, iVal.eta, iYr.eta, List.getElem?_toArray, List.length_cons, List.length_nil, true_or, or_true, or_false, false_or, Classical.not_not, Bool.false_eq_true, hp_2, Nat.zero_le, Nat.le_refl, Option.some.injEq, Sum.inl.injEq, Sum.inr.injEq, not_true_eq_false, true_implies, false_implies, implies_true, gX4_joinFree, rd_m, rd_m2, l2, f_gt0, e1, ib])
theorem lvC_loop (hO : OkV A.now) (hS : RelS A D) (hd : D < 8) (h2 : (A.sh D).ho = 2) (hn : (A.sh D).sz = A.now.num 0) {o1 : Option iV} {z3 : Int} : ∀ (k : Nat) (i : Int) (wv hb he : List Int) (o5 o6 : Option iV), OkM A.now wv hb → (∀ j, i ≤ j → j < 5 → gt0 wv j = -1) → 0 ≤ i → i + k = A.now.num 0 → Q (some (.inl (if (lvR A.now (A.cel D) k i wv hb he).1 = 1 then -13 else A.now.fl (lvR A.now (A.cel D) k i wv hb he).2.1 (lvR A.now (A.cel D) k i wv hb he).2.2.1))) (hp (A.sM (lvR A.now (A.cel D) k i wv hb he).2.1 (lvR A.now (A.cel D) k i wv hb he).2.2.1)) → Run sp sc (d + 4) mX11_leave 56 [some (.inr (.inr 2)), o1, some (.inr (.inr (107 + 2 * D + 2))), some (.inl z3), some (.inl i), o5, o6] [] (hp (A.sM wv hb)) Q := by
  have n0 := hO.n0
  have n1 := hO.n1
  have lo := hO.lon
  have hcl := hS.cl
  have hok := celC_of hS
  have l100 : (A.cel D).length ≤ 1000 := by
    rcases hS.ca with z | z
    · have : A.cel D = [] := by unfold iA.cel; rw [if_pos (by omega)]
      rw [this]; exact Nat.zero_le _
    · omega
  intro k
  induction k with
  | zero =>
    intro i wv hb he o5 o6 hM hw h0 h1 hq
    refine G_run (B := [56]) 60 _ _ _ _ ?_
    have e1 : A.now.num 0 ≤ i := by omega
    have hO2 : OkV ((A.sM wv hb).v .now) := hO
    have fl := fun Q => @firstLeaving_eq sp sc d (A.sM wv hb) Q hO hM
    have rs := @rd_s (A.sM wv hb) D hd
    rw [sM_sh, hn] at rs
    simp (disch := first | assumption | rfl | exact inI_of (by omega) (by omega) | omega | decide | (simp only [sv_ext, sv_mc, Nat.le_refl]; done) | with_unfolding_all (refine @id _ ?_; first | exact Eq.refl _ | exact Nat.le_refl _ | assumption)) only [Nat.reduceAdd, Nat.reduceMul, Nat.reduceLeDiff, Nat.reduceLT, Int.reduceAdd, Int.reduceSub, Int.reduceMul, Int.reduceNeg, Int.reduceLE, Int.reduceLT, Int.reduceToNat, Int.reduceEq, reduceCtorEq, ld_z, ld_s, st1_0, st1_1, st1_s, st2_0, st2_1, st2_s, isJ_i, isJ_r, isJ_n, isJ_l, cs_nil, cs_i, cs_r, cs_l, kF, List.getElem?_cons_succ, List.getElem?_cons_zero, List.set_cons_zero, List.set_cons_succ, GC_s, GC_n, GK_nil, GK_no, GK_yes, not_false_eq_true, back_eq, back_hp, inI_eq, inA_eq, true_and, and_true, and_self, if_true, if_false, bI_0, bI_1, bI_in, bI_T, bI_F, fitF, jmpF, nlF, pjA, iVal.eta, iYr.eta, List.getElem?_toArray, List.length_cons, List.length_nil, true_or, or_true, or_false, false_or, Classical.not_not, Bool.false_eq_true, hp_2, Nat.zero_le, Nat.le_refl, Option.some.injEq, Sum.inl.injEq, Sum.inr.injEq, not_true_eq_false, true_implies, false_implies, implies_true, rd_v, f_num, f_lik, f_dep, f_bnd, f_man, f_wom, f_sta, f_dds, f_who, rd_e, v_now, hasOne_eq, hasTwo_eq, hasCouple_eq, orNone_eq, natureOf_eq, rd_nat, place_eq, rd_v1, rd_v3, rd_v4, rd_v6, rd_v7, rd_v8, rd_v9, rd_v10, isShelf_eq, isSide_eq, isDeed_eq, isKind_eq, isMindSpan_eq, gX11_leave, rs, rd_m, e1, fl]
    exact hq
  | succ k ih =>
    intro i wv hb he o5 o6 hM hw h0 h1 hq
    refine G_run (B := [56]) 90 _ _ _ _ ?_
    have e1 : ¬ A.now.num 0 ≤ i := by omega
    have rs := @rd_s (A.sM wv hb) D hd
    rw [sM_sh, hn] at rs
    have rc : (hp (A.sM wv hb)).1[(A.sh D).ca]? = some (.inr (.inl (1, A.cel D))) := @rd_c (A.sM wv hb) D hd hok
    have hO2 : OkV ((A.sM wv hb).v .now) := hO
    have iv := hS.er h2 i h0 (by omega)
    have jv := inJ_of iv
    have iv2 := inI_iff.mp iv
    unfold lvR at hq
    generalize hv : (A.cel D).getD i.toNat 0 = v at *
    have j1 : inJ (-1) = true := rfl
    have n5 : inI (A.now.num 1) = true := inI_of (by omega) (by omega)
    have j5 := inJ_of n5
    have en1 : ((A.sM wv hb).v .now).num 1 = A.now.num 1 := rfl
    by_cases c1 : v < -1 ∨ A.now.num 1 ≤ v
    · rw [if_pos c1] at hq
      by_cases c2 : v < -1
      · have x1 : (if (-1 : Int) < v then (1 : Int) else if v = -1 then 0 else -1) < 0 := by rw [if_neg (by omega), if_neg (by omega)]; decide
        have x2 : inI (if (-1 : Int) < v then (1 : Int) else if v = -1 then 0 else -1) = true := by rw [if_neg (by omega), if_neg (by omega)]; rfl
        simp (disch := first | assumption | rfl | exact inI_of (by omega) (by omega) | omega | decide | (simp only [sv_ext, sv_mc, Nat.le_refl]; done) | with_unfolding_all (refine @id _ ?_; first | exact Eq.refl _ | exact Nat.le_refl _ | assumption)) only [Nat.reduceAdd, Nat.reduceMul, Nat.reduceLeDiff, Nat.reduceLT, Int.reduceAdd, Int.reduceSub, Int.reduceMul, Int.reduceNeg, Int.reduceLE, Int.reduceLT, Int.reduceToNat, Int.reduceEq, reduceCtorEq, ld_z, ld_s, st1_0, st1_1, st1_s, st2_0, st2_1, st2_s, isJ_i, isJ_r, isJ_n, isJ_l, cs_nil, cs_i, cs_r, cs_l, kF, List.getElem?_cons_succ, List.getElem?_cons_zero, List.set_cons_zero, List.set_cons_succ, GC_s, GC_n, GK_nil, GK_no, GK_yes, not_false_eq_true, back_eq, back_hp, inI_eq, inA_eq, true_and, and_true, and_self, if_true, if_false, bI_0, bI_1, bI_in, bI_T, bI_F, fitF, jmpF, nlF, pjA, iVal.eta, iYr.eta, List.getElem?_toArray, List.length_cons, List.length_nil, true_or, or_true, or_false, false_or, Classical.not_not, Bool.false_eq_true, hp_2, Nat.zero_le, Nat.le_refl, Option.some.injEq, Sum.inl.injEq, Sum.inr.injEq, not_true_eq_false, true_implies, false_implies, implies_true, rd_v, f_num, f_lik, f_dep, f_bnd, f_man, f_wom, f_sta, f_dds, f_who, rd_e, v_now, hasOne_eq, hasTwo_eq, hasCouple_eq, orNone_eq, natureOf_eq, rd_nat, place_eq, rd_v1, rd_v3, rd_v4, rd_v6, rd_v7, rd_v8, rd_v9, rd_v10, isShelf_eq, isSide_eq, isDeed_eq, isKind_eq, isMindSpan_eq, gX11_leave, rs, e1, rc, hv, jv, j1, x1, x2]
        exact hq
      · have x1 : ¬ (if (-1 : Int) < v then (1 : Int) else if v = -1 then 0 else -1) < 0 := by
          by_cases y : -1 < v
          · rw [if_pos y]; decide
          · rw [if_neg y, if_pos (by omega)]; decide
        have x2 : inI (if (-1 : Int) < v then (1 : Int) else if v = -1 then 0 else -1) = true := by
          by_cases y : -1 < v
          · rw [if_pos y]; rfl
          · rw [if_neg y, if_pos (by omega)]; rfl
        have x3 : ¬ (if A.now.num 1 < v then (1 : Int) else if v = A.now.num 1 then 0 else -1) < 0 := by
          by_cases y : A.now.num 1 < v
          · rw [if_pos y]; decide
          · rw [if_neg y, if_pos (by omega)]; decide
        have x4 : inI (if A.now.num 1 < v then (1 : Int) else if v = A.now.num 1 then 0 else -1) = true := by
          by_cases y : A.now.num 1 < v
          · rw [if_pos y]; rfl
          · rw [if_neg y, if_pos (by omega)]; rfl
        simp (disch := first | assumption | rfl | exact inI_of (by omega) (by omega) | omega | decide | (simp only [sv_ext, sv_mc, Nat.le_refl]; done) | with_unfolding_all (refine @id _ ?_; first | exact Eq.refl _ | exact Nat.le_refl _ | assumption)) only [Nat.reduceAdd, Nat.reduceMul, Nat.reduceLeDiff, Nat.reduceLT, Int.reduceAdd, Int.reduceSub, Int.reduceMul, Int.reduceNeg, Int.reduceLE, Int.reduceLT, Int.reduceToNat, Int.reduceEq, reduceCtorEq, ld_z, ld_s, st1_0, st1_1, st1_s, st2_0, st2_1, st2_s, isJ_i, isJ_r, isJ_n, isJ_l, cs_nil, cs_i, cs_r, cs_l, kF, List.getElem?_cons_succ, List.getElem?_cons_zero, List.set_cons_zero, List.set_cons_succ, GC_s, GC_n, GK_nil, GK_no, GK_yes, not_false_eq_true, back_eq, back_hp, inI_eq, inA_eq, true_and, and_true, and_self, if_true, if_false, bI_0, bI_1, bI_in, bI_T, bI_F, fitF, jmpF, nlF, pjA, iVal.eta, iYr.eta, List.getElem?_toArray, List.length_cons, List.length_nil, true_or, or_true, or_false, false_or, Classical.not_not, Bool.false_eq_true, hp_2, Nat.zero_le, Nat.le_refl, Option.some.injEq, Sum.inl.injEq, Sum.inr.injEq, not_true_eq_false, true_implies, false_implies, implies_true, rd_v, f_num, f_lik, f_dep, f_bnd, f_man, f_wom, f_sta, f_dds, f_who, rd_e, v_now, hasOne_eq, hasTwo_eq, hasCouple_eq, orNone_eq, natureOf_eq, rd_nat, place_eq, rd_v1, rd_v3, rd_v4, rd_v6, rd_v7, rd_v8, rd_v9, rd_v10, isShelf_eq, isSide_eq, isDeed_eq, isKind_eq, isMindSpan_eq, gX11_leave, rs, e1, rc, hv, jv, j1, x1, x2, sM_now, lo, f_n1, n5, j5, x3, x4]
        exact hq
    · rw [if_neg c1] at hq
      have x3 : (if A.now.num 1 < v then (1 : Int) else if v = A.now.num 1 then 0 else -1) < 0 := by rw [if_neg (by omega), if_neg (by omega)]; decide
      have x4 : inI (if A.now.num 1 < v then (1 : Int) else if v = A.now.num 1 then 0 else -1) = true := by rw [if_neg (by omega), if_neg (by omega)]; rfl
      by_cases c2 : v = -1
      · rw [if_pos c2] at hq
        subst c2
        have x0 : ¬ A.now.num 1 < -1 := by omega
        have x5 : ¬ (-1 : Int) = A.now.num 1 := by omega
        simp (disch := first | assumption | rfl | exact inI_of (by omega) (by omega) | omega | decide | (simp only [sv_ext, sv_mc, Nat.le_refl]; done) | with_unfolding_all (refine @id _ ?_; first | exact Eq.refl _ | exact Nat.le_refl _ | assumption)) only [Nat.reduceAdd, Nat.reduceMul, Nat.reduceLeDiff, Nat.reduceLT, Int.reduceAdd, Int.reduceSub, Int.reduceMul, Int.reduceNeg, Int.reduceLE, Int.reduceLT, Int.reduceToNat, Int.reduceEq, reduceCtorEq, ld_z, ld_s, st1_0, st1_1, st1_s, st2_0, st2_1, st2_s, isJ_i, isJ_r, isJ_n, isJ_l, cs_nil, cs_i, cs_r, cs_l, kF, List.getElem?_cons_succ, List.getElem?_cons_zero, List.set_cons_zero, List.set_cons_succ, GC_s, GC_n, GK_nil, GK_no, GK_yes, not_false_eq_true, back_eq, back_hp, inI_eq, inA_eq, true_and, and_true, and_self, if_true, if_false, bI_0, bI_1, bI_in, bI_T, bI_F, fitF, jmpF, nlF, pjA, iVal.eta, iYr.eta, List.getElem?_toArray, List.length_cons, List.length_nil, true_or, or_true, or_false, false_or, Classical.not_not, Bool.false_eq_true, hp_2, Nat.zero_le, Nat.le_refl, Option.some.injEq, Sum.inl.injEq, Sum.inr.injEq, not_true_eq_false, true_implies, false_implies, implies_true, rd_v, f_num, f_lik, f_dep, f_bnd, f_man, f_wom, f_sta, f_dds, f_who, rd_e, v_now, hasOne_eq, hasTwo_eq, hasCouple_eq, orNone_eq, natureOf_eq, rd_nat, place_eq, rd_v1, rd_v3, rd_v4, rd_v6, rd_v7, rd_v8, rd_v9, rd_v10, isShelf_eq, isSide_eq, isDeed_eq, isKind_eq, isMindSpan_eq, gX11_leave, rs, e1, rc, hv, sM_now, lo, f_n1, n5, j5, j1, x0, x5]
        exact ih (i + 1) wv hb _ _ _ hM (fun j a b => hw j (by omega) b) (by omega) (by omega) hq
      · rw [if_neg c2] at hq
        have y0 : (-1 : Int) < v := by omega
        have x1 : ¬ (if (-1 : Int) < v then (1 : Int) else if v = -1 then 0 else -1) < 0 := by rw [if_pos y0]; decide
        have x5 : ¬ (if (-1 : Int) < v then (1 : Int) else if v = -1 then 0 else -1) = 0 := by rw [if_pos y0]; decide
        have x2 : inI (if (-1 : Int) < v then (1 : Int) else if v = -1 then 0 else -1) = true := by rw [if_pos y0]; rfl
        by_cases c3 : gt0 hb v = -1
        · rw [if_pos c3] at hq
          have jf := fun Q => @joinFree_yes sp sc (d + 2) (A.sM wv hb) Q i v h0 (by omega) (by omega) (by omega) hM.lw hM.lh c3
          have ew := hw i (Int.le_refl _) (by omega)
          simp (disch := first | assumption | rfl | exact inI_of (by omega) (by omega) | omega | decide | (simp only [sv_ext, sv_mc, Nat.le_refl]; done) | with_unfolding_all (refine @id _ ?_; first | exact Eq.refl _ | exact Nat.le_refl _ | assumption)) only [Nat.reduceAdd, Nat.reduceMul, Nat.reduceLeDiff, Nat.reduceLT, Int.reduceAdd, Int.reduceSub, Int.reduceMul, Int.reduceNeg, Int.reduceLE, Int.reduceLT, Int.reduceToNat, Int.reduceEq, reduceCtorEq, ld_z, ld_s, st1_0, st1_1, st1_s, st2_0, st2_1, st2_s, isJ_i, isJ_r, isJ_n, isJ_l, cs_nil, cs_i, cs_r, cs_l, kF, List.getElem?_cons_succ, List.getElem?_cons_zero, List.set_cons_zero, List.set_cons_succ, GC_s, GC_n, GK_nil, GK_no, GK_yes, not_false_eq_true, back_eq, back_hp, inI_eq, inA_eq, true_and, and_true, and_self, if_true, if_false, bI_0, bI_1, bI_in, bI_T, bI_F, fitF, jmpF, nlF, pjA, iVal.eta, iYr.eta, List.getElem?_toArray, List.length_cons, List.length_nil, true_or, or_true, or_false, false_or, Classical.not_not, Bool.false_eq_true, hp_2, Nat.zero_le, Nat.le_refl, Option.some.injEq, Sum.inl.injEq, Sum.inr.injEq, not_true_eq_false, true_implies, false_implies, implies_true, rd_v, f_num, f_lik, f_dep, f_bnd, f_man, f_wom, f_sta, f_dds, f_who, rd_e, v_now, hasOne_eq, hasTwo_eq, hasCouple_eq, orNone_eq, natureOf_eq, rd_nat, place_eq, rd_v1, rd_v3, rd_v4, rd_v6, rd_v7, rd_v8, rd_v9, rd_v10, isShelf_eq, isSide_eq, isDeed_eq, isKind_eq, isMindSpan_eq, gX11_leave, rs, e1, rc, hv, jv, j1, x1, x2, sM_now, lo, f_n1, n5, j5, x3, x4, x5, rd_m, jf, back_sM2, sM_wv, sM_hb, sM_sM]
          exact ih (i + 1) _ _ _ _ _ (okM_join hM h0 (by omega) (by omega) (by omega) (by omega) (by omega) ew c3) (fun j a b => by rw [gt_set h0 (by omega) (by have := hM.lw; omega), if_neg (by omega)]; exact hw j (by omega) b) (by omega) (by omega) hq
        · rw [if_neg c3] at hq
          have hu := hM.hu v (by omega) (by omega)
          have ig : inI (gt0 hb v) = true := inI_of (by omega) (by omega)
          have jf := fun Q => @joinFree_no sp sc (d + 2) (A.sM wv hb) Q i v (by omega) (by omega) hM.lh c3 ig
          simp (disch := first | assumption | rfl | exact inI_of (by omega) (by omega) | omega | decide | (simp only [sv_ext, sv_mc, Nat.le_refl]; done) | with_unfolding_all (refine @id _ ?_; first | exact Eq.refl _ | exact Nat.le_refl _ | assumption)) only [Nat.reduceAdd, Nat.reduceMul, Nat.reduceLeDiff, Nat.reduceLT, Int.reduceAdd, Int.reduceSub, Int.reduceMul, Int.reduceNeg, Int.reduceLE, Int.reduceLT, Int.reduceToNat, Int.reduceEq, reduceCtorEq, ld_z, ld_s, st1_0, st1_1, st1_s, st2_0, st2_1, st2_s, isJ_i, isJ_r, isJ_n, isJ_l, cs_nil, cs_i, cs_r, cs_l, kF, List.getElem?_cons_succ, List.getElem?_cons_zero, List.set_cons_zero, List.set_cons_succ, GC_s, GC_n, GK_nil, GK_no, GK_yes, not_false_eq_true, back_eq, back_hp, inI_eq, inA_eq, true_and, and_true, and_self, if_true, if_false, bI_0, bI_1, bI_in, bI_T, bI_F, fitF, jmpF, nlF, pjA, iVal.eta, iYr.eta, List.getElem?_toArray, List.length_cons, List.length_nil, true_or, or_true, or_false, false_or, Classical.not_not, Bool.false_eq_true, hp_2, Nat.zero_le, Nat.le_refl, Option.some.injEq, Sum.inl.injEq, Sum.inr.injEq, not_true_eq_false, true_implies, false_implies, implies_true, rd_v, f_num, f_lik, f_dep, f_bnd, f_man, f_wom, f_sta, f_dds, f_who, rd_e, v_now, hasOne_eq, hasTwo_eq, hasCouple_eq, orNone_eq, natureOf_eq, rd_nat, place_eq, rd_v1, rd_v3, rd_v4, rd_v6, rd_v7, rd_v8, rd_v9, rd_v10, isShelf_eq, isSide_eq, isDeed_eq, isKind_eq, isMindSpan_eq, gX11_leave, rs, e1, rc, hv, jv, j1, x1, x2, sM_now, lo, f_n1, n5, j5, x3, x4, x5, rd_m, jf]
          exact hq
end OPS
