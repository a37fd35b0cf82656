set_option maxRecDepth 16384
/-! ===== valley: the first pass, the reference ===== -/
def cntF (l : List Int) (z : Int) : Nat → Int → Int
  | 0, _ => 0
  | f + 1, p => if stmF l z p = -1 ∧ p + (dbF (bFc l z p) + 2) < z then 1 + cntF l z f (p + (dbF (bFc l z p) + 2)) else 1
def badF (l : List Int) (z : Int) (f : Nat) (p : Int) : Int := if fbF l z f p = -1 then 0 else -1000 - fbF l z f p
def iA.sWs (A : iA) (w : List Int) : iA := (iA.mk A.now A.img A.mnd A.imd A.yr A.mt A.sh A.pt ((iMo.mk A.mo.s A.mo.m A.mo.im (w) A.mo.hi A.mo.wt A.mo.en A.mo.od A.mo.dn A.mo.sm A.mo.sf A.mo.go A.mo.at_ A.mo.ra A.mo.re A.mo.nu A.mo.bd A.mo.bg A.mo.he A.mo.bh A.mo.ak A.mo.st A.mo.ml A.mo.fi A.mo.th A.mo.se A.mo.ke A.mo.kk A.mo.kf A.mo.so A.mo.sz A.mo.el A.mo.tn)) A.out A.ext A.mc)
theorem stm_cases {l : List Int} {z p : Int} (h0 : 0 ≤ p) : stmF l z p = -1 ∨ (0 ≤ stmF l z p ∧ stmF l z p ≤ p + 10) := by
  unfold stmF
  have kb := @dbF_b (bFc l z p)
  have nb := @ndF_b l z (dbF (bFc l z p)).toNat (p + 1)
  split
  · right; omega
  · split
    · left; rfl
    · right; omega
section OPS
variable {sp : Nat → List iV → iH → Option (Option iV × iH)} {sc : List Int} {d : Nat} {A A' : iA} {Q : Option iV → iH → Prop} {h : iH} {X : iVal} {D : Nat} {l nu nu2 : List Int} {z i x p p2 : Int}
theorem sRd_re : (A.sRd p nu).mo.re = A.mo.re := rfl
theorem laysW (ls : A.mo.s.length = 117) (lw : A.mo.was.length = 117) : Call sp sc d mX12_lays [.inr (.inr 141), .inr (.inr 144)] (hp (A.sRd p nu)) Q = Q none (hp ((A.sWs A.mo.s).sRd p nu)) := by
  have k := lays_eq (sp := sp) (sc := sc) (d := d) (Q := Q) (h := hp (A.sRd p nu)) (a := 139) (b := 142) (xs := A.mo.s) (ys := A.mo.was) (by decide) rfl rfl ls lw
  have k : Call sp sc d mX12_lays [.inr (.inr 141), .inr (.inr 144)] (hp (A.sRd p nu)) Q = Q none ((hp (A.sRd p nu)).1.set 142 (.inr (.inl (0, A.mo.s))), (A.sRd p nu).mc) := k
  rw [k]
  exact congrArg (Q none) wr_o_was
theorem v1_loop (hH : okR A l z) (hb : okB l z) (hz : A.mo.re = z) (z0 : 0 ≤ z ∧ z ≤ 100) (ls : A.mo.s.length = 117) (lw : A.mo.was.length = 117) {a wr : Int} : ∀ (f : Nat) (p m : Int) (nu : List Int), 1 ≤ f → 0 ≤ p → p ≤ 100 → z ≤ p + 4 * f → 0 ≤ m → m + f ≤ 1000 → nu.length = 4 → ∃ nu' : List Int, nu'.length = 4 ∧ ∀ Q, Run sp sc (d + 3) mX12_valley 93 [some (.inr (.inr 140)), some (.inl a), some (.inl wr), some (.inl (m + cntF l z f p)), some (.inl (badF l z f p)), none, none, none] [] (hp ((A.sWs A.mo.s).sRd 0 nu')) Q → Run sp sc (d + 3) mX12_valley 41 [some (.inr (.inr 140)), some (.inl a), some (.inl wr), some (.inl m), some (.inl 0), none, none, none] [] (hp (A.sRd p nu)) Q := by
  intro f
  induction f with
  | zero => intro p m nu f1; omega
  | succ f ih =>
    intro p m nu f1 h0 h1 h2 m0 m1 ln
    obtain ⟨nu1, l1, rd⟩ := @rs_all sp sc d A l nu z p hH hb h0 (by omega) ln
    have bk : ∀ (nu1 : List Int) (p1 : Int) (L : List (Option iV)) (rest : List iV), back (hp (A.sRd p nu)) (hp (A.sRd p1 nu1)) L rest = True := fun _ _ _ _ => back_Rd
    rcases stm_cases (l := l) (z := z) h0 with es | es
    · have eR : rdR l z p = 1 := by unfold rdR; rw [if_pos es]
      have eP : rdP l z p = p + (dbF (bFc l z p) + 2) := by unfold rdP; rw [if_pos es]
      have kn : ¬ dbF (bFc l z p) < 0 := fun y => by rw [stm_no rfl y] at es; omega
      have kb := @dbF_b (bFc l z p)
      rw [eR, eP] at rd
      have eb : fbF l z (f + 1) p = if p + (dbF (bFc l z p) + 2) < z then fbF l z f (p + (dbF (bFc l z p) + 2)) else -1 := by rw [fbF, if_neg (by omega)]
      by_cases c : p + (dbF (bFc l z p) + 2) < z
      · obtain ⟨nu', g1, g2⟩ := ih (p + (dbF (bFc l z p) + 2)) (m + 1) nu1 (by omega) (by omega) (by omega) (by omega) (by omega) (by omega) l1
        refine ⟨nu', g1, fun Q hQ => ?_⟩
        rw [if_pos c] at eb
        have ec : cntF l z (f + 1) p = 1 + cntF l z f (p + (dbF (bFc l z p) + 2)) := by rw [cntF, if_pos ⟨es, c⟩]
        have ed : badF l z (f + 1) p = badF l z f (p + (dbF (bFc l z p) + 2)) := by unfold badF; rw [eb]
        have em : m + (1 + cntF l z f (p + (dbF (bFc l z p) + 2))) = m + 1 + cntF l z f (p + (dbF (bFc l z p) + 2)) := by omega
        rw [ec, ed, em] at hQ
        refine G_run (B := [41, 93]) 60 _ _ _ _ ?_
        simp (disch := first | assumption | rfl | exact inI_of (by omega) (by omega) | omega | decide | (simp only [sv_ext, sv_mc, Nat.le_refl]; done) | with_unfolding_all (refine @id _ ?_; first | exact Eq.refl _ | exact Nat.le_refl _ | assumption)) only [Nat.reduceAdd, Nat.reduceMul, Nat.reduceLeDiff, Nat.reduceLT, Int.reduceAdd, Int.reduceSub, Int.reduceMul, Int.reduceNeg, Int.reduceLE, Int.reduceLT, Int.reduceToNat, Int.reduceEq, reduceCtorEq, ld_z, ld_s, st1_0, st1_1, st1_s, st2_0, st2_1, st2_s, isJ_i, isJ_r, isJ_n, isJ_l, cs_nil, cs_i, cs_r, cs_l, kF, List.getElem?_cons_succ, List.getElem?_cons_zero, List.set_cons_zero, List.set_cons_succ, GC_s, GC_n, GK_nil, GK_no, GK_yes, not_false_eq_true, back_eq, back_hp, inI_eq, inA_eq, true_and, and_true, and_self, if_true, if_false, bI_0, bI_1, bI_in, bI_T, bI_F, fitF, jmpF, nlF, pjA, iVal.eta, iYr.eta, List.getElem?_toArray, List.length_cons, List.length_nil, true_or, or_true, or_false, false_or, Classical.not_not, Bool.false_eq_true, hp_2, Nat.zero_le, Nat.le_refl, Option.some.injEq, Sum.inl.injEq, Sum.inr.injEq, not_true_eq_false, true_implies, false_implies, implies_true, Int.le_refl, gX12_valley, rd_o, sRd_at, sRd_re, hz, rd, bk, c]
        exact g2 Q hQ
      · refine ⟨nu1, l1, fun Q hQ => ?_⟩
        rw [if_neg c] at eb
        have ec : cntF l z (f + 1) p = 1 := by rw [cntF, if_neg (fun y => c y.2)]
        have ed : badF l z (f + 1) p = 0 := by unfold badF; rw [eb, if_pos rfl]
        rw [ec, ed] at hQ
        have hl := fun Q => @laysW sp sc (d + 2) A Q nu1 (p + (dbF (bFc l z p) + 2)) ls lw
        have bk2 : ∀ (p : Int) (L : List (Option iV)) (rest : List iV), back (hp (A.sRd p nu1)) (hp ((A.sWs A.mo.s).sRd p nu1)) L rest = True := fun _ L rest => back_hp rfl (Nat.le_refl _)
        refine G_run (B := [41, 93]) 90 _ _ _ _ ?_
        simp (disch := first | assumption | rfl | exact inI_of (by omega) (by omega) | omega | decide | (simp only [sv_ext, sv_mc, Nat.le_refl]; done) | with_unfolding_all (refine @id _ ?_; first | exact Eq.refl _ | exact Nat.le_refl _ | assumption)) only [Nat.reduceAdd, Nat.reduceMul, Nat.reduceLeDiff, Nat.reduceLT, Int.reduceAdd, Int.reduceSub, Int.reduceMul, Int.reduceNeg, Int.reduceLE, Int.reduceLT, Int.reduceToNat, Int.reduceEq, reduceCtorEq, ld_z, ld_s, st1_0, st1_1, st1_s, st2_0, st2_1, st2_s, isJ_i, isJ_r, isJ_n, isJ_l, cs_nil, cs_i, cs_r, cs_l, kF, List.getElem?_cons_succ, List.getElem?_cons_zero, List.set_cons_zero, List.set_cons_succ, GC_s, GC_n, GK_nil, GK_no, GK_yes, not_false_eq_true, back_eq, back_hp, inI_eq, inA_eq, true_and, and_true, and_self, if_true, if_false, bI_0, bI_1, bI_in, bI_T, bI_F, fitF, jmpF, nlF, pjA, iVal.eta, iYr.eta, List.getElem?_toArray, List.length_cons, List.length_nil, true_or, or_true, or_false, false_or, Classical.not_not, Bool.false_eq_true, hp_2, Nat.zero_le, Nat.le_refl, Option.some.injEq, Sum.inl.injEq, Sum.inr.injEq, not_true_eq_false, true_implies, false_implies, implies_true, Int.le_refl, gX12_valley, rd_o, sRd_at, sRd_re, hz, rd, bk, bk2, c, hl, wr_Ra]
        exact hQ
    · have eR : rdR l z p = 0 := by unfold rdR; rw [if_neg (by omega)]
      have eP : rdP l z p = stmF l z p := by unfold rdP; rw [if_neg (by omega)]
      rw [eR, eP] at rd
      refine ⟨nu1, l1, fun Q hQ => ?_⟩
      have eb : fbF l z (f + 1) p = stmF l z p := by rw [fbF, if_pos es.1]
      have ec : cntF l z (f + 1) p = 1 := by rw [cntF, if_neg (fun y => by omega)]
      have ed : badF l z (f + 1) p = -1000 - stmF l z p := by unfold badF; rw [eb, if_neg (by omega)]
      rw [ec, ed] at hQ
      have hl := fun Q => @laysW sp sc (d + 2) A Q nu1 (stmF l z p) ls lw
      have bk2 : ∀ (p : Int) (L : List (Option iV)) (rest : List iV), back (hp (A.sRd p nu1)) (hp ((A.sWs A.mo.s).sRd p nu1)) L rest = True := fun _ L rest => back_hp rfl (Nat.le_refl _)
      have e1 : ¬ -1000 - stmF l z p = 0 := by omega
      have i1 : inI (-1000 - stmF l z p) = true := inI_of (by omega) (by omega)
      refine G_run (B := [41, 93]) 90 _ _ _ _ ?_
      simp (disch := first | assumption | rfl | exact inI_of (by omega) (by omega) | omega | decide | (simp only [sv_ext, sv_mc, Nat.le_refl]; done) | with_unfolding_all (refine @id _ ?_; first | exact Eq.refl _ | exact Nat.le_refl _ | assumption)) only [Nat.reduceAdd, Nat.reduceMul, Nat.reduceLeDiff, Nat.reduceLT, Int.reduceAdd, Int.reduceSub, Int.reduceMul, Int.reduceNeg, Int.reduceLE, Int.reduceLT, Int.reduceToNat, Int.reduceEq, reduceCtorEq, ld_z, ld_s, st1_0, st1_1, st1_s, st2_0, st2_1, st2_s, isJ_i, isJ_r, isJ_n, isJ_l, cs_nil, cs_i, cs_r, cs_l, kF, List.getElem?_cons_succ, List.getElem?_cons_zero, List.set_cons_zero, List.set_cons_succ, GC_s, GC_n, GK_nil, GK_no, GK_yes, not_false_eq_true, back_eq, back_hp, inI_eq, inA_eq, true_and, and_true, and_self, if_true, if_false, bI_0, bI_1, bI_in, bI_T, bI_F, fitF, jmpF, nlF, pjA, iVal.eta, iYr.eta, List.getElem?_toArray, List.length_cons, List.length_nil, true_or, or_true, or_false, false_or, Classical.not_not, Bool.false_eq_true, hp_2, Nat.zero_le, Nat.le_refl, Option.some.injEq, Sum.inl.injEq, Sum.inr.injEq, not_true_eq_false, true_implies, false_implies, implies_true, Int.le_refl, gX12_valley, rd_o, sRd_at, sRd_re, hz, rd, bk, bk2, e1, i1, hl, wr_Ra]
      exact hQ
end OPS
