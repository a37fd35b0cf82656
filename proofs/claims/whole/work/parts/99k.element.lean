set_option maxRecDepth 16384
/-! ===== element: the law's own method over it ===== -/
section GE9
variable {sp : Nat → List iV → iH → Option (Option iV × iH)} {sc : List Int}
theorem gL_element : (∀ (n d : Nat) (L : List (Option iV)) (st : List iV) (h : iH) (Q : Option iV → iH → Prop), G sp sc [] d mL_element (n + 1) 0 L st h Q = (match ld L 3 with | some (.inr (.inr (r + 1))) => G sp sc [] d mL_element n 1 L (.inr (.inr (r + 1)) :: st) h Q | _ => False)) ∧
  (∀ (n d : Nat) (L : List (Option iV)) (st : List iV) (h : iH) (Q : Option iV → iH → Prop), G sp sc [] d mL_element (n + 1) 1 L st h Q = G sp sc [] d mL_element n 2 L (.inl 0 :: st) h Q) ∧
  (∀ (n d : Nat) (L : List (Option iV)) (st : List iV) (h : iH) (Q : Option iV → iH → Prop), G sp sc [] d mL_element (n + 1) 2 L st h Q = (match ld L 0 with | some (.inr (.inr (r + 1))) => G sp sc [] d mL_element n 3 L (.inr (.inr (r + 1)) :: st) h Q | _ => False)) ∧
  (∀ (n d : Nat) (L : List (Option iV)) (st : List iV) (h : iH) (Q : Option iV → iH → Prop), G sp sc [] d mL_element (n + 1) 3 L st h Q = (match ld L 1 with | some (.inl x) => G sp sc [] d mL_element n 4 L (.inl x :: st) h Q | _ => False)) ∧
  (∀ (n d : Nat) (L : List (Option iV)) (st : List iV) (h : iH) (Q : Option iV → iH → Prop), G sp sc [] d mL_element (n + 1) 4 L st h Q = (match ld L 2 with | some (.inl x) => G sp sc [] d mL_element n 5 L (.inl x :: st) h Q | _ => False)) ∧
  (∀ (n d : Nat) (L : List (Option iV)) (r : List iV) (m : Nat) (z0 : iV) (z1 : iV) (h : iH) (Q : Option iV → iH → Prop), G sp sc [] (d + 1) mL_element (n + 1) 5 L (z1 :: z0 :: .inr (.inr (m + 2)) :: r) h Q = (match h.1[m]? with | some (.inl (ci, _)) => (match lkC 13 7 ci with | some (y1, n1, kd) => (n1 = 2 ∧ (kd = 2 ∨ kd = 3 ∨ kd = 8) ∧ cs r ≤ 8) ∧ Call sp sc d y1 [.inr (.inr (m + 2)), z0, z1] h (fun q h1 => GC sp sc [] (d + 1) mL_element n 8 L q r h h1 Q) | none => False) | _ => False)) ∧
  (∀ (n d : Nat) (L : List (Option iV)) (r : List iV) (v : Int) (j : Int) (m : Nat) (h : iH) (Q : Option iV → iH → Prop), G sp sc [] d mL_element (n + 1) 8 L (.inr (.inl v) :: .inl j :: .inr (.inr (m + 2)) :: r) h Q = (match h.1[m]? with | some (.inr (.inl (1, xs))) => inA j xs.length = true ∧ G sp sc [] d mL_element n 9 L r (h.1.set m (.inr (.inl (1, xs.set j.toNat v))), h.2) Q | _ => False)) ∧
  (∀ (n d : Nat) (L : List (Option iV)) (st : List iV) (h : iH) (Q : Option iV → iH → Prop), G sp sc [] d mL_element (n + 1) 9 L st h Q = G sp sc [] d mL_element n 20 L st h Q) ∧
  (∀ (n d : Nat) (L : List (Option iV)) (r : List iV) (x : Nat) (h : iH) (Q : Option iV → iH → Prop), G sp sc [] d mL_element (n + 1) 12 L (.inr (.inr (x + 1)) :: r) h Q = (match st1 L 4 (.inr (.inr (x + 1))) with | some L' => G sp sc [] d mL_element n 14 L' r h Q | none => False)) ∧
  (∀ (n d : Nat) (L : List (Option iV)) (st : List iV) (h : iH) (Q : Option iV → iH → Prop), G sp sc [] d mL_element (n + 1) 14 L st h Q = G sp sc [] d mL_element n 15 L (.inl 1 :: st) h Q) ∧
  (∀ (n d : Nat) (L : List (Option iV)) (a : Int) (h : iH) (Q : Option iV → iH → Prop), G sp sc [] d mL_element (n + 1) 15 L [.inl a] h Q = Q (some (.inl a)) h) ∧
  (∀ (n d : Nat) (L : List (Option iV)) (r : List iV) (x : Nat) (h : iH) (Q : Option iV → iH → Prop), G sp sc [] d mL_element (n + 1) 16 L (.inr (.inr (x + 1)) :: r) h Q = (match st1 L 4 (.inr (.inr (x + 1))) with | some L' => G sp sc [] d mL_element n 18 L' r h Q | none => False)) ∧
  (∀ (n d : Nat) (L : List (Option iV)) (st : List iV) (h : iH) (Q : Option iV → iH → Prop), G sp sc [] d mL_element (n + 1) 18 L st h Q = G sp sc [] d mL_element n 19 L (.inl 2 :: st) h Q) ∧
  (∀ (n d : Nat) (L : List (Option iV)) (a : Int) (h : iH) (Q : Option iV → iH → Prop), G sp sc [] d mL_element (n + 1) 19 L [.inl a] h Q = Q (some (.inl a)) h) ∧
  (∀ (n d : Nat) (L : List (Option iV)) (st : List iV) (h : iH) (Q : Option iV → iH → Prop), G sp sc [] d mL_element (n + 1) 20 L st h Q = G sp sc [] d mL_element n 21 L (.inl 0 :: st) h Q) ∧
  (∀ (n d : Nat) (L : List (Option iV)) (a : Int) (h : iH) (Q : Option iV → iH → Prop), G sp sc [] d mL_element (n + 1) 21 L [.inl a] h Q = Q (some (.inl a)) h) ∧
  lkC 13 7 11 = some (mX11_element, 2, 2) := ⟨by intros; exact G_at (by decide +kernel : fetch mL_element 0 = some (.aload_n 3)),
  by intros; exact G_at (by decide +kernel : fetch mL_element 1 = some (.iconst 0)),
  by intros; exact G_at (by decide +kernel : fetch mL_element 2 = some (.aload_n 0)),
  by intros; exact G_at (by decide +kernel : fetch mL_element 3 = some (.iload_n 1)),
  by intros; exact G_at (by decide +kernel : fetch mL_element 4 = some (.iload_n 2)),
  by intros; exact G_callV (by decide +kernel : fetch mL_element 5 = some (.invokevirtual 7)) (by decide +kernel) (by decide +kernel) rfl,
  by intros; exact G_at (by decide +kernel : fetch mL_element 8 = some (.lastore)),
  by intros; exact G_at (by decide +kernel : fetch mL_element 9 = some (.goto 11)),
  by intros; exact G_at (by decide +kernel : fetch mL_element 12 = some (.astore 4)),
  by intros; exact G_at (by decide +kernel : fetch mL_element 14 = some (.iconst 1)),
  by intros; exact G_reti (by decide +kernel : fetch mL_element 15 = some (.ireturn)) (by decide +kernel),
  by intros; exact G_at (by decide +kernel : fetch mL_element 16 = some (.astore 4)),
  by intros; exact G_at (by decide +kernel : fetch mL_element 18 = some (.iconst 2)),
  by intros; exact G_reti (by decide +kernel : fetch mL_element 19 = some (.ireturn)) (by decide +kernel),
  by intros; exact G_at (by decide +kernel : fetch mL_element 20 = some (.iconst 0)),
  by intros; exact G_reti (by decide +kernel : fetch mL_element 21 = some (.ireturn)) (by decide +kernel),
  by decide +kernel⟩
end GE9
def iA.sTn (A : iA) (t : Int) : iA := (iA.mk A.now A.img A.mnd A.imd A.yr A.mt A.sh A.pt ((iMo.mk A.mo.s A.mo.m A.mo.im A.mo.was A.mo.hi A.mo.wt A.mo.en A.mo.od A.mo.dn A.mo.sm A.mo.sf A.mo.go A.mo.at_ A.mo.ra A.mo.re A.mo.nu A.mo.bd A.mo.bg A.mo.he A.mo.bh A.mo.ak A.mo.st A.mo.ml A.mo.fi A.mo.th A.mo.se A.mo.ke A.mo.kk A.mo.kf A.mo.so A.mo.sz A.mo.el (t))) A.out A.ext A.mc)
section EL
variable {sp : Nat → List iV → iH → Option (Option iV × iH)} {l : Launch} {sc : List Int} {d : Nat} {A : iA} {a i v t : Int} {Q : Option iV → iH → Prop} {h : iH}
theorem wr_Tn : ((hp A).1.set (138) (.inl (12, [.inr (.inr (139 + 2)), .inr (.inr (140 + 2)), .inr (.inr (141 + 2)), .inr (.inr (142 + 2)), .inl A.mo.hi, .inr (.inr (143 + 2)), .inr (.inr (144 + 2)), .inr (.inr (145 + 2)), .inl A.mo.dn, .inl A.mo.sm, .inl A.mo.sf, .inl A.mo.go, .inl A.mo.at_, .inl A.mo.ra, .inl A.mo.re, .inr (.inr (146 + 2)), .inl A.mo.bd, .inl A.mo.bg, .inr (.inr (147 + 2)), .inr (.inr (148 + 2)), .inr (.inr (149 + 2)), .inl A.mo.st, .inl A.mo.ml, .inr (.inr (150 + 2)), .inr (.inr (151 + 2)), .inl A.mo.se, .inr (.inr (152 + 2)), .inr (.inr (153 + 2)), .inr (.inr (154 + 2)), .inr (.inr (155 + 2)), .inr (.inr (156 + 2)), .inr (.inr (157 + 2)), .inl t])), A.mc) = hp (A.sTn t) := wr_o
theorem sTn_tn : (A.sTn t).mo.tn = t := rfl
theorem sTn_el : (A.sTn t).mo.el = A.mo.el := rfl
theorem back_Tn {L : List (Option iV)} {rest : List iV} : back (hp A) (hp (A.sTn t)) L rest = True := back_hp rfl (Nat.le_refl _)
theorem elR_no (ia : inI a = true) (c : ¬ (0 ≤ a ∧ a < 8)) : Call sp sc 19 mX12_element [.inr (.inr 140), .inl a, .inl i] (hp A) Q = Q (some (.inr (.inl 0))) (hp (A.sTn 1)) := Call_eq (by
  apply eX12_element 60
  simp (disch := first | assumption | rfl | exact inI_of (by omega) (by omega) | omega | decide | (simp only [sv_ext, sv_mc, Nat.le_refl]; done) | with_unfolding_all (refine @id _ ?_; first | exact Eq.refl _ | exact Nat.le_refl _ | assumption)) only [Nat.reduceAdd, Nat.reduceMul, Nat.reduceLeDiff, Nat.reduceLT, Int.reduceAdd, Int.reduceSub, Int.reduceMul, Int.reduceNeg, Int.reduceLE, Int.reduceLT, Int.reduceToNat, Int.reduceEq, reduceCtorEq, ld_z, ld_s, st1_0, st1_1, st1_s, st2_0, st2_1, st2_s, isJ_i, isJ_r, isJ_n, isJ_l, cs_nil, cs_i, cs_r, cs_l, kF, List.getElem?_cons_succ, List.getElem?_cons_zero, List.set_cons_zero, List.set_cons_succ, GC_s, GC_n, GK_nil, GK_no, GK_yes, not_false_eq_true, back_eq, back_hp, inI_eq, inA_eq, true_and, and_true, and_self, if_true, if_false, bI_0, bI_1, bI_in, bI_T, bI_F, fitF, jmpF, nlF, pjA, iVal.eta, iYr.eta, List.getElem?_toArray, List.length_cons, List.length_nil, true_or, or_true, or_false, false_or, Classical.not_not, Bool.false_eq_true, hp_2, Nat.zero_le, Nat.le_refl, Option.some.injEq, Sum.inl.injEq, Sum.inr.injEq, not_true_eq_false, true_implies, false_implies, implies_true, Int.le_refl, gX12_element, isShelfR_eq, c, rd_o, wr_Tn, sTn_tn]
  rfl)
theorem elR_eq (hR : Rel A) (ia : inI a = true) (ii : inI i = true) (c : 0 ≤ a ∧ a < 8) : Call sp sc 19 mX12_element [.inr (.inr 140), .inl a, .inl i] (hp A) Q = Q (some (.inr (.inl (if (A.sh a.toNat).ho = 2 ∧ 0 ≤ i ∧ i < (A.sh a.toNat).sz then (A.cel a.toNat).getD i.toNat 0 else 0)))) (hp (A.sTn (if (A.sh a.toNat).ho = 2 ∧ 0 ≤ i ∧ i < (A.sh a.toNat).sz then 0 else 2))) := Call_eq (by
  have hS := hR.shs a.toNat (by omega)
  have hd8 : a.toNat < 8 := by omega
  have lk := hR.lke
  have lz := hR.lsz
  have le := hR.lel
  have ho := hS.ho
  have hv := hS.hv
  have sz := hS.sz
  apply eX12_element 60
  by_cases y : (A.sh a.toNat).ho = 2
  · have ke := ho.trans y
    have zz := hS.zz y
    by_cases g : 0 ≤ i ∧ i < (A.sh a.toNat).sz
    · rw [if_pos ⟨y, g⟩, if_pos ⟨y, g⟩]
      have g2 : 0 ≤ i ∧ i ≤ (A.sh a.toNat).sz - 1 := by omega
      have el := hS.el y i g.1 g.2
      have eD : ((a.toNat : Nat) : Int) = a := by omega
      rw [eD] at el
      have er := hS.er y i g.1 g.2
      have ia2 : inA (100 * a + i) 800 = true := inA_of (by omega) (by omega) (by omega)
      simp (disch := first | assumption | rfl | exact inI_of (by omega) (by omega) | omega | decide | (simp only [sv_ext, sv_mc, Nat.le_refl]; done) | with_unfolding_all (refine @id _ ?_; first | exact Eq.refl _ | exact Nat.le_refl _ | assumption)) only [Nat.reduceAdd, Nat.reduceMul, Nat.reduceLeDiff, Nat.reduceLT, Int.reduceAdd, Int.reduceSub, Int.reduceMul, Int.reduceNeg, Int.reduceLE, Int.reduceLT, Int.reduceToNat, Int.reduceEq, reduceCtorEq, ld_z, ld_s, st1_0, st1_1, st1_s, st2_0, st2_1, st2_s, isJ_i, isJ_r, isJ_n, isJ_l, cs_nil, cs_i, cs_r, cs_l, kF, List.getElem?_cons_succ, List.getElem?_cons_zero, List.set_cons_zero, List.set_cons_succ, GC_s, GC_n, GK_nil, GK_no, GK_yes, not_false_eq_true, back_eq, back_hp, inI_eq, inA_eq, true_and, and_true, and_self, if_true, if_false, bI_0, bI_1, bI_in, bI_T, bI_F, fitF, jmpF, nlF, pjA, iVal.eta, iYr.eta, List.getElem?_toArray, List.length_cons, List.length_nil, true_or, or_true, or_false, false_or, Classical.not_not, Bool.false_eq_true, hp_2, Nat.zero_le, Nat.le_refl, Option.some.injEq, Sum.inl.injEq, Sum.inr.injEq, not_true_eq_false, true_implies, false_implies, implies_true, Int.le_refl, gX12_element, isShelfR_eq, c, rd_o, rd_o_ke, rd_o_sz, rd_o_el, lk, lz, le, ke, zz, isIn_eq, g2, wr_Tn, sTn_tn, sTn_el, ia2, el, er]
    · rw [if_neg (fun u => g u.2), if_neg (fun u => g u.2)]
      have g2 : ¬ (0 ≤ i ∧ i ≤ (A.sh a.toNat).sz - 1) := by omega
      simp (disch := first | assumption | rfl | exact inI_of (by omega) (by omega) | omega | decide | (simp only [sv_ext, sv_mc, Nat.le_refl]; done) | with_unfolding_all (refine @id _ ?_; first | exact Eq.refl _ | exact Nat.le_refl _ | assumption)) only [Nat.reduceAdd, Nat.reduceMul, Nat.reduceLeDiff, Nat.reduceLT, Int.reduceAdd, Int.reduceSub, Int.reduceMul, Int.reduceNeg, Int.reduceLE, Int.reduceLT, Int.reduceToNat, Int.reduceEq, reduceCtorEq, ld_z, ld_s, st1_0, st1_1, st1_s, st2_0, st2_1, st2_s, isJ_i, isJ_r, isJ_n, isJ_l, cs_nil, cs_i, cs_r, cs_l, kF, List.getElem?_cons_succ, List.getElem?_cons_zero, List.set_cons_zero, List.set_cons_succ, GC_s, GC_n, GK_nil, GK_no, GK_yes, not_false_eq_true, back_eq, back_hp, inI_eq, inA_eq, true_and, and_true, and_self, if_true, if_false, bI_0, bI_1, bI_in, bI_T, bI_F, fitF, jmpF, nlF, pjA, iVal.eta, iYr.eta, List.getElem?_toArray, List.length_cons, List.length_nil, true_or, or_true, or_false, false_or, Classical.not_not, Bool.false_eq_true, hp_2, Nat.zero_le, Nat.le_refl, Option.some.injEq, Sum.inl.injEq, Sum.inr.injEq, not_true_eq_false, true_implies, false_implies, implies_true, Int.le_refl, gX12_element, isShelfR_eq, c, rd_o, rd_o_ke, rd_o_sz, lk, lz, ke, zz, isIn_eq, g2, wr_Tn, sTn_tn]
      rfl
  · rw [if_neg (fun u => y u.1), if_neg (fun u => y u.1)]
    have ke : ¬ A.mo.ke.getD a.toNat 0 = 2 := by rw [ho]; exact y
    have ik : inI (A.mo.ke.getD a.toNat 0) = true := by rw [ho]; exact inI_of (by omega) (by omega)
    simp (disch := first | assumption | rfl | exact inI_of (by omega) (by omega) | omega | decide | (simp only [sv_ext, sv_mc, Nat.le_refl]; done) | with_unfolding_all (refine @id _ ?_; first | exact Eq.refl _ | exact Nat.le_refl _ | assumption)) only [Nat.reduceAdd, Nat.reduceMul, Nat.reduceLeDiff, Nat.reduceLT, Int.reduceAdd, Int.reduceSub, Int.reduceMul, Int.reduceNeg, Int.reduceLE, Int.reduceLT, Int.reduceToNat, Int.reduceEq, reduceCtorEq, ld_z, ld_s, st1_0, st1_1, st1_s, st2_0, st2_1, st2_s, isJ_i, isJ_r, isJ_n, isJ_l, cs_nil, cs_i, cs_r, cs_l, kF, List.getElem?_cons_succ, List.getElem?_cons_zero, List.set_cons_zero, List.set_cons_succ, GC_s, GC_n, GK_nil, GK_no, GK_yes, not_false_eq_true, back_eq, back_hp, inI_eq, inA_eq, true_and, and_true, and_self, if_true, if_false, bI_0, bI_1, bI_in, bI_T, bI_F, fitF, jmpF, nlF, pjA, iVal.eta, iYr.eta, List.getElem?_toArray, List.length_cons, List.length_nil, true_or, or_true, or_false, false_or, Classical.not_not, Bool.false_eq_true, hp_2, Nat.zero_le, Nat.le_refl, Option.some.injEq, Sum.inl.injEq, Sum.inr.injEq, not_true_eq_false, true_implies, false_implies, implies_true, Int.le_refl, gX12_element, isShelfR_eq, c, rd_o, rd_o_ke, lk, ke, ik, wr_Tn, sTn_tn]
    rfl)
theorem elR_y (hR : Rel A) (ia : inI a = true) (ii : inI i = true) (c : 0 ≤ a ∧ a < 8) (c2 : (A.sh a.toNat).ho = 2 ∧ 0 ≤ i ∧ i < (A.sh a.toNat).sz) : Call sp sc 19 mX12_element [.inr (.inr 140), .inl a, .inl i] (hp A) Q = Q (some (.inr (.inl ((A.cel a.toNat).getD i.toNat 0)))) (hp (A.sTn 0)) := by
  rw [elR_eq hR ia ii c, if_pos c2, if_pos c2]
theorem elR_n (hR : Rel A) (ia : inI a = true) (ii : inI i = true) (c : 0 ≤ a ∧ a < 8) (c2 : ¬ ((A.sh a.toNat).ho = 2 ∧ 0 ≤ i ∧ i < (A.sh a.toNat).sz)) : Call sp sc 19 mX12_element [.inr (.inr 140), .inl a, .inl i] (hp A) Q = Q (some (.inr (.inl 0))) (hp (A.sTn 2)) := by
  rw [elR_eq hR ia ii c, if_neg c2, if_neg c2]
theorem thrown_eq (it : inI A.mo.tn = true) : Call sp sc d mX12_thrown [.inr (.inr 140)] (hp A) Q = Q (some (.inl A.mo.tn)) (hp A) := Call_eq (by
  apply eX12_thrown 20; simp (disch := first | assumption | rfl | exact inI_of (by omega) (by omega) | omega | decide | (simp only [sv_ext, sv_mc, Nat.le_refl]; done) | with_unfolding_all (refine @id _ ?_; first | exact Eq.refl _ | exact Nat.le_refl _ | assumption)) only [Nat.reduceAdd, Nat.reduceMul, Nat.reduceLeDiff, Nat.reduceLT, Int.reduceAdd, Int.reduceSub, Int.reduceMul, Int.reduceNeg, Int.reduceLE, Int.reduceLT, Int.reduceToNat, Int.reduceEq, reduceCtorEq, ld_z, ld_s, st1_0, st1_1, st1_s, st2_0, st2_1, st2_s, isJ_i, isJ_r, isJ_n, isJ_l, cs_nil, cs_i, cs_r, cs_l, kF, List.getElem?_cons_succ, List.getElem?_cons_zero, List.set_cons_zero, List.set_cons_succ, GC_s, GC_n, GK_nil, GK_no, GK_yes, not_false_eq_true, back_eq, back_hp, inI_eq, inA_eq, true_and, and_true, and_self, if_true, if_false, bI_0, bI_1, bI_in, bI_T, bI_F, fitF, jmpF, nlF, pjA, iVal.eta, iYr.eta, List.getElem?_toArray, List.length_cons, List.length_nil, true_or, or_true, or_false, false_or, Classical.not_not, Bool.false_eq_true, hp_2, Nat.zero_le, Nat.le_refl, Option.some.injEq, Sum.inl.injEq, Sum.inr.injEq, not_true_eq_false, true_implies, false_implies, implies_true, Int.le_refl, gX12_thrown, rd_o])
theorem elC_eq (hR : Rel A) (ia : inI a = true) (ii : inI i = true) (c : 0 ≤ a ∧ a < 8) (c2 : (A.sh a.toNat).ho = 2 ∧ 0 ≤ i ∧ i < (A.sh a.toNat).sz) : Call sp sc (d + 1) mX11_element [.inr (.inr 2), .inl a, .inl i] (hp A) Q = Q (some (.inr (.inl ((A.cel a.toNat).getD i.toNat 0)))) (hp A) := Call_eq (by
  have hS := hR.shs a.toNat (by omega)
  have hd8 : a.toNat < 8 := by omega
  have ns : ([109, 111, 113, 115, 117, 119, 121, 123] : List Nat).length = 8 := rfl
  have sz := hS.sz
  have cl := hS.cl
  have l100 : (A.cel a.toNat).length ≤ 1000 := by
    rcases hS.ca with u | u
    · have : A.cel a.toNat = [] := by unfold iA.cel; rw [if_pos (by omega)]
      rw [this]; exact Nat.zero_le _
    · omega
  have hpl : ∀ Q, Call sp sc d mX5_hasPlace [.inr (.inr (107 + 2 * a.toNat + 2)), .inl i] (hp A) Q = Q (some (.inl 1)) (hp A) := fun Q => by rw [hasPlace_eq hd8 hS.sz ii, bI_t c2.2]
  have rc := rd_c hd8 (celC_of hS)
  have ix : inA i (A.cel a.toNat).length = true := inA_of c2.2.1 (by omega) l100
  apply eX11_element 60
  simp (disch := first | assumption | rfl | exact inI_of (by omega) (by omega) | omega | decide | (simp only [sv_ext, sv_mc, Nat.le_refl]; done) | with_unfolding_all (refine @id _ ?_; first | exact Eq.refl _ | exact Nat.le_refl _ | assumption)) only [Nat.reduceAdd, Nat.reduceMul, Nat.reduceLeDiff, Nat.reduceLT, Int.reduceAdd, Int.reduceSub, Int.reduceMul, Int.reduceNeg, Int.reduceLE, Int.reduceLT, Int.reduceToNat, Int.reduceEq, reduceCtorEq, ld_z, ld_s, st1_0, st1_1, st1_s, st2_0, st2_1, st2_s, isJ_i, isJ_r, isJ_n, isJ_l, cs_nil, cs_i, cs_r, cs_l, kF, List.getElem?_cons_succ, List.getElem?_cons_zero, List.set_cons_zero, List.set_cons_succ, GC_s, GC_n, GK_nil, GK_no, GK_yes, not_false_eq_true, back_eq, back_hp, inI_eq, inA_eq, true_and, and_true, and_self, if_true, if_false, bI_0, bI_1, bI_in, bI_T, bI_F, fitF, jmpF, nlF, pjA, iVal.eta, iYr.eta, List.getElem?_toArray, List.length_cons, List.length_nil, true_or, or_true, or_false, false_or, Classical.not_not, Bool.false_eq_true, hp_2, Nat.zero_le, Nat.le_refl, Option.some.injEq, Sum.inl.injEq, Sum.inr.injEq, not_true_eq_false, true_implies, false_implies, implies_true, Int.le_refl, rd_v, f_num, f_lik, f_dep, f_bnd, f_man, f_wom, f_sta, f_dds, f_who, rd_e, v_now, hasOne_eq, hasTwo_eq, hasCouple_eq, orNone_eq, natureOf_eq, rd_nat, place_eq, rd_v1, rd_v3, rd_v4, rd_v6, rd_v7, rd_v8, rd_v9, rd_v10, isShelf_eq, isSide_eq, isDeed_eq, isKind_eq, isMindSpan_eq, gX11_element, c, rd_ss, ns, sh_at, rd_s, c2.1, hpl, rc, ix])
theorem cat_Ea : CatR hhE RL 5 "java/lang/IllegalArgumentException" 12 := ⟨[], (tableOf hhE)[0]!, (tableOf hhE).drop 1, "java/lang/IllegalArgumentException", rfl, (fun z hz => nomatch hz), by decide, by decide, by decide +kernel, rfl, by decide, rfl⟩
theorem cat_Es : CatR hhE RL 5 "java/lang/IllegalStateException" 16 := ⟨(tableOf hhE).take 1, (tableOf hhE)[1]!, (tableOf hhE).drop 2, "java/lang/IllegalStateException", rfl, List.forall_mem_cons.mpr ⟨⟨by decide, "java/lang/IllegalArgumentException", by decide +kernel, by decide⟩, fun z hz => nomatch hz⟩, by decide, by decide, by decide +kernel, rfl, by decide, rfl⟩
theorem ch_el : ChP sc 8 mL_element h 5 (0, [some (.inr (.inr 2)), some (.inl a), some (.inl i), some (.inr (.inr 160)), none], []) (5, [some (.inr (.inr 2)), some (.inl a), some (.inl i), some (.inr (.inr 160)), none], [.inl i, .inl a, .inr (.inr 2), .inl 0, .inr (.inr 160)]) := by
  refine ch_f (by decide +kernel : fetch mL_element 0 = some (.aload_n 3)) (s_ald (r := 159) rfl) ?_
  refine ch_f (by decide +kernel : fetch mL_element 1 = some (.iconst 0)) s_ic ?_
  refine ch_f (by decide +kernel : fetch mL_element 2 = some (.aload_n 0)) (s_ald (r := 1) rfl) ?_
  refine ch_f (by decide +kernel : fetch mL_element 3 = some (.iload_n 1)) (s_ild (x := a) rfl) ?_
  exact ch_f (by decide +kernel : fetch mL_element 4 = some (.iload_n 2)) (s_ild (x := i) rfl) rfl
theorem thr_el {hpc : Nat} {E : String} (hM : MetX l sc qEl 7 [.inr (.inr 2), .inl a, .inl i] (hp A) E) (hcat : CatR hhE RL 5 E hpc) (hda : decode cL_element hpc = .ok (.astore 4, 2))
    (hrun : Run sp0 sc 8 mL_element (hpc + 2) [some (.inr (.inr 2)), some (.inl a), some (.inl i), some (.inr (.inr 160)), none] [] (hp A) (fun x z => x = some (.inl v) ∧ z = hp A)) : ThrC l sc 8 mL_element hhE [.inr (.inr 2), .inl a, .inl i, .inr (.inr 160)] (hp A) (some (.inl v)) := by
  obtain ⟨n2, x, z, e, rfl, rfl⟩ := hrun
  exact ⟨qE, qEl, 5, n2, 5, 7, mX11_element, 2, hpc, 7, _, _, [.inl 0, .inr (.inr 160)], _, E, rfl, mtab_E, ch_el, by decide +kernel, rsv_V (n1 := 2) (by decide +kernel) rfl rd_e (by decide +kernel) ⟨Or.inl rfl, by show (2 : Nat) ≤ 8; omega⟩, by decide, mtab_El, hM, hcat, hda, rfl, ⟨_, rfl⟩, by show 4 < 5; omega, e⟩
theorem el_law (hls : l.stackTraces = false) (hR : Rel A) (ia : inI a = true) (ii : inI i = true) : ∃ (k v : Int) (A1 A2 : iA), (k = 0 ∨ k = 1 ∨ k = 2) ∧ inJ v = true ∧ (∀ Q, Call (spM l sc) sc 19 mL_element [.inr (.inr 2), .inl a, .inl i, .inr (.inr 160)] (hp A) Q = Q (some (.inl k)) (hp A1)) ∧ (∀ Q, Call (spM l sc) sc 19 mX12_element [.inr (.inr 140), .inl a, .inl i] (hp A1) Q = Q (some (.inr (.inl v))) (hp A2)) ∧ A2.mo.tn = k ∧ A2.out.length = 1 ∧ (k = 0 → A2.out.getD 0 0 = v) ∧ A.mc ≤ A1.mc ∧ A1.mc ≤ A2.mc ∧ A2.mc ≤ A.mc + 10 ∧ Rel A2 := by
  have hent : (ent 5 [.inr (.inr 2), .inl a, .inl i, .inr (.inr 160)]).length = 5 := rfl
  have thr : ∀ v : Int, grd mL_element [.inr (.inr 2), .inl a, .inl i, .inr (.inr 160)] (hp A) → (v = if 0 ≤ a ∧ a < 8 then 2 else 1) → ThrC l sc 8 mL_element hhE [.inr (.inr 2), .inl a, .inl i, .inr (.inr 160)] (hp A) (some (.inl v)) → ∀ Q, Call (spM l sc) sc 19 mL_element [.inr (.inr 2), .inl a, .inl i, .inr (.inr 160)] (hp A) Q = Q (some (.inl v)) (hp (iA.mk A.now A.img A.mnd A.imd A.yr A.mt A.sh A.pt A.mo A.out A.ext (A.mc + 1))) := fun v hg hv hT Q => call_sp (spM_thr hg ⟨Or.inr rfl, hent, Or.inr ⟨rfl, _, _, _, _, rfl, hv⟩, hT⟩) (by decide) (by omega)
  have relT : ∀ (A' : iA) (t : Int), Rel A' → Rel (A'.sTn t) := fun A' t h => (Rel.mk h.now h.img h.mnd h.mok h.yr h.ndy h.idy h.row h.imd h.him h.imr h.lim h.lm h.lwas h.lwt h.len h.lod h.lnu h.lhe h.lbh h.lak h.lfi h.lth h.lke h.lkk h.lkf h.lso h.lsz h.lel h.lwv h.lhb h.lfm h.lmk h.lpt h.lout h.shs h.inj)
  by_cases c : 0 ≤ a ∧ a < 8
  · have hS := hR.shs a.toNat (by omega)
    by_cases c2 : (A.sh a.toNat).ho = 2 ∧ 0 ≤ i ∧ i < (A.sh a.toNat).sz
    · have er := hS.er c2.1 i c2.2.1 c2.2.2
      have hl := hR.lout
      have ng : ¬ grd mL_element [.inr (.inr 2), .inl a, .inl i, .inr (.inr 160)] (hp A) := fun hg => by
        rcases hg with ⟨e, -⟩ | ⟨-, x, d, j, o, e, g⟩
        · exact absurd e (by decide)
        · cases e
          exact g ⟨c.1, c.2, _, _, shP_A hR c, by rw [c2.1]; rfl, rfl, c2.2⟩
      have hel := fun Q => @elC_eq sp0 sc 6 A a i Q hR ia ii c c2
      have run : Run sp0 sc 8 mL_element 0 [some (.inr (.inr 2)), some (.inl a), some (.inl i), some (.inr (.inr 160)), none] [] (hp A) (fun x z => x = some (.inl 0) ∧ z = hp (iA.mk A.now A.img A.mnd A.imd A.yr A.mt A.sh A.pt A.mo (A.out.set 0 ((A.cel a.toNat).getD i.toNat 0)) A.ext A.mc)) := by
        refine G_run (B := []) 60 _ _ _ _ ?_
        have ll : lkC 13 7 11 = some (mX11_element, 2, 2) := by decide +kernel
        simp (disch := first | assumption | rfl | exact inI_of (by omega) (by omega) | omega | decide | (simp only [sv_ext, sv_mc, Nat.le_refl]; done) | with_unfolding_all (refine @id _ ?_; first | exact Eq.refl _ | exact Nat.le_refl _ | assumption)) only [Nat.reduceAdd, Nat.reduceMul, Nat.reduceLeDiff, Nat.reduceLT, Int.reduceAdd, Int.reduceSub, Int.reduceMul, Int.reduceNeg, Int.reduceLE, Int.reduceLT, Int.reduceToNat, Int.reduceEq, reduceCtorEq, ld_z, ld_s, st1_0, st1_1, st1_s, st2_0, st2_1, st2_s, isJ_i, isJ_r, isJ_n, isJ_l, cs_nil, cs_i, cs_r, cs_l, kF, List.getElem?_cons_succ, List.getElem?_cons_zero, List.set_cons_zero, List.set_cons_succ, GC_s, GC_n, GK_nil, GK_no, GK_yes, not_false_eq_true, back_eq, back_hp, inI_eq, inA_eq, true_and, and_true, and_self, if_true, if_false, bI_0, bI_1, bI_in, bI_T, bI_F, fitF, jmpF, nlF, pjA, iVal.eta, iYr.eta, List.getElem?_toArray, List.length_cons, List.length_nil, true_or, or_true, or_false, false_or, Classical.not_not, Bool.false_eq_true, hp_2, Nat.zero_le, Nat.le_refl, Option.some.injEq, Sum.inl.injEq, Sum.inr.injEq, not_true_eq_false, true_implies, false_implies, implies_true, Int.le_refl, gL_element, rd_e, ll, hel, rd_out, hl, wr_out]
      refine ⟨0, (A.cel a.toNat).getD i.toNat 0, (iA.mk A.now A.img A.mnd A.imd A.yr A.mt A.sh A.pt A.mo (A.out.set 0 ((A.cel a.toNat).getD i.toNat 0)) A.ext A.mc), ((iA.mk A.now A.img A.mnd A.imd A.yr A.mt A.sh A.pt A.mo (A.out.set 0 ((A.cel a.toNat).getD i.toNat 0)) A.ext A.mc) : iA).sTn 0, Or.inl rfl, ?_, fun Q => call_sp (spM_nrm ng (nrm_run (Or.inr rfl) hent run)) (by decide) (by omega), fun Q => ?_, rfl, by show (A.out.set 0 _).length = 1; rw [List.length_set]; exact hl, fun _ => ?_, Nat.le_refl _, Nat.le_refl _, Nat.le_add_right _ _, relT _ _ (Rel.mk hR.now hR.img hR.mnd hR.mok hR.yr hR.ndy hR.idy hR.row hR.imd hR.him hR.imr hR.lim hR.lm hR.lwas hR.lwt hR.len hR.lod hR.lnu hR.lhe hR.lbh hR.lak hR.lfi hR.lth hR.lke hR.lkk hR.lkf hR.lso hR.lsz hR.lel hR.lwv hR.lhb hR.lfm hR.lmk hR.lpt (by show (A.out.set 0 _).length = 1; rw [List.length_set]; exact hl) hR.shs hR.inj)⟩
      · have := inI_iff.mp er
        exact inJ_iff.mpr (by omega)
      · have hR1 : Rel (iA.mk A.now A.img A.mnd A.imd A.yr A.mt A.sh A.pt A.mo (A.out.set 0 ((A.cel a.toNat).getD i.toNat 0)) A.ext A.mc) := (Rel.mk hR.now hR.img hR.mnd hR.mok hR.yr hR.ndy hR.idy hR.row hR.imd hR.him hR.imr hR.lim hR.lm hR.lwas hR.lwt hR.len hR.lod hR.lnu hR.lhe hR.lbh hR.lak hR.lfi hR.lth hR.lke hR.lkk hR.lkf hR.lso hR.lsz hR.lel hR.lwv hR.lhb hR.lfm hR.lmk hR.lpt (by show (A.out.set 0 _).length = 1; rw [List.length_set]; exact hl) hR.shs hR.inj)
        exact @elR_y (spM l sc) sc (iA.mk A.now A.img A.mnd A.imd A.yr A.mt A.sh A.pt A.mo (A.out.set 0 ((A.cel a.toNat).getD i.toNat 0)) A.ext A.mc) a i Q hR1 ia ii c c2
      · show (A.out.set 0 ((A.cel a.toNat).getD i.toNat 0)).getD 0 0 = _
        rw [gsq (by omega), if_pos rfl]
    · have hg : grd mL_element [.inr (.inr 2), .inl a, .inl i, .inr (.inr 160)] (hp A) := Or.inr ⟨rfl, _, _, _, _, rfl, fun ⟨_, _, gs, z, g1, g2, g3, g4⟩ => by
        cases shP_uni g1 (shP_A hR c)
        simp only [List.getElem?_cons_zero, List.getElem?_cons_succ, Option.some.injEq, Sum.inl.injEq] at g2 g3
        exact c2 ⟨g2, by rw [g3]; exact g4⟩⟩
      refine ⟨2, 0, (iA.mk A.now A.img A.mnd A.imd A.yr A.mt A.sh A.pt A.mo A.out A.ext (A.mc + 1)), ((iA.mk A.now A.img A.mnd A.imd A.yr A.mt A.sh A.pt A.mo A.out A.ext (A.mc + 1)) : iA).sTn 2, Or.inr (Or.inr rfl), rfl, thr 2 hg (by rw [if_pos c]) (thr_el (metX_s hls (by omega) hR ia ii c c2) cat_Es (by decide +kernel) (G_run (B := []) 60 _ _ _ _ ?_)), fun Q => ?_, rfl, hR.lout, fun e => absurd e (by decide), Nat.le_succ _, Nat.le_refl _, by show A.mc + 1 ≤ A.mc + 10; omega, relT _ _ (rel_mc hR)⟩
      · simp (disch := first | assumption | rfl | exact inI_of (by omega) (by omega) | omega | decide | (simp only [sv_ext, sv_mc, Nat.le_refl]; done) | with_unfolding_all (refine @id _ ?_; first | exact Eq.refl _ | exact Nat.le_refl _ | assumption)) only [Nat.reduceAdd, Nat.reduceMul, Nat.reduceLeDiff, Nat.reduceLT, Int.reduceAdd, Int.reduceSub, Int.reduceMul, Int.reduceNeg, Int.reduceLE, Int.reduceLT, Int.reduceToNat, Int.reduceEq, reduceCtorEq, ld_z, ld_s, st1_0, st1_1, st1_s, st2_0, st2_1, st2_s, isJ_i, isJ_r, isJ_n, isJ_l, cs_nil, cs_i, cs_r, cs_l, kF, List.getElem?_cons_succ, List.getElem?_cons_zero, List.set_cons_zero, List.set_cons_succ, GC_s, GC_n, GK_nil, GK_no, GK_yes, not_false_eq_true, back_eq, back_hp, inI_eq, inA_eq, true_and, and_true, and_self, if_true, if_false, bI_0, bI_1, bI_in, bI_T, bI_F, fitF, jmpF, nlF, pjA, iVal.eta, iYr.eta, List.getElem?_toArray, List.length_cons, List.length_nil, true_or, or_true, or_false, false_or, Classical.not_not, Bool.false_eq_true, hp_2, Nat.zero_le, Nat.le_refl, Option.some.injEq, Sum.inl.injEq, Sum.inr.injEq, not_true_eq_false, true_implies, false_implies, implies_true, Int.le_refl, gL_element]
      · exact @elR_n (spM l sc) sc (iA.mk A.now A.img A.mnd A.imd A.yr A.mt A.sh A.pt A.mo A.out A.ext (A.mc + 1)) a i Q (rel_mc hR) ia ii c c2
  · have hg : grd mL_element [.inr (.inr 2), .inl a, .inl i, .inr (.inr 160)] (hp A) := Or.inr ⟨rfl, _, _, _, _, rfl, fun u => c ⟨u.1, u.2.1⟩⟩
    refine ⟨1, 0, (iA.mk A.now A.img A.mnd A.imd A.yr A.mt A.sh A.pt A.mo A.out A.ext (A.mc + 1)), ((iA.mk A.now A.img A.mnd A.imd A.yr A.mt A.sh A.pt A.mo A.out A.ext (A.mc + 1)) : iA).sTn 1, Or.inr (Or.inl rfl), rfl, thr 1 hg (by rw [if_neg c]) (thr_el (metX_a hls (by omega) ia c) cat_Ea (by decide +kernel) (G_run (B := []) 60 _ _ _ _ ?_)), fun Q => elR_no ia c, rfl, hR.lout, fun e => absurd e (by decide), Nat.le_succ _, Nat.le_refl _, by show A.mc + 1 ≤ A.mc + 10; omega, relT _ _ (rel_mc hR)⟩
    simp (disch := first | assumption | rfl | exact inI_of (by omega) (by omega) | omega | decide | (simp only [sv_ext, sv_mc, Nat.le_refl]; done) | with_unfolding_all (refine @id _ ?_; first | exact Eq.refl _ | exact Nat.le_refl _ | assumption)) only [Nat.reduceAdd, Nat.reduceMul, Nat.reduceLeDiff, Nat.reduceLT, Int.reduceAdd, Int.reduceSub, Int.reduceMul, Int.reduceNeg, Int.reduceLE, Int.reduceLT, Int.reduceToNat, Int.reduceEq, reduceCtorEq, ld_z, ld_s, st1_0, st1_1, st1_s, st2_0, st2_1, st2_s, isJ_i, isJ_r, isJ_n, isJ_l, cs_nil, cs_i, cs_r, cs_l, kF, List.getElem?_cons_succ, List.getElem?_cons_zero, List.set_cons_zero, List.set_cons_succ, GC_s, GC_n, GK_nil, GK_no, GK_yes, not_false_eq_true, back_eq, back_hp, inI_eq, inA_eq, true_and, and_true, and_self, if_true, if_false, bI_0, bI_1, bI_in, bI_T, bI_F, fitF, jmpF, nlF, pjA, iVal.eta, iYr.eta, List.getElem?_toArray, List.length_cons, List.length_nil, true_or, or_true, or_false, false_or, Classical.not_not, Bool.false_eq_true, hp_2, Nat.zero_le, Nat.le_refl, Option.some.injEq, Sum.inl.injEq, Sum.inr.injEq, not_true_eq_false, true_implies, false_implies, implies_true, Int.le_refl, gL_element]
end EL
