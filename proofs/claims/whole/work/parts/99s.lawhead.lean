set_option maxRecDepth 16384
/-! ===== the constructors: the reference; the law's head ===== -/
def dM : List iV := dfT 12
def hM0 : List iO := oC 47 108 4 20 31 15 125 :: hc7 7
set_option maxRecDepth 100000 in
theorem cm_0 : evk 10 2 20 mL_law (0, [some (.inr (.inr 1)), none, none, none, none, none, none, none], []) ([], 0) = some ((4, [some (.inr (.inr 1)), none, none, none, none, none, none, none], [.inr (.inr 2), .inr (.inr 2)]), ([.inl (11, dfT 11)], 1)) := byR (by decide +kernel)
set_option maxRecDepth 100000 in
theorem cm_1 : evk 10 2 20 mL_law (8, [some (.inr (.inr 1)), some (.inr (.inr 2)), none, none, none, none, none, none], []) (hM0, 138) = some ((12, [some (.inr (.inr 1)), some (.inr (.inr 2)), none, none, none, none, none, none], [.inr (.inr 140), .inr (.inr 140)]), (hM0 ++ [.inl (12, dfT 12)], 139)) := byR (by decide +kernel)
set_option maxRecDepth 100000 in
theorem cm_2 : ev 2000 19 mX12_init (0, [some (.inr (.inr 140)), none], []) (hM0 ++ [.inl (12, dfT 12)], 139) = some (hM0 ++ layM A0.mo, 158) := byS (by decide +kernel)
set_option maxRecDepth 100000 in
theorem cm_3 : evk 10 5 20 mL_law (16, [some (.inr (.inr 1)), some (.inr (.inr 2)), some (.inr (.inr 140)), none, none, none, none, none], []) (hM0 ++ layM A0.mo, 158) = some ((23, [some (.inr (.inr 1)), some (.inr (.inr 2)), some (.inr (.inr 140)), some (.inr (.inr 160)), some (.inl 0), none, none, none], []), hp A0) := byR (by decide +kernel)
theorem ctM {sp : Nat → List iV → iH → Option (Option iV × iH)} {sc : List Int} {Q : Option iV → iH → Prop} (hQ : Q none (hM0 ++ layM A0.mo, 158)) : Call sp sc 19 mX12_init [.inr (.inr 140)] (hM0 ++ [.inl (12, dfT 12)], 139) Q := by
  refine call_of (q := (⟨RX12, "<init>", "()V"⟩, prog_14_method_1_code, 2, none, 12)) (L := [some (.inr (.inr 140)), none]) (by decide) rfl rfl rfl ?_
  exact ev_ok _ _ _ _ _ _ _ cm_2 hQ
theorem law_head {sp : Nat → List iV → iH → Option (Option iV × iH)} {sc : List Int} {Q : Option iV → iH → Prop} (k : Run sp sc 20 mL_law 23 [some (.inr (.inr 1)), some (.inr (.inr 2)), some (.inr (.inr 140)), some (.inr (.inr 160)), some (.inl 0), none, none, none] [] (hp A0) Q) : Run sp sc 20 mL_law 0 [some (.inr (.inr 1)), none, none, none, none, none, none, none] [] ([], 0) Q := by
  refine evk_ok _ _ _ _ _ _ _ cm_0 ?_
  have e1 : (([.inl (11, dfT 11)], 1) : iH).1[0]? = some (.inl (11, dfT 11)) := rfl
  have b1 : back (([.inl (11, dfT 11)], 1) : iH) (hM0, 138) [some (.inr (.inr 1)), none, none, none, none, none, none, none] [.inr (.inr 2)] := okB2_ok (by decide +kernel)
  refine G_run (B := [23]) 2 _ _ _ _ ?_
  have c1 : Call sp sc 19 mX11_init [.inr (.inr 2)] (([.inl (11, dfT 11)], 1) : iH) (fun q h1 => GC sp sc [23] 20 mL_law 1 7 [some (.inr (.inr 1)), none, none, none, none, none, none, none] q [.inr (.inr 2)] (([.inl (11, dfT 11)], 1) : iH) h1 Q) := ctC (by
    refine ⟨b1, ?_⟩
    show G sp sc [23] 20 mL_law 1 7 [some (.inr (.inr 1)), none, none, none, none, none, none, none] [.inr (.inr 2)] (hM0, 138) Q
    have g7 : G sp sc [23] 20 mL_law 1 7 [some (.inr (.inr 1)), none, none, none, none, none, none, none] [.inr (.inr 2)] (hM0, 138) Q = Run sp sc 20 mL_law 8 [some (.inr (.inr 1)), some (.inr (.inr 2)), none, none, none, none, none, none] [] (hM0, 138) Q := by
      simp (disch := first | assumption | rfl | exact inI_of (by omega) (by omega) | omega | decide | (simp only [sv_ext, sv_mc, Nat.le_refl]; done) | with_unfolding_all (refine @id _ ?_; first | exact Eq.refl _ | exact Nat.le_refl _ | assumption)) only [Nat.reduceAdd, Nat.reduceMul, Nat.reduceLeDiff, Nat.reduceLT, Int.reduceAdd, Int.reduceSub, Int.reduceMul, Int.reduceNeg, Int.reduceLE, Int.reduceLT, Int.reduceToNat, Int.reduceEq, reduceCtorEq, ld_z, ld_s, st1_0, st1_1, st1_s, st2_0, st2_1, st2_s, isJ_i, isJ_r, isJ_n, isJ_l, cs_nil, cs_i, cs_r, cs_l, kF, List.getElem?_cons_succ, List.getElem?_cons_zero, List.set_cons_zero, List.set_cons_succ, GC_s, GC_n, GK_nil, GK_no, GK_yes, not_false_eq_true, back_eq, back_hp, inI_eq, inA_eq, true_and, and_true, and_self, if_true, if_false, bI_0, bI_1, bI_in, bI_T, bI_F, fitF, jmpF, nlF, pjA, iVal.eta, iYr.eta, List.getElem?_toArray, List.length_cons, List.length_nil, true_or, or_true, or_false, false_or, Classical.not_not, Bool.false_eq_true, hp_2, Nat.zero_le, Nat.le_refl, Option.some.injEq, Sum.inl.injEq, Sum.inr.injEq, not_true_eq_false, true_implies, false_implies, implies_true, Int.le_refl, gL_h]
      rfl
    rw [g7]
    refine evk_ok _ _ _ _ _ _ _ cm_1 ?_
    refine G_run (B := [23]) 2 _ _ _ _ ?_
    have b2 : back ((hM0 ++ [.inl (12, dfT 12)], 139) : iH) (hM0 ++ layM A0.mo, 158) [some (.inr (.inr 1)), some (.inr (.inr 2)), none, none, none, none, none, none] [.inr (.inr 140)] := okB2_ok (by decide +kernel)
    have c2 : Call sp sc 19 mX12_init [.inr (.inr 140)] ((hM0 ++ [.inl (12, dfT 12)], 139) : iH) (fun q h1 => GC sp sc [23] 20 mL_law 1 15 [some (.inr (.inr 1)), some (.inr (.inr 2)), none, none, none, none, none, none] q [.inr (.inr 140)] ((hM0 ++ [.inl (12, dfT 12)], 139) : iH) h1 Q) := ctM (by
      refine ⟨b2, ?_⟩
      show G sp sc [23] 20 mL_law 1 15 [some (.inr (.inr 1)), some (.inr (.inr 2)), none, none, none, none, none, none] [.inr (.inr 140)] (hM0 ++ layM A0.mo, 158) Q
      have g15 : G sp sc [23] 20 mL_law 1 15 [some (.inr (.inr 1)), some (.inr (.inr 2)), none, none, none, none, none, none] [.inr (.inr 140)] (hM0 ++ layM A0.mo, 158) Q = Run sp sc 20 mL_law 16 [some (.inr (.inr 1)), some (.inr (.inr 2)), some (.inr (.inr 140)), none, none, none, none, none] [] (hM0 ++ layM A0.mo, 158) Q := by
        simp (disch := first | assumption | rfl | exact inI_of (by omega) (by omega) | omega | decide | (simp only [sv_ext, sv_mc, Nat.le_refl]; done) | with_unfolding_all (refine @id _ ?_; first | exact Eq.refl _ | exact Nat.le_refl _ | assumption)) only [Nat.reduceAdd, Nat.reduceMul, Nat.reduceLeDiff, Nat.reduceLT, Int.reduceAdd, Int.reduceSub, Int.reduceMul, Int.reduceNeg, Int.reduceLE, Int.reduceLT, Int.reduceToNat, Int.reduceEq, reduceCtorEq, ld_z, ld_s, st1_0, st1_1, st1_s, st2_0, st2_1, st2_s, isJ_i, isJ_r, isJ_n, isJ_l, cs_nil, cs_i, cs_r, cs_l, kF, List.getElem?_cons_succ, List.getElem?_cons_zero, List.set_cons_zero, List.set_cons_succ, GC_s, GC_n, GK_nil, GK_no, GK_yes, not_false_eq_true, back_eq, back_hp, inI_eq, inA_eq, true_and, and_true, and_self, if_true, if_false, bI_0, bI_1, bI_in, bI_T, bI_F, fitF, jmpF, nlF, pjA, iVal.eta, iYr.eta, List.getElem?_toArray, List.length_cons, List.length_nil, true_or, or_true, or_false, false_or, Classical.not_not, Bool.false_eq_true, hp_2, Nat.zero_le, Nat.le_refl, Option.some.injEq, Sum.inl.injEq, Sum.inr.injEq, not_true_eq_false, true_implies, false_implies, implies_true, Int.le_refl, gL_h]
        rfl
      rw [g15]
      exact evk_ok _ _ _ _ _ _ _ cm_3 k)
    have g12 := gL_h (sp := sp) (sc := sc)
    rw [g12.2.2.2.2.2.2.1]
    have e2 : ((hM0 ++ [Sum.inl (12, dfT 12)], 139) : iH).1[138]? = some (.inl (12, dfT 12)) := by
      have hl : hM0.length = 138 := by decide +kernel
      show (hM0 ++ [Sum.inl (12, dfT 12)])[138]? = _
      rw [List.getElem?_append_right (Nat.le_of_eq hl), hl]
      rfl
    rw [e2]
    exact ⟨by decide, c2⟩)
  have g4 := gL_h (sp := sp) (sc := sc)
  rw [g4.2.2.1]
  exact ⟨by decide, c1⟩
