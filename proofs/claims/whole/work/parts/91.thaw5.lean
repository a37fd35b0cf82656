set_option maxRecDepth 16384
/-! ===== a call: thaw, done ===== -/
section OPS
variable {sp : Nat → List iV → iH → Option (Option iV × iH)} {sc : List Int} {d : Nat} {A : iA} {Q : Option iV → iH → Prop} {h : iH} {X : iVal} {e g B : Int} {U W V : Nat} {F G F' G' : List Int}
theorem th0_dg {e k : Nat} : ((th0 e / 10 ^ k % 10 : Nat) : Int) = if 64 * e + k = 0 then 1 else 0 := by
  unfold th0
  by_cases c : e = 0
  · rw [if_pos c]
    by_cases z : k = 0
    · rw [if_pos (by omega), z]; rfl
    · rw [if_neg (by omega)]
      have : 1 / 10 ^ k = 0 := Nat.div_eq_of_lt (by
        have hk : k = (k - 1) + 1 := by omega
        rw [hk, p10]
        have := Nat.pow_pos (n := k - 1) (show 0 < 10 by omega)
        omega)
      rw [this]; rfl
  · rw [if_neg c, if_neg (by omega), Nat.zero_div]; rfl
theorem thC_eq (hR : Rel A) {c i : Int} {n t : Nat} (c1 : 0 ≤ c ∧ c < A.now.cp) (hn : n ≤ 60) (t1 : 1 ≤ t) (t9 : t ≤ 9) (ii : inI i = true) (ci : -1 ≤ i) (hs : A.now.sta c = 0) : ∃ f', (∀ D, D < 7 → (f' D).length = 8) ∧ ∀ Q, Call sp sc 19 mX11_thaw [.inr (.inr 2), .inl c, .inl (n : Int), .inl (t : Int), .inl i] (hp A) Q = Q (some (.inl (tellV (thAt t n th0 (6 - A.now.dds c).toNat) i))) (hp (A.sPt f')) := by
  have hO := hR.now
  have hcp := hO.cp
  have dd := hO.dds c c1.1 (by omega)
  obtain ⟨m, hm⟩ : ∃ m, m = (6 - A.now.dds c).toNat := ⟨_, rfl⟩
  have el : (6 - A.now.dds c : Int) = (m : Int) := by omega
  have m6 : m ≤ 6 := by omega
  rw [← hm]
  have l8 := hR.lpt
  have be := fun Q => @become_eq sp sc 18 A Q 0 1 (by omega) (l8 0 (by omega)) (by omega)
  have be : ∀ Q, Call sp sc 18 mX2_become [.inr (.inr 126), .inr (.inl 1)] (hp A) Q = Q none (hp (A.sPt (fun e => if e = 0 then pfx (lbF 1) 8 (A.pt 0) else A.pt e))) := be
  have rn := rep_become (V := 1) (l8 0 (by omega))
  obtain ⟨f1, g1, g2⟩ := @tiC_loop sp sc 18 A m m6 c (n : Int) (t : Int) i m 1 (fun e => if e = 0 then pfx (lbF 1) 8 (A.pt 0) else A.pt e) (by omega) (by omega) (fun D hD => by
      by_cases z : D = 0
      · rw [if_pos z]; exact rn.1
      · rw [if_neg z]; exact l8 D hD) (fun D hD => by
      have z : D = 0 := by omega
      rw [if_pos z, z]; exact rn)
  obtain ⟨f', k1, k2⟩ := @toC_loop sp sc 18 A t m n t1 t9 m6 hn c i n 0 th0 f1 (by omega) g1
  refine ⟨f', k1.1, fun Q => Call_eq ?_⟩
  have rp : repL ((A.sPt f').pt m) (thAt t n th0 m) := k1.2 m (Nat.le_refl _)
  have te := fun Q => @tell_eq sp sc 17 (A.sPt f') Q m (thAt t n th0 m) (by omega) rp i ii
  have lps : ([126, 128, 130, 132, 134, 136, 138] : List Nat).length = 7 := rfl
  have p0 : ([126, 128, 130, 132, 134, 136, 138] : List Nat).getD (0 : Int).toNat 0 = 126 := rfl
  have p0' : ([126, 128, 130, 132, 134, 136, 138] : List Nat).getD 0 0 = 126 := rfl
  have r0 : ∀ A : iA, (hp A).1[124]? = some (.inl (2, [.inr (.inr 127)])) := fun A => rfl
  have one : (((1 : Fin 2).val : Nat) : Int) = 1 := rfl
  have tb := @tell_b (thAt t n th0 m) i
  have p1 := ps_at (d := (m : Int)) (by omega) (by omega)
  have q1 : ((m : Nat) : Int).toNat = m := by omega
  rw [q1] at p1
  have hm7 : m < 7 := by omega
  have b1 : ¬ (t : Int) < 1 := by omega
  have b2 : ¬ 9 < (t : Int) := by omega
  have b3 : (n : Int) ≤ 60 := by omega
  have b4 : (0 : Int) ≤ (n : Int) := by omega
  have i_n : inI (n : Int) = true := inI_of (by omega) (by omega)
  have i_t : inI (t : Int) = true := inI_of (by omega) (by omega)
  have go : ∀ Q, Call sp sc 18 mX8_goesOn [.inr (.inr (vb .now + 2)), .inl c] (hp A) Q = Q (some (.inl 1)) (hp A) := fun Q => by
    have := @goesOn_eq sp sc 18 A .now Q hO c c1.1 (by omega)
    rw [this]
    have e : (A.v .now).sta c = A.now.sta c := rfl
    rw [e, bI_t hs]
  apply eX11_thaw 60
  simp (disch := first | assumption | rfl | exact inI_of (by omega) (by omega) | omega | decide | (simp only [sv_ext, sv_mc, Nat.le_refl]; done) | with_unfolding_all (refine @id _ ?_; first | exact Eq.refl _ | exact Nat.le_refl _ | assumption)) only [Nat.reduceAdd, Nat.reduceMul, Nat.reduceLeDiff, Nat.reduceLT, Int.reduceAdd, Int.reduceSub, Int.reduceMul, Int.reduceNeg, Int.reduceLE, Int.reduceLT, Int.reduceToNat, Int.reduceEq, reduceCtorEq, ld_z, ld_s, st1_0, st1_1, st1_s, st2_0, st2_1, st2_s, isJ_i, isJ_r, isJ_n, isJ_l, cs_nil, cs_i, cs_r, cs_l, kF, List.getElem?_cons_succ, List.getElem?_cons_zero, List.set_cons_zero, List.set_cons_succ, GC_s, GC_n, GK_nil, GK_no, GK_yes, not_false_eq_true, back_eq, back_hp, inI_eq, inA_eq, true_and, and_true, and_self, if_true, if_false, bI_0, bI_1, bI_in, bI_T, bI_F, fitF, jmpF, nlF, pjA, iVal.eta, iYr.eta, List.getElem?_toArray, List.length_cons, List.length_nil, true_or, or_true, or_false, false_or, Classical.not_not, Bool.false_eq_true, hp_2, Nat.zero_le, Nat.le_refl, Option.some.injEq, Sum.inl.injEq, Sum.inr.injEq, not_true_eq_false, true_implies, false_implies, implies_true, Int.le_refl, rd_v, f_num, f_lik, f_dep, f_bnd, f_man, f_wom, f_sta, f_dds, f_who, rd_e, v_now, hasOne_eq, hasTwo_eq, hasCouple_eq, orNone_eq, natureOf_eq, rd_nat, place_eq, rd_v1, rd_v3, rd_v4, rd_v6, rd_v7, rd_v8, rd_v9, rd_v10, isShelf_eq, isSide_eq, isDeed_eq, isKind_eq, isMindSpan_eq, gX11_thaw, c1, b1, b2, b3, b4, i_n, i_t, ci, ii, go, hO.ldd, el, rd_ps, lps, p0, p0', r0, be, one]
  refine g2 _ ?_
  have e2 : (m : Int) < ((m + 1 : Nat) : Int) := by omega
  have i2 : inI ((m + 1 : Nat) : Int) = true := inI_of (by omega) (by omega)
  refine G_run (B := [78, 105, 115]) 60 _ _ _ _ ?_
  simp (disch := first | assumption | rfl | exact inI_of (by omega) (by omega) | omega | decide | (simp only [sv_ext, sv_mc, Nat.le_refl]; done) | with_unfolding_all (refine @id _ ?_; first | exact Eq.refl _ | exact Nat.le_refl _ | assumption)) only [Nat.reduceAdd, Nat.reduceMul, Nat.reduceLeDiff, Nat.reduceLT, Int.reduceAdd, Int.reduceSub, Int.reduceMul, Int.reduceNeg, Int.reduceLE, Int.reduceLT, Int.reduceToNat, Int.reduceEq, reduceCtorEq, ld_z, ld_s, st1_0, st1_1, st1_s, st2_0, st2_1, st2_s, isJ_i, isJ_r, isJ_n, isJ_l, cs_nil, cs_i, cs_r, cs_l, kF, List.getElem?_cons_succ, List.getElem?_cons_zero, List.set_cons_zero, List.set_cons_succ, GC_s, GC_n, GK_nil, GK_no, GK_yes, not_false_eq_true, back_eq, back_hp, inI_eq, inA_eq, true_and, and_true, and_self, if_true, if_false, bI_0, bI_1, bI_in, bI_T, bI_F, fitF, jmpF, nlF, pjA, iVal.eta, iYr.eta, List.getElem?_toArray, List.length_cons, List.length_nil, true_or, or_true, or_false, false_or, Classical.not_not, Bool.false_eq_true, hp_2, Nat.zero_le, Nat.le_refl, Option.some.injEq, Sum.inl.injEq, Sum.inr.injEq, not_true_eq_false, true_implies, false_implies, implies_true, Int.le_refl, rd_v, f_num, f_lik, f_dep, f_bnd, f_man, f_wom, f_sta, f_dds, f_who, rd_e, v_now, hasOne_eq, hasTwo_eq, hasCouple_eq, orNone_eq, natureOf_eq, rd_nat, place_eq, rd_v1, rd_v3, rd_v4, rd_v6, rd_v7, rd_v8, rd_v9, rd_v10, isShelf_eq, isSide_eq, isDeed_eq, isKind_eq, isMindSpan_eq, gX11_thaw, e2, i2]
  refine k2 _ (fun o7 => ?_) _
  refine G_run (B := [78, 105, 115]) 60 _ _ _ _ ?_
  simp (disch := first | assumption | rfl | exact inI_of (by omega) (by omega) | omega | decide | (simp only [sv_ext, sv_mc, Nat.le_refl]; done) | with_unfolding_all (refine @id _ ?_; first | exact Eq.refl _ | exact Nat.le_refl _ | assumption)) only [Nat.reduceAdd, Nat.reduceMul, Nat.reduceLeDiff, Nat.reduceLT, Int.reduceAdd, Int.reduceSub, Int.reduceMul, Int.reduceNeg, Int.reduceLE, Int.reduceLT, Int.reduceToNat, Int.reduceEq, reduceCtorEq, ld_z, ld_s, st1_0, st1_1, st1_s, st2_0, st2_1, st2_s, isJ_i, isJ_r, isJ_n, isJ_l, cs_nil, cs_i, cs_r, cs_l, kF, List.getElem?_cons_succ, List.getElem?_cons_zero, List.set_cons_zero, List.set_cons_succ, GC_s, GC_n, GK_nil, GK_no, GK_yes, not_false_eq_true, back_eq, back_hp, inI_eq, inA_eq, true_and, and_true, and_self, if_true, if_false, bI_0, bI_1, bI_in, bI_T, bI_F, fitF, jmpF, nlF, pjA, iVal.eta, iYr.eta, List.getElem?_toArray, List.length_cons, List.length_nil, true_or, or_true, or_false, false_or, Classical.not_not, Bool.false_eq_true, hp_2, Nat.zero_le, Nat.le_refl, Option.some.injEq, Sum.inl.injEq, Sum.inr.injEq, not_true_eq_false, true_implies, false_implies, implies_true, Int.le_refl, rd_v, f_num, f_lik, f_dep, f_bnd, f_man, f_wom, f_sta, f_dds, f_who, rd_e, v_now, hasOne_eq, hasTwo_eq, hasCouple_eq, orNone_eq, natureOf_eq, rd_nat, place_eq, rd_v1, rd_v3, rd_v4, rd_v6, rd_v7, rd_v8, rd_v9, rd_v10, isShelf_eq, isSide_eq, isDeed_eq, isKind_eq, isMindSpan_eq, gX11_thaw, rd_ps, lps, q1, p1, rd_p, te, i_n, back_sPt]
theorem thR_eq (hR : Rel A) {c i : Int} {n t : Nat} (c1 : 0 ≤ c ∧ c < A.now.cp) (hn : n ≤ 60) (t1 : 1 ≤ t) (t9 : t ≤ 9) (ii : inI i = true) (ci : -1 ≤ i) (hs : A.now.sta c = 0) : ∃ F' G' : List Int, F'.length = 448 ∧ G'.length = 448 ∧ ∀ Q, Call sp sc 19 mX12_thaw [.inr (.inr 140), .inl c, .inl (n : Int), .inl (t : Int), .inl i] (hp A) Q = Q (some (.inl (tellV (thAt t n th0 (6 - A.now.dds c).toNat) i))) (hp (A.sFT F' G')) := by
  have hO := hR.now
  have hr := hR.row
  have hcp := hO.cp
  have dd := hO.dds c c1.1 (by omega)
  obtain ⟨m, hm⟩ : ∃ m, m = (6 - A.now.dds c).toNat := ⟨_, rfl⟩
  have el : (6 - A.now.dds c : Int) = (m : Int) := by omega
  have m6 : m ≤ 6 := by omega
  rw [← hm]
  obtain ⟨M, hM⟩ : ∃ M : Nat, M = 448 := ⟨_, rfl⟩
  have lF := hR.lfi
  have lG := hR.lth
  have lp : (pfx (fun _ => 0) M A.mo.fi).length = 448 := by rw [pfx_len (by omega), lF]
  have lp2 : ((pfx (fun _ => 0) M A.mo.fi).set 0 1).length = 448 := by rw [List.length_set, lp]
  obtain ⟨F', G', k1, k2, k3⟩ := @torR_loop sp sc 18 A t m n t9 m6 hn c i n 0 th0 ((pfx (fun _ => 0) M A.mo.fi).set 0 1) A.mo.th (by omega) ⟨lp2, fun e he k hk => by
    rw [gsq (by omega), th0_dg]
    by_cases z : 64 * e + k = 0
    · rw [if_pos z, if_pos (by omega)]
    · rw [if_neg z, if_neg (by omega), pfx_lo (by omega)]⟩ lG
  refine ⟨F', G', k1.1, k2, fun Q => Call_eq ?_⟩
  have ae := (thAE_it t9 n th0 th0 (th0_ae m)).1
  have hV := thV_b (t := t) (n := n) (m := m) t9 hn
  have hf := k1.2 m (Nat.le_refl _)
  rw [ae] at hf
  have b1 : (1 : Int) ≤ (t : Int) := by omega
  have b2 : (t : Int) ≤ 9 := by omega
  have b3 : (n : Int) ≤ 60 := by omega
  have b4 : (0 : Int) ≤ (n : Int) := by omega
  have i_n : inI (n : Int) = true := inI_of (by omega) (by omega)
  have i_t : inI (t : Int) = true := inI_of (by omega) (by omega)
  have gr : ∀ Q, Call sp sc 18 mX12_goesOn [.inr (.inr 141), .inl c] (hp A) Q = Q (some (.inl 1)) (hp A) := fun Q => by
    have := @goesOnR_eq sp sc 17 A .s A.ry Q A.now A.now.dy hO c c1.1 (by omega)
    have es : A.sro .s (rowOf A.now A.now.dy) A.ry = A := by rw [← hr]; exact sro_id
    rw [es, bI_t hs] at this
    exact this
  apply eX12_thaw 60
  simp (disch := first | assumption | rfl | exact inI_of (by omega) (by omega) | omega | decide | (simp only [sv_ext, sv_mc, Nat.le_refl]; done) | with_unfolding_all (refine @id _ ?_; first | exact Eq.refl _ | exact Nat.le_refl _ | assumption)) only [Nat.reduceAdd, Nat.reduceMul, Nat.reduceLeDiff, Nat.reduceLT, Int.reduceAdd, Int.reduceSub, Int.reduceMul, Int.reduceNeg, Int.reduceLE, Int.reduceLT, Int.reduceToNat, Int.reduceEq, reduceCtorEq, ld_z, ld_s, st1_0, st1_1, st1_s, st2_0, st2_1, st2_s, isJ_i, isJ_r, isJ_n, isJ_l, cs_nil, cs_i, cs_r, cs_l, kF, List.getElem?_cons_succ, List.getElem?_cons_zero, List.set_cons_zero, List.set_cons_succ, GC_s, GC_n, GK_nil, GK_no, GK_yes, not_false_eq_true, back_eq, back_hp, inI_eq, inA_eq, true_and, and_true, and_self, if_true, if_false, bI_0, bI_1, bI_in, bI_T, bI_F, fitF, jmpF, nlF, pjA, iVal.eta, iYr.eta, List.getElem?_toArray, List.length_cons, List.length_nil, true_or, or_true, or_false, false_or, Classical.not_not, Bool.false_eq_true, hp_2, Nat.zero_le, Nat.le_refl, Option.some.injEq, Sum.inl.injEq, Sum.inr.injEq, not_true_eq_false, true_implies, false_implies, implies_true, Int.le_refl, rd_o, rd_o_s, hr, row_len, inA_one, inA_lik, inA_cpl, isOne_eq hO hr, isCouple_eq hO hr, isIn_eq, atOne_eq, atLike_eq, atCouple_eq, r_num, q_n0, q_n1, r_cp, r_dy, r_sl, r_who, q_kind, q_fig, q_dep, q_bnd, q_lik, q_man, q_wom, q_sta, q_dds, orNoneR_eq, Int.zero_add, gX12_thaw, c1, b1, b2, b3, b4, i_n, i_t, ci, ii, gr, el]
  have z := @tzR_loop sp sc 19 A (fun x y => x = some (.inl (tellV (thAt t n th0 m) i)) ∧ y = hp (A.sFT F' G')) A.mo.fi A.mo.th M hM lF c (n : Int) (t : Int) i (m : Int) M 0 (by omega) (by
    have e1 : (448 : Int) ≤ (M : Int) := by omega
    have i2 : inI (M : Int) = true := inI_of (by omega) (by omega)
    have e0 : (0 : Int).toNat = 0 := rfl
    refine G_run (B := [68, 100, 109, 148, 220]) 60 _ _ _ _ ?_
    simp (disch := first | assumption | rfl | exact inI_of (by omega) (by omega) | omega | decide | (simp only [sv_ext, sv_mc, Nat.le_refl]; done) | with_unfolding_all (refine @id _ ?_; first | exact Eq.refl _ | exact Nat.le_refl _ | assumption)) only [Nat.reduceAdd, Nat.reduceMul, Nat.reduceLeDiff, Nat.reduceLT, Int.reduceAdd, Int.reduceSub, Int.reduceMul, Int.reduceNeg, Int.reduceLE, Int.reduceLT, Int.reduceToNat, Int.reduceEq, reduceCtorEq, ld_z, ld_s, st1_0, st1_1, st1_s, st2_0, st2_1, st2_s, isJ_i, isJ_r, isJ_n, isJ_l, cs_nil, cs_i, cs_r, cs_l, kF, List.getElem?_cons_succ, List.getElem?_cons_zero, List.set_cons_zero, List.set_cons_succ, GC_s, GC_n, GK_nil, GK_no, GK_yes, not_false_eq_true, back_eq, back_hp, inI_eq, inA_eq, true_and, and_true, and_self, if_true, if_false, bI_0, bI_1, bI_in, bI_T, bI_F, fitF, jmpF, nlF, pjA, iVal.eta, iYr.eta, List.getElem?_toArray, List.length_cons, List.length_nil, true_or, or_true, or_false, false_or, Classical.not_not, Bool.false_eq_true, hp_2, Nat.zero_le, Nat.le_refl, Option.some.injEq, Sum.inl.injEq, Sum.inr.injEq, not_true_eq_false, true_implies, false_implies, implies_true, Int.le_refl, gX12_thaw, rd_o, rd_o_fi, sFT_fi, lp, e1, i2, e0, wr_FTf]
    exact k3 _ (fun o7 => teR_end m6 hV k1.1 hf ii i_n ⟨rfl, rfl⟩) _)
  exact z
theorem ag_thaw (hR : Rel A) {c n t i : Int} (ic : inI c = true) (in_ : inI n = true) (it : inI t = true) (ii : inI i = true) : Agree sp sc mX11_thaw mX12_thaw [.inl c, .inl n, .inl t, .inl i] A := by
  have hO := hR.now
  have hr := hR.row
  have hcp := hO.cp
  by_cases c1 : 0 ≤ c ∧ c < A.now.cp
  · by_cases c2 : 0 ≤ n ∧ n ≤ 60
    · by_cases c3 : 1 ≤ t ∧ t ≤ 9
      · by_cases c4 : -1 ≤ i
        · by_cases c5 : A.now.sta c = 0
          · obtain ⟨n, rfl⟩ : ∃ m : Nat, n = m := ⟨n.toNat, by omega⟩
            obtain ⟨t, rfl⟩ : ∃ m : Nat, t = m := ⟨t.toNat, by omega⟩
            obtain ⟨f', k1, k2⟩ := @thC_eq sp sc A hR c i n t c1 (by omega) (by omega) (by omega) ii c4 c5
            have hR1 := rel_sPt hR k1
            obtain ⟨F', G', g1, g2, g3⟩ := @thR_eq sp sc (A.sPt f') hR1 c i n t c1 (by omega) (by omega) (by omega) ii c4 c5
            have tb := @tell_b (thAt t n th0 (6 - A.now.dds c).toNat) i
            exact Agree.of (tellV (thAt t n th0 (6 - A.now.dds c).toNat) i) (A.sPt f') ((A.sPt f').sFT F' G') (inI_of (by omega) (by omega)) k2 g3 rfl rfl (rel_sFT hR1 g1 g2)
          · have go : ∀ Q, Call sp sc 18 mX8_goesOn [.inr (.inr (vb .now + 2)), .inl c] (hp A) Q = Q (some (.inl 0)) (hp A) := fun Q => by
              have := @goesOn_eq sp sc 18 A .now Q hO c c1.1 (by omega)
              rw [this]
              have e : (A.v .now).sta c = A.now.sta c := rfl
              rw [e, bI_f c5]
            have gr : ∀ Q, Call sp sc 18 mX12_goesOn [.inr (.inr 141), .inl c] (hp A) Q = Q (some (.inl 0)) (hp A) := fun Q => by
              have := @goesOnR_eq sp sc 17 A .s A.ry Q A.now A.now.dy hO c c1.1 (by omega)
              have es : A.sro .s (rowOf A.now A.now.dy) A.ry = A := by rw [← hr]; exact sro_id
              rw [es, bI_f c5] at this
              exact this
            have b1 : ¬ t < 1 := by omega
            have b2 : ¬ 9 < t := by omega
            refine Agree.of (-3) A A rfl (fun Q => Call_eq ?_) (fun Q => Call_eq ?_) rfl rfl hR
            · apply eX11_thaw 60; simp (disch := first | assumption | rfl | exact inI_of (by omega) (by omega) | omega | decide | (simp only [sv_ext, sv_mc, Nat.le_refl]; done) | with_unfolding_all (refine @id _ ?_; first | exact Eq.refl _ | exact Nat.le_refl _ | assumption)) only [Nat.reduceAdd, Nat.reduceMul, Nat.reduceLeDiff, Nat.reduceLT, Int.reduceAdd, Int.reduceSub, Int.reduceMul, Int.reduceNeg, Int.reduceLE, Int.reduceLT, Int.reduceToNat, Int.reduceEq, reduceCtorEq, ld_z, ld_s, st1_0, st1_1, st1_s, st2_0, st2_1, st2_s, isJ_i, isJ_r, isJ_n, isJ_l, cs_nil, cs_i, cs_r, cs_l, kF, List.getElem?_cons_succ, List.getElem?_cons_zero, List.set_cons_zero, List.set_cons_succ, GC_s, GC_n, GK_nil, GK_no, GK_yes, not_false_eq_true, back_eq, back_hp, inI_eq, inA_eq, true_and, and_true, and_self, if_true, if_false, bI_0, bI_1, bI_in, bI_T, bI_F, fitF, jmpF, nlF, pjA, iVal.eta, iYr.eta, List.getElem?_toArray, List.length_cons, List.length_nil, true_or, or_true, or_false, false_or, Classical.not_not, Bool.false_eq_true, hp_2, Nat.zero_le, Nat.le_refl, Option.some.injEq, Sum.inl.injEq, Sum.inr.injEq, not_true_eq_false, true_implies, false_implies, implies_true, Int.le_refl, rd_v, f_num, f_lik, f_dep, f_bnd, f_man, f_wom, f_sta, f_dds, f_who, rd_e, v_now, hasOne_eq, hasTwo_eq, hasCouple_eq, orNone_eq, natureOf_eq, rd_nat, place_eq, rd_v1, rd_v3, rd_v4, rd_v6, rd_v7, rd_v8, rd_v9, rd_v10, isShelf_eq, isSide_eq, isDeed_eq, isKind_eq, isMindSpan_eq, gX11_thaw, ii, it, in_, c1, c2, c4, b1, b2, go]
            · apply eX12_thaw 60; simp (disch := first | assumption | rfl | exact inI_of (by omega) (by omega) | omega | decide | (simp only [sv_ext, sv_mc, Nat.le_refl]; done) | with_unfolding_all (refine @id _ ?_; first | exact Eq.refl _ | exact Nat.le_refl _ | assumption)) only [Nat.reduceAdd, Nat.reduceMul, Nat.reduceLeDiff, Nat.reduceLT, Int.reduceAdd, Int.reduceSub, Int.reduceMul, Int.reduceNeg, Int.reduceLE, Int.reduceLT, Int.reduceToNat, Int.reduceEq, reduceCtorEq, ld_z, ld_s, st1_0, st1_1, st1_s, st2_0, st2_1, st2_s, isJ_i, isJ_r, isJ_n, isJ_l, cs_nil, cs_i, cs_r, cs_l, kF, List.getElem?_cons_succ, List.getElem?_cons_zero, List.set_cons_zero, List.set_cons_succ, GC_s, GC_n, GK_nil, GK_no, GK_yes, not_false_eq_true, back_eq, back_hp, inI_eq, inA_eq, true_and, and_true, and_self, if_true, if_false, bI_0, bI_1, bI_in, bI_T, bI_F, fitF, jmpF, nlF, pjA, iVal.eta, iYr.eta, List.getElem?_toArray, List.length_cons, List.length_nil, true_or, or_true, or_false, false_or, Classical.not_not, Bool.false_eq_true, hp_2, Nat.zero_le, Nat.le_refl, Option.some.injEq, Sum.inl.injEq, Sum.inr.injEq, not_true_eq_false, true_implies, false_implies, implies_true, Int.le_refl, rd_o, rd_o_s, hr, row_len, inA_one, inA_lik, inA_cpl, isOne_eq hO hr, isCouple_eq hO hr, isIn_eq, atOne_eq, atLike_eq, atCouple_eq, r_num, q_n0, q_n1, r_cp, r_dy, r_sl, r_who, q_kind, q_fig, q_dep, q_bnd, q_lik, q_man, q_wom, q_sta, q_dds, orNoneR_eq, Int.zero_add, gX12_thaw, ii, it, in_, c1, c2, c3, c4, gr]
        · have b1 : ¬ t < 1 := by omega
          have b2 : ¬ 9 < t := by omega
          refine Agree.of (-1) A A rfl (fun Q => Call_eq ?_) (fun Q => Call_eq ?_) rfl rfl hR
          · apply eX11_thaw 60; simp (disch := first | assumption | rfl | exact inI_of (by omega) (by omega) | omega | decide | (simp only [sv_ext, sv_mc, Nat.le_refl]; done) | with_unfolding_all (refine @id _ ?_; first | exact Eq.refl _ | exact Nat.le_refl _ | assumption)) only [Nat.reduceAdd, Nat.reduceMul, Nat.reduceLeDiff, Nat.reduceLT, Int.reduceAdd, Int.reduceSub, Int.reduceMul, Int.reduceNeg, Int.reduceLE, Int.reduceLT, Int.reduceToNat, Int.reduceEq, reduceCtorEq, ld_z, ld_s, st1_0, st1_1, st1_s, st2_0, st2_1, st2_s, isJ_i, isJ_r, isJ_n, isJ_l, cs_nil, cs_i, cs_r, cs_l, kF, List.getElem?_cons_succ, List.getElem?_cons_zero, List.set_cons_zero, List.set_cons_succ, GC_s, GC_n, GK_nil, GK_no, GK_yes, not_false_eq_true, back_eq, back_hp, inI_eq, inA_eq, true_and, and_true, and_self, if_true, if_false, bI_0, bI_1, bI_in, bI_T, bI_F, fitF, jmpF, nlF, pjA, iVal.eta, iYr.eta, List.getElem?_toArray, List.length_cons, List.length_nil, true_or, or_true, or_false, false_or, Classical.not_not, Bool.false_eq_true, hp_2, Nat.zero_le, Nat.le_refl, Option.some.injEq, Sum.inl.injEq, Sum.inr.injEq, not_true_eq_false, true_implies, false_implies, implies_true, Int.le_refl, rd_v, f_num, f_lik, f_dep, f_bnd, f_man, f_wom, f_sta, f_dds, f_who, rd_e, v_now, hasOne_eq, hasTwo_eq, hasCouple_eq, orNone_eq, natureOf_eq, rd_nat, place_eq, rd_v1, rd_v3, rd_v4, rd_v6, rd_v7, rd_v8, rd_v9, rd_v10, isShelf_eq, isSide_eq, isDeed_eq, isKind_eq, isMindSpan_eq, gX11_thaw, ii, it, in_, c1, c2, c4, b1, b2]
          · apply eX12_thaw 60; simp (disch := first | assumption | rfl | exact inI_of (by omega) (by omega) | omega | decide | (simp only [sv_ext, sv_mc, Nat.le_refl]; done) | with_unfolding_all (refine @id _ ?_; first | exact Eq.refl _ | exact Nat.le_refl _ | assumption)) only [Nat.reduceAdd, Nat.reduceMul, Nat.reduceLeDiff, Nat.reduceLT, Int.reduceAdd, Int.reduceSub, Int.reduceMul, Int.reduceNeg, Int.reduceLE, Int.reduceLT, Int.reduceToNat, Int.reduceEq, reduceCtorEq, ld_z, ld_s, st1_0, st1_1, st1_s, st2_0, st2_1, st2_s, isJ_i, isJ_r, isJ_n, isJ_l, cs_nil, cs_i, cs_r, cs_l, kF, List.getElem?_cons_succ, List.getElem?_cons_zero, List.set_cons_zero, List.set_cons_succ, GC_s, GC_n, GK_nil, GK_no, GK_yes, not_false_eq_true, back_eq, back_hp, inI_eq, inA_eq, true_and, and_true, and_self, if_true, if_false, bI_0, bI_1, bI_in, bI_T, bI_F, fitF, jmpF, nlF, pjA, iVal.eta, iYr.eta, List.getElem?_toArray, List.length_cons, List.length_nil, true_or, or_true, or_false, false_or, Classical.not_not, Bool.false_eq_true, hp_2, Nat.zero_le, Nat.le_refl, Option.some.injEq, Sum.inl.injEq, Sum.inr.injEq, not_true_eq_false, true_implies, false_implies, implies_true, Int.le_refl, rd_o, rd_o_s, hr, row_len, inA_one, inA_lik, inA_cpl, isOne_eq hO hr, isCouple_eq hO hr, isIn_eq, atOne_eq, atLike_eq, atCouple_eq, r_num, q_n0, q_n1, r_cp, r_dy, r_sl, r_who, q_kind, q_fig, q_dep, q_bnd, q_lik, q_man, q_wom, q_sta, q_dds, orNoneR_eq, Int.zero_add, gX12_thaw, ii, it, in_, c1, c2, c3, c4]
      · refine Agree.of (-1) A A rfl (fun Q => Call_eq ?_) (fun Q => Call_eq ?_) rfl rfl hR
        · by_cases b1 : t < 1
          · apply eX11_thaw 60; simp (disch := first | assumption | rfl | exact inI_of (by omega) (by omega) | omega | decide | (simp only [sv_ext, sv_mc, Nat.le_refl]; done) | with_unfolding_all (refine @id _ ?_; first | exact Eq.refl _ | exact Nat.le_refl _ | assumption)) only [Nat.reduceAdd, Nat.reduceMul, Nat.reduceLeDiff, Nat.reduceLT, Int.reduceAdd, Int.reduceSub, Int.reduceMul, Int.reduceNeg, Int.reduceLE, Int.reduceLT, Int.reduceToNat, Int.reduceEq, reduceCtorEq, ld_z, ld_s, st1_0, st1_1, st1_s, st2_0, st2_1, st2_s, isJ_i, isJ_r, isJ_n, isJ_l, cs_nil, cs_i, cs_r, cs_l, kF, List.getElem?_cons_succ, List.getElem?_cons_zero, List.set_cons_zero, List.set_cons_succ, GC_s, GC_n, GK_nil, GK_no, GK_yes, not_false_eq_true, back_eq, back_hp, inI_eq, inA_eq, true_and, and_true, and_self, if_true, if_false, bI_0, bI_1, bI_in, bI_T, bI_F, fitF, jmpF, nlF, pjA, iVal.eta, iYr.eta, List.getElem?_toArray, List.length_cons, List.length_nil, true_or, or_true, or_false, false_or, Classical.not_not, Bool.false_eq_true, hp_2, Nat.zero_le, Nat.le_refl, Option.some.injEq, Sum.inl.injEq, Sum.inr.injEq, not_true_eq_false, true_implies, false_implies, implies_true, Int.le_refl, rd_v, f_num, f_lik, f_dep, f_bnd, f_man, f_wom, f_sta, f_dds, f_who, rd_e, v_now, hasOne_eq, hasTwo_eq, hasCouple_eq, orNone_eq, natureOf_eq, rd_nat, place_eq, rd_v1, rd_v3, rd_v4, rd_v6, rd_v7, rd_v8, rd_v9, rd_v10, isShelf_eq, isSide_eq, isDeed_eq, isKind_eq, isMindSpan_eq, gX11_thaw, ii, it, in_, c1, c2, b1]
          · have b2 : 9 < t := by omega
            apply eX11_thaw 60; simp (disch := first | assumption | rfl | exact inI_of (by omega) (by omega) | omega | decide | (simp only [sv_ext, sv_mc, Nat.le_refl]; done) | with_unfolding_all (refine @id _ ?_; first | exact Eq.refl _ | exact Nat.le_refl _ | assumption)) only [Nat.reduceAdd, Nat.reduceMul, Nat.reduceLeDiff, Nat.reduceLT, Int.reduceAdd, Int.reduceSub, Int.reduceMul, Int.reduceNeg, Int.reduceLE, Int.reduceLT, Int.reduceToNat, Int.reduceEq, reduceCtorEq, ld_z, ld_s, st1_0, st1_1, st1_s, st2_0, st2_1, st2_s, isJ_i, isJ_r, isJ_n, isJ_l, cs_nil, cs_i, cs_r, cs_l, kF, List.getElem?_cons_succ, List.getElem?_cons_zero, List.set_cons_zero, List.set_cons_succ, GC_s, GC_n, GK_nil, GK_no, GK_yes, not_false_eq_true, back_eq, back_hp, inI_eq, inA_eq, true_and, and_true, and_self, if_true, if_false, bI_0, bI_1, bI_in, bI_T, bI_F, fitF, jmpF, nlF, pjA, iVal.eta, iYr.eta, List.getElem?_toArray, List.length_cons, List.length_nil, true_or, or_true, or_false, false_or, Classical.not_not, Bool.false_eq_true, hp_2, Nat.zero_le, Nat.le_refl, Option.some.injEq, Sum.inl.injEq, Sum.inr.injEq, not_true_eq_false, true_implies, false_implies, implies_true, Int.le_refl, rd_v, f_num, f_lik, f_dep, f_bnd, f_man, f_wom, f_sta, f_dds, f_who, rd_e, v_now, hasOne_eq, hasTwo_eq, hasCouple_eq, orNone_eq, natureOf_eq, rd_nat, place_eq, rd_v1, rd_v3, rd_v4, rd_v6, rd_v7, rd_v8, rd_v9, rd_v10, isShelf_eq, isSide_eq, isDeed_eq, isKind_eq, isMindSpan_eq, gX11_thaw, ii, it, in_, c1, c2, b1, b2]
        · apply eX12_thaw 60; simp (disch := first | assumption | rfl | exact inI_of (by omega) (by omega) | omega | decide | (simp only [sv_ext, sv_mc, Nat.le_refl]; done) | with_unfolding_all (refine @id _ ?_; first | exact Eq.refl _ | exact Nat.le_refl _ | assumption)) only [Nat.reduceAdd, Nat.reduceMul, Nat.reduceLeDiff, Nat.reduceLT, Int.reduceAdd, Int.reduceSub, Int.reduceMul, Int.reduceNeg, Int.reduceLE, Int.reduceLT, Int.reduceToNat, Int.reduceEq, reduceCtorEq, ld_z, ld_s, st1_0, st1_1, st1_s, st2_0, st2_1, st2_s, isJ_i, isJ_r, isJ_n, isJ_l, cs_nil, cs_i, cs_r, cs_l, kF, List.getElem?_cons_succ, List.getElem?_cons_zero, List.set_cons_zero, List.set_cons_succ, GC_s, GC_n, GK_nil, GK_no, GK_yes, not_false_eq_true, back_eq, back_hp, inI_eq, inA_eq, true_and, and_true, and_self, if_true, if_false, bI_0, bI_1, bI_in, bI_T, bI_F, fitF, jmpF, nlF, pjA, iVal.eta, iYr.eta, List.getElem?_toArray, List.length_cons, List.length_nil, true_or, or_true, or_false, false_or, Classical.not_not, Bool.false_eq_true, hp_2, Nat.zero_le, Nat.le_refl, Option.some.injEq, Sum.inl.injEq, Sum.inr.injEq, not_true_eq_false, true_implies, false_implies, implies_true, Int.le_refl, rd_o, rd_o_s, hr, row_len, inA_one, inA_lik, inA_cpl, isOne_eq hO hr, isCouple_eq hO hr, isIn_eq, atOne_eq, atLike_eq, atCouple_eq, r_num, q_n0, q_n1, r_cp, r_dy, r_sl, r_who, q_kind, q_fig, q_dep, q_bnd, q_lik, q_man, q_wom, q_sta, q_dds, orNoneR_eq, Int.zero_add, gX12_thaw, ii, it, in_, c1, c2, c3]
    · refine Agree.of (-1) A A rfl (fun Q => Call_eq ?_) (fun Q => Call_eq ?_) rfl rfl hR
      · apply eX11_thaw 60; simp (disch := first | assumption | rfl | exact inI_of (by omega) (by omega) | omega | decide | (simp only [sv_ext, sv_mc, Nat.le_refl]; done) | with_unfolding_all (refine @id _ ?_; first | exact Eq.refl _ | exact Nat.le_refl _ | assumption)) only [Nat.reduceAdd, Nat.reduceMul, Nat.reduceLeDiff, Nat.reduceLT, Int.reduceAdd, Int.reduceSub, Int.reduceMul, Int.reduceNeg, Int.reduceLE, Int.reduceLT, Int.reduceToNat, Int.reduceEq, reduceCtorEq, ld_z, ld_s, st1_0, st1_1, st1_s, st2_0, st2_1, st2_s, isJ_i, isJ_r, isJ_n, isJ_l, cs_nil, cs_i, cs_r, cs_l, kF, List.getElem?_cons_succ, List.getElem?_cons_zero, List.set_cons_zero, List.set_cons_succ, GC_s, GC_n, GK_nil, GK_no, GK_yes, not_false_eq_true, back_eq, back_hp, inI_eq, inA_eq, true_and, and_true, and_self, if_true, if_false, bI_0, bI_1, bI_in, bI_T, bI_F, fitF, jmpF, nlF, pjA, iVal.eta, iYr.eta, List.getElem?_toArray, List.length_cons, List.length_nil, true_or, or_true, or_false, false_or, Classical.not_not, Bool.false_eq_true, hp_2, Nat.zero_le, Nat.le_refl, Option.some.injEq, Sum.inl.injEq, Sum.inr.injEq, not_true_eq_false, true_implies, false_implies, implies_true, Int.le_refl, rd_v, f_num, f_lik, f_dep, f_bnd, f_man, f_wom, f_sta, f_dds, f_who, rd_e, v_now, hasOne_eq, hasTwo_eq, hasCouple_eq, orNone_eq, natureOf_eq, rd_nat, place_eq, rd_v1, rd_v3, rd_v4, rd_v6, rd_v7, rd_v8, rd_v9, rd_v10, isShelf_eq, isSide_eq, isDeed_eq, isKind_eq, isMindSpan_eq, gX11_thaw, ii, it, in_, c1, c2]
      · apply eX12_thaw 60; simp (disch := first | assumption | rfl | exact inI_of (by omega) (by omega) | omega | decide | (simp only [sv_ext, sv_mc, Nat.le_refl]; done) | with_unfolding_all (refine @id _ ?_; first | exact Eq.refl _ | exact Nat.le_refl _ | assumption)) only [Nat.reduceAdd, Nat.reduceMul, Nat.reduceLeDiff, Nat.reduceLT, Int.reduceAdd, Int.reduceSub, Int.reduceMul, Int.reduceNeg, Int.reduceLE, Int.reduceLT, Int.reduceToNat, Int.reduceEq, reduceCtorEq, ld_z, ld_s, st1_0, st1_1, st1_s, st2_0, st2_1, st2_s, isJ_i, isJ_r, isJ_n, isJ_l, cs_nil, cs_i, cs_r, cs_l, kF, List.getElem?_cons_succ, List.getElem?_cons_zero, List.set_cons_zero, List.set_cons_succ, GC_s, GC_n, GK_nil, GK_no, GK_yes, not_false_eq_true, back_eq, back_hp, inI_eq, inA_eq, true_and, and_true, and_self, if_true, if_false, bI_0, bI_1, bI_in, bI_T, bI_F, fitF, jmpF, nlF, pjA, iVal.eta, iYr.eta, List.getElem?_toArray, List.length_cons, List.length_nil, true_or, or_true, or_false, false_or, Classical.not_not, Bool.false_eq_true, hp_2, Nat.zero_le, Nat.le_refl, Option.some.injEq, Sum.inl.injEq, Sum.inr.injEq, not_true_eq_false, true_implies, false_implies, implies_true, Int.le_refl, rd_o, rd_o_s, hr, row_len, inA_one, inA_lik, inA_cpl, isOne_eq hO hr, isCouple_eq hO hr, isIn_eq, atOne_eq, atLike_eq, atCouple_eq, r_num, q_n0, q_n1, r_cp, r_dy, r_sl, r_who, q_kind, q_fig, q_dep, q_bnd, q_lik, q_man, q_wom, q_sta, q_dds, orNoneR_eq, Int.zero_add, gX12_thaw, ii, it, in_, c1, c2]
  · refine Agree.of (-1) A A rfl (fun Q => Call_eq ?_) (fun Q => Call_eq ?_) rfl rfl hR
    · apply eX11_thaw 60; simp (disch := first | assumption | rfl | exact inI_of (by omega) (by omega) | omega | decide | (simp only [sv_ext, sv_mc, Nat.le_refl]; done) | with_unfolding_all (refine @id _ ?_; first | exact Eq.refl _ | exact Nat.le_refl _ | assumption)) only [Nat.reduceAdd, Nat.reduceMul, Nat.reduceLeDiff, Nat.reduceLT, Int.reduceAdd, Int.reduceSub, Int.reduceMul, Int.reduceNeg, Int.reduceLE, Int.reduceLT, Int.reduceToNat, Int.reduceEq, reduceCtorEq, ld_z, ld_s, st1_0, st1_1, st1_s, st2_0, st2_1, st2_s, isJ_i, isJ_r, isJ_n, isJ_l, cs_nil, cs_i, cs_r, cs_l, kF, List.getElem?_cons_succ, List.getElem?_cons_zero, List.set_cons_zero, List.set_cons_succ, GC_s, GC_n, GK_nil, GK_no, GK_yes, not_false_eq_true, back_eq, back_hp, inI_eq, inA_eq, true_and, and_true, and_self, if_true, if_false, bI_0, bI_1, bI_in, bI_T, bI_F, fitF, jmpF, nlF, pjA, iVal.eta, iYr.eta, List.getElem?_toArray, List.length_cons, List.length_nil, true_or, or_true, or_false, false_or, Classical.not_not, Bool.false_eq_true, hp_2, Nat.zero_le, Nat.le_refl, Option.some.injEq, Sum.inl.injEq, Sum.inr.injEq, not_true_eq_false, true_implies, false_implies, implies_true, Int.le_refl, rd_v, f_num, f_lik, f_dep, f_bnd, f_man, f_wom, f_sta, f_dds, f_who, rd_e, v_now, hasOne_eq, hasTwo_eq, hasCouple_eq, orNone_eq, natureOf_eq, rd_nat, place_eq, rd_v1, rd_v3, rd_v4, rd_v6, rd_v7, rd_v8, rd_v9, rd_v10, isShelf_eq, isSide_eq, isDeed_eq, isKind_eq, isMindSpan_eq, gX11_thaw, ii, it, in_, c1]
    · apply eX12_thaw 60; simp (disch := first | assumption | rfl | exact inI_of (by omega) (by omega) | omega | decide | (simp only [sv_ext, sv_mc, Nat.le_refl]; done) | with_unfolding_all (refine @id _ ?_; first | exact Eq.refl _ | exact Nat.le_refl _ | assumption)) only [Nat.reduceAdd, Nat.reduceMul, Nat.reduceLeDiff, Nat.reduceLT, Int.reduceAdd, Int.reduceSub, Int.reduceMul, Int.reduceNeg, Int.reduceLE, Int.reduceLT, Int.reduceToNat, Int.reduceEq, reduceCtorEq, ld_z, ld_s, st1_0, st1_1, st1_s, st2_0, st2_1, st2_s, isJ_i, isJ_r, isJ_n, isJ_l, cs_nil, cs_i, cs_r, cs_l, kF, List.getElem?_cons_succ, List.getElem?_cons_zero, List.set_cons_zero, List.set_cons_succ, GC_s, GC_n, GK_nil, GK_no, GK_yes, not_false_eq_true, back_eq, back_hp, inI_eq, inA_eq, true_and, and_true, and_self, if_true, if_false, bI_0, bI_1, bI_in, bI_T, bI_F, fitF, jmpF, nlF, pjA, iVal.eta, iYr.eta, List.getElem?_toArray, List.length_cons, List.length_nil, true_or, or_true, or_false, false_or, Classical.not_not, Bool.false_eq_true, hp_2, Nat.zero_le, Nat.le_refl, Option.some.injEq, Sum.inl.injEq, Sum.inr.injEq, not_true_eq_false, true_implies, false_implies, implies_true, Int.le_refl, rd_o, rd_o_s, hr, row_len, inA_one, inA_lik, inA_cpl, isOne_eq hO hr, isCouple_eq hO hr, isIn_eq, atOne_eq, atLike_eq, atCouple_eq, r_num, q_n0, q_n1, r_cp, r_dy, r_sl, r_who, q_kind, q_fig, q_dep, q_bnd, q_lik, q_man, q_wom, q_sta, q_dds, orNoneR_eq, Int.zero_add, gX12_thaw, ii, it, in_, c1]
end OPS
