set_option maxRecDepth 16384
/-! ===== thaw: all days, the answer ===== -/
def thAt (t : Nat) : Nat → (Nat → Nat) → (Nat → Nat)
  | 0, a => a
  | n + 1, a => thAt t n (aVn t a)
def thEt (t m : Nat) : Nat → (Nat → Nat) → (Nat → Nat)
  | 0, E => E
  | n + 1, E => thEt t m n (eVn t m E)
def thAE (m : Nat) (a E : Nat → Nat) : Prop := E m = a m ∧ ∀ d, d < m → a d = a (d + 1) + E d
def th0 (d : Nat) : Nat := if d = 0 then 1 else 0
theorem thAE_step {t m : Nat} (t9 : t ≤ 9) {a E : Nat → Nat} (h : thAE m a E) : thAE m (aVn t a) (eVn t m E) := by
  obtain ⟨s, hs⟩ : ∃ s, s = 10 - t := ⟨_, rfl⟩
  have hst : s + t = 10 := by omega
  have m10 : ∀ x : Nat, x * 10 = x * s + x * t := fun x => by rw [← hst, Nat.mul_add]
  refine ⟨?_, fun d hd => ?_⟩
  · unfold eVn
    rw [if_pos rfl, h.1]
    cases m with
    | zero => rw [if_pos rfl, Nat.zero_mul, Nat.add_zero]; rfl
    | succ k =>
      have e := h.2 k (by omega)
      rw [if_neg (by omega)]
      show a (k + 1) * 10 + E (k + 1 - 1) * t = a (k + 1) * (10 - t) + a k * t
      rw [← hs, m10, e, Nat.add_mul]
      have : k + 1 - 1 = k := by omega
      rw [this]
      omega
  · have e := h.2 d hd
    unfold eVn
    rw [if_neg (by omega), ← hs]
    show aVn t a d = a (d + 1) * (10 - t) + a d * t + (E d * s + _)
    rw [← hs]
    cases d with
    | zero =>
      rw [if_pos rfl, Nat.zero_mul, Nat.add_zero]
      show a 0 * 10 = _
      rw [m10]
      have : a 0 * s = a 1 * s + E 0 * s := by rw [← Nat.add_mul]; exact congrArg (· * s) e
      omega
    | succ k =>
      have e2 := h.2 k (by omega)
      rw [if_neg (by omega)]
      show a (k + 1) * (10 - t) + a k * t = _
      have : k + 1 - 1 = k := by omega
      rw [this, ← hs]
      have x1 : a (k + 1) * s = a (k + 1 + 1) * s + E (k + 1) * s := by rw [← Nat.add_mul]; exact congrArg (· * s) e
      have x2 : a k * t = a (k + 1) * t + E k * t := by rw [← Nat.add_mul]; exact congrArg (· * t) e2
      omega
theorem thAE_it {t m : Nat} (t9 : t ≤ 9) : ∀ (n : Nat) (a E : Nat → Nat), thAE m a E → thAE m (thAt t n a) (thEt t m n E) := by
  intro n
  induction n with
  | zero => intro a E h; exact h
  | succ n ih => intro a E h; exact ih _ _ (thAE_step t9 h)
theorem th0_ae (m : Nat) : thAE m th0 th0 := by
  refine ⟨rfl, fun d _ => ?_⟩
  unfold th0
  rw [if_neg (show ¬ d + 1 = 0 by omega), Nat.zero_add]
theorem thAt_b {t : Nat} (t9 : t ≤ 9) : ∀ (n M : Nat) (a : Nat → Nat), (∀ d, a d ≤ M) → ∀ d, thAt t n a d ≤ M * 10 ^ n := by
  intro n
  induction n with
  | zero => intro M a h d; rw [Nat.pow_zero, Nat.mul_one]; exact h d
  | succ n ih =>
    intro M a h d
    have := ih (M * 10) (aVn t a) (fun d => by
      cases d with
      | zero => exact Nat.mul_le_mul_right _ (h 0)
      | succ d =>
        show a (d + 1) * (10 - t) + a d * t ≤ M * 10
        have h1 : a (d + 1) * (10 - t) ≤ M * (10 - t) := Nat.mul_le_mul_right _ (h _)
        have h2 : a d * t ≤ M * t := Nat.mul_le_mul_right _ (h _)
        have h3 : M * 10 = M * (10 - t) + M * t := by rw [← Nat.mul_add]; congr 1; omega
        omega) d
    rw [p10, ← Nat.mul_assoc]
    exact this
theorem thV_b {t n m : Nat} (t9 : t ≤ 9) (hn : n ≤ 60) : thAt t n th0 m < 10 ^ 64 := by
  have b := thAt_b t9 n 1 th0 (fun d => by unfold th0; split <;> omega) m
  rw [Nat.one_mul] at b
  exact Nat.lt_of_le_of_lt b (Nat.pow_lt_pow_right (by omega) (by omega))
section OPS
variable {sp : Nat → List iV → iH → Option (Option iV × iH)} {sc : List Int} {d : Nat} {A : iA} {Q : Option iV → iH → Prop} {h : iH} {X : iVal} {e g B : Int} {U W V : Nat} {F G F' G' : List Int}
theorem tiC_loop {m : Nat} (hm : m ≤ 6) {c n t i : Int} : ∀ (q j : Nat) (f : Nat → List Int), j + q = m + 1 → 1 ≤ j → (∀ D, D < 7 → (f D).length = 8) → (∀ D, D < j → repL (f D) (th0 D)) → ∃ f', gF f' th0 m ∧ ∀ Q, Run sp sc (d + 1) mX11_thaw 78 [some (.inr (.inr 2)), some (.inl c), some (.inl n), some (.inl t), some (.inl i), some (.inl (m : Int)), some (.inl ((m + 1 : Nat) : Int)), none] [] (hp (A.sPt f')) Q → Run sp sc (d + 1) mX11_thaw 78 [some (.inr (.inr 2)), some (.inl c), some (.inl n), some (.inl t), some (.inl i), some (.inl (m : Int)), some (.inl (j : Int)), none] [] (hp (A.sPt f)) Q := by
  have lps : ([126, 128, 130, 132, 134, 136, 138] : List Nat).length = 7 := rfl
  have zero : (((0 : Fin 2).val : Nat) : Int) = 0 := rfl
  intro q
  induction q with
  | zero =>
    intro j f hj h1 h8 hf
    have e : j = m + 1 := by omega
    subst e
    exact ⟨f, ⟨h8, fun D hD => hf D (by omega)⟩, fun Q hQ => hQ⟩
  | succ q ih =>
    intro j f hj h1 h8 hf
    have l8 : ((A.sPt f).pt j).length = 8 := h8 j (by omega)
    have be := fun Q => @become_eq sp sc d (A.sPt f) Q j 0 (by omega) l8 (by omega)
    rw [sPt_sP] at be
    have be : ∀ Q, Call sp sc d mX2_become [.inr (.inr (124 + 2 * j + 2)), .inr (.inl 0)] (hp (A.sPt f)) Q = Q none (hp (A.sPt (fun e => if e = j then pfx (lbF 0) 8 ((A.sPt f).pt j) else f e))) := be
    have rn := rep_become (V := 0) l8
    obtain ⟨f', g1, g2⟩ := ih (j + 1) (fun e => if e = j then pfx (lbF 0) 8 ((A.sPt f).pt j) else f e) (by omega) (by omega) (fun D hD => by
      by_cases z : D = j
      · rw [if_pos z]; exact rn.1
      · rw [if_neg z]; exact h8 D hD) (fun D hD => by
      by_cases z : D = j
      · have : th0 D = 0 := if_neg (by omega)
        rw [if_pos z, this]; exact rn
      · rw [if_neg z]; exact hf D (by omega))
    refine ⟨f', g1, fun Q hQ => ?_⟩
    have g2 := g2 Q hQ
    have e1 : ¬ (m : Int) < (j : Int) := by omega
    have e4 : (j : Int) + 1 = ((j + 1 : Nat) : Int) := by omega
    have p1 := ps_at (d := (j : Int)) (by omega) (by omega)
    have q1 : ((j : Nat) : Int).toNat = j := by omega
    rw [q1] at p1
    have hj7 : j < 7 := by omega
    refine G_run (B := [78, 105, 115]) 60 _ _ _ _ ?_
    simp (disch := first | assumption | rfl | exact inI_of (by omega) (by omega) | omega | decide | (simp only [sv_ext, sv_mc, Nat.le_refl]; done) | with_unfolding_all (refine @id _ ?_; first | exact Eq.refl _ | exact Nat.le_refl _ | assumption)) only [Nat.reduceAdd, Nat.reduceMul, Nat.reduceLeDiff, Nat.reduceLT, Int.reduceAdd, Int.reduceSub, Int.reduceMul, Int.reduceNeg, Int.reduceLE, Int.reduceLT, Int.reduceToNat, Int.reduceEq, reduceCtorEq, ld_z, ld_s, st1_0, st1_1, st1_s, st2_0, st2_1, st2_s, isJ_i, isJ_r, isJ_n, isJ_l, cs_nil, cs_i, cs_r, cs_l, kF, List.getElem?_cons_succ, List.getElem?_cons_zero, List.set_cons_zero, List.set_cons_succ, GC_s, GC_n, GK_nil, GK_no, GK_yes, not_false_eq_true, back_eq, back_hp, inI_eq, inA_eq, true_and, and_true, and_self, if_true, if_false, bI_0, bI_1, bI_in, bI_T, bI_F, fitF, jmpF, nlF, pjA, iVal.eta, iYr.eta, List.getElem?_toArray, List.length_cons, List.length_nil, true_or, or_true, or_false, false_or, Classical.not_not, Bool.false_eq_true, hp_2, Nat.zero_le, Nat.le_refl, Option.some.injEq, Sum.inl.injEq, Sum.inr.injEq, not_true_eq_false, true_implies, false_implies, implies_true, Int.le_refl, rd_v, f_num, f_lik, f_dep, f_bnd, f_man, f_wom, f_sta, f_dds, f_who, rd_e, v_now, hasOne_eq, hasTwo_eq, hasCouple_eq, orNone_eq, natureOf_eq, rd_nat, place_eq, rd_v1, rd_v3, rd_v4, rd_v6, rd_v7, rd_v8, rd_v9, rd_v10, isShelf_eq, isSide_eq, isDeed_eq, isKind_eq, isMindSpan_eq, gX11_thaw, e1, e4, rd_ps, lps, q1, p1, rd_p, be, zero, back_sPt]
    exact g2
theorem toC_loop {t m n : Nat} (t1 : 1 ≤ t) (t9 : t ≤ 9) (hm : m ≤ 6) (hn : n ≤ 60) {c i : Int} : ∀ (q y : Nat) (a : Nat → Nat) (f : Nat → List Int), y + q = n → gF f a m → ∃ f', gF f' (thAt t q a) m ∧ ∀ Q, (∀ o7, Run sp sc (d + 1) mX11_thaw 105 [some (.inr (.inr 2)), some (.inl c), some (.inl (n : Int)), some (.inl (t : Int)), some (.inl i), some (.inl (m : Int)), some (.inl (n : Int)), o7] [] (hp (A.sPt f')) Q) → ∀ o7, Run sp sc (d + 1) mX11_thaw 105 [some (.inr (.inr 2)), some (.inl c), some (.inl (n : Int)), some (.inl (t : Int)), some (.inl i), some (.inl (m : Int)), some (.inl (y : Int)), o7] [] (hp (A.sPt f)) Q := by
  have lps : ([126, 128, 130, 132, 134, 136, 138] : List Nat).length = 7 := rfl
  have p0 : ([126, 128, 130, 132, 134, 136, 138] : List Nat).getD (0 : Int).toNat 0 = 126 := rfl
  have p0' : ([126, 128, 130, 132, 134, 136, 138] : List Nat).getD 0 0 = 126 := rfl
  have r0 : ∀ A : iA, (hp A).1[124]? = some (.inl (2, [.inr (.inr 127)])) := fun A => rfl
  intro q
  induction q with
  | zero =>
    intro y a f hy hf
    have e : y = n := by omega
    subst e
    exact ⟨f, hf, fun Q hQ => hQ⟩
  | succ q ih =>
    intro y a f hy hf
    obtain ⟨f1, k1, k2, k3, k4⟩ := @tdC_loop sp sc d A t m t1 t9 hm a c (n : Int) i (y : Int) m f (Nat.le_refl _) hf.1 hf.2 (fun D a b => absurd b (by omega))
    have mx := fun Q => @mix_eq sp sc d (A.sPt f1) Q 0 0 (a 0) (a 0) (by omega) (by omega) 10 0 (by omega) (by omega) k2 k2
    rw [sPt_sP] at mx
    have ev : a 0 * 10 + a 0 * 0 = aVn t a 0 := by rw [Nat.mul_zero, Nat.add_zero]; rfl
    rw [ev] at mx
    have l8 : ((A.sPt f1).pt 0).length = 8 := k2.1
    have rn := rep_become (V := aVn t a 0) l8
    have mx : ∀ Q, Call sp sc d mX2_mix [.inr (.inr 126), .inl 10, .inr (.inr 126), .inl 0] (hp (A.sPt f1)) Q = Q none (hp (A.sPt (fun e => if e = 0 then pfx (lbF (aVn t a 0)) 8 ((A.sPt f1).pt 0) else f1 e))) := mx
    obtain ⟨f', g1, g2⟩ := ih (y + 1) (aVn t a) (fun e => if e = 0 then pfx (lbF (aVn t a 0)) 8 ((A.sPt f1).pt 0) else f1 e) (by omega) ⟨fun D hD => by
      dsimp only
      by_cases z : D = 0
      · rw [if_pos z]; exact rn.1
      · rw [if_neg z]; exact k1 D hD, fun D hD => by
      dsimp only
      by_cases z : D = 0
      · rw [if_pos z, z]; exact rn
      · rw [if_neg z]; exact k3 D (by omega) hD⟩
    refine ⟨f', g1, fun Q hQ o7 => ?_⟩
    have g2 := g2 Q hQ
    have e1 : ¬ (n : Int) ≤ (y : Int) := by omega
    have e4 : (y : Int) + 1 = ((y + 1 : Nat) : Int) := by omega
    refine G_run (B := [78, 105, 115]) 60 _ _ _ _ ?_
    simp (disch := first | assumption | rfl | exact inI_of (by omega) (by omega) | omega | decide | (simp only [sv_ext, sv_mc, Nat.le_refl]; done) | with_unfolding_all (refine @id _ ?_; first | exact Eq.refl _ | exact Nat.le_refl _ | assumption)) only [Nat.reduceAdd, Nat.reduceMul, Nat.reduceLeDiff, Nat.reduceLT, Int.reduceAdd, Int.reduceSub, Int.reduceMul, Int.reduceNeg, Int.reduceLE, Int.reduceLT, Int.reduceToNat, Int.reduceEq, reduceCtorEq, ld_z, ld_s, st1_0, st1_1, st1_s, st2_0, st2_1, st2_s, isJ_i, isJ_r, isJ_n, isJ_l, cs_nil, cs_i, cs_r, cs_l, kF, List.getElem?_cons_succ, List.getElem?_cons_zero, List.set_cons_zero, List.set_cons_succ, GC_s, GC_n, GK_nil, GK_no, GK_yes, not_false_eq_true, back_eq, back_hp, inI_eq, inA_eq, true_and, and_true, and_self, if_true, if_false, bI_0, bI_1, bI_in, bI_T, bI_F, fitF, jmpF, nlF, pjA, iVal.eta, iYr.eta, List.getElem?_toArray, List.length_cons, List.length_nil, true_or, or_true, or_false, false_or, Classical.not_not, Bool.false_eq_true, hp_2, Nat.zero_le, Nat.le_refl, Option.some.injEq, Sum.inl.injEq, Sum.inr.injEq, not_true_eq_false, true_implies, false_implies, implies_true, Int.le_refl, rd_v, f_num, f_lik, f_dep, f_bnd, f_man, f_wom, f_sta, f_dds, f_who, rd_e, v_now, hasOne_eq, hasTwo_eq, hasCouple_eq, orNone_eq, natureOf_eq, rd_nat, place_eq, rd_v1, rd_v3, rd_v4, rd_v6, rd_v7, rd_v8, rd_v9, rd_v10, isShelf_eq, isSide_eq, isDeed_eq, isKind_eq, isMindSpan_eq, gX11_thaw, e1]
    refine k4 Q ?_
    refine G_run (B := [78, 105, 115]) 60 _ _ _ _ ?_
    simp (disch := first | assumption | rfl | exact inI_of (by omega) (by omega) | omega | decide | (simp only [sv_ext, sv_mc, Nat.le_refl]; done) | with_unfolding_all (refine @id _ ?_; first | exact Eq.refl _ | exact Nat.le_refl _ | assumption)) only [Nat.reduceAdd, Nat.reduceMul, Nat.reduceLeDiff, Nat.reduceLT, Int.reduceAdd, Int.reduceSub, Int.reduceMul, Int.reduceNeg, Int.reduceLE, Int.reduceLT, Int.reduceToNat, Int.reduceEq, reduceCtorEq, ld_z, ld_s, st1_0, st1_1, st1_s, st2_0, st2_1, st2_s, isJ_i, isJ_r, isJ_n, isJ_l, cs_nil, cs_i, cs_r, cs_l, kF, List.getElem?_cons_succ, List.getElem?_cons_zero, List.set_cons_zero, List.set_cons_succ, GC_s, GC_n, GK_nil, GK_no, GK_yes, not_false_eq_true, back_eq, back_hp, inI_eq, inA_eq, true_and, and_true, and_self, if_true, if_false, bI_0, bI_1, bI_in, bI_T, bI_F, fitF, jmpF, nlF, pjA, iVal.eta, iYr.eta, List.getElem?_toArray, List.length_cons, List.length_nil, true_or, or_true, or_false, false_or, Classical.not_not, Bool.false_eq_true, hp_2, Nat.zero_le, Nat.le_refl, Option.some.injEq, Sum.inl.injEq, Sum.inr.injEq, not_true_eq_false, true_implies, false_implies, implies_true, Int.le_refl, rd_v, f_num, f_lik, f_dep, f_bnd, f_man, f_wom, f_sta, f_dds, f_who, rd_e, v_now, hasOne_eq, hasTwo_eq, hasCouple_eq, orNone_eq, natureOf_eq, rd_nat, place_eq, rd_v1, rd_v3, rd_v4, rd_v6, rd_v7, rd_v8, rd_v9, rd_v10, isShelf_eq, isSide_eq, isDeed_eq, isKind_eq, isMindSpan_eq, gX11_thaw, e4, rd_ps, lps, p0, p0', r0, mx, back_sPt]
    exact g2 _
theorem rel_sPt (hR : Rel A) {f : Nat → List Int} (h8 : ∀ D, D < 7 → (f D).length = 8) : Rel (A.sPt f) := (Rel.mk hR.now hR.img hR.mnd hR.mok hR.yr hR.ndy hR.idy hR.row hR.imd hR.him hR.imr hR.lim hR.lm hR.lwas hR.lwt hR.len hR.lod hR.lnu hR.lhe hR.lbh hR.lak hR.lfi hR.lth hR.lke hR.lkk hR.lkf hR.lso hR.lsz hR.lel hR.lwv hR.lhb hR.lfm hR.lmk (h8) hR.lout hR.shs hR.inj)
theorem rel_sFT (hR : Rel A) (hF : F.length = 448) (hG : G.length = 448) : Rel (A.sFT F G) := (Rel.mk hR.now hR.img hR.mnd hR.mok hR.yr hR.ndy hR.idy hR.row hR.imd hR.him hR.imr hR.lim hR.lm hR.lwas hR.lwt hR.len hR.lod hR.lnu hR.lhe hR.lbh hR.lak (hF) (hG) hR.lke hR.lkk hR.lkf hR.lso hR.lsz hR.lel hR.lwv hR.lhb hR.lfm hR.lmk hR.lpt hR.lout hR.shs hR.inj)
theorem tzR_loop {M : Nat} (hM : M = 448) (hF : F.length = 448) {c n t i m : Int} : ∀ (q k : Nat), k + q = M → Run sp sc d mX12_thaw 68 [some (.inr (.inr 140)), some (.inl c), some (.inl n), some (.inl t), some (.inl i), some (.inl m), some (.inl (M : Int)), none] [] (hp (A.sFT (pfx (fun _ => 0) M F) G)) Q → Run sp sc d mX12_thaw 68 [some (.inr (.inr 140)), some (.inl c), some (.inl n), some (.inl t), some (.inl i), some (.inl m), some (.inl (k : Int)), none] [] (hp (A.sFT (pfx (fun _ => 0) k F) G)) Q := by
  intro q
  induction q with
  | zero =>
    intro k hk hQ
    have e : k = M := by omega
    rw [e]; exact hQ
  | succ q ih =>
    intro k hk hQ
    have ih := ih (k + 1) (by omega) hQ
    have e1 : ¬ (448 : Int) ≤ (k : Int) := by omega
    have e2 : ((k : Nat) : Int).toNat = k := by omega
    have e4 : (k : Int) + 1 = ((k + 1 : Nat) : Int) := by omega
    have lp : (pfx (fun _ => 0) k F).length = 448 := by rw [pfx_len (by omega), hF]
    have es : (pfx (fun _ => 0) k F).set k 0 = pfx (fun _ => 0) (k + 1) F := pfx_set (f := fun _ => 0) (by omega)
    refine G_run (B := [68, 100, 109, 148, 220]) 60 _ _ _ _ ?_
    simp (disch := first | assumption | rfl | exact inI_of (by omega) (by omega) | omega | decide | (simp only [sv_ext, sv_mc, Nat.le_refl]; done) | with_unfolding_all (refine @id _ ?_; first | exact Eq.refl _ | exact Nat.le_refl _ | assumption)) only [Nat.reduceAdd, Nat.reduceMul, Nat.reduceLeDiff, Nat.reduceLT, Int.reduceAdd, Int.reduceSub, Int.reduceMul, Int.reduceNeg, Int.reduceLE, Int.reduceLT, Int.reduceToNat, Int.reduceEq, reduceCtorEq, ld_z, ld_s, st1_0, st1_1, st1_s, st2_0, st2_1, st2_s, isJ_i, isJ_r, isJ_n, isJ_l, cs_nil, cs_i, cs_r, cs_l, kF, List.getElem?_cons_succ, List.getElem?_cons_zero, List.set_cons_zero, List.set_cons_succ, GC_s, GC_n, GK_nil, GK_no, GK_yes, not_false_eq_true, back_eq, back_hp, inI_eq, inA_eq, true_and, and_true, and_self, if_true, if_false, bI_0, bI_1, bI_in, bI_T, bI_F, fitF, jmpF, nlF, pjA, iVal.eta, iYr.eta, List.getElem?_toArray, List.length_cons, List.length_nil, true_or, or_true, or_false, false_or, Classical.not_not, Bool.false_eq_true, hp_2, Nat.zero_le, Nat.le_refl, Option.some.injEq, Sum.inl.injEq, Sum.inr.injEq, not_true_eq_false, true_implies, false_implies, implies_true, Int.le_refl, gX12_thaw, rd_o, rd_o_fi, sFT_fi, lp, e1, e2, e4, es, wr_FTf]
    exact ih
theorem tcR_loop {M m : Nat} (hM : M = 64 * (m + 1)) (hm : m ≤ 6) (hF : F.length = 448) (hG : G.length = 448) (hv : ∀ p, p < M → 0 ≤ G.getD p 0 ∧ G.getD p 0 < 10) {c n t i y : Int} : ∀ (q k : Nat), k + q = M → Run sp sc d mX12_thaw 148 [some (.inr (.inr 140)), some (.inl c), some (.inl n), some (.inl t), some (.inl i), some (.inl (m : Int)), some (.inl y), some (.inl (M : Int))] [] (hp (A.sFT (pfx (fun p => G.getD p 0) M F) G)) Q → Run sp sc d mX12_thaw 148 [some (.inr (.inr 140)), some (.inl c), some (.inl n), some (.inl t), some (.inl i), some (.inl (m : Int)), some (.inl y), some (.inl (k : Int))] [] (hp (A.sFT (pfx (fun p => G.getD p 0) k F) G)) Q := by
  intro q
  induction q with
  | zero =>
    intro k hk hQ
    have e : k = M := by omega
    rw [e]; exact hQ
  | succ q ih =>
    intro k hk hQ
    have ih := ih (k + 1) (by omega) hQ
    have e1 : ¬ ((m : Int) + 1) * 64 ≤ (k : Int) := by omega
    have e2 : ((k : Nat) : Int).toNat = k := by omega
    have e4 : (k : Int) + 1 = ((k + 1 : Nat) : Int) := by omega
    have lp : (pfx (fun p => G.getD p 0) k F).length = 448 := by rw [pfx_len (by omega), hF]
    have es : (pfx (fun p => G.getD p 0) k F).set k (G.getD k 0) = pfx (fun p => G.getD p 0) (k + 1) F := pfx_set (f := fun p => G.getD p 0) (by omega)
    have v := hv k (by omega)
    have iv : inI (G.getD k 0) = true := inI_of (by omega) (by omega)
    refine G_run (B := [68, 100, 109, 148, 220]) 60 _ _ _ _ ?_
    simp (disch := first | assumption | rfl | exact inI_of (by omega) (by omega) | omega | decide | (simp only [sv_ext, sv_mc, Nat.le_refl]; done) | with_unfolding_all (refine @id _ ?_; first | exact Eq.refl _ | exact Nat.le_refl _ | assumption)) only [Nat.reduceAdd, Nat.reduceMul, Nat.reduceLeDiff, Nat.reduceLT, Int.reduceAdd, Int.reduceSub, Int.reduceMul, Int.reduceNeg, Int.reduceLE, Int.reduceLT, Int.reduceToNat, Int.reduceEq, reduceCtorEq, ld_z, ld_s, st1_0, st1_1, st1_s, st2_0, st2_1, st2_s, isJ_i, isJ_r, isJ_n, isJ_l, cs_nil, cs_i, cs_r, cs_l, kF, List.getElem?_cons_succ, List.getElem?_cons_zero, List.set_cons_zero, List.set_cons_succ, GC_s, GC_n, GK_nil, GK_no, GK_yes, not_false_eq_true, back_eq, back_hp, inI_eq, inA_eq, true_and, and_true, and_self, if_true, if_false, bI_0, bI_1, bI_in, bI_T, bI_F, fitF, jmpF, nlF, pjA, iVal.eta, iYr.eta, List.getElem?_toArray, List.length_cons, List.length_nil, true_or, or_true, or_false, false_or, Classical.not_not, Bool.false_eq_true, hp_2, Nat.zero_le, Nat.le_refl, Option.some.injEq, Sum.inl.injEq, Sum.inr.injEq, not_true_eq_false, true_implies, false_implies, implies_true, Int.le_refl, gX12_thaw, rd_o, rd_o_fi, rd_o_th, sFT_fi, sFT_th, lp, hG, iv, e1, e2, e4, es, wr_FTf]
    exact ih
end OPS
