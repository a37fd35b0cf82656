set_option maxRecDepth 16384
/-! ===== the methods that catch, as the law calls them ===== -/
/-- the shelf's fields, out of the cells -/
def shP (h : List iO) (d : Int) (gs : List iV) : Prop := ∃ (fs : List iV) (k t m c : Nat) (rs : List Nat), h[(0 : Nat)]? = some (.inl (11, fs)) ∧ fs[(1 : Nat)]? = some (.inr (.inr (k + 2))) ∧ h[k]? = some (.inr (.inr (t, rs))) ∧ rs.getD d.toNat 0 = m + 2 ∧ h[m]? = some (.inl (c, gs))
theorem shP_uni {h : List iO} {d : Int} {gs gs' : List iV} (a : shP h d gs) (b : shP h d gs') : gs = gs' := by
  obtain ⟨fs, k, t, m, c, rs, a1, a2, a3, a4, a5⟩ := a
  obtain ⟨fs', k', t', m', c', rs', b1, b2, b3, b4, b5⟩ := b
  cases a1.symm.trans b1
  cases a2.symm.trans b2
  cases a3.symm.trans b3
  have e : m = m' := by omega
  subst e
  cases a5.symm.trans b5
  rfl
def ntP (h : List iO) (d : Int) (ci : Nat) (f : Int) : Prop := ∃ (gs : List iV) (n : Nat), shP h d gs ∧ gs[(0 : Nat)]? = some (.inl 1) ∧ gs[(1 : Nat)]? = some (.inr (.inr (n + 2))) ∧ h[n]? = some (.inl (ci, [.inl f]))
theorem ntP_uni {h : List iO} {d : Int} {ci ci' : Nat} {f f' : Int} (a : ntP h d ci f) (b : ntP h d ci' f') : ci = ci' ∧ f = f' := by
  obtain ⟨gs, n, a1, a2, a3, a4⟩ := a
  obtain ⟨gs', n', b1, b2, b3, b4⟩ := b
  cases shP_uni a1 b1
  cases a3.symm.trans b3
  cases a4.symm.trans b4
  exact ⟨rfl, rfl⟩
def tv (ci : Nat) (f : Int) : Int := if ci = 7 then 200 + pB 4 f else if ci = 3 then 100 + f else f
def grdT (h : List iO) (d : Int) : Prop := 0 ≤ d ∧ d < 8 ∧ ∃ (ci : Nat) (f : Int), ntP h d ci f ∧ ¬ f = 0 ∧ ¬ ci = 1
def grdE (h : List iO) (d i : Int) : Prop := ¬ (0 ≤ d ∧ d < 8 ∧ ∃ (gs : List iV) (z : Int), shP h d gs ∧ gs[(0 : Nat)]? = some (.inl 2) ∧ gs[(3 : Nat)]? = some (.inl z) ∧ 0 ≤ i ∧ i < z)
def grd (y : Nat) (av : List iV) (h : iH) : Prop := (y = mX11_toss ∧ ∃ x d, av = [x, .inl d] ∧ grdT h.1 d) ∨ (y = mL_element ∧ ∃ x d i o, av = [x, .inl d, .inl i, o] ∧ grdE h.1 d i)
def vlP (y : Nat) (av : List iV) (h : iH) (v : Int) : Prop := (y = mX11_toss ∧ ∃ x d ci f, av = [x, .inl d] ∧ ntP h.1 d ci f ∧ v = tv ci f) ∨ (y = mL_element ∧ ∃ x d i o, av = [x, .inl d, .inl i, o] ∧ v = if 0 ≤ d ∧ d < 8 then 2 else 1)
theorem vlP_uni {y : Nat} {av : List iV} {h : iH} {v w : Int} (a : vlP y av h v) (b : vlP y av h w) : v = w := by
  rcases a with ⟨a0, x, d, ci, f, a1, a2, a3⟩ | ⟨a0, x, d, i, o, a1, a2⟩
  · rcases b with ⟨b0, x', d', ci', f', b1, b2, b3⟩ | ⟨b0, x', d', i', o', b1, b2⟩
    · cases a1.symm.trans b1
      obtain ⟨rfl, rfl⟩ := ntP_uni a2 b2
      rw [a3, b3]
    · rw [a0] at b0; exact absurd b0 (by decide)
  · rcases b with ⟨b0, x', d', ci', f', b1, b2, b3⟩ | ⟨b0, x', d', i', o', b1, b2⟩
    · rw [a0] at b0; exact absurd b0 (by decide)
    · cases a1.symm.trans b1
      rw [a2, b2]
def ThwM (l : Launch) (sc : List Int) (y : Nat) (av : List iV) (h : iH) (v : Int) : Prop := (y = mX11_toss ∨ y = mL_element) ∧ (ent 5 av).length = 5 ∧ vlP y av h v ∧ ThrC l sc 8 y (hhO y) av h (some (.inl v))
noncomputable def spM (l : Launch) (sc : List Int) (y : Nat) (av : List iV) (h : iH) : Option (Option iV × iH) :=
  @ite _ (grd y av h) (Classical.propDecidable _)
    (@dite _ (∃ v, ThwM l sc y av h v) (Classical.propDecidable _) (fun hT => some (some (.inl (Classical.choose hT)), (h.1, h.2 + 1))) (fun _ => none))
    (@dite _ (∃ z, NrmC sc y av h z) (Classical.propDecidable _) (fun hN => some (Classical.choose hN)) (fun _ => none))
theorem spM_ok (l : Launch) (sc : List Int) : SpOK l sc (spM l sc) := by
  intro d y kd av h r h' h10 hy e
  unfold spM at e
  split at e
  · split at e
    · rename_i hT
      obtain ⟨hy2, he, -, hx⟩ := Classical.choose_spec hT
      cases e
      intro p e R s m args below meth c H locs cells slots pc ls i as b st rest D kt A q
      exact runsH_ok h10 hy (fun _ => he) (walkH_thr hx)
    · cases e
  · split at e
    · rename_i hN
      obtain ⟨hy2, he, n, hx⟩ := Classical.choose_spec hN
      have e2 := Option.some.inj e
      rw [e2] at hx
      have hW : WalkH l sc 8 y (hhO y) av h r h' := by
        rcases hy2 with rfl | rfl
        · exact walkH_norm mtab_T hx
        · exact walkH_norm mtab_E hx
      intro p e R s m args below meth c H locs cells slots pc ls i as b st rest D kt A q
      exact runsH_ok h10 hy (fun _ => he) hW
    · cases e
section SM
variable {l : Launch} {sc : List Int} {d y : Nat} {A : iA} {a i v : Int} {av : List iV} {h h' : iH} {r : Option iV} {Q : Option iV → iH → Prop}
theorem call_sp {sp : Nat → List iV → iH → Option (Option iV × iH)} (hs : sp y av h = some (r, h')) (hy : nCall ≤ y) (hd : 10 ≤ d) : Call sp sc d y av h Q = Q r h' := Call_eq (by
  unfold Call
  rw [if_neg (by omega)]
  exact ⟨hd, r, h', hs, rfl, rfl⟩)
theorem spM_thr (hg : grd y av h) (hT : ThwM l sc y av h v) : spM l sc y av h = some (some (.inl v), (h.1, h.2 + 1)) := by
  have hE : ∃ v, ThwM l sc y av h v := ⟨v, hT⟩
  have e := vlP_uni (Classical.choose_spec hE).2.2.1 hT.2.2.1
  unfold spM
  rw [if_pos hg, dif_pos hE, e]
theorem spM_nrm (hg : ¬ grd y av h) {z : Option iV × iH} (hN : NrmC sc y av h z) : spM l sc y av h = some z := by
  have hE : ∃ z, NrmC sc y av h z := ⟨z, hN⟩
  obtain ⟨-, -, n, e⟩ := Classical.choose_spec hE
  obtain ⟨-, -, m, e2⟩ := hN
  unfold spM
  rw [if_neg hg, dif_pos hE, ex_det e e2]
theorem nrm_run (hy : y = mX11_toss ∨ y = mL_element) (he : (ent 5 av).length = 5) (k : Run sp0 sc 8 y 0 (ent 5 av) [] h (fun x z => x = r ∧ z = h')) : NrmC sc y av h (r, h') := by
  obtain ⟨n, x, z, e, rfl, rfl⟩ := k
  exact ⟨hy, he, n, e⟩
theorem shP_A (hR : Rel A) (c : 0 ≤ a ∧ a < 8) : shP (hp A).1 a [.inl (A.sh a.toNat).ho, .inr (.inr ((A.sh a.toNat).na + 2)), .inl (A.sh a.toNat).so, .inl (A.sh a.toNat).sz, .inr (.inr ((A.sh a.toNat).ca + 2))] :=
  ⟨_, 106, 4, 107 + 2 * a.toNat, 5, _, rd_e, rfl, rd_ss, sh_at c.1 c.2, rd_s (by omega)⟩
theorem ntP_A (hR : Rel A) (c : 0 ≤ a ∧ a < 8) (ho : (A.sh a.toNat).ho = 1) : ntP (hp A).1 a (cls (nK (A.sh a.toNat).na)) (nF (A.sh a.toNat).na) :=
  ⟨_, (A.sh a.toNat).na, shP_A hR c, by rw [ho]; rfl, rfl, rd_nat (hR.shs a.toNat (by omega)).na⟩
theorem ch_toss (hR : Rel A) (ia : inI a = true) (c : 0 ≤ a ∧ a < 8) (ho : (A.sh a.toNat).ho = 1) : ChP sc 8 mX11_toss (hp A) 18 (0, [some (.inr (.inr 2)), some (.inl a), none, none, none], []) (36, [some (.inr (.inr 2)), some (.inl a), some (.inl 0), some (.inr (.inr ((A.sh a.toNat).na + 2))), none], [.inr (.inr ((A.sh a.toNat).na + 2))]) := by
  have hS := hR.shs a.toNat (by omega)
  have hd8 : a.toNat < 8 := by omega
  have ja : inA a 8 = true := inA_of c.1 c.2 (by omega)
  have es := sh_at c.1 c.2
  have rs := rd_s (A := A) hd8
  have hrf : Call sp0 sc 7 mX5_refusalAsNature [.inr (.inr (107 + 2 * a.toNat + 2))] (hp A) (fun x z => x = some (.inl 0) ∧ z = hp A) := Eq.mpr (refN_eq (sp := sp0) (sc := sc) (d := 7) hd8 hS.hv) ⟨by rw [ho]; rfl, rfl⟩
  refine ch_f (by decide +kernel : fetch mX11_toss 0 = some (.iload_n 1)) (s_ild (x := a) rfl) ?_
  refine ch_c (by decide +kernel : fetch mX11_toss 1 = some (.invokestatic 75)) rfl (rs_shelf rfl) (by decide) (cl_shelf ia (bI_t c)) ?_
  refine ch_f (by decide +kernel : fetch mX11_toss 4 = some (.ifCond .ne 5)) (s_ift (q := 9) rfl rfl rfl) ?_
  refine ch_f (by decide +kernel : fetch mX11_toss 9 = some (.aload_n 0)) (s_ald (r := 1) rfl) ?_
  refine ch_f (by decide +kernel : fetch mX11_toss 10 = some (.getfield 63)) (s_gf (k := 1) rd_e (by rw [show oY mX11_toss = 11 from rfl]; decide +kernel) rfl) ?_
  refine ch_f (by decide +kernel : fetch mX11_toss 13 = some (.iload_n 1)) (s_ild (x := a) rfl) ?_
  refine ch_f (by decide +kernel : fetch mX11_toss 14 = some .aaload) (s_aal (m := 106) rd_ss ja (by omega) (by omega)) ?_
  rw [es]
  refine ch_c (by decide +kernel : fetch mX11_toss 15 = some (.invokevirtual 155)) rfl (rsv_V (n1 := 0) (y1 := mX5_refusalAsNature) (kd := 2) (by rw [show oY mX11_toss = 11 from rfl]; decide +kernel) rfl rs (by rw [show oY mX11_toss = 11 from rfl]; decide +kernel) ⟨Or.inl rfl, Nat.zero_le _⟩) (by decide) hrf ?_
  refine ch_f (by decide +kernel : fetch mX11_toss 18 = some (.istore_n 2)) (s_ist (L' := [some (.inr (.inr 2)), some (.inl a), some (.inl 0), none, none]) rfl) ?_
  refine ch_f (by decide +kernel : fetch mX11_toss 19 = some (.iload_n 2)) (s_ild (x := 0) rfl) ?_
  refine ch_f (by decide +kernel : fetch mX11_toss 20 = some (.ifCond .eq 5)) (s_ift (q := 25) rfl rfl rfl) ?_
  refine ch_f (by decide +kernel : fetch mX11_toss 25 = some (.aload_n 0)) (s_ald (r := 1) rfl) ?_
  refine ch_f (by decide +kernel : fetch mX11_toss 26 = some (.getfield 63)) (s_gf (k := 1) rd_e (by rw [show oY mX11_toss = 11 from rfl]; decide +kernel) rfl) ?_
  refine ch_f (by decide +kernel : fetch mX11_toss 29 = some (.iload_n 1)) (s_ild (x := a) rfl) ?_
  refine ch_f (by decide +kernel : fetch mX11_toss 30 = some .aaload) (s_aal (m := 106) rd_ss ja (by omega) (by omega)) ?_
  rw [es]
  refine ch_f (by decide +kernel : fetch mX11_toss 31 = some (.getfield 158)) (s_gf (k := 1) rs (by rw [show oY mX11_toss = 11 from rfl]; decide +kernel) rfl) ?_
  refine ch_f (by decide +kernel : fetch mX11_toss 34 = some (.astore_n 3)) (s_ast (x := (A.sh a.toNat).na + 1) (L' := [some (.inr (.inr 2)), some (.inl a), some (.inl 0), some (.inr (.inr ((A.sh a.toNat).na + 2))), none]) rfl) ?_
  exact ch_f (by decide +kernel : fetch mX11_toss 35 = some (.aload_n 3)) (s_ald (r := (A.sh a.toNat).na + 1) rfl) rfl
theorem cat_T7 : CatR hhT RX11 36 "java/lang/UnsupportedOperationException" 42 := ⟨[], (tableOf hhT)[0]!, (tableOf hhT).drop 1, "java/lang/UnsupportedOperationException", rfl, (fun z hz => nomatch hz), by decide, by decide, by decide +kernel, rfl, by decide, rfl⟩
theorem cat_T3 : CatR hhT RX11 36 "java/lang/IllegalArgumentException" 53 := ⟨(tableOf hhT).take 1, (tableOf hhT)[1]!, (tableOf hhT).drop 2, "java/lang/IllegalArgumentException", rfl, List.forall_mem_cons.mpr ⟨⟨by decide, "java/lang/UnsupportedOperationException", by decide +kernel, by decide⟩, fun z hz => nomatch hz⟩, by decide, by decide, by decide +kernel, rfl, by decide, rfl⟩
theorem cat_T6 : CatR hhT RX11 36 "java/lang/IllegalStateException" 63 := ⟨(tableOf hhT).take 2, (tableOf hhT)[2]!, (tableOf hhT).drop 3, "java/lang/IllegalStateException", rfl, List.forall_mem_cons.mpr ⟨⟨by decide, "java/lang/UnsupportedOperationException", by decide +kernel, by decide⟩, List.forall_mem_cons.mpr ⟨⟨by decide, "java/lang/IllegalArgumentException", by decide +kernel, by decide⟩, fun z hz => nomatch hz⟩⟩, by decide, by decide, by decide +kernel, rfl, by decide, rfl⟩
theorem thr_toss (hR : Rel A) (ia : inI a = true) (c : 0 ≤ a ∧ a < 8) (ho : (A.sh a.toNat).ho = 1) {ci y' kd hpc : Nat} {q' : mE} {E : String} (hci : cls (nK (A.sh a.toNat).na) = ci) (hc : lkC 11 371 ci = some (y', 0, kd)) (hk : kd = 2 ∨ kd = 3 ∨ kd = 8) (hy : y' < nCall) (hq : mtab[y']? = some q') (hM : MetX l sc q' 7 [.inr (.inr ((A.sh a.toNat).na + 2))] (hp A) E) (hcat : CatR hhT RX11 36 E hpc) (hda : decode cX11_toss hpc = .ok (.astore 4, 2))
    (hrun : Run sp0 sc 8 mX11_toss (hpc + 2) [some (.inr (.inr 2)), some (.inl a), some (.inl 0), some (.inr (.inr ((A.sh a.toNat).na + 2))), none] [] (hp A) (fun x z => x = some (.inl v) ∧ z = hp A)) : ThrC l sc 8 mX11_toss hhT [.inr (.inr 2), .inl a] (hp A) (some (.inl v)) := by
  obtain ⟨n2, x, z, e, rfl, rfl⟩ := hrun
  have rn := rd_nat (A := A) (hR.shs a.toNat (by omega)).na
  rw [hci] at rn
  exact ⟨qT, q', 18, n2, 36, 371, y', kd, hpc, 7, _, _, [], _, E, rfl, mtab_T, ch_toss hR ia c ho, by decide +kernel, rsv_V (n1 := 0) (by decide +kernel) rfl rn hc ⟨hk, Nat.zero_le _⟩, hy, hq, hM, hcat, hda, rfl, ⟨_, rfl⟩, by show 4 < 5; omega, e⟩
theorem rel_mc (hR : Rel A) : Rel (iA.mk A.now A.img A.mnd A.imd A.yr A.mt A.sh A.pt A.mo A.out A.ext (A.mc + 1)) := (Rel.mk hR.now hR.img hR.mnd hR.mok hR.yr hR.ndy hR.idy hR.row hR.imd hR.him hR.imr hR.lim hR.lm hR.lwas hR.lwt hR.len hR.lod hR.lnu hR.lhe hR.lbh hR.lak hR.lfi hR.lth hR.lke hR.lkk hR.lkf hR.lso hR.lsz hR.lel hR.lwv hR.lhb hR.lfm hR.lmk hR.lpt hR.lout hR.shs hR.inj)
theorem ag_toss (hls : l.stackTraces = false) (hR : Rel A) (ia : inI a = true) : Agree (spM l sc) sc mX11_toss mX12_toss [.inl a] A := by
  have wk := fun (A1 : iA) (hk : A1.mo.ke = A.mo.ke) (Q : Option iV → iH → Prop) => @wrongKept_eq (spM l sc) sc 16 A1 Q a ia (by rw [hk]; exact hR.lke) (by rw [hk]; exact rel_kev hR)
  have lkk := hR.lkk
  have lkf := hR.lkf
  have ns : ([109, 111, 113, 115, 117, 119, 121, 123] : List Nat).length = 8 := rfl
  have hent : (ent 5 [.inr (.inr 2), .inl a]).length = 5 := rfl
  -- without a throw
  have nrm : ∀ v : Int, ¬ grd mX11_toss [.inr (.inr 2), .inl a] (hp A) → Run sp0 sc 8 mX11_toss 0 [some (.inr (.inr 2)), some (.inl a), none, none, none] [] (hp A) (fun x z => x = some (.inl v) ∧ z = hp A) → ∀ Q, Call (spM l sc) sc 19 mX11_toss [.inr (.inr 2), .inl a] (hp A) Q = Q (some (.inl v)) (hp A) := fun v hg hr Q => call_sp (spM_nrm hg (nrm_run (Or.inl rfl) hent hr)) (by decide) (by omega)
  by_cases c : 0 ≤ a ∧ a < 8
  · have hS := hR.shs a.toNat (by omega)
    have hd : a.toNat < 8 := by omega
    have wk := fun A1 hk Q => (wk A1 hk Q)
    simp only [if_pos c] at wk
    have ng : ¬ (A.sh a.toNat).ho = 1 → ¬ grd mX11_toss [.inr (.inr 2), .inl a] (hp A) := fun hn hg => by
      rcases hg with ⟨-, x, d, e, g⟩ | ⟨e, -⟩
      · cases e
        obtain ⟨-, -, ci, f, ⟨gs, n, g1, g2, -, -⟩, -⟩ := g
        cases shP_uni g1 (shP_A hR c)
        have g2 : (some (Sum.inl (A.sh a.toNat).ho) : Option iV) = some (.inl 1) := g2
        exact hn (Sum.inl.inj (Option.some.inj g2))
      · exact absurd e (by decide)
    rcases hS.hv with z | z | z
    · have wk := wk A rfl
      rw [hS.ho, z] at wk
      refine Agree.of (-11) A A rfl (nrm (-11) (ng (by omega)) (G_run (B := []) 60 _ _ _ _ ?_)) (fun Q => Call_eq ?_) rfl rfl hR
      · simp (disch := first | assumption | rfl | exact inI_of (by omega) (by omega) | omega | decide | (simp only [sv_ext, sv_mc, Nat.le_refl]; done) | with_unfolding_all (refine @id _ ?_; first | exact Eq.refl _ | exact Nat.le_refl _ | assumption)) only [Nat.reduceAdd, Nat.reduceMul, Nat.reduceLeDiff, Nat.reduceLT, Int.reduceAdd, Int.reduceSub, Int.reduceMul, Int.reduceNeg, Int.reduceLE, Int.reduceLT, Int.reduceToNat, Int.reduceEq, reduceCtorEq, ld_z, ld_s, st1_0, st1_1, st1_s, st2_0, st2_1, st2_s, isJ_i, isJ_r, isJ_n, isJ_l, cs_nil, cs_i, cs_r, cs_l, kF, List.getElem?_cons_succ, List.getElem?_cons_zero, List.set_cons_zero, List.set_cons_succ, GC_s, GC_n, GK_nil, GK_no, GK_yes, not_false_eq_true, back_eq, back_hp, inI_eq, inA_eq, true_and, and_true, and_self, if_true, if_false, bI_0, bI_1, bI_in, bI_T, bI_F, fitF, jmpF, nlF, pjA, iVal.eta, iYr.eta, List.getElem?_toArray, List.length_cons, List.length_nil, true_or, or_true, or_false, false_or, Classical.not_not, Bool.false_eq_true, hp_2, Nat.zero_le, Nat.le_refl, Option.some.injEq, Sum.inl.injEq, Sum.inr.injEq, not_true_eq_false, true_implies, false_implies, implies_true, Int.le_refl, rd_v, f_num, f_lik, f_dep, f_bnd, f_man, f_wom, f_sta, f_dds, f_who, rd_e, v_now, hasOne_eq, hasTwo_eq, hasCouple_eq, orNone_eq, natureOf_eq, rd_nat, place_eq, rd_v1, rd_v3, rd_v4, rd_v6, rd_v7, rd_v8, rd_v9, rd_v10, isShelf_eq, isSide_eq, isDeed_eq, isKind_eq, isMindSpan_eq, gX11_toss, c, rd_ss, ns, sh_at, refN_eq hd hS.hv, z, rfN, rd_s]
      · apply eX12_toss 60; simp (disch := first | assumption | rfl | exact inI_of (by omega) (by omega) | omega | decide | (simp only [sv_ext, sv_mc, Nat.le_refl]; done) | with_unfolding_all (refine @id _ ?_; first | exact Eq.refl _ | exact Nat.le_refl _ | assumption)) only [Nat.reduceAdd, Nat.reduceMul, Nat.reduceLeDiff, Nat.reduceLT, Int.reduceAdd, Int.reduceSub, Int.reduceMul, Int.reduceNeg, Int.reduceLE, Int.reduceLT, Int.reduceToNat, Int.reduceEq, reduceCtorEq, ld_z, ld_s, st1_0, st1_1, st1_s, st2_0, st2_1, st2_s, isJ_i, isJ_r, isJ_n, isJ_l, cs_nil, cs_i, cs_r, cs_l, kF, List.getElem?_cons_succ, List.getElem?_cons_zero, List.set_cons_zero, List.set_cons_succ, GC_s, GC_n, GK_nil, GK_no, GK_yes, not_false_eq_true, back_eq, back_hp, inI_eq, inA_eq, true_and, and_true, and_self, if_true, if_false, bI_0, bI_1, bI_in, bI_T, bI_F, fitF, jmpF, nlF, pjA, iVal.eta, iYr.eta, List.getElem?_toArray, List.length_cons, List.length_nil, true_or, or_true, or_false, false_or, Classical.not_not, Bool.false_eq_true, hp_2, Nat.zero_le, Nat.le_refl, Option.some.injEq, Sum.inl.injEq, Sum.inr.injEq, not_true_eq_false, true_implies, false_implies, implies_true, Int.le_refl, gX12_toss, rd_o, wk, rfN]
    · have hn := hS.na
      have hb := nF_b hn
      have k6 := nK_lt (A.sh a.toNat).na
      have rn := rd_nat (A := A) hn
      by_cases t : ¬ nF (A.sh a.toNat).na = 0 ∧ ¬ nK (A.sh a.toNat).na = 5
      · -- it throws
        have hg : grd mX11_toss [.inr (.inr 2), .inl a] (hp A) := Or.inl ⟨rfl, _, _, rfl, c.1, c.2, _, _, ntP_A hR c z, t.1, fun e => t.2 (by
          have : nK (A.sh a.toNat).na = 0 ∨ nK (A.sh a.toNat).na = 1 ∨ nK (A.sh a.toNat).na = 2 ∨ nK (A.sh a.toNat).na = 3 ∨ nK (A.sh a.toNat).na = 4 ∨ nK (A.sh a.toNat).na = 5 := by omega
          rcases this with y | y | y | y | y | y
          · rw [y] at e; exact absurd e (by decide)
          · rw [y] at e; exact absurd e (by decide)
          · rw [y] at e; exact absurd e (by decide)
          · rw [y] at e; exact absurd e (by decide)
          · rw [y] at e; exact absurd e (by decide)
          · exact y)⟩
        have fi : inI (nF (A.sh a.toNat).na) = true := inI_of (by omega) (by omega)
        have thr : ∀ v : Int, v = tv (cls (nK (A.sh a.toNat).na)) (nF (A.sh a.toNat).na) → ThrC l sc 8 mX11_toss hhT [.inr (.inr 2), .inl a] (hp A) (some (.inl v)) → ∀ Q, Call (spM l sc) sc 19 mX11_toss [.inr (.inr 2), .inl a] (hp A) Q = Q (some (.inl v)) (hp (iA.mk A.now A.img A.mnd A.imd A.yr A.mt A.sh A.pt A.mo A.out A.ext (A.mc + 1))) := fun v hv hT Q => call_sp (spM_thr hg ⟨Or.inl rfl, hent, Or.inl ⟨rfl, _, _, _, _, rfl, ntP_A hR c z, hv⟩, hT⟩) (by decide) (by omega)
        have wk := wk (iA.mk A.now A.img A.mnd A.imd A.yr A.mt A.sh A.pt A.mo A.out A.ext (A.mc + 1)) rfl
        have ke1 : ((iA.mk A.now A.img A.mnd A.imd A.yr A.mt A.sh A.pt A.mo A.out A.ext (A.mc + 1)) : iA).mo.ke.getD a.toNat 0 = 1 := hS.ho.trans z
        rw [ke1] at wk
        have kf1 : A.mo.kf.getD a.toNat 0 = nF (A.sh a.toNat).na := hS.kf z
        obtain ⟨f, hf⟩ : ∃ f, nF (A.sh a.toNat).na = f := ⟨_, rfl⟩
        rw [hf] at hb t fi rn thr kf1
        have f0 : ¬ f = 0 := t.1
        have fin : ∀ v : Int, inI v = true → (∀ Q, Call (spM l sc) sc 19 mX11_toss [.inr (.inr 2), .inl a] (hp A) Q = Q (some (.inl v)) (hp (iA.mk A.now A.img A.mnd A.imd A.yr A.mt A.sh A.pt A.mo A.out A.ext (A.mc + 1)))) → Call (spM l sc) sc 19 mX12_toss [.inr (.inr 140), .inl a] (hp (iA.mk A.now A.img A.mnd A.imd A.yr A.mt A.sh A.pt A.mo A.out A.ext (A.mc + 1))) (fun x w => x = some (.inl v) ∧ w = hp (iA.mk A.now A.img A.mnd A.imd A.yr A.mt A.sh A.pt A.mo A.out A.ext (A.mc + 1))) → Agree (spM l sc) sc mX11_toss mX12_toss [.inl a] A := fun v iv h1 h2 => ⟨v, _, _, iv, h1, fun Q => Call_eq h2, Nat.le_succ _, Nat.le_refl _, by show A.mc + 1 ≤ A.mc + 10; omega, rel_mc hR⟩
        have : nK (A.sh a.toNat).na = 0 ∨ nK (A.sh a.toNat).na = 1 ∨ nK (A.sh a.toNat).na = 2 ∨ nK (A.sh a.toNat).na = 3 ∨ nK (A.sh a.toNat).na = 4 := by omega
        rcases this with y | y | y | y | y
        · rw [y] at rn thr
          have kk1 : A.mo.kk.getD a.toNat 0 = 0 := by
            have u := hS.kk z
            rw [y] at u
            exact u
          have l2 : lkF 11 125 (cls 0) = some 0 := by decide +kernel
          refine fin f (inI_of (by omega) (by omega)) (thr f rfl (thr_toss hR ia c z (ci := 6) (kd := 2) (by rw [y]; rfl) (by decide +kernel) (Or.inl rfl) (by decide) mtab_F6 (metX_6 hls (by omega) rn (by decide +kernel) f0 fi) cat_T6 (by decide +kernel) (G_run (B := []) 60 _ _ _ _ ?_))) ?_
          · simp (disch := first | assumption | rfl | exact inI_of (by omega) (by omega) | omega | decide | (simp only [sv_ext, sv_mc, Nat.le_refl]; done) | with_unfolding_all (refine @id _ ?_; first | exact Eq.refl _ | exact Nat.le_refl _ | assumption)) only [Nat.reduceAdd, Nat.reduceMul, Nat.reduceLeDiff, Nat.reduceLT, Int.reduceAdd, Int.reduceSub, Int.reduceMul, Int.reduceNeg, Int.reduceLE, Int.reduceLT, Int.reduceToNat, Int.reduceEq, reduceCtorEq, ld_z, ld_s, st1_0, st1_1, st1_s, st2_0, st2_1, st2_s, isJ_i, isJ_r, isJ_n, isJ_l, cs_nil, cs_i, cs_r, cs_l, kF, List.getElem?_cons_succ, List.getElem?_cons_zero, List.set_cons_zero, List.set_cons_succ, GC_s, GC_n, GK_nil, GK_no, GK_yes, not_false_eq_true, back_eq, back_hp, inI_eq, inA_eq, true_and, and_true, and_self, if_true, if_false, bI_0, bI_1, bI_in, bI_T, bI_F, fitF, jmpF, nlF, pjA, iVal.eta, iYr.eta, List.getElem?_toArray, List.length_cons, List.length_nil, true_or, or_true, or_false, false_or, Classical.not_not, Bool.false_eq_true, hp_2, Nat.zero_le, Nat.le_refl, Option.some.injEq, Sum.inl.injEq, Sum.inr.injEq, not_true_eq_false, true_implies, false_implies, implies_true, Int.le_refl, rd_v, f_num, f_lik, f_dep, f_bnd, f_man, f_wom, f_sta, f_dds, f_who, rd_e, v_now, hasOne_eq, hasTwo_eq, hasCouple_eq, orNone_eq, natureOf_eq, rd_nat, place_eq, rd_v1, rd_v3, rd_v4, rd_v6, rd_v7, rd_v8, rd_v9, rd_v10, isShelf_eq, isSide_eq, isDeed_eq, isKind_eq, isMindSpan_eq, gX11_toss, rn, y, hf, l2]
          · apply eX12_toss 60; simp (disch := first | assumption | rfl | exact inI_of (by omega) (by omega) | omega | decide | (simp only [sv_ext, sv_mc, Nat.le_refl]; done) | with_unfolding_all (refine @id _ ?_; first | exact Eq.refl _ | exact Nat.le_refl _ | assumption)) only [Nat.reduceAdd, Nat.reduceMul, Nat.reduceLeDiff, Nat.reduceLT, Int.reduceAdd, Int.reduceSub, Int.reduceMul, Int.reduceNeg, Int.reduceLE, Int.reduceLT, Int.reduceToNat, Int.reduceEq, reduceCtorEq, ld_z, ld_s, st1_0, st1_1, st1_s, st2_0, st2_1, st2_s, isJ_i, isJ_r, isJ_n, isJ_l, cs_nil, cs_i, cs_r, cs_l, kF, List.getElem?_cons_succ, List.getElem?_cons_zero, List.set_cons_zero, List.set_cons_succ, GC_s, GC_n, GK_nil, GK_no, GK_yes, not_false_eq_true, back_eq, back_hp, inI_eq, inA_eq, true_and, and_true, and_self, if_true, if_false, bI_0, bI_1, bI_in, bI_T, bI_F, fitF, jmpF, nlF, pjA, iVal.eta, iYr.eta, List.getElem?_toArray, List.length_cons, List.length_nil, true_or, or_true, or_false, false_or, Classical.not_not, Bool.false_eq_true, hp_2, Nat.zero_le, Nat.le_refl, Option.some.injEq, Sum.inl.injEq, Sum.inr.injEq, not_true_eq_false, true_implies, false_implies, implies_true, Int.le_refl, gX12_toss, rd_o, wk, rfN, rd_o_kk, rd_o_kf, lkk, lkf, kk1, kf1, f0]
        · rw [y] at rn thr
          have kk1 : A.mo.kk.getD a.toNat 0 = 1 := by
            have u := hS.kk z
            rw [y] at u
            exact u
          have l2 : lkF 11 125 (cls 1) = some 0 := by decide +kernel
          refine fin f (inI_of (by omega) (by omega)) (thr f rfl (thr_toss hR ia c z (ci := 9) (kd := 3) (by rw [y]; rfl) (by decide +kernel) (Or.inr (Or.inl rfl)) (by decide) mtab_F6 (metX_6 hls (by omega) rn (by decide +kernel) f0 fi) cat_T6 (by decide +kernel) (G_run (B := []) 60 _ _ _ _ ?_))) ?_
          · simp (disch := first | assumption | rfl | exact inI_of (by omega) (by omega) | omega | decide | (simp only [sv_ext, sv_mc, Nat.le_refl]; done) | with_unfolding_all (refine @id _ ?_; first | exact Eq.refl _ | exact Nat.le_refl _ | assumption)) only [Nat.reduceAdd, Nat.reduceMul, Nat.reduceLeDiff, Nat.reduceLT, Int.reduceAdd, Int.reduceSub, Int.reduceMul, Int.reduceNeg, Int.reduceLE, Int.reduceLT, Int.reduceToNat, Int.reduceEq, reduceCtorEq, ld_z, ld_s, st1_0, st1_1, st1_s, st2_0, st2_1, st2_s, isJ_i, isJ_r, isJ_n, isJ_l, cs_nil, cs_i, cs_r, cs_l, kF, List.getElem?_cons_succ, List.getElem?_cons_zero, List.set_cons_zero, List.set_cons_succ, GC_s, GC_n, GK_nil, GK_no, GK_yes, not_false_eq_true, back_eq, back_hp, inI_eq, inA_eq, true_and, and_true, and_self, if_true, if_false, bI_0, bI_1, bI_in, bI_T, bI_F, fitF, jmpF, nlF, pjA, iVal.eta, iYr.eta, List.getElem?_toArray, List.length_cons, List.length_nil, true_or, or_true, or_false, false_or, Classical.not_not, Bool.false_eq_true, hp_2, Nat.zero_le, Nat.le_refl, Option.some.injEq, Sum.inl.injEq, Sum.inr.injEq, not_true_eq_false, true_implies, false_implies, implies_true, Int.le_refl, rd_v, f_num, f_lik, f_dep, f_bnd, f_man, f_wom, f_sta, f_dds, f_who, rd_e, v_now, hasOne_eq, hasTwo_eq, hasCouple_eq, orNone_eq, natureOf_eq, rd_nat, place_eq, rd_v1, rd_v3, rd_v4, rd_v6, rd_v7, rd_v8, rd_v9, rd_v10, isShelf_eq, isSide_eq, isDeed_eq, isKind_eq, isMindSpan_eq, gX11_toss, rn, y, hf, l2]
          · apply eX12_toss 60; simp (disch := first | assumption | rfl | exact inI_of (by omega) (by omega) | omega | decide | (simp only [sv_ext, sv_mc, Nat.le_refl]; done) | with_unfolding_all (refine @id _ ?_; first | exact Eq.refl _ | exact Nat.le_refl _ | assumption)) only [Nat.reduceAdd, Nat.reduceMul, Nat.reduceLeDiff, Nat.reduceLT, Int.reduceAdd, Int.reduceSub, Int.reduceMul, Int.reduceNeg, Int.reduceLE, Int.reduceLT, Int.reduceToNat, Int.reduceEq, reduceCtorEq, ld_z, ld_s, st1_0, st1_1, st1_s, st2_0, st2_1, st2_s, isJ_i, isJ_r, isJ_n, isJ_l, cs_nil, cs_i, cs_r, cs_l, kF, List.getElem?_cons_succ, List.getElem?_cons_zero, List.set_cons_zero, List.set_cons_succ, GC_s, GC_n, GK_nil, GK_no, GK_yes, not_false_eq_true, back_eq, back_hp, inI_eq, inA_eq, true_and, and_true, and_self, if_true, if_false, bI_0, bI_1, bI_in, bI_T, bI_F, fitF, jmpF, nlF, pjA, iVal.eta, iYr.eta, List.getElem?_toArray, List.length_cons, List.length_nil, true_or, or_true, or_false, false_or, Classical.not_not, Bool.false_eq_true, hp_2, Nat.zero_le, Nat.le_refl, Option.some.injEq, Sum.inl.injEq, Sum.inr.injEq, not_true_eq_false, true_implies, false_implies, implies_true, Int.le_refl, gX12_toss, rd_o, wk, rfN, rd_o_kk, rd_o_kf, lkk, lkf, kk1, kf1, f0]
        · rw [y] at rn thr
          have kk1 : A.mo.kk.getD a.toNat 0 = 2 := by
            have u := hS.kk z
            rw [y] at u
            exact u
          have l2 : lkF 11 125 (cls 2) = some 0 := by decide +kernel
          refine fin f (inI_of (by omega) (by omega)) (thr f rfl (thr_toss hR ia c z (ci := 0) (kd := 3) (by rw [y]; rfl) (by decide +kernel) (Or.inr (Or.inl rfl)) (by decide) mtab_F6 (metX_6 hls (by omega) rn (by decide +kernel) f0 fi) cat_T6 (by decide +kernel) (G_run (B := []) 60 _ _ _ _ ?_))) ?_
          · simp (disch := first | assumption | rfl | exact inI_of (by omega) (by omega) | omega | decide | (simp only [sv_ext, sv_mc, Nat.le_refl]; done) | with_unfolding_all (refine @id _ ?_; first | exact Eq.refl _ | exact Nat.le_refl _ | assumption)) only [Nat.reduceAdd, Nat.reduceMul, Nat.reduceLeDiff, Nat.reduceLT, Int.reduceAdd, Int.reduceSub, Int.reduceMul, Int.reduceNeg, Int.reduceLE, Int.reduceLT, Int.reduceToNat, Int.reduceEq, reduceCtorEq, ld_z, ld_s, st1_0, st1_1, st1_s, st2_0, st2_1, st2_s, isJ_i, isJ_r, isJ_n, isJ_l, cs_nil, cs_i, cs_r, cs_l, kF, List.getElem?_cons_succ, List.getElem?_cons_zero, List.set_cons_zero, List.set_cons_succ, GC_s, GC_n, GK_nil, GK_no, GK_yes, not_false_eq_true, back_eq, back_hp, inI_eq, inA_eq, true_and, and_true, and_self, if_true, if_false, bI_0, bI_1, bI_in, bI_T, bI_F, fitF, jmpF, nlF, pjA, iVal.eta, iYr.eta, List.getElem?_toArray, List.length_cons, List.length_nil, true_or, or_true, or_false, false_or, Classical.not_not, Bool.false_eq_true, hp_2, Nat.zero_le, Nat.le_refl, Option.some.injEq, Sum.inl.injEq, Sum.inr.injEq, not_true_eq_false, true_implies, false_implies, implies_true, Int.le_refl, rd_v, f_num, f_lik, f_dep, f_bnd, f_man, f_wom, f_sta, f_dds, f_who, rd_e, v_now, hasOne_eq, hasTwo_eq, hasCouple_eq, orNone_eq, natureOf_eq, rd_nat, place_eq, rd_v1, rd_v3, rd_v4, rd_v6, rd_v7, rd_v8, rd_v9, rd_v10, isShelf_eq, isSide_eq, isDeed_eq, isKind_eq, isMindSpan_eq, gX11_toss, rn, y, hf, l2]
          · apply eX12_toss 60; simp (disch := first | assumption | rfl | exact inI_of (by omega) (by omega) | omega | decide | (simp only [sv_ext, sv_mc, Nat.le_refl]; done) | with_unfolding_all (refine @id _ ?_; first | exact Eq.refl _ | exact Nat.le_refl _ | assumption)) only [Nat.reduceAdd, Nat.reduceMul, Nat.reduceLeDiff, Nat.reduceLT, Int.reduceAdd, Int.reduceSub, Int.reduceMul, Int.reduceNeg, Int.reduceLE, Int.reduceLT, Int.reduceToNat, Int.reduceEq, reduceCtorEq, ld_z, ld_s, st1_0, st1_1, st1_s, st2_0, st2_1, st2_s, isJ_i, isJ_r, isJ_n, isJ_l, cs_nil, cs_i, cs_r, cs_l, kF, List.getElem?_cons_succ, List.getElem?_cons_zero, List.set_cons_zero, List.set_cons_succ, GC_s, GC_n, GK_nil, GK_no, GK_yes, not_false_eq_true, back_eq, back_hp, inI_eq, inA_eq, true_and, and_true, and_self, if_true, if_false, bI_0, bI_1, bI_in, bI_T, bI_F, fitF, jmpF, nlF, pjA, iVal.eta, iYr.eta, List.getElem?_toArray, List.length_cons, List.length_nil, true_or, or_true, or_false, false_or, Classical.not_not, Bool.false_eq_true, hp_2, Nat.zero_le, Nat.le_refl, Option.some.injEq, Sum.inl.injEq, Sum.inr.injEq, not_true_eq_false, true_implies, false_implies, implies_true, Int.le_refl, gX12_toss, rd_o, wk, rfN, rd_o_kk, rd_o_kf, lkk, lkf, kk1, kf1, f0]
        · rw [y] at rn thr
          have kk1 : A.mo.kk.getD a.toNat 0 = 3 := by
            have u := hS.kk z
            rw [y] at u
            exact u
          have l2 : lkF 11 125 (cls 3) = some 0 := by decide +kernel
          refine fin (100 + f) (inI_of (by omega) (by omega)) (thr (100 + f) rfl (thr_toss hR ia c z (ci := 3) (kd := 3) (by rw [y]; rfl) (by decide +kernel) (Or.inr (Or.inl rfl)) (by decide) mtab_F3 (metX_3 hls (by omega) rn f0 fi) cat_T3 (by decide +kernel) (G_run (B := []) 60 _ _ _ _ ?_))) ?_
          · simp (disch := first | assumption | rfl | exact inI_of (by omega) (by omega) | omega | decide | (simp only [sv_ext, sv_mc, Nat.le_refl]; done) | with_unfolding_all (refine @id _ ?_; first | exact Eq.refl _ | exact Nat.le_refl _ | assumption)) only [Nat.reduceAdd, Nat.reduceMul, Nat.reduceLeDiff, Nat.reduceLT, Int.reduceAdd, Int.reduceSub, Int.reduceMul, Int.reduceNeg, Int.reduceLE, Int.reduceLT, Int.reduceToNat, Int.reduceEq, reduceCtorEq, ld_z, ld_s, st1_0, st1_1, st1_s, st2_0, st2_1, st2_s, isJ_i, isJ_r, isJ_n, isJ_l, cs_nil, cs_i, cs_r, cs_l, kF, List.getElem?_cons_succ, List.getElem?_cons_zero, List.set_cons_zero, List.set_cons_succ, GC_s, GC_n, GK_nil, GK_no, GK_yes, not_false_eq_true, back_eq, back_hp, inI_eq, inA_eq, true_and, and_true, and_self, if_true, if_false, bI_0, bI_1, bI_in, bI_T, bI_F, fitF, jmpF, nlF, pjA, iVal.eta, iYr.eta, List.getElem?_toArray, List.length_cons, List.length_nil, true_or, or_true, or_false, false_or, Classical.not_not, Bool.false_eq_true, hp_2, Nat.zero_le, Nat.le_refl, Option.some.injEq, Sum.inl.injEq, Sum.inr.injEq, not_true_eq_false, true_implies, false_implies, implies_true, Int.le_refl, rd_v, f_num, f_lik, f_dep, f_bnd, f_man, f_wom, f_sta, f_dds, f_who, rd_e, v_now, hasOne_eq, hasTwo_eq, hasCouple_eq, orNone_eq, natureOf_eq, rd_nat, place_eq, rd_v1, rd_v3, rd_v4, rd_v6, rd_v7, rd_v8, rd_v9, rd_v10, isShelf_eq, isSide_eq, isDeed_eq, isKind_eq, isMindSpan_eq, gX11_toss, rn, y, hf, l2]
          · apply eX12_toss 60; simp (disch := first | assumption | rfl | exact inI_of (by omega) (by omega) | omega | decide | (simp only [sv_ext, sv_mc, Nat.le_refl]; done) | with_unfolding_all (refine @id _ ?_; first | exact Eq.refl _ | exact Nat.le_refl _ | assumption)) only [Nat.reduceAdd, Nat.reduceMul, Nat.reduceLeDiff, Nat.reduceLT, Int.reduceAdd, Int.reduceSub, Int.reduceMul, Int.reduceNeg, Int.reduceLE, Int.reduceLT, Int.reduceToNat, Int.reduceEq, reduceCtorEq, ld_z, ld_s, st1_0, st1_1, st1_s, st2_0, st2_1, st2_s, isJ_i, isJ_r, isJ_n, isJ_l, cs_nil, cs_i, cs_r, cs_l, kF, List.getElem?_cons_succ, List.getElem?_cons_zero, List.set_cons_zero, List.set_cons_succ, GC_s, GC_n, GK_nil, GK_no, GK_yes, not_false_eq_true, back_eq, back_hp, inI_eq, inA_eq, true_and, and_true, and_self, if_true, if_false, bI_0, bI_1, bI_in, bI_T, bI_F, fitF, jmpF, nlF, pjA, iVal.eta, iYr.eta, List.getElem?_toArray, List.length_cons, List.length_nil, true_or, or_true, or_false, false_or, Classical.not_not, Bool.false_eq_true, hp_2, Nat.zero_le, Nat.le_refl, Option.some.injEq, Sum.inl.injEq, Sum.inr.injEq, not_true_eq_false, true_implies, false_implies, implies_true, Int.le_refl, gX12_toss, rd_o, wk, rfN, rd_o_kk, rd_o_kf, lkk, lkf, kk1, kf1, f0]
        · rw [y] at rn thr
          have kk1 : A.mo.kk.getD a.toNat 0 = 4 := by
            have u := hS.kk z
            rw [y] at u
            exact u
          have pb := pB_b (k := 4) hb.1 hb.2
          have cb : ∀ Q, Call (spM l sc) sc 18 mX12_costBy [.inl 4, .inl f] (hp (iA.mk A.now A.img A.mnd A.imd A.yr A.mt A.sh A.pt A.mo A.out A.ext (A.mc + 1))) Q = Q (some (.inl (pB 4 f))) (hp (iA.mk A.now A.img A.mnd A.imd A.yr A.mt A.sh A.pt A.mo A.out A.ext (A.mc + 1))) := fun Q => costBy_eq (k := 4) (by omega)
          have pr : ∀ Q, Call sp0 sc 7 mX7_price [.inr (.inr ((A.sh a.toNat).na + 2))] (hp A) Q = Q (some (.inl (pB 4 f))) (hp A) := fun Q => by
            have k := price_eq (sp := sp0) (sc := sc) (d := 3) (A := A) (Q := Q) (x := (A.sh a.toNat).na) hn
            rw [y, hf] at k
            exact k
          have ll : lkC 11 368 (cls 4) = some (mX7_price, 0, 3) := by decide +kernel
          refine fin (200 + pB 4 f) (inI_of (by omega) (by omega)) (thr (200 + pB 4 f) rfl (thr_toss hR ia c z (ci := 7) (kd := 3) (by rw [y]; rfl) (by decide +kernel) (Or.inr (Or.inl rfl)) (by decide) mtab_F7 (metX_7 hls (by omega) rn f0 fi) cat_T7 (by decide +kernel) (G_run (B := []) 60 _ _ _ _ ?_))) ?_
          · simp (disch := first | assumption | rfl | exact inI_of (by omega) (by omega) | omega | decide | (simp only [sv_ext, sv_mc, Nat.le_refl]; done) | with_unfolding_all (refine @id _ ?_; first | exact Eq.refl _ | exact Nat.le_refl _ | assumption)) only [Nat.reduceAdd, Nat.reduceMul, Nat.reduceLeDiff, Nat.reduceLT, Int.reduceAdd, Int.reduceSub, Int.reduceMul, Int.reduceNeg, Int.reduceLE, Int.reduceLT, Int.reduceToNat, Int.reduceEq, reduceCtorEq, ld_z, ld_s, st1_0, st1_1, st1_s, st2_0, st2_1, st2_s, isJ_i, isJ_r, isJ_n, isJ_l, cs_nil, cs_i, cs_r, cs_l, kF, List.getElem?_cons_succ, List.getElem?_cons_zero, List.set_cons_zero, List.set_cons_succ, GC_s, GC_n, GK_nil, GK_no, GK_yes, not_false_eq_true, back_eq, back_hp, inI_eq, inA_eq, true_and, and_true, and_self, if_true, if_false, bI_0, bI_1, bI_in, bI_T, bI_F, fitF, jmpF, nlF, pjA, iVal.eta, iYr.eta, List.getElem?_toArray, List.length_cons, List.length_nil, true_or, or_true, or_false, false_or, Classical.not_not, Bool.false_eq_true, hp_2, Nat.zero_le, Nat.le_refl, Option.some.injEq, Sum.inl.injEq, Sum.inr.injEq, not_true_eq_false, true_implies, false_implies, implies_true, Int.le_refl, rd_v, f_num, f_lik, f_dep, f_bnd, f_man, f_wom, f_sta, f_dds, f_who, rd_e, v_now, hasOne_eq, hasTwo_eq, hasCouple_eq, orNone_eq, natureOf_eq, rd_nat, place_eq, rd_v1, rd_v3, rd_v4, rd_v6, rd_v7, rd_v8, rd_v9, rd_v10, isShelf_eq, isSide_eq, isDeed_eq, isKind_eq, isMindSpan_eq, gX11_toss, rn, y, hf, ll, pr]
          · apply eX12_toss 60; simp (disch := first | assumption | rfl | exact inI_of (by omega) (by omega) | omega | decide | (simp only [sv_ext, sv_mc, Nat.le_refl]; done) | with_unfolding_all (refine @id _ ?_; first | exact Eq.refl _ | exact Nat.le_refl _ | assumption)) only [Nat.reduceAdd, Nat.reduceMul, Nat.reduceLeDiff, Nat.reduceLT, Int.reduceAdd, Int.reduceSub, Int.reduceMul, Int.reduceNeg, Int.reduceLE, Int.reduceLT, Int.reduceToNat, Int.reduceEq, reduceCtorEq, ld_z, ld_s, st1_0, st1_1, st1_s, st2_0, st2_1, st2_s, isJ_i, isJ_r, isJ_n, isJ_l, cs_nil, cs_i, cs_r, cs_l, kF, List.getElem?_cons_succ, List.getElem?_cons_zero, List.set_cons_zero, List.set_cons_succ, GC_s, GC_n, GK_nil, GK_no, GK_yes, not_false_eq_true, back_eq, back_hp, inI_eq, inA_eq, true_and, and_true, and_self, if_true, if_false, bI_0, bI_1, bI_in, bI_T, bI_F, fitF, jmpF, nlF, pjA, iVal.eta, iYr.eta, List.getElem?_toArray, List.length_cons, List.length_nil, true_or, or_true, or_false, false_or, Classical.not_not, Bool.false_eq_true, hp_2, Nat.zero_le, Nat.le_refl, Option.some.injEq, Sum.inl.injEq, Sum.inr.injEq, not_true_eq_false, true_implies, false_implies, implies_true, Int.le_refl, gX12_toss, rd_o, wk, rfN, rd_o_kk, rd_o_kf, lkk, lkf, kk1, kf1, f0, cb]
      · -- it has no failure
        have ng2 : ¬ grd mX11_toss [.inr (.inr 2), .inl a] (hp A) := fun hg => by
          rcases hg with ⟨-, x, d, e, g⟩ | ⟨e, -⟩
          · cases e
            obtain ⟨-, -, ci, f, g1, g2, g3⟩ := g
            obtain ⟨rfl, rfl⟩ := ntP_uni g1 (ntP_A hR c z)
            refine t ⟨g2, fun e5 => g3 ?_⟩
            rw [e5]; rfl
          · exact absurd e (by decide)
        have wk := wk A rfl
        rw [hS.ho, z] at wk
        have kk1 := hS.kk z
        have kf1 := hS.kf z
        by_cases y5 : nK (A.sh a.toNat).na = 5
        · rw [y5] at rn kk1
          have ll : lkC 11 371 1 = some (mX1_fail, 0, 3) := by decide +kernel
          have fl : ∀ Q, Call sp0 sc 7 mX1_fail [.inr (.inr ((A.sh a.toNat).na + 2))] (hp A) Q = Q none (hp A) := fun Q => Call_eq (by
            apply eX1_fail 20; simp (disch := first | assumption | rfl | exact inI_of (by omega) (by omega) | omega | decide | (simp only [sv_ext, sv_mc, Nat.le_refl]; done) | with_unfolding_all (refine @id _ ?_; first | exact Eq.refl _ | exact Nat.le_refl _ | assumption)) only [Nat.reduceAdd, Nat.reduceMul, Nat.reduceLeDiff, Nat.reduceLT, Int.reduceAdd, Int.reduceSub, Int.reduceMul, Int.reduceNeg, Int.reduceLE, Int.reduceLT, Int.reduceToNat, Int.reduceEq, reduceCtorEq, ld_z, ld_s, st1_0, st1_1, st1_s, st2_0, st2_1, st2_s, isJ_i, isJ_r, isJ_n, isJ_l, cs_nil, cs_i, cs_r, cs_l, kF, List.getElem?_cons_succ, List.getElem?_cons_zero, List.set_cons_zero, List.set_cons_succ, GC_s, GC_n, GK_nil, GK_no, GK_yes, not_false_eq_true, back_eq, back_hp, inI_eq, inA_eq, true_and, and_true, and_self, if_true, if_false, bI_0, bI_1, bI_in, bI_T, bI_F, fitF, jmpF, nlF, pjA, iVal.eta, iYr.eta, List.getElem?_toArray, List.length_cons, List.length_nil, true_or, or_true, or_false, false_or, Classical.not_not, Bool.false_eq_true, hp_2, Nat.zero_le, Nat.le_refl, Option.some.injEq, Sum.inl.injEq, Sum.inr.injEq, not_true_eq_false, true_implies, false_implies, implies_true, Int.le_refl, gX1_fail])
          refine Agree.of (-15) A A rfl (nrm (-15) ng2 (G_run (B := []) 60 _ _ _ _ ?_)) (fun Q => Call_eq ?_) rfl rfl hR
          · simp (disch := first | assumption | rfl | exact inI_of (by omega) (by omega) | omega | decide | (simp only [sv_ext, sv_mc, Nat.le_refl]; done) | with_unfolding_all (refine @id _ ?_; first | exact Eq.refl _ | exact Nat.le_refl _ | assumption)) only [Nat.reduceAdd, Nat.reduceMul, Nat.reduceLeDiff, Nat.reduceLT, Int.reduceAdd, Int.reduceSub, Int.reduceMul, Int.reduceNeg, Int.reduceLE, Int.reduceLT, Int.reduceToNat, Int.reduceEq, reduceCtorEq, ld_z, ld_s, st1_0, st1_1, st1_s, st2_0, st2_1, st2_s, isJ_i, isJ_r, isJ_n, isJ_l, cs_nil, cs_i, cs_r, cs_l, kF, List.getElem?_cons_succ, List.getElem?_cons_zero, List.set_cons_zero, List.set_cons_succ, GC_s, GC_n, GK_nil, GK_no, GK_yes, not_false_eq_true, back_eq, back_hp, inI_eq, inA_eq, true_and, and_true, and_self, if_true, if_false, bI_0, bI_1, bI_in, bI_T, bI_F, fitF, jmpF, nlF, pjA, iVal.eta, iYr.eta, List.getElem?_toArray, List.length_cons, List.length_nil, true_or, or_true, or_false, false_or, Classical.not_not, Bool.false_eq_true, hp_2, Nat.zero_le, Nat.le_refl, Option.some.injEq, Sum.inl.injEq, Sum.inr.injEq, not_true_eq_false, true_implies, false_implies, implies_true, Int.le_refl, rd_v, f_num, f_lik, f_dep, f_bnd, f_man, f_wom, f_sta, f_dds, f_who, rd_e, v_now, hasOne_eq, hasTwo_eq, hasCouple_eq, orNone_eq, natureOf_eq, rd_nat, place_eq, rd_v1, rd_v3, rd_v4, rd_v6, rd_v7, rd_v8, rd_v9, rd_v10, isShelf_eq, isSide_eq, isDeed_eq, isKind_eq, isMindSpan_eq, gX11_toss, c, rd_ss, ns, sh_at, refN_eq hd hS.hv, z, rfN, rd_s, rn, y5, clsE, ll, fl]
          · apply eX12_toss 60; simp (disch := first | assumption | rfl | exact inI_of (by omega) (by omega) | omega | decide | (simp only [sv_ext, sv_mc, Nat.le_refl]; done) | with_unfolding_all (refine @id _ ?_; first | exact Eq.refl _ | exact Nat.le_refl _ | assumption)) only [Nat.reduceAdd, Nat.reduceMul, Nat.reduceLeDiff, Nat.reduceLT, Int.reduceAdd, Int.reduceSub, Int.reduceMul, Int.reduceNeg, Int.reduceLE, Int.reduceLT, Int.reduceToNat, Int.reduceEq, reduceCtorEq, ld_z, ld_s, st1_0, st1_1, st1_s, st2_0, st2_1, st2_s, isJ_i, isJ_r, isJ_n, isJ_l, cs_nil, cs_i, cs_r, cs_l, kF, List.getElem?_cons_succ, List.getElem?_cons_zero, List.set_cons_zero, List.set_cons_succ, GC_s, GC_n, GK_nil, GK_no, GK_yes, not_false_eq_true, back_eq, back_hp, inI_eq, inA_eq, true_and, and_true, and_self, if_true, if_false, bI_0, bI_1, bI_in, bI_T, bI_F, fitF, jmpF, nlF, pjA, iVal.eta, iYr.eta, List.getElem?_toArray, List.length_cons, List.length_nil, true_or, or_true, or_false, false_or, Classical.not_not, Bool.false_eq_true, hp_2, Nat.zero_le, Nat.le_refl, Option.some.injEq, Sum.inl.injEq, Sum.inr.injEq, not_true_eq_false, true_implies, false_implies, implies_true, Int.le_refl, gX12_toss, rd_o, wk, rfN, rd_o_kk, rd_o_kf, lkk, lkf, kk1, kf1]
        · have f0 : nF (A.sh a.toNat).na = 0 := by
            by_cases e : nF (A.sh a.toNat).na = 0
            · exact e
            · exact absurd ⟨e, y5⟩ t
          rw [f0] at rn kf1
          have kd : ∃ (y' kd : Nat), lkC 11 371 (cls (nK (A.sh a.toNat).na)) = some (y', 0, kd) ∧ (kd = 2 ∨ kd = 3 ∨ kd = 8) ∧ ∀ Q, Call sp0 sc 7 y' [.inr (.inr ((A.sh a.toNat).na + 2))] (hp A) Q = Q none (hp A) := by
            have : nK (A.sh a.toNat).na = 0 ∨ nK (A.sh a.toNat).na = 1 ∨ nK (A.sh a.toNat).na = 2 ∨ nK (A.sh a.toNat).na = 3 ∨ nK (A.sh a.toNat).na = 4 := by omega
            have l0 : lkF 6 7 0 = some 0 := by decide +kernel
            have l6 : lkF 6 7 6 = some 0 := by decide +kernel
            have l9 : lkF 6 7 9 = some 0 := by decide +kernel
            have l3 : lkF 3 11 3 = some 0 := by decide +kernel
            have l7 : lkF 7 11 7 = some 0 := by decide +kernel
            rcases this with y | y | y | y | y
            · rw [y] at rn ⊢
              refine ⟨mX6_fail, 2, by decide +kernel, Or.inl rfl, fun Q => Call_eq ?_⟩
              apply eX6_fail 20; simp (disch := first | assumption | rfl | exact inI_of (by omega) (by omega) | omega | decide | (simp only [sv_ext, sv_mc, Nat.le_refl]; done) | with_unfolding_all (refine @id _ ?_; first | exact Eq.refl _ | exact Nat.le_refl _ | assumption)) only [Nat.reduceAdd, Nat.reduceMul, Nat.reduceLeDiff, Nat.reduceLT, Int.reduceAdd, Int.reduceSub, Int.reduceMul, Int.reduceNeg, Int.reduceLE, Int.reduceLT, Int.reduceToNat, Int.reduceEq, reduceCtorEq, ld_z, ld_s, st1_0, st1_1, st1_s, st2_0, st2_1, st2_s, isJ_i, isJ_r, isJ_n, isJ_l, cs_nil, cs_i, cs_r, cs_l, kF, List.getElem?_cons_succ, List.getElem?_cons_zero, List.set_cons_zero, List.set_cons_succ, GC_s, GC_n, GK_nil, GK_no, GK_yes, not_false_eq_true, back_eq, back_hp, inI_eq, inA_eq, true_and, and_true, and_self, if_true, if_false, bI_0, bI_1, bI_in, bI_T, bI_F, fitF, jmpF, nlF, pjA, iVal.eta, iYr.eta, List.getElem?_toArray, List.length_cons, List.length_nil, true_or, or_true, or_false, false_or, Classical.not_not, Bool.false_eq_true, hp_2, Nat.zero_le, Nat.le_refl, Option.some.injEq, Sum.inl.injEq, Sum.inr.injEq, not_true_eq_false, true_implies, false_implies, implies_true, Int.le_refl, gX6_fail, rn, clsE, l6]
            · rw [y] at rn ⊢
              refine ⟨mX6_fail, 3, by decide +kernel, Or.inr (Or.inl rfl), fun Q => Call_eq ?_⟩
              apply eX6_fail 20; simp (disch := first | assumption | rfl | exact inI_of (by omega) (by omega) | omega | decide | (simp only [sv_ext, sv_mc, Nat.le_refl]; done) | with_unfolding_all (refine @id _ ?_; first | exact Eq.refl _ | exact Nat.le_refl _ | assumption)) only [Nat.reduceAdd, Nat.reduceMul, Nat.reduceLeDiff, Nat.reduceLT, Int.reduceAdd, Int.reduceSub, Int.reduceMul, Int.reduceNeg, Int.reduceLE, Int.reduceLT, Int.reduceToNat, Int.reduceEq, reduceCtorEq, ld_z, ld_s, st1_0, st1_1, st1_s, st2_0, st2_1, st2_s, isJ_i, isJ_r, isJ_n, isJ_l, cs_nil, cs_i, cs_r, cs_l, kF, List.getElem?_cons_succ, List.getElem?_cons_zero, List.set_cons_zero, List.set_cons_succ, GC_s, GC_n, GK_nil, GK_no, GK_yes, not_false_eq_true, back_eq, back_hp, inI_eq, inA_eq, true_and, and_true, and_self, if_true, if_false, bI_0, bI_1, bI_in, bI_T, bI_F, fitF, jmpF, nlF, pjA, iVal.eta, iYr.eta, List.getElem?_toArray, List.length_cons, List.length_nil, true_or, or_true, or_false, false_or, Classical.not_not, Bool.false_eq_true, hp_2, Nat.zero_le, Nat.le_refl, Option.some.injEq, Sum.inl.injEq, Sum.inr.injEq, not_true_eq_false, true_implies, false_implies, implies_true, Int.le_refl, gX6_fail, rn, clsE, l9]
            · rw [y] at rn ⊢
              refine ⟨mX6_fail, 3, by decide +kernel, Or.inr (Or.inl rfl), fun Q => Call_eq ?_⟩
              apply eX6_fail 20; simp (disch := first | assumption | rfl | exact inI_of (by omega) (by omega) | omega | decide | (simp only [sv_ext, sv_mc, Nat.le_refl]; done) | with_unfolding_all (refine @id _ ?_; first | exact Eq.refl _ | exact Nat.le_refl _ | assumption)) only [Nat.reduceAdd, Nat.reduceMul, Nat.reduceLeDiff, Nat.reduceLT, Int.reduceAdd, Int.reduceSub, Int.reduceMul, Int.reduceNeg, Int.reduceLE, Int.reduceLT, Int.reduceToNat, Int.reduceEq, reduceCtorEq, ld_z, ld_s, st1_0, st1_1, st1_s, st2_0, st2_1, st2_s, isJ_i, isJ_r, isJ_n, isJ_l, cs_nil, cs_i, cs_r, cs_l, kF, List.getElem?_cons_succ, List.getElem?_cons_zero, List.set_cons_zero, List.set_cons_succ, GC_s, GC_n, GK_nil, GK_no, GK_yes, not_false_eq_true, back_eq, back_hp, inI_eq, inA_eq, true_and, and_true, and_self, if_true, if_false, bI_0, bI_1, bI_in, bI_T, bI_F, fitF, jmpF, nlF, pjA, iVal.eta, iYr.eta, List.getElem?_toArray, List.length_cons, List.length_nil, true_or, or_true, or_false, false_or, Classical.not_not, Bool.false_eq_true, hp_2, Nat.zero_le, Nat.le_refl, Option.some.injEq, Sum.inl.injEq, Sum.inr.injEq, not_true_eq_false, true_implies, false_implies, implies_true, Int.le_refl, gX6_fail, rn, clsE, l0]
            · rw [y] at rn ⊢
              refine ⟨mX3_fail, 3, by decide +kernel, Or.inr (Or.inl rfl), fun Q => Call_eq ?_⟩
              apply eX3_fail 20; simp (disch := first | assumption | rfl | exact inI_of (by omega) (by omega) | omega | decide | (simp only [sv_ext, sv_mc, Nat.le_refl]; done) | with_unfolding_all (refine @id _ ?_; first | exact Eq.refl _ | exact Nat.le_refl _ | assumption)) only [Nat.reduceAdd, Nat.reduceMul, Nat.reduceLeDiff, Nat.reduceLT, Int.reduceAdd, Int.reduceSub, Int.reduceMul, Int.reduceNeg, Int.reduceLE, Int.reduceLT, Int.reduceToNat, Int.reduceEq, reduceCtorEq, ld_z, ld_s, st1_0, st1_1, st1_s, st2_0, st2_1, st2_s, isJ_i, isJ_r, isJ_n, isJ_l, cs_nil, cs_i, cs_r, cs_l, kF, List.getElem?_cons_succ, List.getElem?_cons_zero, List.set_cons_zero, List.set_cons_succ, GC_s, GC_n, GK_nil, GK_no, GK_yes, not_false_eq_true, back_eq, back_hp, inI_eq, inA_eq, true_and, and_true, and_self, if_true, if_false, bI_0, bI_1, bI_in, bI_T, bI_F, fitF, jmpF, nlF, pjA, iVal.eta, iYr.eta, List.getElem?_toArray, List.length_cons, List.length_nil, true_or, or_true, or_false, false_or, Classical.not_not, Bool.false_eq_true, hp_2, Nat.zero_le, Nat.le_refl, Option.some.injEq, Sum.inl.injEq, Sum.inr.injEq, not_true_eq_false, true_implies, false_implies, implies_true, Int.le_refl, gX3_fail, rn, clsE, l3]
            · rw [y] at rn ⊢
              refine ⟨mX7_fail, 3, by decide +kernel, Or.inr (Or.inl rfl), fun Q => Call_eq ?_⟩
              apply eX7_fail 20; simp (disch := first | assumption | rfl | exact inI_of (by omega) (by omega) | omega | decide | (simp only [sv_ext, sv_mc, Nat.le_refl]; done) | with_unfolding_all (refine @id _ ?_; first | exact Eq.refl _ | exact Nat.le_refl _ | assumption)) only [Nat.reduceAdd, Nat.reduceMul, Nat.reduceLeDiff, Nat.reduceLT, Int.reduceAdd, Int.reduceSub, Int.reduceMul, Int.reduceNeg, Int.reduceLE, Int.reduceLT, Int.reduceToNat, Int.reduceEq, reduceCtorEq, ld_z, ld_s, st1_0, st1_1, st1_s, st2_0, st2_1, st2_s, isJ_i, isJ_r, isJ_n, isJ_l, cs_nil, cs_i, cs_r, cs_l, kF, List.getElem?_cons_succ, List.getElem?_cons_zero, List.set_cons_zero, List.set_cons_succ, GC_s, GC_n, GK_nil, GK_no, GK_yes, not_false_eq_true, back_eq, back_hp, inI_eq, inA_eq, true_and, and_true, and_self, if_true, if_false, bI_0, bI_1, bI_in, bI_T, bI_F, fitF, jmpF, nlF, pjA, iVal.eta, iYr.eta, List.getElem?_toArray, List.length_cons, List.length_nil, true_or, or_true, or_false, false_or, Classical.not_not, Bool.false_eq_true, hp_2, Nat.zero_le, Nat.le_refl, Option.some.injEq, Sum.inl.injEq, Sum.inr.injEq, not_true_eq_false, true_implies, false_implies, implies_true, Int.le_refl, gX7_fail, rn, clsE, l7]
          obtain ⟨y', kd, g1, g2, g3⟩ := kd
          refine Agree.of (-15) A A rfl (nrm (-15) ng2 (G_run (B := []) 60 _ _ _ _ ?_)) (fun Q => Call_eq ?_) rfl rfl hR
          · simp (disch := first | assumption | rfl | exact inI_of (by omega) (by omega) | omega | decide | (simp only [sv_ext, sv_mc, Nat.le_refl]; done) | with_unfolding_all (refine @id _ ?_; first | exact Eq.refl _ | exact Nat.le_refl _ | assumption)) only [Nat.reduceAdd, Nat.reduceMul, Nat.reduceLeDiff, Nat.reduceLT, Int.reduceAdd, Int.reduceSub, Int.reduceMul, Int.reduceNeg, Int.reduceLE, Int.reduceLT, Int.reduceToNat, Int.reduceEq, reduceCtorEq, ld_z, ld_s, st1_0, st1_1, st1_s, st2_0, st2_1, st2_s, isJ_i, isJ_r, isJ_n, isJ_l, cs_nil, cs_i, cs_r, cs_l, kF, List.getElem?_cons_succ, List.getElem?_cons_zero, List.set_cons_zero, List.set_cons_succ, GC_s, GC_n, GK_nil, GK_no, GK_yes, not_false_eq_true, back_eq, back_hp, inI_eq, inA_eq, true_and, and_true, and_self, if_true, if_false, bI_0, bI_1, bI_in, bI_T, bI_F, fitF, jmpF, nlF, pjA, iVal.eta, iYr.eta, List.getElem?_toArray, List.length_cons, List.length_nil, true_or, or_true, or_false, false_or, Classical.not_not, Bool.false_eq_true, hp_2, Nat.zero_le, Nat.le_refl, Option.some.injEq, Sum.inl.injEq, Sum.inr.injEq, not_true_eq_false, true_implies, false_implies, implies_true, Int.le_refl, rd_v, f_num, f_lik, f_dep, f_bnd, f_man, f_wom, f_sta, f_dds, f_who, rd_e, v_now, hasOne_eq, hasTwo_eq, hasCouple_eq, orNone_eq, natureOf_eq, rd_nat, place_eq, rd_v1, rd_v3, rd_v4, rd_v6, rd_v7, rd_v8, rd_v9, rd_v10, isShelf_eq, isSide_eq, isDeed_eq, isKind_eq, isMindSpan_eq, gX11_toss, c, rd_ss, ns, sh_at, refN_eq hd hS.hv, z, rfN, rd_s, rn, g1, g2, g3]
          · have k5 : ¬ (nK (A.sh a.toNat).na : Int) = 5 := by omega
            apply eX12_toss 60; simp (disch := first | assumption | rfl | exact inI_of (by omega) (by omega) | omega | decide | (simp only [sv_ext, sv_mc, Nat.le_refl]; done) | with_unfolding_all (refine @id _ ?_; first | exact Eq.refl _ | exact Nat.le_refl _ | assumption)) only [Nat.reduceAdd, Nat.reduceMul, Nat.reduceLeDiff, Nat.reduceLT, Int.reduceAdd, Int.reduceSub, Int.reduceMul, Int.reduceNeg, Int.reduceLE, Int.reduceLT, Int.reduceToNat, Int.reduceEq, reduceCtorEq, ld_z, ld_s, st1_0, st1_1, st1_s, st2_0, st2_1, st2_s, isJ_i, isJ_r, isJ_n, isJ_l, cs_nil, cs_i, cs_r, cs_l, kF, List.getElem?_cons_succ, List.getElem?_cons_zero, List.set_cons_zero, List.set_cons_succ, GC_s, GC_n, GK_nil, GK_no, GK_yes, not_false_eq_true, back_eq, back_hp, inI_eq, inA_eq, true_and, and_true, and_self, if_true, if_false, bI_0, bI_1, bI_in, bI_T, bI_F, fitF, jmpF, nlF, pjA, iVal.eta, iYr.eta, List.getElem?_toArray, List.length_cons, List.length_nil, true_or, or_true, or_false, false_or, Classical.not_not, Bool.false_eq_true, hp_2, Nat.zero_le, Nat.le_refl, Option.some.injEq, Sum.inl.injEq, Sum.inr.injEq, not_true_eq_false, true_implies, false_implies, implies_true, Int.le_refl, gX12_toss, rd_o, wk, rfN, rd_o_kk, rd_o_kf, lkk, lkf, kk1, kf1, k5]
    · have wk := wk A rfl
      rw [hS.ho, z] at wk
      refine Agree.of (-12) A A rfl (nrm (-12) (ng (by omega)) (G_run (B := []) 60 _ _ _ _ ?_)) (fun Q => Call_eq ?_) rfl rfl hR
      · simp (disch := first | assumption | rfl | exact inI_of (by omega) (by omega) | omega | decide | (simp only [sv_ext, sv_mc, Nat.le_refl]; done) | with_unfolding_all (refine @id _ ?_; first | exact Eq.refl _ | exact Nat.le_refl _ | assumption)) only [Nat.reduceAdd, Nat.reduceMul, Nat.reduceLeDiff, Nat.reduceLT, Int.reduceAdd, Int.reduceSub, Int.reduceMul, Int.reduceNeg, Int.reduceLE, Int.reduceLT, Int.reduceToNat, Int.reduceEq, reduceCtorEq, ld_z, ld_s, st1_0, st1_1, st1_s, st2_0, st2_1, st2_s, isJ_i, isJ_r, isJ_n, isJ_l, cs_nil, cs_i, cs_r, cs_l, kF, List.getElem?_cons_succ, List.getElem?_cons_zero, List.set_cons_zero, List.set_cons_succ, GC_s, GC_n, GK_nil, GK_no, GK_yes, not_false_eq_true, back_eq, back_hp, inI_eq, inA_eq, true_and, and_true, and_self, if_true, if_false, bI_0, bI_1, bI_in, bI_T, bI_F, fitF, jmpF, nlF, pjA, iVal.eta, iYr.eta, List.getElem?_toArray, List.length_cons, List.length_nil, true_or, or_true, or_false, false_or, Classical.not_not, Bool.false_eq_true, hp_2, Nat.zero_le, Nat.le_refl, Option.some.injEq, Sum.inl.injEq, Sum.inr.injEq, not_true_eq_false, true_implies, false_implies, implies_true, Int.le_refl, rd_v, f_num, f_lik, f_dep, f_bnd, f_man, f_wom, f_sta, f_dds, f_who, rd_e, v_now, hasOne_eq, hasTwo_eq, hasCouple_eq, orNone_eq, natureOf_eq, rd_nat, place_eq, rd_v1, rd_v3, rd_v4, rd_v6, rd_v7, rd_v8, rd_v9, rd_v10, isShelf_eq, isSide_eq, isDeed_eq, isKind_eq, isMindSpan_eq, gX11_toss, c, rd_ss, ns, sh_at, refN_eq hd hS.hv, z, rfN, rd_s]
      · apply eX12_toss 60; simp (disch := first | assumption | rfl | exact inI_of (by omega) (by omega) | omega | decide | (simp only [sv_ext, sv_mc, Nat.le_refl]; done) | with_unfolding_all (refine @id _ ?_; first | exact Eq.refl _ | exact Nat.le_refl _ | assumption)) only [Nat.reduceAdd, Nat.reduceMul, Nat.reduceLeDiff, Nat.reduceLT, Int.reduceAdd, Int.reduceSub, Int.reduceMul, Int.reduceNeg, Int.reduceLE, Int.reduceLT, Int.reduceToNat, Int.reduceEq, reduceCtorEq, ld_z, ld_s, st1_0, st1_1, st1_s, st2_0, st2_1, st2_s, isJ_i, isJ_r, isJ_n, isJ_l, cs_nil, cs_i, cs_r, cs_l, kF, List.getElem?_cons_succ, List.getElem?_cons_zero, List.set_cons_zero, List.set_cons_succ, GC_s, GC_n, GK_nil, GK_no, GK_yes, not_false_eq_true, back_eq, back_hp, inI_eq, inA_eq, true_and, and_true, and_self, if_true, if_false, bI_0, bI_1, bI_in, bI_T, bI_F, fitF, jmpF, nlF, pjA, iVal.eta, iYr.eta, List.getElem?_toArray, List.length_cons, List.length_nil, true_or, or_true, or_false, false_or, Classical.not_not, Bool.false_eq_true, hp_2, Nat.zero_le, Nat.le_refl, Option.some.injEq, Sum.inl.injEq, Sum.inr.injEq, not_true_eq_false, true_implies, false_implies, implies_true, Int.le_refl, gX12_toss, rd_o, wk, rfN]
  · have wk := wk A rfl
    rw [if_neg c] at wk
    refine Agree.of (-1) A A rfl (nrm (-1) (fun hg => ?_) (G_run (B := []) 60 _ _ _ _ ?_)) (fun Q => Call_eq ?_) rfl rfl hR
    · rcases hg with ⟨-, x, d, e, g⟩ | ⟨e, -⟩
      · cases e
        exact c ⟨g.1, g.2.1⟩
      · exact absurd e (by decide)
    · simp (disch := first | assumption | rfl | exact inI_of (by omega) (by omega) | omega | decide | (simp only [sv_ext, sv_mc, Nat.le_refl]; done) | with_unfolding_all (refine @id _ ?_; first | exact Eq.refl _ | exact Nat.le_refl _ | assumption)) only [Nat.reduceAdd, Nat.reduceMul, Nat.reduceLeDiff, Nat.reduceLT, Int.reduceAdd, Int.reduceSub, Int.reduceMul, Int.reduceNeg, Int.reduceLE, Int.reduceLT, Int.reduceToNat, Int.reduceEq, reduceCtorEq, ld_z, ld_s, st1_0, st1_1, st1_s, st2_0, st2_1, st2_s, isJ_i, isJ_r, isJ_n, isJ_l, cs_nil, cs_i, cs_r, cs_l, kF, List.getElem?_cons_succ, List.getElem?_cons_zero, List.set_cons_zero, List.set_cons_succ, GC_s, GC_n, GK_nil, GK_no, GK_yes, not_false_eq_true, back_eq, back_hp, inI_eq, inA_eq, true_and, and_true, and_self, if_true, if_false, bI_0, bI_1, bI_in, bI_T, bI_F, fitF, jmpF, nlF, pjA, iVal.eta, iYr.eta, List.getElem?_toArray, List.length_cons, List.length_nil, true_or, or_true, or_false, false_or, Classical.not_not, Bool.false_eq_true, hp_2, Nat.zero_le, Nat.le_refl, Option.some.injEq, Sum.inl.injEq, Sum.inr.injEq, not_true_eq_false, true_implies, false_implies, implies_true, Int.le_refl, rd_v, f_num, f_lik, f_dep, f_bnd, f_man, f_wom, f_sta, f_dds, f_who, rd_e, v_now, hasOne_eq, hasTwo_eq, hasCouple_eq, orNone_eq, natureOf_eq, rd_nat, place_eq, rd_v1, rd_v3, rd_v4, rd_v6, rd_v7, rd_v8, rd_v9, rd_v10, isShelf_eq, isSide_eq, isDeed_eq, isKind_eq, isMindSpan_eq, gX11_toss, c]
    · apply eX12_toss 60; simp (disch := first | assumption | rfl | exact inI_of (by omega) (by omega) | omega | decide | (simp only [sv_ext, sv_mc, Nat.le_refl]; done) | with_unfolding_all (refine @id _ ?_; first | exact Eq.refl _ | exact Nat.le_refl _ | assumption)) only [Nat.reduceAdd, Nat.reduceMul, Nat.reduceLeDiff, Nat.reduceLT, Int.reduceAdd, Int.reduceSub, Int.reduceMul, Int.reduceNeg, Int.reduceLE, Int.reduceLT, Int.reduceToNat, Int.reduceEq, reduceCtorEq, ld_z, ld_s, st1_0, st1_1, st1_s, st2_0, st2_1, st2_s, isJ_i, isJ_r, isJ_n, isJ_l, cs_nil, cs_i, cs_r, cs_l, kF, List.getElem?_cons_succ, List.getElem?_cons_zero, List.set_cons_zero, List.set_cons_succ, GC_s, GC_n, GK_nil, GK_no, GK_yes, not_false_eq_true, back_eq, back_hp, inI_eq, inA_eq, true_and, and_true, and_self, if_true, if_false, bI_0, bI_1, bI_in, bI_T, bI_F, fitF, jmpF, nlF, pjA, iVal.eta, iYr.eta, List.getElem?_toArray, List.length_cons, List.length_nil, true_or, or_true, or_false, false_or, Classical.not_not, Bool.false_eq_true, hp_2, Nat.zero_le, Nat.le_refl, Option.some.injEq, Sum.inl.injEq, Sum.inr.injEq, not_true_eq_false, true_implies, false_implies, implies_true, Int.le_refl, gX12_toss, rd_o, wk]
end SM
