set_option maxRecDepth 16384
/-! ===== the two methods that catch: their contracts, their calls, sp ===== -/
def hhT : List (Nat × Nat × Nat × Nat) := [(35, 39, 42, 374), (35, 39, 53, 347), (35, 39, 63, 354)]
def hhE : List (Nat × Nat × Nat × Nat) := [(0, 9, 12, 13), (0, 9, 16, 15)]
def hhO (y : Nat) : List (Nat × Nat × Nat × Nat) := if y = mX11_toss then hhT else hhE
def qT : mE := (⟨RX11, "toss", "(I)I"⟩, cX11_toss, 5, some .int, 11)
def qE : mE := (⟨RL, "element", "(LEngagedByDeputy;II[J)I"⟩, cL_element, 5, some .int, 13)
theorem mtab_T : mtab[mX11_toss]? = some qT := rfl
theorem mtab_E : mtab[mL_element]? = some qE := rfl
def wsH (q : mE) (hh : List (Nat × Nat × Nat × Nat)) : List Cond := Cond.codeWith q.1 q.2.1 q.2.2.1 q.2.2.2.1 hh :: WSg
/-- the words of a method with a table -/
def okH (q : mE) (hh : List (Nat × Nat × Nat × Nat)) : Prop := Cond.codeWith q.1 q.2.1 q.2.2.1 q.2.2.2.1 hh ∈ WSg ∧ Cond.initialized q.1.cls ∈ WSg ∧ plainName q.1.cls = true ∧ (q.1.cls ≠ "java/lang/invoke/MethodHandle" ∧ q.1.cls ≠ "java/lang/invoke/VarHandle") ∧ q.2.2.1 = 5 ∧ q.1.cls = cnm q.2.2.2.2
theorem okH_T : okH qT hhT := ⟨by decide +kernel, by decide +kernel, by decide +kernel, by decide +kernel, rfl, rfl⟩
theorem okH_E : okH qE hhE := ⟨by decide +kernel, by decide +kernel, by decide +kernel, by decide +kernel, rfl, rfl⟩
theorem goodH {q : mE} {hh : List (Nat × Nat × Nat × Nat)} (hq : okH q hh) : GoodIn WSg (wsH q hh) := by
  intro w hw
  rcases List.mem_cons.mp hw with rfl | hw
  · exact ⟨hq.1, WSg_good hq.1⟩
  · exact ⟨hw, WSg_good hw⟩
theorem ax_ofWH {l : Launch} {y : MethodName} {ws ws' : List Cond} {rm : Room} {Pc : Array Value → State → Prop} {Qc : Array Value → State → Outcome → State → Prop} {mc ms : Nat} {free : Addr → Prop} {cc : ByteArray} {maxL : Nat} {ret : Option FieldType} {hh : List (Nat × Nat × Nat × Nat)}
    (hy : plainName y.cls = true) (hw : ws = Cond.codeWith y cc maxL ret hh :: ws')
    (body : ∀ p e s m args below meth c s₁, BodyLoose p l y (headSpec ws rm) cc maxL ret e s m args below meth c s₁ → c.maxLocals = maxL → Pc args s →
      W p l e (headSpec ws rm).room s m args below meth c s.heap [] 0 0 (MQ below Qc args s mc ms free) (entryFrame m args maxL)) : Met l y ws rm Pc Qc mc ms free := by
  refine MetFree.of_bodyS (code := cc) (maxLocals := maxL) (ret := ret) hy ?_ ?_
  · intro args s m h hn
    obtain ⟨m9, meth, c, hn9, h1, h2, h3, h4, -, h5, h6, -⟩ := Cond.codeWith_spec (atoms_spec (ws := ws) h _ (by rw [hw]; exact List.mem_cons_self))
    cases hn.symm.trans hn9
    exact ⟨meth, c, h1, h2, h3, h4, h5, h6⟩
  · intro p e s m args below meth c s₁ B hml hP _
    have hh0 : s₁.heap = s.heap := by rw [B.state]; rfl
    obtain ⟨t, a1, o, b1, b2, b3⟩ := body p e s m args below meth c s₁ B hml hP s₁ hh0 (Stand.of_body B)
    exact ⟨t, o, a1, b1, b2, ⟨b3.1, b3.2⟩⟩
theorem metH_of {l : Launch} {sc : List Int} {d y : Nat} {q : mE} {hh : List (Nat × Nat × Nat × Nat)} {av : List iV} {h : iH} {r : Option iV} {h' : iH} (hq : mtab[y]? = some q) (hoq : okH q hh) (hent : (ent q.2.2.1 av).length = q.2.2.1) (hw : WalkH l sc d y hh av h r h') (D : va_G) (kt : Nat → ClassId) (as : List Nat) (b sz : Nat) :
    Met l q.1 (wsH q hh) (rmM d (h'.2 - h.2)) (PcM D kt as b sc sz av h.1) (QcM D kt as b sz h.1 r h'.1) (h'.2 - h.2) (1000 * (h'.2 - h.2)) (va_A (wso kt as b h.1) sz) := by
  refine ax_ofWH (cc := q.2.1) (maxL := q.2.2.1) (ret := q.2.2.2.1) (hh := hh) hoq.2.2.1 rfl ?_
  intro p e s m args below meth c s₁ B hml hv
  obtain ⟨rfl, hl, hP, hD0, hK, hxw, hX, hbl, hbn, rfl, hEX⟩ := hv
  have hts0 := atoms_spec (ws := wsH q hh) B.pre
  have htab := vx_table (x := q.1) B (hts0 _ List.mem_cons_self)
  have hr := B.returns
  have hlocks := B.notSynchronized
  have hD := hD0.self (sz := s.heap.size)
  have hA : ∀ z, s.heap.size ≤ z → va_A (wso kt as b h.1) s.heap.size z := fun z hz => Or.inr hz
  have hS : va_S (va_A (wso kt as b h.1) s.heap.size) s.heap s.heap [] := va_S.rf
  have hbA : ¬ va_A (wso kt as b h.1) s.heap.size b := fun hz => by
    rcases hz with ⟨k, x, hx⟩ | hz
    · exact hbn k _ hx rfl
    · omega
  have hown : s.vm.findClass (cnm q.2.2.2.2) = some m.cls := by rw [← hoq.2.2.2.2.2]; exact findClass_of_methodNamed B.named
  have C : Cx p (headSpec (wsH q hh) (rmM d (h'.2 - h.2))).room s m (av.map (tr as b)).toArray meth c D kt b sc (va_A (wso kt as b h.1) s.heap.size) q d :=
    ⟨B.exec, B.bytes, hml, hown, fun w hw => hts0 w (List.mem_cons_of_mem _ hw), hxw, hK, hX, hbl, hbA, hA, fun hq => by rw [(name_of_methodNamed B.named B.method).1, hq], Nat.le_refl _, Nat.le_refl _, hEX⟩
  rw [lg_entry_eq]
  refine hw hq htab C ⟨hl, hP, hD, hS⟩ (LH_ent hent) hent (by show 0 + _ ≤ h'.2 - h.2; omega) (by show 0 + _ ≤ 1000 * (h'.2 - h.2); omega) ?_
  intro as' H' locs' cells' slots' pc' ls' i' st' hpre wd' hc' hs' hdg hrt
  obtain ⟨hl', hP', hD', hS'⟩ := wd'
  refine W.widen (k := h'.2 - h.2) (n := 1000 * (h'.2 - h.2)) (by omega) (by omega) ?_
  have fin : ∀ {oc : Outcome} (t : State), oc = .returned (r.map (tr as' b)) → t.heap = H' → QcM D kt as b s.heap.size h.1 r h'.1 (av.map (tr as b)).toArray s oc t := fun {oc} t ho ht =>
    ⟨as', ho, hpre, hl', by rw [ht]; exact hP', hD', hS'.F ht⟩
  unfold rtn at hrt
  split at hrt
  · rename_i hret
    cases hrt
    exact W.iret B.exec B.bytes (by rw [hr]; exact hret) (fun t ht hW => fin t rfl ht) hS'.2.2 hdg
  · rename_i a hret
    split at hrt
    · rename_i ha
      cases hrt
      refine W.zret (ty := .boolean) B.exec B.bytes (by rw [hr]; exact hret) ?_ (fun t ht hW => fin t rfl ht) hS'.2.2 hdg
      rcases ha with rfl | rfl <;> rfl
    · cases hrt
  · rename_i hret
    cases hrt
    exact W.lret B.exec B.bytes (by rw [hr]; exact hret) (fun t ht hW => fin t rfl ht) hS'.2.2 hdg
  · rename_i nm x hret
    cases hrt
    refine W.aret (rt := .object nm) B.exec B.bytes (by rw [hr]; exact hret) (Or.inl ⟨_, rfl⟩) ?_ (fun t ht hW => fin t rfl ht) hS'.2.2 hdg
    match x with
    | 0 => exact Or.inl rfl
    | 1 => exact Or.inr ⟨_, rfl⟩
    | n + 2 => exact Or.inr ⟨_, rfl⟩
  · rename_i hret
    cases hrt
    exact W.vret B.exec B.bytes (by rw [hr]; exact hret) (fun t ht hW => fin t rfl ht) hS'.2.2 hdg
  · cases hrt
theorem cTab_sp : ∀ e ∈ cTab, nCall ≤ e.2.2.2.1 → e = (13, 204, 11, mX11_toss, 1, 8) ∨ e = (13, 186, 99, mL_element, 4, 9) := by decide +kernel
theorem lkC_in {o idx ci y n kd : Nat} (h : lkC o idx ci = some (y, n, kd)) : (o, idx, ci, y, n, kd) ∈ cTab := by
  unfold lkC at h
  split at h
  · rename_i e he
    have h1 := List.find?_some he
    simp only [Bool.and_eq_true, beq_iff_eq] at h1
    obtain ⟨⟨h2, h3⟩, h4⟩ := h1
    obtain ⟨e1, e2, e3, e4⟩ := e
    cases h
    subst h2; subst h3; subst h4
    exact List.mem_of_find?_eq_some he
  · cases h
theorem wdT_1 : Cond.methodLink RL 204 qT.1 ∈ WSg ∧ Cond.instanceMethod qT.1 ∈ WSg ∧ Cond.selects RX11 qT.1 qT.1 ∈ WSg := ⟨by decide +kernel, by decide +kernel, by decide +kernel⟩
theorem wdE_1 : Cond.methodLink RL 186 qE.1 ∈ WSg ∧ Cond.static qE.1 ∈ WSg := ⟨by decide +kernel, by decide +kernel⟩
theorem runsH_ok {l : Launch} {sc : List Int} {d y kd : Nat} {av : List iV} {h : iH} {r : Option iV} {h' : iH} (hd : 10 ≤ d) (hy : nCall ≤ y) (hent : y = mX11_toss ∨ y = mL_element → (ent 5 av).length = 5) (hW : WalkH l sc 8 y (hhO y) av h r h') : Runs l sc d y kd av h r h' := by
  intro p e R s m args below meth c H locs cells slots pc ls i as b st rest D kt A q C wd hls hdg hrs hcells hslots
  have hC := C
  obtain ⟨hexec, hb, hml, hown, hts, hxw, hK, hX, hbl, hbA, hA, hnm, hfr, hlo⟩ := C
  have wd0 := wd
  obtain ⟨hl, hP, hD, hS⟩ := wd
  have S : CallFix p m c q.2.1 q.2.2.1 s args WSg (cnm q.2.2.2.2) := ⟨hexec, hb, hml, hown, hts⟩
  have hR : (rmM 8 (h'.2 - h.2)).frames + 1 ≤ R.frames ∧ 8 + (5 + 11) + (rmM 8 (h'.2 - h.2)).locals ≤ R.locals := ⟨by show 8 + 1 ≤ _; omega, by show 8 + (5 + 11) + 64 * 8 ≤ _; omega⟩
  have recv : ∀ {z ci : Nat} {fs : List iV}, h.1[z]? = some (.inl (ci, fs)) → ∃ rr : vw_C, vwCl[ci]? = some rr ∧ cnm ci = rr.1 ∧ ∃ cell : Cell, H[as.getD z 0]? = some cell ∧ cell.vm.isStatics = false ∧ s.vm.findClass (cnm ci) = some cell.cls := fun {z ci fs} hz => by
    have hg := wso_get (kt := kt) (b := b) hl hz
    obtain ⟨rr, hrr, -⟩ := hP z _ hg
    have e1 := (okCl_all hrr).2.2.2.2.2.2.2.2
    refine ⟨rr, hrr, e1, ?_⟩
    rw [e1]
    exact va_recv hK hP hrr hg
  have hpre : PreS s H (PcM D kt as b sc H.size av h.1) (av.map (tr as b)) := ⟨blindM, preM hC wd0⟩
  unfold rsv at hrs
  split at hrs
  · rename_i idx
    split at hrs
    · rename_i n hn
      split at hrs
      · rename_i z rs hdr
        split at hrs
        · rename_i ci fs hz
          split at hrs
          · rename_i y1 n1 kd1 hc
            split at hrs
            · rename_i hcond
              have hm := lkC_in hc
              cases hrs
              obtain ⟨rfl, hkd, h8⟩ := hcond
              have hlen : n1 < st.length := by
                have h7 := congrArg List.length hdr
                rw [List.length_drop, List.length_cons] at h7
                omega
              obtain ⟨rr, hrr, hcn, cell, g1, g2, g3⟩ := recv hz
              have hst : st.map (tr as b) = (((st.take n1).reverse.map (tr as b))).reverse ++ .ref (as.getD z 0) :: rest.map (tr as b) := by
                have h7 : st = st.take n1 ++ st.drop n1 := (List.take_append_drop n1 st).symm
                rw [hdr] at h7
                conv => lhs; rw [h7]
                rw [List.map_append, List.map_reverse, List.reverse_reverse]
                rfl
              have hnn : ((st.take n1).reverse.map (tr as b)).length = n1 := by rw [List.length_map, List.length_reverse, List.length_take]; omega
              have hpv : PreV s H (cnm ci) (as.getD z 0) (PcM D kt as b sc H.size (.inr (.inr (z + 2)) :: (st.take n1).reverse) h.1) ((st.take n1).reverse.map (tr as b)) := ⟨blindM, ⟨cell, g1, g2, g3⟩, hpre.2⟩
              rcases cTab_sp _ hm hy with z9 | z9
              · obtain ⟨q1, q2, q3, q4, q5⟩ := q
                cases z9
                have hMM := metH_of (hh := hhT) mtab_T okH_T (hent (Or.inl rfl)) hW D kt as b H.size
                have hws := pay_in hts (goodH okH_T)
                have hcw : Cond.codeWith qT.1 qT.2.1 qT.2.2.1 qT.2.2.2.1 hhT ∈ wsH qT hhT := List.mem_cons_self
                exact vx_runVW (own := RL) (C := RX11) S hMM ⟨⟨rfl, rfl, hR.1, hR.2, hws, hcw⟩, hts _ okH_T.1, hts _ okH_T.2.1, okH_T.2.2.2.1, nOf_len (y := qT.1) rfl, hts _ wdT_1.1, hts _ wdT_1.2.1, hts _ wdT_1.2.2⟩ hpv rfl hnn hls hst (csv_room h8) hdg ⟨hcells, hslots⟩
              · obtain ⟨q1, q2, q3, q4, q5⟩ := q
                cases z9
                omega
            · cases hrs
          · cases hrs
        · cases hrs
      · cases hrs
    · cases hrs
  · rename_i idx
    split at hrs
    · rename_i y1 n1 kd1 hc
      split at hrs
      · rename_i z rs hdr
        split at hrs
        · rename_i ci fs hz
          split at hrs
          · rename_i hcond
            have hm := lkC_in hc
            cases hrs
            obtain ⟨hkd, h8⟩ := hcond
            rcases cTab_sp _ hm hy with z9 | z9
            · exact absurd (show (99 : Nat) = 11 from congrArg (fun e : cE => e.2.2.1) z9) (by decide)
            · obtain ⟨q1, q2, q3, q4, q5⟩ := q
              cases z9
              omega
          · cases hrs
        · cases hrs
      · cases hrs
    · cases hrs
  · rename_i idx
    split at hrs
    · rename_i y1 n1 kd1 hc
      split at hrs
      · rename_i hcond
        have hm := lkC_in hc
        cases hrs
        obtain ⟨hlen, hkd, h8⟩ := hcond
        have hst : st.map (tr as b) = (((st.take n1).reverse.map (tr as b))).reverse ++ (st.drop n1).map (tr as b) := by
          rw [List.map_reverse, List.reverse_reverse, ← List.map_append, List.take_append_drop]
        have hnn : ((st.take n1).reverse.map (tr as b)).length = n1 := by rw [List.length_map, List.length_reverse, List.length_take]; omega
        rcases cTab_sp _ hm hy with z9 | z9
        · exact absurd (show (99 : Nat) = 11 from congrArg (fun e : cE => e.2.2.1) z9) (by decide)
        · obtain ⟨q1, q2, q3, q4, q5⟩ := q
          cases z9
          have hMM := metH_of (hh := hhE) mtab_E okH_E (hent (Or.inr rfl)) hW D kt as b H.size
          have hws := pay_in hts (goodH okH_E)
          have hcw : Cond.codeWith qE.1 qE.2.1 qE.2.2.1 qE.2.2.2.1 hhE ∈ wsH qE hhE := List.mem_cons_self
          exact vx_runSW (own := RL) S hMM ⟨⟨rfl, rfl, hR.1, hR.2, hws, hcw⟩, hts _ okH_E.1, hts _ okH_E.2.1, okH_E.2.2.2.1, nOf_len (y := qE.1) rfl, hts _ wdE_1.1, hts _ wdE_1.2⟩ hpre rfl hnn hls hst (csv_room h8) hdg ⟨hcells, hslots⟩
      · cases hrs
    · cases hrs
  · cases hrs
/-- what toss's thrown answer is, out of the cells -/
def tsL (h : List iO) (d : Int) : Option Int := match h[(0 : Nat)]? with
  | some (.inl (11, fs)) => match fs[(1 : Nat)]? with
    | some (.inr (.inr (k + 2))) => match h[k]? with
      | some (.inr (.inr (_, rs))) => match rs.getD d.toNat 0 with
        | t + 2 => match h[t]? with
          | some (.inl (_, gs)) => match gs[(1 : Nat)]? with
            | some (.inr (.inr (n + 2))) => match h[n]? with
              | some (.inl (ci, [.inl f])) => some (if ci = 7 then 200 + 2 * (7 + 2 * f) else if ci = 3 then 100 + f else f)
              | _ => none
            | _ => none
          | _ => none
        | _ => none
      | _ => none
    | _ => none
  | _ => none
def tsV (h : iH) (d : Int) : Option Int := tsL h.1 d
def thV (y : Nat) (av : List iV) (h : iH) : Option Int := if y = mX11_toss then (match av with
    | [_, .inl d] => tsV h d
    | _ => none) else (match av with
    | [_, .inl d, _, _] => some (if 0 ≤ d ∧ d < 8 then 2 else 1)
    | _ => none)
/-- how the two methods run: without a throw, or by a throw that is caught -/
def NrmC (sc : List Int) (y : Nat) (av : List iV) (h : iH) (z : Option iV × iH) : Prop := (y = mX11_toss ∨ y = mL_element) ∧ (ent 5 av).length = 5 ∧ ∃ n, ex sp0 sc n 8 y (0, ent 5 av, []) h = some z
def ThwC (l : Launch) (sc : List Int) (y : Nat) (av : List iV) (h : iH) (v : Int) : Prop := (y = mX11_toss ∨ y = mL_element) ∧ (ent 5 av).length = 5 ∧ thV y av h = some v ∧ ThrC l sc 8 y (hhO y) av h (some (.inl v))
noncomputable def spL (l : Launch) (sc : List Int) (y : Nat) (av : List iV) (h : iH) : Option (Option iV × iH) :=
  @dite _ (∃ z, NrmC sc y av h z) (Classical.propDecidable _) (fun hN => some (Classical.choose hN)) (fun _ => @dite _ (∃ v, ThwC l sc y av h v) (Classical.propDecidable _) (fun hT => some (some (.inl (Classical.choose hT)), (h.1, h.2 + 1))) (fun _ => none))
theorem spL_ok (l : Launch) (sc : List Int) : SpOK l sc (spL l sc) := by
  intro d y kd av h r h' h10 hy e
  unfold spL at e
  split at e
  · rename_i hN
    obtain ⟨hy2, he, n, hx⟩ := Classical.choose_spec hN
    have e2 := Option.some.inj e
    rw [e2] at hx
    have hW : WalkH l sc 8 y (hhO y) av h r h' := by
      rcases hy2 with rfl | rfl
      · exact walkH_norm mtab_T hx
      · exact walkH_norm mtab_E hx
    intro p e R s m args below meth c H locs cells slots pc ls i as b st rest D kt A q
    exact runsH_ok h10 hy (fun _ => he) hW
  · split at e
    · rename_i hT
      obtain ⟨hy2, he, -, hx⟩ := Classical.choose_spec hT
      cases e
      intro p e R s m args below meth c H locs cells slots pc ls i as b st rest D kt A q
      exact runsH_ok h10 hy (fun _ => he) (walkH_thr hx)
    · cases e
