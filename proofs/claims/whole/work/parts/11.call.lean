/-! ===== calls ===== -/
def wsM (q : mE) : List Cond := Cond.code q.1 q.2.1 q.2.2.1 q.2.2.2.1 :: WSg
def rmM (d k : Nat) : Room := { frames := d, cells := k, slots := 1000 * k, locals := 64 * d }
def BM (D : va_G) (kt : Nat → ClassId) (as : List Nat) (b : Nat) (sc : List Int) (sz : Nat) (h : List iO) (U : State) : Prop :=
  as.length = h.length ∧ va_P D vwCl (wso kt as b h) U.heap ∧ va_D (fun _ => True) (wso kt as b h) ∧ va_K D vwCl (tys kt) U ∧ (∀ w ∈ xW, va_Nw w U) ∧ va_X b sc.length (fun j => Int32.ofInt (sc.getD j 0)) U U.heap ∧ b < U.heap.size ∧ (∀ (k : Nat) (x : Nat × va_E), (wso kt as b h)[k]? = some x → x.1 ≠ b) ∧ U.heap.size = sz ∧ exZ (va_A (wso kt as b h) sz) U U.heap
def PcM (D : va_G) (kt : Nat → ClassId) (as : List Nat) (b : Nat) (sc : List Int) (sz : Nat) (av : List iV) (h : List iO) : Array Value → State → Prop := va_Pc (av.map (tr as b)) (BM D kt as b sc sz h)
def QcM (D : va_G) (kt : Nat → ClassId) (as : List Nat) (b sz : Nat) (h : List iO) (r : Option iV) (h' : List iO) : Array Value → State → Outcome → State → Prop := fun _ st oc t =>
  ∃ as' : List Nat, oc = .returned (r.map (tr as' b)) ∧ as <+: as' ∧ as'.length = h'.length ∧ va_P D vwCl (wso kt as' b h') t.heap ∧ va_D (va_A (wso kt as b h) sz) (wso kt as' b h') ∧ va_F (va_A (wso kt as b h) sz) st t
/-- a method, from these arguments and cells, returns this and leaves those cells -/
def MetOf (l : Launch) (sc : List Int) (q : mE) (d : Nat) (av : List iV) (h : iH) (r : Option iV) (h' : iH) : Prop :=
  ∀ (D : va_G) (kt : Nat → ClassId) (as : List Nat) (b sz : Nat), Met l q.1 (wsM q) (rmM d (h'.2 - h.2)) (PcM D kt as b sc sz av h.1) (QcM D kt as b sz h.1 r h'.1) (h'.2 - h.2) (1000 * (h'.2 - h.2)) (va_A (wso kt as b h.1) sz)
theorem WSg_good {w : Cond} (h : w ∈ WSg) : (w.onTables && w.keeps) = true ∨ ∃ ty, w = .arrayClass ty := good_of_word (List.mem_filter.mp h).2
theorem goodM {q : mE} (hq : okM q) : GoodIn WSg (wsM q) := by
  intro w hw
  rcases List.mem_cons.mp hw with rfl | hw
  · exact ⟨hq.1, WSg_good hq.1⟩
  · exact ⟨hw, WSg_good hw⟩
theorem xW_moved {s U : State} (hW : s.WarmedH U.vm) (h : ∀ w ∈ xW, va_Nw w s) : ∀ w ∈ xW, va_Nw w U := by
  intro w hw
  have h1 := h w hw
  have hall : ∀ w ∈ xW, (match w with | .methodLinkNest .. => true | .arrayOver (.object _) => true | .castable .. => true | .declares _ => true | _ => false) = true := by decide +kernel
  have h2 := hall w hw
  split at h2
  · exact va_Nw.warmM hW h1
  · exact va_AO.moved hW.alike (va_AO.of h1)
  · exact va_Nw.warmC hW h1
  · exact va_Nw.warmD hW h1
  · cases h2
theorem xW_same {s U : State} (hv : s.vm = U.vm) (h : ∀ w ∈ xW, va_Nw w s) : ∀ w ∈ xW, va_Nw w U := by
  intro w hw
  have h1 := h w hw
  have hall : ∀ w ∈ xW, (match w with | .methodLinkNest .. => true | .arrayOver (.object _) => true | .castable .. => true | .declares _ => true | _ => false) = true := by decide +kernel
  have h2 := hall w hw
  split at h2
  · exact va_Nw.same rfl hv h1
  · exact va_AO.moved (by rw [hv]; exact Vm.Alike.refl _) (va_AO.of h1)
  · exact va_Nw.same rfl hv h1
  · exact va_Nw.same rfl hv h1
  · cases h2
section MC
variable {p : Program} {l : Launch} {e : Env} {R : Room} {s : State} {m : MethodId} {args : Array Value} {below : List Frame} {meth : Method} {c : Code} {H : Heap} {locs : List Loc} {cells slots : Nat} {Q : State → Prop}
variable {pc pc' : Nat} {ls : Array Slot} {i : Instr} {as : List Nat} {b : Nat} {L L' : List (Option iV)} {st st' : List iV} {D : va_G} {kt : Nat → ClassId} {sc : List Int} {A : Nat → Prop} {q q' : mE} {d : Nat} {h h' : iH} {av : List iV} {r : Option iV}
theorem blindM {sz : Nat} {hh : List iO} : FrameBlind (PcM D kt as b sc sz av hh) := by
  intro a U g mk z
  obtain ⟨z0, z1, z2, z3, z4, z5, z6, z7, z8, z9, z10⟩ := z
  refine ⟨z0, z1, z2, z3, ?_, ?_, ?_, z7, z8, z9, ?_⟩
  · exact z4
  · exact xW_same (s := U) (U := U.calling g mk a) rfl z5
  · exact z6
  · exact exZ.moved (u := U) (U := U.calling g mk a) (State.WarmedH.refl U) z10
theorem preM (C : Cx p R s m args meth c D kt b sc A q d) (wd : Wd D kt as b A s.heap h.1 H locs) : ∀ U : State, U.heap = H → s.WarmedH U.vm → PcM D kt as b sc H.size av h.1 (av.map (tr as b)).toArray U := by
  obtain ⟨hexec, hb, hml, hown, hts, hxw, hK, hX, hbl, hbA, hA, hnm, hfr, hlo⟩ := C
  obtain ⟨hl, hP, hD, hS⟩ := wd
  intro U hU hW
  refine ⟨rfl, hl, by rw [hU]; exact hP, hD.weaken (fun _ _ _ _ => trivial), va_K.moved hW.alike hK, xW_moved hW hxw, ?_, ?_, fun k x hx hb' => hbA (hb' ▸ hD.2 k x hx), by rw [hU], ?_⟩
  · exact va_X.moved hW.alike (hX.kept (by rw [hU]; exact hS.2.1 b hbl hbA))
  · rw [hU]; exact Nat.lt_of_lt_of_le hbl hS.1
  · have hin : ∀ z, va_A (wso kt as b h.1) H.size z → A z := fun z hz => by
      rcases hz with ⟨k, x, hx⟩ | hz
      · exact hD.2 k _ hx
      · exact hA z (Nat.le_trans hS.1 hz)
    have k := ((hlo.2.kept hS.2.1).narrow hin).moved hW
    rw [hU]; exact k
theorem ax_call {mc ms sz : Nat} {rest st0 : List Value} {a : Array Value} {free : Addr → Prop} (hr : va_Run p l e R s m args below meth c H locs cells slots mc ms (F0 m pc ls st0) rest (QcM D kt as b sz h.1 r h'.1 a) free)
    (hsz : H.size = sz) (hfree : ∀ z, free z → va_A (wso kt as b h.1) sz z) (hA : ∀ z, s.heap.size ≤ z → A z) (wd : Wd D kt as b A s.heap h.1 H locs)
    (kk : ∀ (as' : List Nat) (H1 : Heap) (locs1 : List Loc), as <+: as' → Wd D kt as' b A s.heap h'.1 H1 locs1 → W p l e R s m args below meth c H1 locs1 (cells + mc) (slots + ms) Q (F0 m (pc + 3) ls ((r.map (tr as' b)).toList ++ rest))) : W p l e R s m args below meth c H locs cells slots Q (F0 m pc ls st0) := by
  obtain ⟨hl, hP, hD, hS⟩ := wd
  subst hsz
  have hin : ∀ z, va_A (wso kt as b h.1) H.size z → A z := fun z hz => by
    rcases hz with ⟨k, x, hx⟩ | hz
    · exact hD.2 k _ hx
    · exact hA z (Nat.le_trans hS.1 hz)
  intro T hT X
  obtain ⟨v, st₀, t, T', L, h0, X', hL, e1, e2, ⟨as', hv, hpre, hl', hP', hD', hF⟩, st⟩ := hr T hT X
  cases hv
  obtain ⟨hz, hk⟩ := hF
  rw [h0] at hz hk
  obtain ⟨t2, a1, b1⟩ := kk as' T'.heap (locs ++ L) hpre ⟨hl', by rw [e1]; exact hP', hD'.weaken (fun k x _ hx => hin _ hx), Nat.le_trans hS.1 (by rw [e1]; exact hz), fun z h1 h2 => by
      rw [e1, hk z (Nat.lt_of_lt_of_le h1 hS.1) (fun y => h2 (hin z y))]; exact hS.2.1 z h1 h2, fun z hq => by
      rcases List.mem_append.mp hq with g | g
      · exact hS.2.2 z g
      · exact hin _ (hfree _ (hL z g))⟩ T' rfl X'
  exact ⟨t2, st t2 a1, b1⟩
/-- a call of kind kd to y: it runs as its method says -/
def Runs (l : Launch) (sc : List Int) (d y kd : Nat) (av : List iV) (h : iH) (r : Option iV) (h' : iH) : Prop :=
  ∀ {p : Program} {e : Env} {R : Room} {s : State} {m : MethodId} {args : Array Value} {below : List Frame} {meth : Method} {c : Code} {H : Heap} {locs : List Loc} {cells slots : Nat} {pc : Nat} {ls : Array Slot} {i : Instr} {as : List Nat} {b : Nat} {st rest : List iV} {D : va_G} {kt : Nat → ClassId} {A : Nat → Prop} {q : mE},
    Cx p R s m args meth c D kt b sc A q (d + 1) → Wd D kt as b A s.heap h.1 H locs → ls.size = q.2.2.1 → decode q.2.1 pc = .ok (i, 3) → rsv q.2.2.2.2 i st h.1 = some (y, av, rest, kd) → cells + (h'.2 - h.2) ≤ R.cells → slots + 1000 * (h'.2 - h.2) ≤ R.slots →
    va_Run p l e R s m args below meth c H locs cells slots (h'.2 - h.2) (1000 * (h'.2 - h.2)) (F0 m pc ls (st.map (tr as b))) (rest.map (tr as b)) (QcM D kt as b H.size h.1 r h'.1 (av.map (tr as b)).toArray) (va_A (wso kt as b h.1) H.size)
theorem csv_room {rest : List iV} (h8 : cs rest ≤ 8) : 2 * (F0 m pc ls (st.map (tr as b))).monitorRoom + ((rest.map (tr as b)).map fun v => v.category).sum ≤ 8 := lv_room (by rw [cs_tr]; exact h8)
theorem nOf_len {y : MethodName} {n : Nat} (h : nOf y.desc = some n) : ∀ sig, parseMethodDescriptor y.desc = some sig → n = sig.parameters.length := fun sig hs => by
  unfold nOf at h
  rw [hs] at h
  exact (Option.some.inj h).symm
theorem mtabC_ok {y : Nat} {q' : mE} (h : mtabC[y]? = some q') : okM q' ∧ mtab[y]? = some q' ∧ y < nCall := by
  refine ⟨okM_all _ (List.mem_of_getElem? h), ?_⟩
  unfold mtabC at h
  rw [List.getElem?_take] at h
  split at h
  · rename_i hy
    exact ⟨h, hy⟩
  · cases h
theorem initNone : ∀ e ∈ mtabC, e.1.name = "<init>" → e.2.2.2.1 = none := by
  have : mtabC.all (fun e => !decide (e.1.name = "<init>") || e.2.2.2.1.isNone) = true := by decide +kernel
  intro e he h1
  have h2 := List.all_eq_true.mp this e he
  simp only [h1, decide_true, Bool.not_true, Bool.false_or, Option.isNone_iff_eq_none] at h2
  exact h2
theorem runs_ok {y kd : Nat} (hq : mtab[y]? = some q') (hy : y < nCall) (hM : MetOf l sc q' d av h r h') : Runs l sc d y kd av h r h' := by
  intro p e R s m args below meth c H locs cells slots pc ls i as b st rest D kt A q C wd hls hdg hrs hcells hslots
  have hC := C
  obtain ⟨hexec, hb, hml, hown, hts, hxw, hK, hX, hbl, hbA, hA, hnm, hfr, hlo⟩ := C
  have wd0 := wd
  obtain ⟨hl, hP, hD, hS⟩ := wd
  have hMM := hM D kt as b H.size
  have S : CallFix p m c q.2.1 q.2.2.1 s args WSg (cnm q.2.2.2.2) := ⟨hexec, hb, hml, hown, hts⟩
  have hmC : ∀ {z : mE}, mtabC[y]? = some z → z = q' := fun {z} hz => Option.some.inj ((mtabC_ok hz).2.1.symm.trans hq)
  have hoq : okM q' := by
    have : mtabC[y]? = some q' := by
      unfold mtabC
      rw [List.getElem?_take_of_lt hy]; exact hq
    exact (mtabC_ok this).1
  have hG := goodM hoq
  have hR : (rmM d (h'.2 - h.2)).frames + 1 ≤ R.frames ∧ 8 + (q'.2.2.1 + 11) + (rmM d (h'.2 - h.2)).locals ≤ R.locals := by
    have h40 := hoq.2.2.2.2.1
    exact ⟨hfr, by show 8 + (q'.2.2.1 + 11) + 64 * d ≤ _; omega⟩
  have hws := pay_in hts hG
  have hcw : Cond.code q'.1 q'.2.1 q'.2.2.1 q'.2.2.2.1 ∈ wsM q' := List.mem_cons_self
  have hcd := hts _ hoq.1
  have hini := hts _ hoq.2.1
  have hmh := hoq.2.2.2.1
  have base : ∀ {n : Nat}, nOf q'.1.desc = some n → ∀ {o idx : Nat}, Cond.methodLink (cnm o) idx q'.1 ∈ WSg → CallB R s args (cnm o) idx q'.1 q'.2.1 q'.2.2.1 q'.2.2.2.1 (wsM q') (rmM d (h'.2 - h.2)) (h'.2 - h.2) (1000 * (h'.2 - h.2)) n := fun {n} hn {o idx} hlk =>
    ⟨rfl, rfl, hR.1, hR.2, hws, hcw, hcd, hini, hmh, nOf_len hn, hts _ hlk⟩
  have nest : ∀ {n : Nat}, nOf q'.1.desc = some n → ∀ {o idx : Nat} {host : String}, Cond.methodLinkNest (cnm o) idx q'.1 host ∈ xW → va_CN R s args (cnm o) idx q'.1 host q'.2.1 q'.2.2.1 q'.2.2.2.1 (wsM q') (rmM d (h'.2 - h.2)) (h'.2 - h.2) (1000 * (h'.2 - h.2)) n := fun {n} hn {o idx host} hlk =>
    ⟨⟨rfl, rfl, hR.1, hR.2, hws, hcw⟩, hcd, hini, hmh, nOf_len hn, va_Nw.use rfl (hxw _ hlk)⟩
  have recv : ∀ {z ci : Nat} {fs : List iV}, h.1[z]? = some (.inl (ci, fs)) → ∃ rr : vw_C, vwCl[ci]? = some rr ∧ cnm ci = rr.1 ∧ ∃ cell : Cell, H[as.getD z 0]? = some cell ∧ cell.vm.isStatics = false ∧ s.vm.findClass (cnm ci) = some cell.cls := fun {z ci fs} hz => by
    have hg := wso_get (kt := kt) (b := b) hl hz
    obtain ⟨rr, hrr, -⟩ := hP z _ hg
    have e1 := (okCl_all hrr).2.2.2.2.2.2.2.2
    refine ⟨rr, hrr, e1, ?_⟩
    rw [e1]
    exact va_recv hK hP hrr hg
  have hpre : PreS s H (PcM D kt as b sc H.size av h.1) (av.map (tr as b)) := ⟨blindM, preM hC wd0⟩
  unfold rsv at hrs
  split at hrs
  · -- invokevirtual
    rename_i idx
    split at hrs
    · rename_i n hn
      split at hrs
      · rename_i z rs hdr
        split at hrs
        · rename_i ci fs hz
          split at hrs
          · rename_i y1 n1 kd1 hc
            split at hrs
            · rename_i hcond
              cases hrs
              obtain ⟨rfl, hkd, h8⟩ := hcond
              have hlen : n1 < st.length := by
                have h7 := congrArg List.length hdr
                rw [List.length_drop, List.length_cons] at h7
                omega
              obtain ⟨rr, hrr, hcn, cell, g1, g2, g3⟩ := recv hz
              have hst : st.map (tr as b) = (((st.take n1).reverse.map (tr as b))).reverse ++ .ref (as.getD z 0) :: rest.map (tr as b) := by
                have h7 : st = st.take n1 ++ st.drop n1 := (List.take_append_drop n1 st).symm
                rw [hdr] at h7
                conv => lhs; rw [h7]
                rw [List.map_append, List.map_reverse, List.reverse_reverse]
                rfl
              have hnn : ((st.take n1).reverse.map (tr as b)).length = n1 := by rw [List.length_map, List.length_reverse, List.length_take]; omega
              have hpv : PreV s H (cnm ci) (as.getD z 0) (PcM D kt as b sc H.size (.inr (.inr (z + 2)) :: (st.take n1).reverse) h.1) ((st.take n1).reverse.map (tr as b)) := ⟨blindM, ⟨cell, g1, g2, g3⟩, hpre.2⟩
              have hok := lkC_mem hc
              rcases hkd with rfl | rfl | rfl
              · obtain ⟨q1, a1, a2, a3, a4, a5, a6⟩ := hok
                cases hmC a1
                exact va_runV S hMM ⟨base a6 a2, hts _ a3, hts _ a4⟩ hpv rfl hnn hls hst (csv_room h8) hdg ⟨hcells, hslots⟩
              · obtain ⟨q1, a1, x, owner, a2, a3, a4, a5, a6, a7, a8, a9⟩ := hok
                cases hmC a1
                have hdecl : va_Decl s ⟨owner, x.name, x.desc⟩ := by
                  rcases a9 with ⟨c1, bb, ml, rr, c2⟩ | c1
                  · exact va_Decl.of (hts _ c1) (hts _ c2)
                  · exact va_Decl.abs (hxw _ c1)
                exact va_runU S hMM ⟨⟨rfl, rfl, hR.1, hR.2, hws, hcw⟩, hcd, hini, ⟨a6, a7⟩, nOf_len (y := ⟨x.cls, x.name, x.desc⟩) a8, hts _ a2, hts _ a3, hdecl, hts _ a4, hts _ a5⟩ hpv rfl hnn hls hst (csv_room h8) hdg ⟨hcells, hslots⟩
              · exfalso
                have : ∀ e ∈ cTab, e.2.2.2.2.2 = 8 → nCall ≤ e.2.2.2.1 := by decide +kernel
                unfold lkC at hc
                split at hc
                · rename_i e he
                  have h7 := this _ (List.mem_of_find?_eq_some he)
                  have hc2 := Option.some.inj hc
                  have h6 := h7 (by rw [hc2])
                  rw [hc2] at h6
                  dsimp only at h6
                  omega
                · cases hc
            · cases hrs
          · cases hrs
        · cases hrs
      · cases hrs
    · cases hrs
  · -- invokespecial
    rename_i idx
    split at hrs
    · rename_i y1 n1 kd1 hc
      split at hrs
      · rename_i z rs hdr
        split at hrs
        · rename_i ci fs hz
          split at hrs
          · rename_i hcond
            cases hrs
            obtain ⟨hkd, h8⟩ := hcond
            have hlen : n1 < st.length := by
              have h7 := congrArg List.length hdr
              rw [List.length_drop, List.length_cons] at h7
              omega
            obtain ⟨rr, hrr, hcn, cell, g1, g2, g3⟩ := recv hz
            have hst : st.map (tr as b) = (((st.take n1).reverse.map (tr as b))).reverse ++ .ref (as.getD z 0) :: rest.map (tr as b) := by
              have h7 : st = st.take n1 ++ st.drop n1 := (List.take_append_drop n1 st).symm
              rw [hdr] at h7
              conv => lhs; rw [h7]
              rw [List.map_append, List.map_reverse, List.reverse_reverse]
              rfl
            have hnn : ((st.take n1).reverse.map (tr as b)).length = n1 := by rw [List.length_map, List.length_reverse, List.length_take]; omega
            have hpv : PreV s H (cnm ci) (as.getD z 0) (PcM D kt as b sc H.size (.inr (.inr (z + 2)) :: (st.take n1).reverse) h.1) ((st.take n1).reverse.map (tr as b)) := ⟨blindM, ⟨cell, g1, g2, g3⟩, hpre.2⟩
            have hps : PreS s H (PcM D kt as b sc H.size (.inr (.inr (z + 2)) :: (st.take n1).reverse) h.1) (.ref (as.getD z 0) :: (st.take n1).reverse.map (tr as b)) := ⟨blindM, hpre.2⟩
            have hok := lkC_mem hc
            rcases hkd with rfl | rfl | rfl | rfl
            · obtain ⟨q1, a1, a2, a3, a4, a6⟩ := hok
              cases hmC a1
              have hret : q'.2.2.2.1 = none := initNone _ (List.mem_of_getElem? a1) a4
              have hb0 := base a6 a2
              rw [hret] at hb0
              exact va_runI S hMM ⟨hb0, a4, hts _ a3⟩ hps rfl hnn hls hst (csv_room h8) hdg ⟨hcells, hslots⟩
            · obtain ⟨q1, a1, host, a2, a3, a4, a6⟩ := hok
              cases hmC a1
              have hret : q'.2.2.2.1 = none := initNone _ (List.mem_of_getElem? a1) a4
              have hb0 := nest a6 a2
              rw [hret] at hb0
              exact va_runIN S hMM ⟨hb0, a4, hts _ a3⟩ hps rfl hnn hls hst (csv_room h8) hdg ⟨hcells, hslots⟩
            · obtain ⟨q1, a1, a2, a3, a4, a5, a6, a7⟩ := hok
              cases hmC a1
              have hat : ClassAt s (cnm ci) (D.1 ci) := by rw [hcn]; exact (hK.1 ci rr hrr).2
              exact va_runSU hat S hMM ⟨⟨rfl, rfl, hR.1, hR.2, hws, hcw⟩, hts _ a2, hts _ a3, hts _ a4, hts _ a5, hini, hcd, a6, nOf_len a7⟩ hpv rfl hnn hls hst (csv_room h8) hdg ⟨hcells, hslots⟩
            · obtain ⟨q1, a1, x, e1, e2, a2, a3, a4, a5, a6, a7, a8⟩ := hok
              cases hmC a1
              have hK2 : Back l R p e below s args q'.1 3 8 (PreOf R (h'.2 - h.2) (1000 * (h'.2 - h.2)) (PcM D kt as b sc H.size (.inr (.inr (z + 2)) :: (st.take n1).reverse) h.1)) (PostOf (QcM D kt as b H.size h.1 r h'.1) (h'.2 - h.2) (1000 * (h'.2 - h.2)) (va_A (wso kt as b h.1) H.size)) :=
                back_of (bytes := q'.2.1) (maxL := q'.2.2.1) (ret := q'.2.2.2.1) hMM blindM rfl rfl hR.1 hR.2 hws hcw (fun a' U hW => word_at hW (Or.inl (by first | rfl | simp [Cond.onTables, Cond.keeps, Cond.steady])) hini)
              obtain ⟨mk, methM, hnamed, hmethM, hstM, habM⟩ := Cond.instanceMethod_spec (hts _ a6)
              obtain ⟨methM', cM, hmethM', -, -, -, -, -, -, hsigM⟩ := Cond.code_spec hnamed hcd
              cases hmethM.symm.trans hmethM'
              obtain ⟨ps, dk, kp, hps', hdk, hkp, hsuper, -, -, hnid⟩ := Cond.superclass_spec hown (hts _ a4)
              obtain ⟨ps2, dk2, kp2, hps2, hdk2, hkp2, hsuper2, -, -, -⟩ := Cond.superclass_spec hps' (hts _ a5)
              have hn' : s.methodNamed? ⟨q'.1.cls, x.name, x.desc⟩ = some mk := by rw [← e1, ← e2]; exact hnamed
              have hpm : ps2 = mk.cls := Option.some.inj (hps2.symm.trans (findClass_of_methodNamed hnamed))
              have hsub : s.vm.isSubclass ps mk.cls = true := by
                have hpos : 0 < s.vm.classes.size := Nat.lt_of_le_of_lt (Nat.zero_le _) (Array.getElem?_eq_some_iff.mp hdk).1
                obtain ⟨f, hf⟩ : ∃ f, s.vm.classes.size = f + 1 := ⟨s.vm.classes.size - 1, by omega⟩
                rw [← hpm]
                simp [Vm.isSubclass, hf, Vm.isSubclassAux, hdk2, hsuper2]
              obtain ⟨-, kB, hkB, -⟩ := (hK.1 ci rr hrr).2
              have hcc : D.1 ci = cell.cls := by
                have h5 := (hK.1 ci rr hrr).2.1
                rw [← hcn, g3] at h5
                exact (Option.some.inj h5).symm
              rw [hcc] at hkB
              intro T hT X
              obtain ⟨vm₁, X₁, hstep₁⟩ := X.invokespecialUp hexec (owner := q'.1.cls) (x := x) hown (hts _ a2) (hts _ a3) hn' hmethM hstM habM a7 hdk hnid hps' hsuper hsub (a := as.getD z 0) (cell := cell) (by rw [hT]; exact g1)
                (fun w hw => by rw [hw] at g2; cases g2) hkB (g := F0 m pc ls (st.map (tr as b))) rfl (argsL := (st.take n1).reverse.map (tr as b)) (rest := rest.map (tr as b)) (hnn.trans (nOf_len (y := q'.1) (by rw [e2]; exact a8) _ hsigM)) hst (by rw [hb]; exact hdg)
              obtain ⟨v, ⟨U', l2, c2, s2⟩, X', hpost, hsteps⟩ := hK2 m meth c ⟨T.setVm vm₁, locs, cells, slots⟩ { F0 m pc ls (st.map (tr as b)) with stack := rest.map (tr as b) } (.invokespecial idx) mk (Value.ref (as.getD z 0) :: (st.take n1).reverse.map (tr as b)).toArray X₁ rfl (hls.trans hml.symm) (by rw [hb]; exact hdg) (csv_room (m := m) (pc := pc) (ls := ls) (st := st) h8) (X₁.named hnamed)
                ⟨hcells, hslots, hps.2 (T.setVm vm₁) hT X₁.warmed⟩
              obtain ⟨g', mk', t, Lx, y1, y2, hq2, y3, hL, y4, y5⟩ := hpost
              dsimp only [Pt.U, Pt.locs, Pt.cells, Pt.slots] at X' y1 y2 y3 y4 y5 hsteps
              subst y3; subst y4; subst y5
              exact ⟨v, (T.setVm vm₁).calling g' mk' (Value.ref (as.getD z 0) :: (st.take n1).reverse.map (tr as b)).toArray, t, U', Lx, hT, X', hL, y1, y2, hq2, fun target hh => hstep₁ _ (by rw [doInvoke_state]; exact hsteps.trans hh)⟩
          · cases hrs
        · cases hrs
      · cases hrs
    · cases hrs
  · -- invokestatic
    rename_i idx
    split at hrs
    · rename_i y1 n1 kd1 hc
      split at hrs
      · rename_i hcond
        cases hrs
        obtain ⟨hlen, hkd, h8⟩ := hcond
        have hst : st.map (tr as b) = (((st.take n1).reverse.map (tr as b))).reverse ++ (st.drop n1).map (tr as b) := by
          rw [List.map_reverse, List.reverse_reverse, ← List.map_append, List.take_append_drop]
        have hnn : ((st.take n1).reverse.map (tr as b)).length = n1 := by rw [List.length_map, List.length_reverse, List.length_take]; omega
        have hok := lkC_mem hc
        rcases hkd with rfl | rfl | rfl
        · obtain ⟨q1, a1, a2, a3, a6⟩ := hok
          cases hmC a1
          exact va_runS S hMM ⟨base a6 a2, hts _ a3⟩ hpre rfl hnn hls hst (csv_room h8) hdg ⟨hcells, hslots⟩
        · obtain ⟨q1, a1, host, a2, a3, a6⟩ := hok
          cases hmC a1
          exact va_runSN S hMM ⟨nest a6 a2, hts _ a3, trivial⟩ hpre rfl hnn hls hst (csv_room h8) hdg ⟨hcells, hslots⟩
        · exfalso
          have : ∀ e ∈ cTab, e.2.2.2.2.2 = 9 → nCall ≤ e.2.2.2.1 := by decide +kernel
          unfold lkC at hc
          split at hc
          · rename_i e he
            have h7 := this _ (List.mem_of_find?_eq_some he)
            have hc2 := Option.some.inj hc
            have h6 := h7 (by rw [hc2])
            rw [hc2] at h6
            dsimp only at h6
            omega
          · cases hc
      · cases hrs
    · cases hrs
  · cases hrs
end MC
