set_option maxRecDepth 16384
/-! ===== methods with a table of their own: a call that throws is caught there ===== -/
section CT
variable {p : Program} {l : Launch} {e : Env} {R : Room} {s : State} {m : MethodId} {args : Array Value} {below : List Frame} {meth : Method} {c : Code} {H : Heap} {locs : List Loc} {cells slots : Nat} {Q : State → Prop}
variable {pc pc' : Nat} {ls : Array Slot} {i : Instr} {as : List Nat} {b : Nat} {L L' : List (Option iV)} {st rest : List iV} {D : va_G} {kt : Nat → ClassId} {sc : List Int} {A : Nat → Prop} {q q' : mE} {d y : Nat} {h h' : iH} {av : List iV} {r : Option iV} {F F' G : iF} {E0 : String}
theorem runsX_ok {idx kd : Nat} (hq : mtab[y]? = some q') (hy : y < nCall) (hM : MetX l sc q' d av h E0) (C : Cx p R s m args meth c D kt b sc A q (d + 1)) (wd : Wd D kt as b A s.heap h.1 H locs) (hls : ls.size = q.2.2.1) (hdg : decode q.2.1 pc = .ok (.invokevirtual idx, 3)) (hrs : rsv q.2.2.2.2 (.invokevirtual idx) st h.1 = some (y, av, rest, kd)) (hcells : cells + 1 ≤ R.cells) (hslots : slots + 1000 ≤ R.slots) :
    vx_Run p l e R s m args below meth c H locs cells slots 1 1000 (F0 m pc ls (st.map (tr as b))) (rest.map (tr as b)) (fun _ _ _ => False) (XCo D kt as b H.size h.1 E0) (va_A (wso kt as b h.1) H.size) := by
  have hC := C
  obtain ⟨hexec, hb, hml, hown, hts, hxw, hK, hX, hbl, hbA, hA, hnm, hfr, hlo⟩ := C
  have wd0 := wd
  obtain ⟨hl, hP, hD, hS⟩ := wd
  have hMM := hM D kt as b H.size
  have S : CallFix p m c q.2.1 q.2.2.1 s args WSg (cnm q.2.2.2.2) := ⟨hexec, hb, hml, hown, hts⟩
  have hmC : ∀ {z : mE}, mtabC[y]? = some z → z = q' := fun {z} hz => Option.some.inj ((mtabC_ok hz).2.1.symm.trans hq)
  have hoq : okM q' := by
    have : mtabC[y]? = some q' := by
      unfold mtabC
      rw [List.getElem?_take_of_lt hy]; exact hq
    exact (mtabC_ok this).1
  have hG := goodM hoq
  have hR : (rmM d 1).frames + 1 ≤ R.frames ∧ 8 + (q'.2.2.1 + 11) + (rmM d 1).locals ≤ R.locals := by
    have h40 := hoq.2.2.2.2.1
    exact ⟨hfr, by show 8 + (q'.2.2.1 + 11) + 64 * d ≤ _; omega⟩
  have hws := pay_in hts hG
  have hcw : Cond.code q'.1 q'.2.1 q'.2.2.1 q'.2.2.2.1 ∈ wsM q' := List.mem_cons_self
  have hcd := hts _ hoq.1
  have hini := hts _ hoq.2.1
  have hmh := hoq.2.2.2.1
  have base : ∀ {n : Nat}, nOf q'.1.desc = some n → ∀ {o idx : Nat}, Cond.methodLink (cnm o) idx q'.1 ∈ WSg → CallB R s args (cnm o) idx q'.1 q'.2.1 q'.2.2.1 q'.2.2.2.1 (wsM q') (rmM d 1) 1 1000 n := fun {n} hn {o idx} hlk =>
    ⟨rfl, rfl, hR.1, hR.2, hws, hcw, hcd, hini, hmh, nOf_len hn, hts _ hlk⟩
  have recv : ∀ {z ci : Nat} {fs : List iV}, h.1[z]? = some (.inl (ci, fs)) → ∃ rr : vw_C, vwCl[ci]? = some rr ∧ cnm ci = rr.1 ∧ ∃ cell : Cell, H[as.getD z 0]? = some cell ∧ cell.vm.isStatics = false ∧ s.vm.findClass (cnm ci) = some cell.cls := fun {z ci fs} hz => by
    have hg := wso_get (kt := kt) (b := b) hl hz
    obtain ⟨rr, hrr, -⟩ := hP z _ hg
    have e1 := (okCl_all hrr).2.2.2.2.2.2.2.2
    refine ⟨rr, hrr, e1, ?_⟩
    rw [e1]
    exact va_recv hK hP hrr hg
  have hpre : PreS s H (PcM D kt as b sc H.size av h.1) (av.map (tr as b)) := ⟨blindM, preM hC wd0⟩
  unfold rsv at hrs
  dsimp only at hrs
  split at hrs
  · rename_i n hn
    split at hrs
    · rename_i z rs hdr
      split at hrs
      · rename_i ci fs hz
        split at hrs
        · rename_i y1 n1 kd1 hc
          split at hrs
          · rename_i hcond
            cases hrs
            obtain ⟨rfl, hkd, h8⟩ := hcond
            have hlen : n1 < st.length := by
              have h7 := congrArg List.length hdr
              rw [List.length_drop, List.length_cons] at h7
              omega
            obtain ⟨rr, hrr, hcn, cell, g1, g2, g3⟩ := recv hz
            have hst : st.map (tr as b) = (((st.take n1).reverse.map (tr as b))).reverse ++ .ref (as.getD z 0) :: rest.map (tr as b) := by
              have h7 : st = st.take n1 ++ st.drop n1 := (List.take_append_drop n1 st).symm
              rw [hdr] at h7
              conv => lhs; rw [h7]
              rw [List.map_append, List.map_reverse, List.reverse_reverse]
              rfl
            have hnn : ((st.take n1).reverse.map (tr as b)).length = n1 := by rw [List.length_map, List.length_reverse, List.length_take]; omega
            have hpv : PreV s H (cnm ci) (as.getD z 0) (PcM D kt as b sc H.size (.inr (.inr (z + 2)) :: (st.take n1).reverse) h.1) ((st.take n1).reverse.map (tr as b)) := ⟨blindM, ⟨cell, g1, g2, g3⟩, hpre.2⟩
            have hok := lkC_mem hc
            rcases hkd with rfl | rfl | rfl
            · obtain ⟨q1, a1, a2, a3, a4, a5, a6⟩ := hok
              cases hmC a1
              exact vx_runV S hMM ⟨base a6 a2, hts _ a3, hts _ a4⟩ hpv rfl hnn hls hst (csv_room h8) hdg ⟨hcells, hslots⟩
            · obtain ⟨q1, a1, x, owner, a2, a3, a4, a5, a6, a7, a8, a9⟩ := hok
              cases hmC a1
              have hdecl : va_Decl s ⟨owner, x.name, x.desc⟩ := by
                rcases a9 with ⟨c1, bb, ml, rr, c2⟩ | c1
                · exact va_Decl.of (hts _ c1) (hts _ c2)
                · exact va_Decl.abs (hxw _ c1)
              exact vx_runU S hMM ⟨⟨rfl, rfl, hR.1, hR.2, hws, hcw⟩, hcd, hini, ⟨a6, a7⟩, nOf_len (y := ⟨x.cls, x.name, x.desc⟩) a8, hts _ a2, hts _ a3, hdecl, hts _ a4, hts _ a5⟩ hpv rfl hnn hls hst (csv_room h8) hdg ⟨hcells, hslots⟩
            · exfalso
              have : ∀ e ∈ cTab, e.2.2.2.2.2 = 8 → nCall ≤ e.2.2.2.1 := by decide +kernel
              unfold lkC at hc
              split at hc
              · rename_i e he
                have h7 := this _ (List.mem_of_find?_eq_some he)
                have hc2 := Option.some.inj hc
                have h6 := h7 (by rw [hc2])
                rw [hc2] at h6
                dsimp only at h6
                omega
              · cases hc
          · cases hrs
        · cases hrs
      · cases hrs
    · cases hrs
  · cases hrs
theorem ax_callX {rest2 st0 : List Value} (hr : vx_Run p l e R s m args below meth c H locs cells slots 1 1000 (F0 m pc ls st0) rest2 (fun _ _ _ => False) (XCo D kt as b H.size h.1 E0) (va_A (wso kt as b h.1) H.size)) (hA : ∀ z, s.heap.size ≤ z → A z) (wd : Wd D kt as b A s.heap h.1 H locs)
    (kk : ∀ (z : Addr) (ce : Cell) (H1 : Heap) (locs1 : List Loc), H1[z]? = some ce → ce.vm = .none → s.vm.findClass E0 = some ce.cls → Wd D kt as b A s.heap h.1 H1 locs1 → vx_W p l e R s m args below meth c H1 locs1 (cells + 1) (slots + 1000) Q (F0 m pc ls rest2) z) :
    W p l e R s m args below meth c H locs cells slots Q (F0 m pc ls st0) := by
  obtain ⟨hl, hP, hD, hS⟩ := wd
  have hin : ∀ z, va_A (wso kt as b h.1) H.size z → A z := fun z hz => by
    rcases hz with ⟨k, x, hx⟩ | hz
    · exact hD.2 k _ hx
    · exact hA z (Nat.le_trans hS.1 hz)
  intro T hT X
  rcases hr T hT X with ⟨v, st₀, t, T', L, h0, X', hL, e1, e2, hf, -⟩ | ⟨z, st₀, t, T', L, E, ce, h0, X', hL, e1, e2, hx, hce, hcv, hcl, hst⟩
  · exact hf.elim
  · obtain ⟨rfl, hP', hz, hk⟩ := hx
    rw [h0] at hz hk
    obtain ⟨t2, a1, b1⟩ := kk z ce T'.heap (locs ++ L) (by rw [e1]; exact hce) hcv hcl ⟨hl, by rw [e1]; exact hP', hD, Nat.le_trans hS.1 (by rw [e1]; exact hz), fun w h1 h2 => by
        rw [e1, hk w (Nat.lt_of_lt_of_le h1 hS.1) (fun y => h2 (hin w y))]; exact hS.2.1 w h1 h2, fun w hw => by
        rcases List.mem_append.mp hw with g | g
        · exact hS.2.2 w g
        · exact hin _ (hL w g)⟩ T' rfl X'
    exact ⟨t2, hst.trans a1, b1⟩
/-- the row of the table that takes it -/
def CatR (hh : List (Nat × Nat × Nat × Nat)) (own : String) (pc : Nat) (E : String) (hpc : Nat) : Prop :=
  ∃ (pre : List ExceptionTableEntry) (x : ExceptionTableEntry) (suf : List ExceptionTableEntry) (name : String), tableOf hh = pre ++ x :: suf ∧ (∀ z ∈ pre, z.catchType ≠ 0 ∧ ∃ nm : String, Cond.classLink own z.catchType nm ∈ WSg ∧ (E, nm) ∈ ncL) ∧ covers x pc = true ∧ x.catchType ≠ 0 ∧ Cond.classLink own x.catchType name ∈ WSg ∧ name = E ∧ E ∈ ecL ∧ x.handlerPc = hpc
theorem cat_ok {hh : List (Nat × Nat × Nat × Nat)} {own : String} {hpc : Nat} {ce : Cell} {z : Addr} {rest2 : List Value} (hR : CatR hh own pc E0 hpc) (ht : c.exceptionTable.toList = tableOf hh) (hown : s.vm.findClass own = some m.cls) (hts : ∀ w ∈ WSg, w.before args s = true) (hE : exZ A s s.heap) (hcell : H[z]? = some ce) (hv : ce.vm = .none) (hcl : s.vm.findClass E0 = some ce.cls)
    (kk : W p l e R s m args below meth c H locs cells slots Q (F0 m hpc ls [.ref z])) : vx_W p l e R s m args below meth c H locs cells slots Q (F0 m pc ls rest2) z := by
  obtain ⟨pre, x, suf, name, h1, h2, h3, h4, h5, rfl, h6, rfl⟩ := hR
  exact vx_catch hown pre x suf (ht.trans h1) (fun w hw => Or.inr ⟨(h2 w hw).1, by
    obtain ⟨-, nm, g1, g2⟩ := h2 w hw
    exact ⟨nm, hts _ g1, hE.2.2.2.1 _ g2⟩⟩) h3 h4 (hts _ h5) (va_Nw.use rfl (hE.2.2.2.2.1 _ h6)) hcell hv hcl kk
theorem LH_exc {ls' : Array Slot} {L : List (Option iV)} {x n : Nat} (hl4 : ld L 4 = none) (hl3 : ∃ r, ld L 3 = some (.inr (.inr r))) (hn : n = L.length) (h : lv_has ls' n ((4, Value.ref x) :: (lst as b L).filter (fun q => !(q.1 == 4) && !(q.1 + 1 == 4 && q.2.category == 2)))) : LH as b ls' L := by
  subst hn
  refine ⟨h.1, h.2.1, fun w hw => h.2.2 w (List.mem_cons_of_mem _ (List.mem_filter.mpr ⟨hw, ?_⟩))⟩
  obtain ⟨v, h1, h2⟩ := mem_lst.mp hw
  have n4 : ¬ w.1 = 4 := fun e => by rw [e, hl4] at h1; cases h1
  have n3 : w.1 + 1 = 4 → ¬ w.2.category = 2 := fun e => by
    have e3 : w.1 = 3 := by omega
    obtain ⟨r, hr⟩ := hl3
    rw [e3, hr] at h1
    cases h1
    rw [h2]
    match r with
    | 0 => show ¬ (1 : Nat) = 2; decide
    | 1 => show ¬ (1 : Nat) = 2; decide
    | k + 2 => show ¬ (1 : Nat) = 2; decide
  by_cases e : w.1 + 1 = 4
  · have := n3 e
    simp [n4, this]
  · have e3 : ¬ w.1 = 3 := by omega
    simp [n4, e3]
end CT
/-- what a method with a table does, seen from its frame -/
def WalkH (l : Launch) (sc : List Int) (d y : Nat) (hh : List (Nat × Nat × Nat × Nat)) (av : List iV) (h : iH) (r : Option iV) (h' : iH) : Prop :=
  ∀ {p : Program} {e : Env} {R : Room} {s : State} {m : MethodId} {args : Array Value} {below : List Frame} {meth : Method} {c : Code} {H : Heap} {locs : List Loc} {cells slots : Nat} {Q : State → Prop} {ls : Array Slot} {as : List Nat} {b : Nat} {D : va_G} {kt : Nat → ClassId} {A : Nat → Prop} {q : mE},
    mtab[y]? = some q → c.exceptionTable.toList = tableOf hh → Cx p R s m args meth c D kt b sc A q d → Wd D kt as b A s.heap h.1 H locs → LH as b ls (ent q.2.2.1 av) → (ent q.2.2.1 av).length = q.2.2.1 → cells + (h'.2 - h.2) ≤ R.cells → slots + 1000 * (h'.2 - h.2) ≤ R.slots →
    (∀ (as' : List Nat) (H' : Heap) (locs' : List Loc) (cells' slots' pc' : Nat) (ls' : Array Slot) (i' : Instr) (st' : List iV), as <+: as' → Wd D kt as' b A s.heap h'.1 H' locs' → cells' ≤ cells + (h'.2 - h.2) → slots' ≤ slots + 1000 * (h'.2 - h.2) → decode q.2.1 pc' = .ok (i', 1) → rtn q.2.2.2.1 i' st' = some r → W p l e R s m args below meth c H' locs' cells' slots' Q (F0 m pc' ls' (st'.map (tr as' b)))) →
    W p l e R s m args below meth c H locs cells slots Q (F0 m 0 ls [])
theorem walkH_norm {l : Launch} {sc : List Int} {d y n : Nat} {hh : List (Nat × Nat × Nat × Nat)} {q : mE} {av : List iV} {h : iH} {r : Option iV} {h' : iH} (hq : mtab[y]? = some q) (hx : ex sp0 sc n d y (0, ent q.2.2.1 av, []) h = some (r, h')) : WalkH l sc d y hh av h r h' := by
  intro p e R s m args below meth c H locs cells slots Q ls as b D kt A q1 hq1 ht C wd hl hn hce hsl fin
  cases Option.some.inj (hq.symm.trans hq1)
  exact walk (sp0_ok l sc) n d y _ h r h' hx hq1 C wd hl hn hce hsl fin
/-- a call in it throws, and is caught -/
def ThrC (l : Launch) (sc : List Int) (d y : Nat) (hh : List (Nat × Nat × Nat × Nat)) (av : List iV) (h : iH) (r : Option iV) : Prop :=
  ∃ (q q' : mE) (n n2 pc idx y' kd hpc d' : Nat) (L : List (Option iV)) (st rest av' : List iV) (E : String), d = d' + 1 ∧ mtab[y]? = some q ∧ ChP sc d y h n (0, ent q.2.2.1 av, []) (pc, L, st) ∧ decode q.2.1 pc = .ok (.invokevirtual idx, 3) ∧ rsv q.2.2.2.2 (.invokevirtual idx) st h.1 = some (y', av', rest, kd) ∧ y' < nCall ∧ mtab[y']? = some q' ∧ MetX l sc q' d' av' h E ∧
    CatR hh (cnm q.2.2.2.2) pc E hpc ∧ decode q.2.1 hpc = .ok (.astore 4, 2) ∧ ld L 4 = none ∧ (∃ r, ld L 3 = some (.inr (.inr r))) ∧ 4 < L.length ∧ ex sp0 sc n2 d y (hpc + 2, L, []) h = some (r, h)
theorem walkH_thr {l : Launch} {sc : List Int} {d y : Nat} {hh : List (Nat × Nat × Nat × Nat)} {av : List iV} {h : iH} {r : Option iV} (hT : ThrC l sc d y hh av h r) : WalkH l sc d y hh av h r (h.1, h.2 + 1) := by
  obtain ⟨q, q', n, n2, pc, idx, y', kd, hpc, d', L, st, rest, av', E, rfl, hq, hch, hdg, hrs, hy, hq', hM, hcat, hda, hl4, hl3, hlen, hx⟩ := hT
  intro p e R s m args below meth c H locs cells slots Q ls as b D kt A q1 hq1 ht C wd hl hn hce hsl fin
  cases Option.some.inj (hq.symm.trans hq1)
  have e1 : (h.2 + 1) - h.2 = 1 := by omega
  have hce : cells + ((h.2 + 1) - h.2) ≤ R.cells := hce
  have hsl : slots + 1000 * ((h.2 + 1) - h.2) ≤ R.slots := hsl
  rw [e1] at hce hsl
  refine chP_ok n (0, ent q.2.2.1 av, []) H locs cells slots ls hch hq1 C wd hl hn (by omega) (by omega) ?_
  intro H1 locs1 cells1 slots1 ls1 wd1 c1 s1 hl1 hn1
  have hls1 : ls1.size = q.2.2.1 := by rw [lst_len hl1]; exact hn1
  have hrun := runsX_ok (l := l) (e := e) (below := below) (cells := cells1) (slots := slots1) hq' hy hM C wd1 hls1 hdg hrs (by omega) (by omega)
  have hexec := C.1
  have hb := C.2.1
  have hE : exZ A s s.heap := C.2.2.2.2.2.2.2.2.2.2.2.2.2.2
  refine ax_callX hrun C.2.2.2.2.2.2.2.2.2.2.1 wd1 fun z ce H2 locs2 hcell hv hcl wd2 => ?_
  refine cat_ok hcat ht C.2.2.2.1 C.2.2.2.2.1 hE hcell hv hcl ?_
  refine lv_astore (nL := L.length) hexec hb hda hl1 hlen rfl fun ls3 h3 => ?_
  have hl3' := LH_exc hl4 hl3 rfl h3
  refine walk (sp0_ok l sc) n2 (d' + 1) y (hpc + 2, L, []) h r h hx hq1 C wd2 hl3' hn1 (by omega) (by omega) ?_
  intro as' H' locs' cells' slots' pc' ls' i' st' g1 g2 g3 g4 g5 g6
  exact fin as' H' locs' cells' slots' pc' ls' i' st' g1 g2 (by show cells' ≤ cells + ((h.2 + 1) - h.2); omega) (by show slots' ≤ slots + 1000 * ((h.2 + 1) - h.2); omega) g5 g6
