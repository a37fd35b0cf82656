set_option maxRecDepth 16384
/-! ===== methods that throw: the walk up to the throw, and the contract ===== -/
def sp0 : Nat → List iV → iH → Option (Option iV × iH) := fun _ _ _ => none
theorem sp0_ok (l : Launch) (sc : List Int) : SpOK l sc sp0 := by
  intro d y kd av h r h' _ _ e
  have e2 : (none : Option (Option iV × iH)) = some (r, h') := e
  cases e2
/-- a step that leaves the cells as they are -/
def StpP (sc : List Int) (d y : Nat) (h : iH) (F F' : iF) : Prop :=
  ∃ (q : mE) (i : Instr) (len : Nat), mtab[y]? = some q ∧ decode q.2.1 F.1 = .ok (i, len) ∧ (lnI i = 0 ∨ len = lnI i) ∧
    (stp sc q.2.2.2.2 (decide (q.1.name = "<init>")) d i F h = some (F', h) ∨
      ∃ (d' y' : Nat) (av rest : List iV) (kd n : Nat) (q' : mE) (r : Option iV), d = d' + 1 ∧ len = 3 ∧ rsv q.2.2.2.2 i F.2.2 h.1 = some (y', av, rest, kd) ∧ y' < nCall ∧ mtab[y']? = some q' ∧ (ent q'.2.2.1 av).length = q'.2.2.1 ∧ ex sp0 sc n d' y' (0, ent q'.2.2.1 av, []) h = some (r, h) ∧ F' = (F.1 + 3, F.2.1, r.toList ++ rest))
def ChP (sc : List Int) (d y : Nat) (h : iH) : Nat → iF → iF → Prop
  | 0, F, G => F = G
  | n + 1, F, G => ∃ F', StpP sc d y h F F' ∧ ChP sc d y h n F' G
section TH
variable {p : Program} {l : Launch} {e : Env} {R : Room} {s : State} {m : MethodId} {args : Array Value} {below : List Frame} {meth : Method} {c : Code} {H : Heap} {locs : List Loc} {cells slots : Nat} {Q : State → Prop}
variable {pc pc' : Nat} {ls : Array Slot} {i : Instr} {as : List Nat} {b : Nat} {L L' : List (Option iV)} {st st' : List iV} {D : va_G} {kt : Nat → ClassId} {sc : List Int} {A : Nat → Prop} {q q' : mE} {d y : Nat} {h h' : iH} {av : List iV} {r : Option iV} {F F' G : iF}
theorem stpP_ok (hs : StpP sc d y h F F') (hq : mtab[y]? = some q) (C : Cx p R s m args meth c D kt b sc A q d) (wd : Wd D kt as b A s.heap h.1 H locs) (hl : LH as b ls F.2.1) (hn : F.2.1.length = q.2.2.1) (hcells : cells ≤ R.cells) (hslots : slots ≤ R.slots)
    (k : ∀ (H' : Heap) (locs' : List Loc) (cells' slots' : Nat) (ls' : Array Slot), Wd D kt as b A s.heap h.1 H' locs' → cells' ≤ cells → slots' ≤ slots → LH as b ls' F'.2.1 → F'.2.1.length = q.2.2.1 → W p l e R s m args below meth c H' locs' cells' slots' Q (F0 m F'.1 ls' (F'.2.2.map (tr as b)))) :
    W p l e R s m args below meth c H locs cells slots Q (F0 m F.1 ls (F.2.2.map (tr as b))) := by
  obtain ⟨q0, i, len, hq0, hdg, hln, hs⟩ := hs
  cases Option.some.inj (hq0.symm.trans hq)
  have same : ∀ as' : List Nat, as <+: as' → as'.length = h.1.length → as' = as := fun as' hp hl' => (List.IsPrefix.eq_of_length hp (by rw [wd.1, hl'])).symm
  have e0 : cells + (h.2 - h.2) = cells := by omega
  have e1 : slots + 1000 * (h.2 - h.2) = slots := by omega
  rcases hs with hs | ⟨d', y', av, rest, kd, n, q', r, rfl, rfl, hrs, hy, hq1, hent, hx, rfl⟩
  · refine stp_ok C wd hl hn hdg hln hs (by omega) (by omega) fun as' H' locs' slots' ls' hpre wd' hs' hl' hn' => ?_
    cases same as' hpre wd'.1
    rw [e0]
    exact k H' locs' cells slots' ls' wd' (Nat.le_refl _) (by omega) hl' (hn'.trans hn)
  · have hq1C : mtabC[y']? = some q' := by
      unfold mtabC
      rw [List.getElem?_take_of_lt hy]; exact hq1
    have hM : MetOf l sc q' d' av h r h := met_of hq1 (mtabC_ok hq1C).1 hent (walk (sp0_ok l sc) _ _ _ _ _ _ _ hx)
    have hruns : Runs l sc d' y' kd av h r h := by
      intro p e R s m args below meth c H locs cells slots pc ls i as b st rest D kt A q
      exact runs_ok hq1 hy hM
    have hls : ls.size = q.2.2.1 := by rw [lst_len hl]; exact hn
    have hrun := hruns (e := e) (below := below) C wd hls hdg hrs (cells := cells) (slots := slots) (by omega) (by omega)
    refine ax_call hrun rfl (fun z hz => hz) C.2.2.2.2.2.2.2.2.2.2.1 wd fun as' H1 locs1 hpre wd1 => ?_
    cases same as' hpre wd1.1
    rw [e0, e1]
    have est : (r.map (tr as b)).toList ++ rest.map (tr as b) = (r.toList ++ rest).map (tr as b) := by
      cases r <;> rfl
    rw [est]
    exact k H1 locs1 cells slots ls wd1 (Nat.le_refl _) (Nat.le_refl _) hl hn
theorem chP_ok : ∀ (n : Nat) (F : iF) (H : Heap) (locs : List Loc) (cells slots : Nat) (ls : Array Slot), ChP sc d y h n F G → mtab[y]? = some q → Cx p R s m args meth c D kt b sc A q d → Wd D kt as b A s.heap h.1 H locs → LH as b ls F.2.1 → F.2.1.length = q.2.2.1 → cells ≤ R.cells → slots ≤ R.slots →
    (∀ (H' : Heap) (locs' : List Loc) (cells' slots' : Nat) (ls' : Array Slot), Wd D kt as b A s.heap h.1 H' locs' → cells' ≤ cells → slots' ≤ slots → LH as b ls' G.2.1 → G.2.1.length = q.2.2.1 → W p l e R s m args below meth c H' locs' cells' slots' Q (F0 m G.1 ls' (G.2.2.map (tr as b)))) →
    W p l e R s m args below meth c H locs cells slots Q (F0 m F.1 ls (F.2.2.map (tr as b))) := by
  intro n
  induction n with
  | zero =>
    intro F H locs cells slots ls hc hq C wd hl hn hce hsl k
    have e1 : F = G := hc
    subst e1
    exact k H locs cells slots ls wd (Nat.le_refl _) (Nat.le_refl _) hl hn
  | succ n ih =>
    intro F H locs cells slots ls hc hq C wd hl hn hce hsl k
    obtain ⟨F', h1, h2⟩ := hc
    refine stpP_ok h1 hq C wd hl hn hce hsl fun H' locs' cells' slots' ls' wd' a1 a2 hl' hn' => ?_
    refine ih F' H' locs' cells' slots' ls' h2 hq C wd' hl' hn' (by omega) (by omega) fun H2 locs2 cells2 slots2 ls2 wd2 b1 b2 hl2 hn2 => ?_
    exact k H2 locs2 cells2 slots2 ls2 wd2 (by omega) (by omega) hl2 hn2
end TH
/-- where a method has thrown: the class; the cells are as they were -/
def XCo (D : va_G) (kt : Nat → ClassId) (as : List Nat) (b sz : Nat) (h : List iO) (E0 : String) : String → State → State → Prop := fun E st t => E = E0 ∧ va_P D vwCl (wso kt as b h) t.heap ∧ va_F (va_A (wso kt as b h) sz) st t
def MetX (l : Launch) (sc : List Int) (q : mE) (d : Nat) (av : List iV) (h : iH) (E0 : String) : Prop :=
  ∀ (D : va_G) (kt : Nat → ClassId) (as : List Nat) (b sz : Nat), vx_Met l q.1 (wsM q) (rmM d 1) (PcM D kt as b sc sz av h.1) (fun _ _ _ _ => False) (XCo D kt as b sz h.1 E0) 1 1000 (va_A (wso kt as b h.1) sz)
def exN : List String := ["java/lang/RuntimeException", "java/lang/Exception"]
/-- the words of a throw, where they come from -/
def thW (own : String) (ic : Nat) (cls : String) : Prop := (∀ w ∈ vx_atS own ic cls exN, w ∈ WSg ∨ w = .castable cls cls ∨ w = .declares (Bundle.initS "java/lang/RuntimeException") ∨ w = .declares (Bundle.initS "java/lang/Exception") ∨ w = .declares (Bundle.initS "java/lang/Throwable")) ∧ (∀ w ∈ vx_atS own ic cls exN, vx_ot w = true) ∧ cls ∈ ecL ∧ Bundle.fit cls = true ∧ (∀ n ∈ exN, Bundle.fit n = true)
theorem thw_at {own cls : String} {ic : Nat} {s : State} {args : Array Value} {A : Nat → Prop} {H : Heap} (h : thW own ic cls) (hts : ∀ w ∈ WSg, w.before args s = true) (hE : exZ A s H) : ∀ w ∈ vx_atS own ic cls exN, w.before args s = true := by
  intro w hw
  rcases h.1 w hw with g | rfl | rfl | rfl | rfl
  · exact hts w g
  · exact va_Nw.use rfl (hE.2.2.2.2.1 cls h.2.2.1)
  · exact va_Nw.use rfl (hE.2.2.2.2.2 _ (by decide))
  · exact va_Nw.use rfl (hE.2.2.2.2.2 _ (by decide))
  · exact va_Nw.use rfl (hE.2.2.2.2.2 _ (by decide))
/-- a throw at pc: new, dup, ldc (or ldc_w), the constructor, athrow -/
def thC (cc : ByteArray) (pc ik is ic : Nat) : Prop :=
  decode cc pc = .ok (.new ik, 3) ∧ decode cc (pc + 3) = .ok (.dup, 1) ∧
    ((decode cc (pc + 4) = .ok (.ldc is, 2) ∧ decode cc (pc + 6) = .ok (.invokespecial ic, 3) ∧ decode cc (pc + 9) = .ok (.athrow, 1)) ∨
     (decode cc (pc + 4) = .ok (.ldc_w is, 3) ∧ decode cc (pc + 7) = .ok (.invokespecial ic, 3) ∧ decode cc (pc + 10) = .ok (.athrow, 1)))
theorem thr_of {l : Launch} (hls : l.stackTraces = false) {sc : List Int} {d y n pc ik is ic : Nat} {q : mE} {av : List iV} {h : iH} {L : List (Option iV)} {cls text own : String} (hd : 6 ≤ d) (hq : mtab[y]? = some q) (hoq : okM q) (hent : (ent q.2.2.1 av).length = q.2.2.1) (hto : ChP sc d y h n (0, ent q.2.2.1 av, []) (pc, L, []))
    (ho : own = cnm q.2.2.2.2) (hk : Cond.classLink own ik cls ∈ WSg) (hini : Cond.initialized cls ∈ WSg) (htx : (own, is, text) ∈ txL) (hw : thW own ic cls) (hot : vx_ot (Cond.classLink own ik cls) = true ∧ vx_ot (Cond.initialized cls) = true) (hcode : thC q.2.1 pc ik is ic) : MetX l sc q d av h cls := by
  intro D kt as b sz
  refine vx_ofW (cc := q.2.1) (maxL := q.2.2.1) (ret := q.2.2.2.1) hoq.2.2.1 rfl ?_
  intro p e s m args below meth c s₁ B hml hte hv
  obtain ⟨rfl, hl, hP, hD0, hK, hxw, hX, hbl, hbn, rfl, hEX⟩ := hv
  have hts0 := atoms_spec (ws := wsM q) B.pre
  have hts : ∀ w ∈ WSg, w.before (av.map (tr as b)).toArray s = true := fun w hw => hts0 w (List.mem_cons_of_mem _ hw)
  have hD := hD0.self (sz := s.heap.size)
  have hA : ∀ z, s.heap.size ≤ z → va_A (wso kt as b h.1) s.heap.size z := fun z hz => Or.inr hz
  have hS : va_S (va_A (wso kt as b h.1) s.heap.size) s.heap s.heap [] := va_S.rf
  have hbA : ¬ va_A (wso kt as b h.1) s.heap.size b := fun hz => by
    rcases hz with ⟨k, x, hx⟩ | hz
    · exact hbn k _ hx rfl
    · omega
  have hown : s.vm.findClass (cnm q.2.2.2.2) = some m.cls := by rw [← hoq.2.2.2.2.2]; exact findClass_of_methodNamed B.named
  have C : Cx p (headSpec (wsM q) (rmM d 1)).room s m (av.map (tr as b)).toArray meth c D kt b sc (va_A (wso kt as b h.1) s.heap.size) q d :=
    ⟨B.exec, B.bytes, hml, hown, hts, hxw, hK, hX, hbl, hbA, hA, fun hq => by rw [(name_of_methodNamed B.named B.method).1, hq], Nat.le_refl _, Nat.le_refl _, hEX⟩
  rw [lg_entry_eq]
  refine chP_ok n (0, ent q.2.2.1 av, []) s.heap [] 0 0 _ hto hq C ⟨hl, hP, hD, hS⟩ (LH_ent hent) hent (Nat.zero_le _) (Nat.zero_le _) ?_
  intro H' locs' cells' slots' ls' wd' hc' hs' hl' hn'
  obtain ⟨sa, hsa⟩ := hEX.2.2.1 _ htx
  have hgood : ∀ w ∈ Cond.classLink own ik cls :: Cond.initialized cls :: vx_atS own ic cls exN, vx_ot w = true := List.forall_mem_cons.mpr ⟨hot.1, List.forall_mem_cons.mpr ⟨hot.2, hw.2.1⟩⟩
  have hsz : ls'.size = c.maxLocals := by rw [lst_len hl', hml]; exact hn'
  have hx : ∀ t : State, s.vm.Alike t.vm → H'.size ≤ t.heap.size → (∀ z : Nat, z < H'.size → t.heap[z]? = H'[z]?) → XCo D kt as b s.heap.size h.1 cls cls s t := fun t _ h1 h2 =>
    ⟨rfl, wd'.2.1.kept (fun k x hk => h2 x.1 (vx_lt wd'.2.1 hk)), Nat.le_trans wd'.2.2.2.1 h1, fun z z1 z2 => by rw [h2 z (Nat.lt_of_lt_of_le z1 wd'.2.2.2.1)]; exact wd'.2.2.2.2.1 z z1 z2⟩
  have hown2 : s.vm.findClass own = some m.cls := by rw [ho]; exact hown
  have hfr : exN.length + 3 < (headSpec (wsM q) (rmM d 1)).room.frames := by show 5 < d; omega
  have hlo : ((([] : List Value)).map fun v => v.category).sum + (13 * (exN.length + 1) + 43) ≤ (headSpec (wsM q) (rmM d 1)).room.locals := by show 0 + 82 ≤ 64 * d; omega
  obtain ⟨d0, d3, ⟨d4, d6, d9⟩ | ⟨d4, d6, d9⟩⟩ := hcode
  · exact vx_throwS B.exec B.bytes hls hown2 hw.2.2.2.1 hw.2.2.2.2 (hts _ hk) (hts _ hini) hsa (thw_at hw hts hEX) hgood hEX.1 hEX.2.1 wd'.2.2.2 hsz d0 d3 d4 d6 d9 (fun x hx => (hte x hx).elim) hfr hlo (by show cells' + 1 ≤ 1; omega) (by show slots' + 6 ≤ 1000 * 1; omega) B.notSynchronized hx wd'.2.2.2.2.2 (by omega) (by omega)
  · exact vx_throwSW B.exec B.bytes hls hown2 hw.2.2.2.1 hw.2.2.2.2 (hts _ hk) (hts _ hini) hsa (thw_at hw hts hEX) hgood hEX.1 hEX.2.1 wd'.2.2.2 hsz d0 d3 d4 d6 d9 (fun x hx => (hte x hx).elim) hfr hlo (by show cells' + 1 ≤ 1; omega) (by show slots' + 6 ≤ 1000 * 1; omega) B.notSynchronized hx wd'.2.2.2.2.2 (by omega) (by omega)
