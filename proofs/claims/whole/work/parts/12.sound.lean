/-! ===== the interpreter is sound: what it answers, the machine does ===== -/
def SpOK (l : Launch) (sc : List Int) (sp : Nat → List iV → iH → Option (Option iV × iH)) : Prop :=
  ∀ (d y kd : Nat) (av : List iV) (h : iH) (r : Option iV) (h' : iH), 10 ≤ d → nCall ≤ y → sp y av h = some (r, h') → Runs l sc d y kd av h r h'
theorem sw_of {i : Instr} (h : lnI i = 0) : (∃ a b c d, i = .tableswitch a b c d) ∨ ∃ a b, i = .lookupswitch a b := by
  unfold lnI at h
  split at h <;> first | (cases h; done) | exact Or.inl ⟨_, _, _, _, rfl⟩ | exact Or.inr ⟨_, _, rfl⟩
theorem not_sw {i : Instr} (h1 : ∀ a b c d, i ≠ .tableswitch a b c d) (h2 : ∀ a b, i ≠ .lookupswitch a b) : lnI i ≠ 0 := fun h => by
  rcases sw_of h with ⟨a, b, c, d, e⟩ | ⟨a, b, e⟩
  · exact h1 a b c d e
  · exact h2 a b e
section MS
variable {p : Program} {l : Launch} {e : Env} {R : Room} {s : State} {m : MethodId} {args : Array Value} {below : List Frame} {meth : Method} {c : Code} {H : Heap} {locs : List Loc} {cells slots : Nat} {Q : State → Prop}
variable {pc pc' : Nat} {ls : Array Slot} {i : Instr} {as : List Nat} {b : Nat} {L L' : List (Option iV)} {st st' : List iV} {D : va_G} {kt : Nat → ClassId} {sc : List Int} {A : Nat → Prop} {q q' : mE} {d : Nat} {h h' h1 : iH} {av : List iV} {r : Option iV} {F F' : iF}
theorem stp_mono {o : Nat} {ini : Bool} (hs : stp sc o ini d i F h = some (F', h1)) : h.2 ≤ h1.2 := by
  unfold stp at hs
  repeat' split at hs
  all_goals first | (cases hs; done) | (cases hs; exact Nat.le_refl _) | (cases hs; exact Nat.le_succ _)
theorem stp_ok (C : Cx p R s m args meth c D kt b sc A q d) (wd : Wd D kt as b A s.heap h.1 H locs) (hl : LH as b ls F.2.1) (hn : F.2.1.length = q.2.2.1) {len : Nat} (hdg : decode q.2.1 F.1 = .ok (i, len)) (hln : lnI i = 0 ∨ len = lnI i)
    (hs : stp sc q.2.2.2.2 (decide (q.1.name = "<init>")) d i F h = some (F', h1)) (hcells : cells + (h1.2 - h.2) ≤ R.cells) (hslots : slots + 1000 * (h1.2 - h.2) ≤ R.slots)
    (k : ∀ (as' : List Nat) (H' : Heap) (locs' : List Loc) (slots' : Nat) (ls' : Array Slot), as <+: as' → Wd D kt as' b A s.heap h1.1 H' locs' → slots' ≤ slots + 1000 * (h1.2 - h.2) → LH as' b ls' F'.2.1 → F'.2.1.length = F.2.1.length → W p l e R s m args below meth c H' locs' (cells + (h1.2 - h.2)) slots' Q (F0 m F'.1 ls' (F'.2.2.map (tr as' b)))) :
    W p l e R s m args below meth c H locs cells slots Q (F0 m F.1 ls (F.2.2.map (tr as b))) := by
  obtain ⟨pc, L, st⟩ := F
  have ln : (∀ a b c d, i ≠ .tableswitch a b c d) → (∀ a b, i ≠ .lookupswitch a b) → decode q.2.1 pc = .ok (i, lnI i) := fun z1 z2 => by
    rw [← hln.resolve_left (not_sw z1 z2)]; exact hdg
  have hexec := C.1
  have hb := C.2.1
  have hsz : ls.size = c.maxLocals := by rw [lst_len hl, C.2.2.1]; exact hn
  have hpos : 1 ≤ d ∨ d = 0 := by omega
  unfold stp at hs
  dsimp only at hs hn hl k ⊢
  split at hs
  · rename_i F1 hF
    cases hs
    obtain ⟨p1, p2, p3⟩ := F'
    refine lnA_ok hexec hb (ln (fun _ _ _ _ z => by subst z; cases hF) (fun _ _ z => by subst z; cases hF)) hl hF fun eL => ?_
    subst eL
    exact W.widen (by omega) (Nat.le_refl _) (k as H locs slots ls (List.prefix_refl _) wd (by omega) hl rfl)
  · split at hs
    · rename_i F1 hF
      cases hs
      obtain ⟨p1, p2, p3⟩ := F'
      refine lnB_ok hexec hb (ln (fun _ _ _ _ z => by subst z; cases hF) (fun _ _ z => by subst z; cases hF)) hl hF fun ls' hl' eL => ?_
      exact W.widen (by omega) (Nat.le_refl _) (k as H locs slots ls' (List.prefix_refl _) wd (by omega) hl' eL)
    · split at hs
      · rename_i F1 hF
        cases hs
        obtain ⟨p1, p2, p3⟩ := F'
        refine lnC_ok hexec hb (ln (fun _ _ _ _ z => by subst z; cases hF) (fun _ _ z => by subst z; cases hF)) hF fun eL => ?_
        subst eL
        exact W.widen (by omega) (Nat.le_refl _) (k as H locs slots ls (List.prefix_refl _) wd (by omega) hl rfl)
      · split at hs
        · rename_i F1 hF
          cases hs
          obtain ⟨p1, p2, p3⟩ := F'
          refine lnD_ok hexec hb hdg hln hF fun eL => ?_
          subst eL
          exact W.widen (by omega) (Nat.le_refl _) (k as H locs slots ls (List.prefix_refl _) wd (by omega) hl rfl)
        · split at hs
          · rename_i F1 hF
            cases hs
            obtain ⟨p1, p2, p3⟩ := F'
            have nb : ∀ {i : Instr}, (∃ x y z, binI i x y = some z) ∨ (∃ x y z, binJ i x y = some z) → (∀ a b c d, i ≠ .tableswitch a b c d) ∧ ∀ a b, i ≠ .lookupswitch a b := fun {i} hz => by
              rcases hz with ⟨x, y, z, hz⟩ | ⟨x, y, z, hz⟩
              · exact ⟨fun _ _ _ _ w => (by subst w; cases hz), fun _ _ w => (by subst w; cases hz)⟩
              · exact ⟨fun _ _ _ _ w => (by subst w; cases hz), fun _ _ w => (by subst w; cases hz)⟩
            have nsw : (∀ a b c d, i ≠ .tableswitch a b c d) ∧ ∀ a b, i ≠ .lookupswitch a b := by
              have hF2 := hF
              unfold stE at hF2
              split at hF2
              · split at hF2
                · rename_i hz; exact nb (Or.inl ⟨_, _, _, hz⟩)
                · cases hF2
              · split at hF2
                · rename_i hz; exact nb (Or.inr ⟨_, _, _, hz⟩)
                · cases hF2
              · cases hF2
            refine lnE_ok hexec hb (ln nsw.1 nsw.2) hF fun eL => ?_
            subst eL
            exact W.widen (by omega) (Nat.le_refl _) (k as H locs slots ls (List.prefix_refl _) wd (by omega) hl rfl)
          · split at hs
            · rename_i F1 hF
              cases hs
              obtain ⟨p1, p2, p3⟩ := F'
              refine lnK_ok C (ln (fun _ _ _ _ z => by subst z; cases hF) (fun _ _ z => by subst z; cases hF)) hF fun eL => ?_
              subst eL
              exact W.widen (by omega) (Nat.le_refl _) (k as H locs slots ls (List.prefix_refl _) wd (by omega) hl rfl)
            · split at hs
              · rename_i q1 st1 hF
                cases hs
                refine lnR_ok C wd (ln (fun _ _ _ _ z => by subst z; cases hF) (fun _ _ z => by subst z; cases hF)) hF ?_
                exact W.widen (by omega) (Nat.le_refl _) (k as H locs slots ls (List.prefix_refl _) wd (by omega) hl rfl)
              · split at hs
                · rename_i q1 st1 n1 x1 hF
                  cases hs
                  refine lnW_ok C wd (ln (fun _ _ _ _ z => by subst z; cases hF) (fun _ _ z => by subst z; cases hF)) hF fun H' locs' wd' => ?_
                  exact W.widen (by omega) (Nat.le_refl _) (k as H' locs' slots ls (List.prefix_refl _) wd' (by omega) hl rfl)
                · split at hs
                  · rename_i q1 st1 x1 hF
                    split at hs
                    · rename_i hv
                      cases hs
                      simp only [Bool.and_eq_true] at hv
                      obtain ⟨hv1, hv2, hv3⟩ := hv
                      have e1 : h.2 + 1 - h.2 = 1 := by omega
                      dsimp only at hcells hslots k
                      rw [e1] at hcells hslots k
                      refine lnN_ok C wd (ln (fun _ _ _ _ z => by subst z; cases hF) (fun _ _ z => by subst z; cases hF)) hF hv3 hv2 hcells (by omega) fun z H' locs' slots' wd' hs' => ?_
                      exact k (as ++ [z]) H' locs' slots' ls (List.prefix_append _ _) wd' (by omega) (LH_app (by rw [wd.1]; exact hv1) hl) rfl
                    · cases hs
                  · split at hs
                    · cases hs
                    · rename_i hd0
                      split at hs
                      · rename_i q1 st1 hF
                        cases hs
                        refine lnM_ok C (by omega) hsz (ln (fun _ _ _ _ z => by subst z; cases hF) (fun _ _ z => by subst z; cases hF)) hF (by omega) (by omega) ?_
                        exact W.widen (by omega) (Nat.le_refl _) (k as H locs slots ls (List.prefix_refl _) wd (by omega) hl rfl)
                      · split at hs
                        · rename_i q1 st1 n1 x1 hF
                          cases hs
                          refine lnY_ok C wd (by omega) hsz (ln (fun _ _ _ _ z => by subst z; cases hF) (fun _ _ z => by subst z; cases hF)) hF fun H' locs' wd' => ?_
                          exact W.widen (by omega) (Nat.le_refl _) (k as H' locs' slots ls (List.prefix_refl _) wd' (by omega) hl rfl)
                        · cases hs
theorem rtn_ln {ret : Option FieldType} (hr : rtn ret i st = some r) : lnI i = 1 := by
  unfold rtn at hr
  split at hr <;> first | rfl | cases hr
end MS
theorem ex_mono (sp : Nat → List iV → iH → Option (Option iV × iH)) (sc : List Int) : ∀ (n d y : Nat) (F : iF) (h : iH) (r : Option iV) (h' : iH), ex sp sc n d y F h = some (r, h') → h.2 ≤ h'.2 := by
  intro n
  induction n with
  | zero => intro d y F h r h' hx; cases hx
  | succ n ih =>
    intro d y F h r h' hx
    unfold ex at hx
    split at hx
    · cases hx
    · split at hx
      · cases hx
      · split at hx
        · split at hx
          · cases hx; exact Nat.le_refl _
          · split at hx
            · rename_i hs
              exact Nat.le_trans (stp_mono hs) (ih _ _ _ _ _ _ hx)
            · split at hx
              · cases hx
              · split at hx
                · cases hx
                · split at hx
                  · cases hx
                  · split at hx
                    · rename_i hc
                      exact Nat.le_trans hc.1 (ih _ _ _ _ _ _ hx)
                    · cases hx
        · cases hx
def flat (av : List iV) : List (Option iV) := av.flatMap fun v => match v with
  | .inr (.inl z) => [some (.inr (.inl z)), none]
  | v => [some v]
theorem ent_flat (ml : Nat) (av : List iV) : ent ml av = flat av ++ List.replicate (ml - (flat av).length) none := rfl
theorem flat_cons (v : iV) (vs : List iV) : flat (v :: vs) = (match v with
  | .inr (.inl z) => [some (.inr (.inl z)), none]
  | v => [some v]) ++ flat vs := by
  unfold flat; rw [List.flatMap_cons]
theorem flat_len (as : List Nat) (b : Nat) (av : List iV) : (lg_sl (av.map (tr as b))).length = (flat av).length := by
  induction av with
  | nil => rfl
  | cons v vs ih =>
    rw [flat_cons, List.map_cons]
    unfold lg_sl at ih ⊢
    rw [List.flatMap_cons, List.length_append, List.length_append, ih]
    congr 1
    match v with
    | .inl z => rfl
    | .inr (.inl z) => rfl
    | .inr (.inr 0) => rfl
    | .inr (.inr 1) => rfl
    | .inr (.inr (n + 2)) => rfl
theorem flat_mem (as : List Nat) (b : Nat) (av : List iV) : ∀ (off j : Nat) (w : iV), (flat av)[j]? = some (some w) → (off + j, tr as b w) ∈ lv_args off (av.map (tr as b)) := by
  induction av with
  | nil => intro off j w h; cases h
  | cons v vs ih =>
    intro off j w h
    rw [flat_cons] at h
    have one : (tr as b v).category = 1 → (some v :: flat vs)[j]? = some (some w) → (off + j, tr as b w) ∈ lv_args off ((v :: vs).map (tr as b)) := fun hc h => by
      rw [List.map_cons]
      unfold lv_args
      rw [if_neg (by rw [hc]; decide)]
      cases j with
      | zero => cases h; exact List.mem_cons_self
      | succ j =>
        rw [List.getElem?_cons_succ] at h
        have := ih (off + 1) j w h
        rw [show off + (j + 1) = off + 1 + j by omega]
        exact List.mem_cons_of_mem _ this
    match v, h, one with
    | .inl z, h, one => exact one rfl h
    | .inr (.inl z), h, _ =>
      rw [List.map_cons]
      unfold lv_args
      rw [if_pos (show (tr as b (.inr (.inl z))).category = 2 from rfl)]
      match j, h with
      | 0, h => cases h; exact List.mem_cons_self
      | 1, h => cases h
      | j + 2, h =>
        have := ih (off + 2) j w h
        rw [show off + (j + 2) = off + 2 + j by omega]
        exact List.mem_cons_of_mem _ this
    | .inr (.inr x), h, one => exact one (tr_cat1 (fun z q => by cases q)) h
theorem LH_ent {as : List Nat} {b ml : Nat} {av : List iV} (hl : (ent ml av).length = ml) : LH as b ((lg_sl (av.map (tr as b)) ++ List.replicate (ml - (lg_sl (av.map (tr as b))).length) Slot.unset).toArray) (ent ml av) := by
  have hle : (lg_sl (av.map (tr as b))).length ≤ ml := by
    rw [flat_len]
    rw [ent_flat, List.length_append, List.length_replicate] at hl
    omega
  have h1 := lv_entry (av.map (tr as b)) hle
  unfold LH
  rw [hl]
  refine ⟨h1.1, h1.2.1, fun x hx => h1.2.2 x ?_⟩
  obtain ⟨w, h2, h3⟩ := mem_lst.mp hx
  have h4 := ld_some h2
  rw [ent_flat] at h4
  by_cases hj : x.1 < (flat av).length
  · rw [List.getElem?_append_left hj] at h4
    have h5 := flat_mem as b av 0 x.1 w h4
    rw [Nat.zero_add, ← h3] at h5
    exact h5
  · rw [List.getElem?_append_right (by omega)] at h4
    have := List.eq_of_mem_replicate (List.mem_of_getElem? h4)
    cases this
/-- what the interpreter says of a walk holds on the machine, if it holds from the walk's end on -/
def WalkOK (l : Launch) (sc : List Int) (d y : Nat) (F : iF) (h : iH) (r : Option iV) (h' : iH) : Prop :=
  ∀ {p : Program} {e : Env} {R : Room} {s : State} {m : MethodId} {args : Array Value} {below : List Frame} {meth : Method} {c : Code} {H : Heap} {locs : List Loc} {cells slots : Nat} {Q : State → Prop} {ls : Array Slot} {as : List Nat} {b : Nat} {D : va_G} {kt : Nat → ClassId} {A : Nat → Prop} {q : mE},
    mtab[y]? = some q → Cx p R s m args meth c D kt b sc A q d → Wd D kt as b A s.heap h.1 H locs → LH as b ls F.2.1 → F.2.1.length = q.2.2.1 → cells + (h'.2 - h.2) ≤ R.cells → slots + 1000 * (h'.2 - h.2) ≤ R.slots →
    (∀ (as' : List Nat) (H' : Heap) (locs' : List Loc) (cells' slots' pc' : Nat) (ls' : Array Slot) (i' : Instr) (st' : List iV), as <+: as' → Wd D kt as' b A s.heap h'.1 H' locs' → cells' ≤ cells + (h'.2 - h.2) → slots' ≤ slots + 1000 * (h'.2 - h.2) → decode q.2.1 pc' = .ok (i', 1) → rtn q.2.2.2.1 i' st' = some r → W p l e R s m args below meth c H' locs' cells' slots' Q (F0 m pc' ls' (st'.map (tr as' b)))) →
    W p l e R s m args below meth c H locs cells slots Q (F0 m F.1 ls (F.2.2.map (tr as b)))
theorem met_of {l : Launch} {sc : List Int} {d y : Nat} {q : mE} {av : List iV} {h : iH} {r : Option iV} {h' : iH} (hq : mtab[y]? = some q) (hoq : okM q) (hent : (ent q.2.2.1 av).length = q.2.2.1) (hw : WalkOK l sc d y (0, ent q.2.2.1 av, []) h r h') : MetOf l sc q d av h r h' := by
  intro D kt as b sz
  refine Met.ofW (cc := q.2.1) (maxL := q.2.2.1) (ret := q.2.2.2.1) hoq.2.2.1 rfl ?_
  intro p e s m args below meth c s₁ B hml hv
  obtain ⟨rfl, hl, hP, hD0, hK, hxw, hX, hbl, hbn, rfl, hEX⟩ := hv
  have hts0 := atoms_spec (ws := wsM q) B.pre
  have hr := B.returns
  have hlocks := B.notSynchronized
  have hD := hD0.self (sz := s.heap.size)
  have hA : ∀ z, s.heap.size ≤ z → va_A (wso kt as b h.1) s.heap.size z := fun z hz => Or.inr hz
  have hS : va_S (va_A (wso kt as b h.1) s.heap.size) s.heap s.heap [] := va_S.rf
  have hbA : ¬ va_A (wso kt as b h.1) s.heap.size b := fun hz => by
    rcases hz with ⟨k, x, hx⟩ | hz
    · exact hbn k _ hx rfl
    · omega
  have hown : s.vm.findClass (cnm q.2.2.2.2) = some m.cls := by rw [← hoq.2.2.2.2.2]; exact findClass_of_methodNamed B.named
  have C : Cx p (headSpec (wsM q) (rmM d (h'.2 - h.2))).room s m (av.map (tr as b)).toArray meth c D kt b sc (va_A (wso kt as b h.1) s.heap.size) q d :=
    ⟨B.exec, B.bytes, hml, hown, fun w hw => hts0 w (List.mem_cons_of_mem _ hw), hxw, hK, hX, hbl, hbA, hA, fun hq => by rw [(name_of_methodNamed B.named B.method).1, hq], Nat.le_refl _, Nat.le_refl _, hEX⟩
  rw [lg_entry_eq]
  refine hw hq C ⟨hl, hP, hD, hS⟩ (LH_ent hent) hent (by show 0 + _ ≤ h'.2 - h.2; omega) (by show 0 + _ ≤ 1000 * (h'.2 - h.2); omega) ?_
  intro as' H' locs' cells' slots' pc' ls' i' st' hpre wd' hc' hs' hdg hrt
  obtain ⟨hl', hP', hD', hS'⟩ := wd'
  refine W.widen (k := h'.2 - h.2) (n := 1000 * (h'.2 - h.2)) (by omega) (by omega) ?_
  have fin : ∀ {oc : Outcome} (t : State), oc = .returned (r.map (tr as' b)) → t.heap = H' → QcM D kt as b s.heap.size h.1 r h'.1 (av.map (tr as b)).toArray s oc t := fun {oc} t ho ht =>
    ⟨as', ho, hpre, hl', by rw [ht]; exact hP', hD', hS'.F ht⟩
  unfold rtn at hrt
  split at hrt
  · rename_i hret
    cases hrt
    exact W.iret B.exec B.bytes (by rw [hr]; exact hret) (fun t ht hW => fin t rfl ht) hS'.2.2 hdg
  · rename_i a hret
    split at hrt
    · rename_i ha
      cases hrt
      refine W.zret (ty := .boolean) B.exec B.bytes (by rw [hr]; exact hret) ?_ (fun t ht hW => fin t rfl ht) hS'.2.2 hdg
      rcases ha with rfl | rfl <;> rfl
    · cases hrt
  · rename_i hret
    cases hrt
    exact W.lret B.exec B.bytes (by rw [hr]; exact hret) (fun t ht hW => fin t rfl ht) hS'.2.2 hdg
  · rename_i nm x hret
    cases hrt
    refine W.aret (rt := .object nm) B.exec B.bytes (by rw [hr]; exact hret) (Or.inl ⟨_, rfl⟩) ?_ (fun t ht hW => fin t rfl ht) hS'.2.2 hdg
    match x with
    | 0 => exact Or.inl rfl
    | 1 => exact Or.inr ⟨_, rfl⟩
    | n + 2 => exact Or.inr ⟨_, rfl⟩
  · rename_i hret
    cases hrt
    exact W.vret B.exec B.bytes (by rw [hr]; exact hret) (fun t ht hW => fin t rfl ht) hS'.2.2 hdg
  · cases hrt
theorem walk {l : Launch} {sc : List Int} {sp : Nat → List iV → iH → Option (Option iV × iH)} (hsp : SpOK l sc sp) : ∀ (n d y : Nat) (F : iF) (h : iH) (r : Option iV) (h' : iH), ex sp sc n d y F h = some (r, h') → WalkOK l sc d y F h r h' := by
  intro n
  induction n with
  | zero => intro d y F h r h' hx; cases hx
  | succ n ih =>
    intro d y F h r h' hx p e R s m args below meth c H locs cells slots Q ls as b D kt A q hq C wd hl hn hcells hslots fin
    have hmono := ex_mono sp sc _ _ _ _ _ _ _ hx
    unfold ex at hx
    rw [hq] at hx
    dsimp only at hx
    split at hx
    · cases hx
    · rename_i i len hdg
      split at hx
      · rename_i hln
        split at hx
        · rename_i r1 hr1
          cases hx
          have h1 := rtn_ln hr1
          have hlen : len = 1 := by rw [← h1]; exact hln.resolve_left (by omega)
          subst hlen
          exact fin as H locs cells slots F.1 ls i F.2.2 (List.prefix_refl _) wd (by omega) (by omega) hdg hr1
        · split at hx
          · rename_i F1 h1 hs
            have m1 := stp_mono hs
            have m2 := ex_mono sp sc _ _ _ _ _ _ _ hx
            refine stp_ok C wd hl hn hdg hln hs (by omega) (by omega) fun as' H' locs' slots' ls' hpre wd' hs' hl' hn' => ?_
            refine ih _ _ _ _ _ _ hx hq C wd' hl' (hn'.trans hn) (by omega) (by omega) fun as2 H2 locs2 cells2 slots2 pc2 ls2 i2 st2 g1 g2 g3 g4 g5 g6 => ?_
            exact fin as2 H2 locs2 cells2 slots2 pc2 ls2 i2 st2 (hpre.trans g1) g2 (by omega) (by omega) g5 g6
          · split at hx
            · cases hx
            · rename_i d' hnone
              split at hx
              · cases hx
              · rename_i y' av rest kd hrs
                split at hx
                · cases hx
                · rename_i r1 h1 hcall
                  split at hx
                  · rename_i hc
                    obtain ⟨m1, hval⟩ := hc
                    have m2 := ex_mono sp sc _ _ _ _ _ _ _ hx
                    have hi3 : lnI i = 3 := by
                      have := hrs
                      unfold rsv at this
                      split at this <;> first | rfl | cases this
                    have hlen : len = 3 := by rw [← hi3]; exact hln.resolve_left (by omega)
                    subst hlen
                    have hruns : Runs l sc d' y' kd av h r1 h1 := by
                      split at hcall
                      · rename_i hy
                        split at hcall
                        · rename_i q1 hq1
                          split at hcall
                          · rename_i hent
                            have hq1C : mtabC[y']? = some q1 := by
                              unfold mtabC
                              rw [List.getElem?_take_of_lt hy]; exact hq1
                            have hM : MetOf l sc q1 d' av h r1 h1 := met_of hq1 (mtabC_ok hq1C).1 hent (ih _ _ _ _ _ _ hcall)
                            intro p e R s m args below meth c H locs cells slots pc ls i as b st rest D kt A q
                            exact runs_ok hq1 hy hM
                          · cases hcall
                        · cases hcall
                      · split at hcall
                        · rename_i hy h10
                          exact hsp _ _ _ _ _ _ _ h10 (by omega) hcall
                        · cases hcall
                    have hls : ls.size = q.2.2.1 := by rw [lst_len hl]; exact hn
                    have hrun := hruns (e := e) (below := below) C wd hls hdg hrs (cells := cells) (slots := slots) (by omega) (by omega)
                    refine ax_call hrun rfl (fun z hz => hz) C.2.2.2.2.2.2.2.2.2.2.1 wd fun as' H1 locs1 hpre wd1 => ?_
                    obtain ⟨bs, rfl⟩ := hpre
                    have hl2 : LH (as ++ bs) b ls F.2.1 := by
                      rcases hval with hv | hv
                      · have hb0 : bs = [] := by
                          have e1 := wd1.1
                          have e2 := wd.1
                          rw [List.length_append, hv] at e1
                          exact List.length_eq_zero_iff.mp (by omega)
                        subst hb0
                        rw [List.append_nil]; exact hl
                      · rw [Bool.and_eq_true] at hv
                        exact LH_app (by rw [wd.1]; exact hv.1) hl
                    have hst2 : rest.map (tr as b) = rest.map (tr (as ++ bs) b) := by
                      rcases hval with hv | hv
                      · have hb0 : bs = [] := by
                          have e1 := wd1.1
                          have e2 := wd.1
                          rw [List.length_append, hv] at e1
                          exact List.length_eq_zero_iff.mp (by omega)
                        subst hb0
                        rw [List.append_nil]
                      · rw [Bool.and_eq_true] at hv
                        exact (map_app (by rw [wd.1]; exact hv.2)).symm
                    rw [hst2]
                    have est : (r1.map (tr (as ++ bs) b)).toList ++ rest.map (tr (as ++ bs) b) = (r1.toList ++ rest).map (tr (as ++ bs) b) := by
                      cases r1 <;> rfl
                    rw [est]
                    refine ih _ _ _ _ _ _ hx hq C wd1 hl2 hn (by omega) (by omega) fun as2 H2 locs2 cells2 slots2 pc2 ls2 i2 st2 g1 g2 g3 g4 g5 g6 => ?_
                    exact fin as2 H2 locs2 cells2 slots2 pc2 ls2 i2 st2 ((List.prefix_append _ _).trans g1) g2 (by omega) (by omega) g5 g6
                  · cases hx
      · cases hx
