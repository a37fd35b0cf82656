/-! ===== the locals, and the instructions that touch neither cells nor calls ===== -/
def lst (as : List Nat) (b : Nat) (L : List (Option iV)) : List (Nat × Value) := (List.range L.length).filterMap fun i => (ld L i).map fun v => (i, tr as b v)
def LH (as : List Nat) (b : Nat) (ls : Array Slot) (L : List (Option iV)) : Prop := lv_has ls L.length (lst as b L)
theorem ld_some {L : List (Option iV)} {i : Nat} {v : iV} (h : ld L i = some v) : L[i]? = some (some v) := by
  unfold ld at h
  split at h
  · rename_i o ho
    rw [ho, h]
  · cases h
theorem ld_of {L : List (Option iV)} {i : Nat} {v : iV} (h : L[i]? = some (some v)) : ld L i = some v := by
  unfold ld; rw [h]
theorem ld_lt {L : List (Option iV)} {i : Nat} {v : iV} (h : ld L i = some v) : i < L.length := (List.getElem?_eq_some_iff.mp (ld_some h)).1
theorem mem_lst {as : List Nat} {b : Nat} {L : List (Option iV)} {q : Nat × Value} : q ∈ lst as b L ↔ ∃ v, ld L q.1 = some v ∧ q.2 = tr as b v := by
  unfold lst
  rw [List.mem_filterMap]
  constructor
  · rintro ⟨i, -, h⟩
    cases hv : ld L i with
    | none => rw [hv] at h; cases h
    | some v => rw [hv] at h; cases h; exact ⟨v, hv, rfl⟩
  · rintro ⟨v, h1, h2⟩
    refine ⟨q.1, List.mem_range.mpr (ld_lt h1), ?_⟩
    rw [h1, Option.map_some, ← h2]
theorem LH_get {as : List Nat} {b : Nat} {ls : Array Slot} {L : List (Option iV)} {i : Nat} {v : iV} (h : LH as b ls L) (hv : ld L i = some v) : ls[i]? = some (.val (tr as b v)) :=
  h.2.2 (i, tr as b v) (mem_lst.mpr ⟨v, hv, rfl⟩)
theorem tr_cat1 {as : List Nat} {b : Nat} {v : iV} (h : ∀ z, v ≠ .inr (.inl z)) : (tr as b v).category = 1 := by
  match v, h with
  | .inl z, _ => rfl
  | .inr (.inl z), h => exact absurd rfl (h z)
  | .inr (.inr r), _ =>
    show (va_rf (trR as b r)).category = 1
    cases trR as b r <;> rfl
theorem kill_len (L : List (Option iV)) (i : Nat) : (kill L i).length = L.length := by
  unfold kill
  split
  · rfl
  · split
    · rw [List.length_set]
    · rfl
theorem kill_get {L : List (Option iV)} {i j : Nat} {v : iV} (h : (kill L i)[j]? = some (some v)) : L[j]? = some (some v) ∧ ¬ (j + 1 = i ∧ ∃ z, v = .inr (.inl z)) := by
  unfold kill at h
  split at h
  · exact ⟨h, fun q => by omega⟩
  · rename_i i' k
    split at h
    · rename_i hj
      by_cases hk : k = j
      · subst hk
        rw [List.getElem?_set_self'] at h
        cases hL : L[k]? with
        | none => rw [hL] at h; simp at h
        | some o => rw [hL] at h; simp at h
      · rw [List.getElem?_set_ne hk] at h
        exact ⟨h, fun q => hk (by omega)⟩
    · rename_i hj
      refine ⟨h, fun q => ?_⟩
      obtain ⟨q1, z, rfl⟩ := q
      have : j = k := by omega
      subst this
      exact hj (by rw [h]; rfl)
theorem LH_store1 {as : List Nat} {b : Nat} {ls' : Array Slot} {L L' : List (Option iV)} {i : Nat} {v : iV} (hs : st1 L i v = some L') (h : lv_has ls' L.length ((i, tr as b v) :: (lst as b L).filter (fun q => !(q.1 == i) && !(q.1 + 1 == i && q.2.category == 2)))) : LH as b ls' L' ∧ L'.length = L.length := by
  unfold st1 at hs
  split at hs
  · rename_i hi
    cases hs
    refine ⟨?_, by rw [List.length_set, kill_len]⟩
    unfold LH
    rw [List.length_set, kill_len]
    refine ⟨h.1, h.2.1, fun q hq => h.2.2 q ?_⟩
    obtain ⟨w, h1, h2⟩ := mem_lst.mp hq
    have h3 := ld_some h1
    by_cases hqi : q.1 = i
    · have e : w = v := by
        rw [hqi, List.getElem?_set_self (by rw [kill_len]; exact hi)] at h3
        cases h3; rfl
      subst e
      exact List.mem_cons.mpr (Or.inl (Prod.ext hqi h2))
    · rw [List.getElem?_set_ne (Ne.symm hqi)] at h3
      obtain ⟨g1, g2⟩ := kill_get h3
      refine List.mem_cons.mpr (Or.inr (List.mem_filter.mpr ⟨mem_lst.mpr ⟨w, ld_of g1, h2⟩, ?_⟩))
      simp only [Bool.and_eq_true, Bool.not_eq_true', beq_eq_false_iff_ne, ne_eq, Bool.and_eq_false_iff]
      refine ⟨hqi, ?_⟩
      by_cases hq1 : q.1 + 1 = i
      · right
        rw [h2, tr_cat1 (fun z hz => g2 ⟨hq1, z, hz⟩)]
        decide
      · exact Or.inl hq1
  · cases hs
theorem LH_store2 {as : List Nat} {b : Nat} {ls' : Array Slot} {L L' : List (Option iV)} {i : Nat} {v : iV} (hs : st2 L i v = some L') (h : lv_has ls' L.length ((i, tr as b v) :: (lst as b L).filter (fun q => !(q.1 == i) && (!(q.1 == i + 1) && !(q.1 + 1 == i && q.2.category == 2))))) : LH as b ls' L' ∧ L'.length = L.length := by
  unfold st2 at hs
  split at hs
  · rename_i hi
    cases hs
    refine ⟨?_, by rw [List.length_set, List.length_set, kill_len]⟩
    unfold LH
    rw [List.length_set, List.length_set, kill_len]
    refine ⟨h.1, h.2.1, fun q hq => h.2.2 q ?_⟩
    obtain ⟨w, h1, h2⟩ := mem_lst.mp hq
    have h3 := ld_some h1
    by_cases hq1 : q.1 = i + 1
    · rw [hq1, List.getElem?_set_self (by rw [List.length_set, kill_len]; exact hi)] at h3
      cases h3
    · rw [List.getElem?_set_ne (Ne.symm hq1)] at h3
      by_cases hqi : q.1 = i
      · have e : w = v := by
          rw [hqi, List.getElem?_set_self (by rw [kill_len]; omega)] at h3
          cases h3; rfl
        subst e
        exact List.mem_cons.mpr (Or.inl (Prod.ext hqi h2))
      · rw [List.getElem?_set_ne (Ne.symm hqi)] at h3
        obtain ⟨g1, g2⟩ := kill_get h3
        refine List.mem_cons.mpr (Or.inr (List.mem_filter.mpr ⟨mem_lst.mpr ⟨w, ld_of g1, h2⟩, ?_⟩))
        simp only [Bool.and_eq_true, Bool.not_eq_true', beq_eq_false_iff_ne, ne_eq, Bool.and_eq_false_iff]
        refine ⟨hqi, hq1, ?_⟩
        by_cases hq2 : q.1 + 1 = i
        · right
          rw [h2, tr_cat1 (fun z hz => g2 ⟨hq2, z, hz⟩)]
          decide
        · exact Or.inl hq2
  · cases hs
section MA
variable {p : Program} {l : Launch} {e : Env} {R : Room} {s : State} {m : MethodId} {args : Array Value} {below : List Frame} {meth : Method} {c : Code} {H : Heap} {locs : List Loc} {cells slots : Nat} {Q : State → Prop}
variable {cc : ByteArray} {pc pc' : Nat} {ls : Array Slot} {i : Instr} {as : List Nat} {b : Nat} {L L' : List (Option iV)} {st st' : List iV}
theorem lnA_ok (hexec : p.tables.exec = Jvm.exec) (hb : c.code = cc) (hdg : decode cc pc = .ok (i, lnI i)) (hl : LH as b ls L) (h : stA i pc L st = some (pc', L', st'))
    (k : L' = L → W p l e R s m args below meth c H locs cells slots Q (F0 m pc' ls (st'.map (tr as b)))) : W p l e R s m args below meth c H locs cells slots Q (F0 m pc ls (st.map (tr as b))) := by
  unfold stA at h
  split at h
  · cases h; exact lv_iconst hexec hb hdg rfl (k rfl)
  · split at h
    · rename_i hn
      cases h
      refine lv_bipush hexec hb hdg ?_ (k rfl)
      exact Int8.toInt32_ofInt (by show (-128 : Int) ≤ _; omega) (by show _ ≤ (127 : Int); omega)
    · cases h
  · split at h
    · rename_i hn
      cases h
      refine lv_sipush hexec hb hdg ?_ (k rfl)
      exact Int16.toInt32_ofInt (by show (-32768 : Int) ≤ _; omega) (by show _ ≤ (32767 : Int); omega)
    · cases h
  · rename_i n
    cases h
    refine lv_lconst (n := n) hexec hb hdg ?_ (k rfl)
    exact Int64.ofInt_eq_ofNat.symm
  · split at h
    · rename_i x hx
      cases h; exact lv_iload_n hexec hb hdg rfl (LH_get hl hx) (k rfl)
    · cases h
  · split at h
    · rename_i x hx
      cases h; exact lv_iload hexec hb hdg (LH_get hl hx) (k rfl)
    · cases h
  · split at h
    · rename_i x hx
      cases h; exact lv_lload_n hexec hb hdg rfl (LH_get hl hx) (k rfl)
    · cases h
  · split at h
    · rename_i x hx
      cases h; exact lv_lload hexec hb hdg (LH_get hl hx) (k rfl)
    · cases h
  · split at h
    · rename_i x hx
      cases h
      match x, hx, k with
      | 0, hx, k => exact lv_aload_n hexec hb hdg rfl (LH_get hl hx) (k rfl)
      | x + 1, hx, k => exact lv_aload_n hexec hb hdg rfl (LH_get hl hx) (k rfl)
    · cases h
  · split at h
    · rename_i x hx
      cases h
      match x, hx, k with
      | 0, hx, k => exact lv_aload hexec hb hdg (LH_get hl hx) (k rfl)
      | x + 1, hx, k => exact lv_aload hexec hb hdg (LH_get hl hx) (k rfl)
    · cases h
  · cases h
theorem lst_len {as : List Nat} {b : Nat} {ls : Array Slot} {L : List (Option iV)} (h : LH as b ls L) : ls.size = L.length := h.1
theorem lnB_ok (hexec : p.tables.exec = Jvm.exec) (hb : c.code = cc) (hdg : decode cc pc = .ok (i, lnI i)) (hl : LH as b ls L) (h : stB i pc L st = some (pc', L', st'))
    (k : ∀ ls', LH as b ls' L' → L'.length = L.length → W p l e R s m args below meth c H locs cells slots Q (F0 m pc' ls' (st'.map (tr as b)))) : W p l e R s m args below meth c H locs cells slots Q (F0 m pc ls (st.map (tr as b))) := by
  have lt1 : ∀ {j : Nat} {v : iV} {L1 : List (Option iV)}, st1 L j v = some L1 → j < L.length := fun {j v L1} q => by
    unfold st1 at q; split at q
    · assumption
    · cases q
  have lt2 : ∀ {j : Nat} {v : iV} {L1 : List (Option iV)}, st2 L j v = some L1 → j + 1 < L.length := fun {j v L1} q => by
    unfold st2 at q; split at q
    · assumption
    · cases q
  unfold stB at h
  split at h
  · split at h
    · split at h
      · rename_i L1 hL
        cases h
        refine lv_istore_n (nL := L.length) hexec hb hdg rfl hl (lt1 hL) rfl fun ls' h' => ?_
        obtain ⟨a1, a2⟩ := LH_store1 hL h'
        exact k ls' a1 a2
      · cases h
    · cases h
  · split at h
    · split at h
      · rename_i L1 hL
        cases h
        refine lv_istore (nL := L.length) hexec hb hdg hl (lt1 hL) rfl fun ls' h' => ?_
        obtain ⟨a1, a2⟩ := LH_store1 hL h'
        exact k ls' a1 a2
      · cases h
    · cases h
  · split at h
    · split at h
      · rename_i L1 hL
        cases h
        refine lv_lstore_n (nL := L.length) hexec hb hdg rfl hl (lt2 hL) rfl fun ls' h' => ?_
        obtain ⟨a1, a2⟩ := LH_store2 hL h'
        exact k ls' a1 a2
      · cases h
    · cases h
  · split at h
    · split at h
      · rename_i L1 hL
        cases h
        refine lv_lstore (nL := L.length) hexec hb hdg hl (lt2 hL) rfl fun ls' h' => ?_
        obtain ⟨a1, a2⟩ := LH_store2 hL h'
        exact k ls' a1 a2
      · cases h
    · cases h
  · split at h
    · split at h
      · rename_i x r _ L1 hL
        cases h
        match x, hL with
        | 0, hL =>
          refine lv_astore_n (nL := L.length) hexec hb hdg rfl hl (lt1 hL) rfl fun ls' h' => ?_
          obtain ⟨a1, a2⟩ := LH_store1 hL h'
          exact k ls' a1 a2
        | x + 1, hL =>
          refine lv_astore_n (nL := L.length) hexec hb hdg rfl hl (lt1 hL) rfl fun ls' h' => ?_
          obtain ⟨a1, a2⟩ := LH_store1 hL h'
          exact k ls' a1 a2
      · cases h
    · cases h
  · split at h
    · split at h
      · rename_i x r _ L1 hL
        cases h
        match x, hL with
        | 0, hL =>
          refine lv_astore (nL := L.length) hexec hb hdg hl (lt1 hL) rfl fun ls' h' => ?_
          obtain ⟨a1, a2⟩ := LH_store1 hL h'
          exact k ls' a1 a2
        | x + 1, hL =>
          refine lv_astore (nL := L.length) hexec hb hdg hl (lt1 hL) rfl fun ls' h' => ?_
          obtain ⟨a1, a2⟩ := LH_store1 hL h'
          exact k ls' a1 a2
      · cases h
    · cases h
  · split at h
    · split at h
      · rename_i x hx _ L1 hL
        cases h
        obtain ⟨j, hj⟩ := List.getElem?_of_mem (mem_lst (q := (_, _)) |>.mpr ⟨_, hx, rfl⟩ : (_, tr as b (.inl x)) ∈ lst as b L)
        refine lv_iinc (nL := L.length) hexec hb hdg hl hj (o_add x _) (lt1 hL) rfl fun ls' h' => ?_
        obtain ⟨a1, a2⟩ := LH_store1 hL h'
        exact k ls' a1 a2
      · cases h
    · cases h
  · cases h
theorem lnC_ok (hexec : p.tables.exec = Jvm.exec) (hb : c.code = cc) (hdg : decode cc pc = .ok (i, lnI i)) (h : stC i pc L st = some (pc', L', st'))
    (k : L' = L → W p l e R s m args below meth c H locs cells slots Q (F0 m pc' ls (st'.map (tr as b)))) : W p l e R s m args below meth c H locs cells slots Q (F0 m pc ls (st.map (tr as b))) := by
  have rcat : ∀ r : Nat, (tr as b (.inr (.inr r))).category = 1 := fun r => tr_cat1 (fun z q => by cases q)
  unfold stC at h
  split at h
  · split at h
    · cases h
      refine lv_ineg hexec hb hdg ?_
      rw [o_neg]; exact k rfl
    · cases h
  · split at h
    · split at h
      · rename_i ha
        cases h; exact lv_i2l hexec hb hdg (o_wide ha) (k rfl)
      · cases h
    · cases h
  · split at h
    · cases h; exact lv_l2i hexec hb hdg Int64.toInt32_ofInt (k rfl)
    · cases h
  · split at h
    · cases h; exact lv_i2b hexec hb hdg (o_8 _) (k rfl)
    · cases h
  · split at h
    · split at h
      · rename_i ha
        rw [Bool.and_eq_true] at ha
        cases h
        refine W.lcmp hexec hb hdg ?_
        rw [j_cmp ha.1 ha.2]; exact k rfl
      · cases h
    · cases h
  · split at h
    · cases h; exact lv_dup hexec hb hdg rfl (k rfl)
    · cases h; exact lv_dup hexec hb hdg (rcat _) (k rfl)
    · cases h
  · split at h
    · cases h; exact lv_dup2_11 hexec hb hdg rfl (rcat _) (k rfl)
    · cases h
  · cases h
theorem lnE_ok (hexec : p.tables.exec = Jvm.exec) (hb : c.code = cc) (hdg : decode cc pc = .ok (i, lnI i)) (h : stE i pc L st = some (pc', L', st'))
    (k : L' = L → W p l e R s m args below meth c H locs cells slots Q (F0 m pc' ls (st'.map (tr as b)))) : W p l e R s m args below meth c H locs cells slots Q (F0 m pc ls (st.map (tr as b))) := by
  unfold stE at h
  split at h
  · split at h
    · rename_i y x r _ z hz
      cases h
      unfold binI at hz
      split at hz
      · cases hz; refine lv_iadd hexec hb hdg ?_; rw [o_add]; exact k rfl
      · cases hz; refine lv_isub hexec hb hdg ?_; rw [o_sub]; exact k rfl
      · cases hz; refine lv_imul hexec hb hdg ?_; rw [o_mul]; exact k rfl
      · split at hz
        · rename_i ha
          simp only [Bool.and_eq_true, decide_eq_true_eq] at ha
          cases hz
          refine lv_idiv hexec hb hdg (o_ne0 ha.1.2 ha.2) ?_
          rw [o_div ha.1.1 ha.1.2 ha.2]; exact k rfl
        · cases hz
      · split at hz
        · rename_i ha
          simp only [Bool.and_eq_true, decide_eq_true_eq] at ha
          cases hz
          refine lv_irem hexec hb hdg (o_ne0 ha.1.2 ha.2) ?_
          rw [o_rem ha.1.1 ha.1.2 ha.2]; exact k rfl
        · cases hz
      · cases hz; refine lv_iand hexec hb hdg ?_
        have := k rfl; simpa only [List.map_cons, tr, bAnd, Int32.ofInt_toInt] using this
      · cases hz; refine lv_ior hexec hb hdg ?_
        have := k rfl; simpa only [List.map_cons, tr, bOr, Int32.ofInt_toInt] using this
      · cases hz; refine lv_ixor hexec hb hdg ?_
        have := k rfl; simpa only [List.map_cons, tr, bXor, Int32.ofInt_toInt] using this
      · cases hz; refine lv_ishl hexec hb hdg ?_
        have := k rfl; simpa only [List.map_cons, tr, bShl, Int32.ofInt_toInt] using this
      · cases hz; refine lv_ishr hexec hb hdg ?_
        have := k rfl; simpa only [List.map_cons, tr, bShr, Int32.ofInt_toInt] using this
      · cases hz
    · cases h
  · split at h
    · rename_i y x r _ z hz
      cases h
      unfold binJ at hz
      split at hz
      · cases hz; refine lv_ladd hexec hb hdg ?_; rw [j_add]; exact k rfl
      · cases hz; refine lv_lsub hexec hb hdg ?_; rw [j_sub]; exact k rfl
      · cases hz; refine lv_lmul hexec hb hdg ?_; rw [j_mul]; exact k rfl
      · split at hz
        · rename_i ha
          simp only [Bool.and_eq_true, decide_eq_true_eq] at ha
          cases hz
          refine lv_ldiv hexec hb hdg (j_ne0 ha.1.2 ha.2) ?_
          rw [j_div ha.1.1 ha.1.2 ha.2]; exact k rfl
        · cases hz
      · split at hz
        · rename_i ha
          simp only [Bool.and_eq_true, decide_eq_true_eq] at ha
          cases hz
          refine lv_lrem hexec hb hdg (j_ne0 ha.1.2 ha.2) ?_
          rw [j_rem ha.1.1 ha.1.2 ha.2]; exact k rfl
        · cases hz
      · cases hz
    · cases h
  · cases h
theorem jmp_ok {off : Int} {q : Nat} (h : jmp pc off = some q) : (pc : Int) + off = (q : Int) := by
  unfold jmp at h
  split at h
  · cases h; omega
  · cases h
theorem push_ok {F : Option Nat} {r : List iV} (h : push F L r = some (pc', L', st')) : F = some pc' ∧ L' = L ∧ st' = r := by
  unfold push at h
  split at h
  · cases h; exact ⟨rfl, rfl, rfl⟩
  · cases h
theorem lnD_ok (hexec : p.tables.exec = Jvm.exec) (hb : c.code = cc) {len : Nat} (hdg : decode cc pc = .ok (i, len)) (hln : lnI i = 0 ∨ len = lnI i) (h : stD i pc L st = some (pc', L', st'))
    (k : L' = L → W p l e R s m args below meth c H locs cells slots Q (F0 m pc' ls (st'.map (tr as b)))) : W p l e R s m args below meth c H locs cells slots Q (F0 m pc ls (st.map (tr as b))) := by
  unfold stD at h
  split at h
  · rename_i off
    obtain ⟨h1, rfl, rfl⟩ := push_ok h
    have hl3 : len = 3 := hln.resolve_left (by show ¬ 3 = 0; decide)
    subst hl3
    exact lv_goto hexec hb hdg (jmp_ok h1) (k rfl)
  · rename_i cnd off
    have hl3 : len = 3 := hln.resolve_left (by show ¬ 3 = 0; decide)
    subst hl3
    split at h
    · rename_i x r
      split at h
      · rename_i ha
        split at h
        · rename_i q hq
          have hj := jmp_ok hq
          split at h
          · rename_i hc
            cases h
            cases cnd <;> simp only [brI, decide_eq_true_eq] at hc
            · exact lv_if_eq hexec hb hdg hj (fun _ => k rfl) (fun q => absurd (by rw [o_0, o_eq ha i0]; exact hc) q)
            · exact lv_if_ne hexec hb hdg hj (fun _ => k rfl) (fun q => absurd (by rw [o_0, o_eq ha i0] at q; exact q) hc)
            · exact lv_if_lt hexec hb hdg hj (fun _ => k rfl) (fun q => absurd (by rw [o_0, o_lt ha i0]; exact hc) q)
            · exact lv_if_ge hexec hb hdg hj (fun _ => k rfl) (fun q => absurd (by rw [o_0, o_le i0 ha]; exact hc) q)
            · exact lv_if_gt hexec hb hdg hj (fun _ => k rfl) (fun q => absurd (by rw [o_0, o_lt i0 ha]; exact hc) q)
            · exact lv_if_le hexec hb hdg hj (fun _ => k rfl) (fun q => absurd (by rw [o_0, o_le ha i0]; exact hc) q)
          · rename_i hc
            cases h
            cases cnd <;> simp only [brI, decide_eq_true_eq] at hc
            · exact lv_if_eq hexec hb hdg hj (fun q => absurd (by rw [o_0, o_eq ha i0] at q; exact q) hc) (fun _ => k rfl)
            · exact lv_if_ne hexec hb hdg hj (fun q => absurd (by rw [o_0, o_eq ha i0] at q; exact q) hc) (fun _ => k rfl)
            · exact lv_if_lt hexec hb hdg hj (fun q => absurd (by rw [o_0, o_lt ha i0] at q; exact q) hc) (fun _ => k rfl)
            · exact lv_if_ge hexec hb hdg hj (fun q => absurd (by rw [o_0, o_le i0 ha] at q; exact q) hc) (fun _ => k rfl)
            · exact lv_if_gt hexec hb hdg hj (fun q => absurd (by rw [o_0, o_lt i0 ha] at q; exact q) hc) (fun _ => k rfl)
            · exact lv_if_le hexec hb hdg hj (fun q => absurd (by rw [o_0, o_le ha i0] at q; exact q) hc) (fun _ => k rfl)
        · cases h
      · cases h
    · cases h
  · rename_i cnd off
    have hl3 : len = 3 := hln.resolve_left (by show ¬ 3 = 0; decide)
    subst hl3
    split at h
    · rename_i y x r
      split at h
      · rename_i ha
        rw [Bool.and_eq_true] at ha
        obtain ⟨ha, hy⟩ := ha
        split at h
        · rename_i q hq
          have hj := jmp_ok hq
          split at h
          · rename_i hc
            cases h
            cases cnd <;> simp only [brI, decide_eq_true_eq] at hc
            · exact lv_icmp_eq hexec hb hdg hj (fun _ => k rfl) (fun q => absurd (by rw [o_eq ha hy]; exact hc) q)
            · exact lv_icmp_ne hexec hb hdg hj (fun _ => k rfl) (fun q => absurd (by rw [o_eq ha hy] at q; exact q) hc)
            · exact lv_icmp_lt hexec hb hdg hj (fun _ => k rfl) (fun q => absurd (by rw [o_lt ha hy]; exact hc) q)
            · exact lv_icmp_ge hexec hb hdg hj (fun _ => k rfl) (fun q => absurd (by rw [o_le hy ha]; exact hc) q)
            · exact lv_icmp_gt hexec hb hdg hj (fun _ => k rfl) (fun q => absurd (by rw [o_lt hy ha]; exact hc) q)
            · exact lv_icmp_le hexec hb hdg hj (fun _ => k rfl) (fun q => absurd (by rw [o_le ha hy]; exact hc) q)
          · rename_i hc
            cases h
            cases cnd <;> simp only [brI, decide_eq_true_eq] at hc
            · exact lv_icmp_eq hexec hb hdg hj (fun q => absurd (by rw [o_eq ha hy] at q; exact q) hc) (fun _ => k rfl)
            · exact lv_icmp_ne hexec hb hdg hj (fun q => absurd (by rw [o_eq ha hy] at q; exact q) hc) (fun _ => k rfl)
            · exact lv_icmp_lt hexec hb hdg hj (fun q => absurd (by rw [o_lt ha hy] at q; exact q) hc) (fun _ => k rfl)
            · exact lv_icmp_ge hexec hb hdg hj (fun q => absurd (by rw [o_le hy ha] at q; exact q) hc) (fun _ => k rfl)
            · exact lv_icmp_gt hexec hb hdg hj (fun q => absurd (by rw [o_lt hy ha] at q; exact q) hc) (fun _ => k rfl)
            · exact lv_icmp_le hexec hb hdg hj (fun q => absurd (by rw [o_le ha hy] at q; exact q) hc) (fun _ => k rfl)
        · cases h
      · cases h
    · cases h
  · rename_i dflt lo hi offs
    split at h
    · rename_i x r
      split at h
      · rename_i ha
        split at h
        · rename_i hc
          obtain ⟨h1, rfl, rfl⟩ := push_ok h
          exact lv_tableOut hexec hb hdg (by rw [o_toInt ha]; exact hc) (jmp_ok h1) (k rfl)
        · rename_i hc
          split at h
          · rename_i off ho
            obtain ⟨h1, rfl, rfl⟩ := push_ok h
            exact lv_tableIn hexec hb hdg (by rw [o_toInt ha]; exact fun q => hc (Or.inl q)) (by rw [o_toInt ha]; exact fun q => hc (Or.inr q)) (by rw [o_toInt ha]; exact ho) (jmp_ok h1) (k rfl)
          · cases h
      · cases h
    · cases h
  · rename_i dflt ps
    split at h
    · rename_i x r
      split at h
      · rename_i ha
        rw [Bool.and_eq_true] at ha
        obtain ⟨h1, rfl, rfl⟩ := push_ok h
        exact lv_lookup hexec hb hdg ha.2 (by rw [o_toInt ha.1]) (jmp_ok h1) (k rfl)
      · cases h
    · cases h
  · cases h
end MA
