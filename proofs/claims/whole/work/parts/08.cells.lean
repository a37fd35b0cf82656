/-! ===== what the interpreter's cells mean on the machine ===== -/
def cO (kt : Nat → ClassId) (as : List Nat) (b : Nat) (x : iO) : va_E := match x with
  | .inl (ci, fs) => .inr (ci, fs.map (tr as b))
  | .inr (.inl (t, xs)) => if t = 1 then .inl (kt t, xs.length, .inr (.inl (fun j => Int64.ofInt (xs.getD j 0)))) else .inl (kt t, xs.length, .inl (fun j => Int32.ofInt (xs.getD j 0)))
  | .inr (.inr (t, rs)) => .inl (kt t, rs.length, .inr (.inr (.inr (.inr (fun j => trR as b (rs.getD j 0))))))
def wso (kt : Nat → ClassId) (as : List Nat) (b : Nat) (h : List iO) : va_W := List.zipWith (fun a x => (a, cO kt as b x)) as h
def tys (kt : Nat → ClassId) : List (ClassId × FieldType) := [(kt 0, ak 0), (kt 1, ak 1), (kt 2, ak 2), (kt 3, ak 3), (kt 4, ak 4), (kt 5, ak 5)]
theorem tys_get {kt : Nat → ClassId} {t : Nat} (h : t < 6) : (tys kt)[t]? = some (kt t, ak t) := by
  match t, h with
  | 0, _ => rfl
  | 1, _ => rfl
  | 2, _ => rfl
  | 3, _ => rfl
  | 4, _ => rfl
  | 5, _ => rfl
def Wd (D : va_G) (kt : Nat → ClassId) (as : List Nat) (b : Nat) (A : Nat → Prop) (H0 : Heap) (h : List iO) (H : Heap) (locs : List Loc) : Prop :=
  as.length = h.length ∧ va_P D vwCl (wso kt as b h) H ∧ va_D A (wso kt as b h) ∧ va_S A H0 H locs
/-- the texts of the throws -/
def txL : List (String × Nat × String) := [("EngagedByDeputy", 349, "no such shelf"), ("EngagedByDeputy", 356, "no row, or no such place"), ("EngagedByDeputy$Jealous", 33, "a jealous failure"), ("EngagedByDeputy$Steady", 15, "a plain failure"), ("EngagedByDeputy$Vain", 30, "a vain failure")]
/-- which of the thrown isn't which other -/
def ncL : List (String × String) := [("java/lang/IllegalArgumentException", "java/lang/UnsupportedOperationException"), ("java/lang/IllegalStateException", "java/lang/UnsupportedOperationException"), ("java/lang/IllegalStateException", "java/lang/IllegalArgumentException")]
def ecL : List String := ["java/lang/IllegalArgumentException", "java/lang/IllegalStateException", "java/lang/UnsupportedOperationException"]
def dcL : List String := ["java/lang/RuntimeException", "java/lang/Exception", "java/lang/Throwable"]
/-- what a throw rests on -/
def exZ (A : Nat → Prop) (U : State) (H : Heap) : Prop := vx_Zq Bundle.tN "UNASSIGNED_STACK" Bundle.steD A U H ∧ vx_Zq Bundle.tN "SUPPRESSED_SENTINEL" Bundle.listD A U H ∧ (∀ z ∈ txL, ∃ a, vk_R z.1 z.2.1 z.2.2 a U) ∧ (∀ z ∈ ncL, va_Nc z.1 z.2 U) ∧ (∀ z ∈ ecL, va_Nw (.castable z z) U) ∧ (∀ z ∈ dcL, va_Nw (.declares (Bundle.initS z)) U)
theorem exZ.moved {A : Nat → Prop} {u U : State} {H : Heap} (hW : u.WarmedH U.vm) (h : exZ A u H) : exZ A U H :=
  ⟨vx_Zq.moved hW.alike h.1, vx_Zq.moved hW.alike h.2.1, fun z hz => (h.2.2.1 z hz).imp fun _ ha => vk_R.warm hW ha, fun z hz => va_Nc.moved hW.alike (h.2.2.2.1 z hz), fun z hz => va_Nw.warmC hW (h.2.2.2.2.1 z hz), fun z hz => va_Nw.warmD hW (h.2.2.2.2.2 z hz)⟩
theorem exZ.kept {A : Nat → Prop} {U : State} {H H1 : Heap} (h : exZ A U H) (hq : ∀ a : Nat, a < H.size → ¬ A a → H1[a]? = H[a]?) : exZ A U H1 := ⟨h.1.kept hq, h.2.1.kept hq, h.2.2.1, h.2.2.2⟩
theorem exZ.narrow {A B : Nat → Prop} {U : State} {H : Heap} (h : exZ A U H) (hAB : ∀ q, B q → A q) : exZ B U H := ⟨h.1.narrow hAB, h.2.1.narrow hAB, h.2.2.1, h.2.2.2⟩
/-- what stays through a method's walk -/
def Cx (p : Program) (R : Room) (s : State) (m : MethodId) (args : Array Value) (meth : Method) (c : Code) (D : va_G) (kt : Nat → ClassId) (b : Nat) (sc : List Int) (A : Nat → Prop) (q : mE) (d : Nat) : Prop :=
  p.tables.exec = Jvm.exec ∧ c.code = q.2.1 ∧ c.maxLocals = q.2.2.1 ∧ s.vm.findClass (cnm q.2.2.2.2) = some m.cls ∧ (∀ w ∈ WSg, w.before args s = true) ∧ (∀ w ∈ xW, va_Nw w s) ∧ va_K D vwCl (tys kt) s ∧
  va_X b sc.length (fun j => Int32.ofInt (sc.getD j 0)) s s.heap ∧ b < s.heap.size ∧ ¬ A b ∧ (∀ z, s.heap.size ≤ z → A z) ∧ (q.1.name = "<init>" → meth.name = "<init>") ∧ d ≤ R.frames ∧ 64 * d ≤ R.locals ∧ exZ A s s.heap
theorem wso_get {kt : Nat → ClassId} {as : List Nat} {b n : Nat} {h : List iO} {x : iO} (hl : as.length = h.length) (hx : h[n]? = some x) : (wso kt as b h)[n]? = some (as.getD n 0, cO kt as b x) := by
  have hn := (List.getElem?_eq_some_iff.mp hx).1
  unfold wso
  rw [List.getElem?_zipWith, hx]
  rw [List.getElem?_eq_getElem (by omega), List.getD_eq_getElem?_getD, List.getElem?_eq_getElem (by omega)]
  rfl
theorem wso_set {kt : Nat → ClassId} {as : List Nat} {b n : Nat} {h : List iO} {x : iO} (hl : as.length = h.length) (hn : n < h.length) : (wso kt as b h).set n (as.getD n 0, cO kt as b x) = wso kt as b (h.set n x) := by
  apply List.ext_getElem?
  intro i
  unfold wso
  rw [List.getElem?_set, List.getElem?_zipWith, List.getElem?_zipWith, List.getElem?_set]
  by_cases hi : n = i
  · subst hi
    rw [if_pos rfl, if_pos rfl]
    rw [if_pos (by rw [List.length_zipWith]; omega), if_pos hn]
    rw [List.getD_eq_getElem?_getD, List.getElem?_eq_getElem (show n < as.length by omega)]
    rfl
  · rw [if_neg hi, if_neg hi]
theorem wso_len {kt : Nat → ClassId} {as : List Nat} {b : Nat} {h : List iO} (hl : as.length = h.length) : (wso kt as b h).length = h.length := by
  unfold wso; rw [List.length_zipWith]; omega
theorem tr_app {as bs : List Nat} {b : Nat} {v : iV} (hv : vV as.length v = true) : tr (as ++ bs) b v = tr as b v := by
  match v, hv with
  | .inl z, _ => rfl
  | .inr (.inl z), _ => rfl
  | .inr (.inr 0), _ => rfl
  | .inr (.inr 1), _ => rfl
  | .inr (.inr (n + 2)), hv =>
    have hn : n < as.length := by simpa [vV] using hv
    show Value.ref ((as ++ bs).getD n 0) = Value.ref (as.getD n 0)
    rw [List.getD_eq_getElem?_getD, List.getD_eq_getElem?_getD, List.getElem?_append_left hn]
theorem trR_app {as bs : List Nat} {b r : Nat} (hv : r < as.length + 2) : trR (as ++ bs) b r = trR as b r := by
  match r, hv with
  | 0, _ => rfl
  | 1, _ => rfl
  | n + 2, hv =>
    show some ((as ++ bs).getD n 0) = some (as.getD n 0)
    rw [List.getD_eq_getElem?_getD, List.getD_eq_getElem?_getD, List.getElem?_append_left (by omega)]
theorem map_app {as bs : List Nat} {b : Nat} {st : List iV} (hv : st.all (vV as.length) = true) : st.map (tr (as ++ bs) b) = st.map (tr as b) := by
  apply List.map_congr_left
  intro v hm
  exact tr_app (List.all_eq_true.mp hv v hm)
theorem cO_app {kt : Nat → ClassId} {as bs : List Nat} {b : Nat} {x : iO} (hv : vO as.length x = true) : cO kt (as ++ bs) b x = cO kt as b x := by
  match x, hv with
  | .inl (ci, fs), hv =>
    show Sum.inr (ci, fs.map _) = Sum.inr (ci, fs.map _)
    rw [map_app hv]
  | .inr (.inl (t, xs)), _ => rfl
  | .inr (.inr (t, rs)), hv =>
    show Sum.inl (kt t, rs.length, _) = Sum.inl (kt t, rs.length, _)
    have e : (fun j => trR (as ++ bs) b (rs.getD j 0)) = (fun j => trR as b (rs.getD j 0)) := by
      funext j
      apply trR_app
      rw [List.getD_eq_getElem?_getD]
      cases hj : rs[j]? with
      | none => exact Nat.succ_pos _
      | some r =>
        have := List.all_eq_true.mp hv r (List.mem_of_getElem? hj)
        simpa using this
    rw [e]
theorem wso_push {kt : Nat → ClassId} {as : List Nat} {b q : Nat} {h : List iO} {x : iO} (hl : as.length = h.length) (hv : h.all (vO as.length) = true) : wso kt as b h ++ [(q, cO kt (as ++ [q]) b x)] = wso kt (as ++ [q]) b (h ++ [x]) := by
  unfold wso
  rw [List.zipWith_append hl]
  congr 1
  apply List.ext_getElem?
  intro i
  rw [List.getElem?_zipWith, List.getElem?_zipWith]
  cases hi : h[i]? with
  | none => simp
  | some y =>
    have e := cO_app (kt := kt) (bs := [q]) (b := b) (List.all_eq_true.mp hv y (List.mem_of_getElem? hi))
    cases as[i]? with
    | none => rfl
    | some a => show some (a, _) = some (a, _); rw [e]
theorem LH_app {as bs : List Nat} {b : Nat} {ls : Array Slot} {L : List (Option iV)} (hv : vL as.length L = true) (h : LH as b ls L) : LH (as ++ bs) b ls L := by
  unfold LH at h ⊢
  have e : lst (as ++ bs) b L = lst as b L := by
    unfold lst
    congr 1
    funext i
    cases hv' : ld L i with
    | none => rfl
    | some v =>
      have := List.all_eq_true.mp hv (some v) (List.mem_of_getElem? (ld_some hv'))
      rw [Option.map_some, Option.map_some, tr_app this]
  rw [e]
  exact h
theorem inA_iff {i : Int} {n : Nat} (h : inA i n = true) : inI i = true ∧ 0 ≤ i ∧ i < n := by
  unfold inA at h
  simp only [Bool.and_eq_true, decide_eq_true_eq] at h
  exact ⟨h.1.1, h.1.2, h.2⟩
theorem inA_vp {i : Int} {n : Nat} (h : inA i n = true) : vp_in (Int32.ofInt i) n ∧ (Int32.ofInt i).toNatClampNeg = i.toNat ∧ i.toNat < n := by
  obtain ⟨h1, h2, h3⟩ := inA_iff h
  exact ⟨o_in h2 h1 h3, o_clamp h2 h1, by omega⟩
theorem lkF_mem {o idx ci k : Nat} (h : lkF o idx ci = some k) : okF (o, idx, ci, k) := by
  unfold lkF at h
  split at h
  · rename_i e he
    cases h
    have h1 := List.find?_some he
    simp only [Bool.and_eq_true, beq_iff_eq] at h1
    obtain ⟨⟨h2, h3⟩, h4⟩ := h1
    obtain ⟨e1, e2, e3, e4⟩ := e
    subst h2; subst h3; subst h4
    exact ok_fTab_all _ (List.mem_of_find?_eq_some he)
  · cases h
theorem lk2_mem {l : List (Nat × Nat × Nat)} {o idx t : Nat} (h : lk2 l o idx = some t) : (o, idx, t) ∈ l := by
  unfold lk2 at h
  split at h
  · rename_i e he
    cases h
    have h1 := List.find?_some he
    simp only [Bool.and_eq_true, beq_iff_eq] at h1
    obtain ⟨h2, h3⟩ := h1
    obtain ⟨e1, e2, e3⟩ := e
    subst h2; subst h3
    exact List.mem_of_find?_eq_some he
  · cases h
theorem lkZ_mem {l : List (Nat × Nat × Int)} {o idx : Nat} {t : Int} (h : lkZ l o idx = some t) : (o, idx, t) ∈ l := by
  unfold lkZ at h
  split at h
  · rename_i e he
    cases h
    have h1 := List.find?_some he
    simp only [Bool.and_eq_true, beq_iff_eq] at h1
    obtain ⟨h2, h3⟩ := h1
    obtain ⟨e1, e2, e3⟩ := e
    subst h2; subst h3
    exact List.mem_of_find?_eq_some he
  · cases h
theorem lkC_mem {o idx ci y n kd : Nat} (h : lkC o idx ci = some (y, n, kd)) : okC (o, idx, ci, y, n, kd) := by
  unfold lkC at h
  split at h
  · rename_i e he
    have h1 := List.find?_some he
    simp only [Bool.and_eq_true, beq_iff_eq] at h1
    obtain ⟨⟨h2, h3⟩, h4⟩ := h1
    obtain ⟨e1, e2, e3, e4⟩ := e
    cases h
    subst h2; subst h3; subst h4
    exact ok_cTab_all _ (List.mem_of_find?_eq_some he)
  · cases h
theorem isIn_mem {l : List (Nat × Nat)} {o idx : Nat} (h : isIn l o idx = true) : (o, idx) ∈ l := by
  unfold isIn at h
  rw [List.any_eq_true] at h
  obtain ⟨e, he, h1⟩ := h
  simp only [Bool.and_eq_true, beq_iff_eq] at h1
  obtain ⟨e1, e2⟩ := e
  obtain ⟨h2, h3⟩ := h1
  subst h2; subst h3
  exact he
