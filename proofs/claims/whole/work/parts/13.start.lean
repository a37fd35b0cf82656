/-! ===== the law's start, out of the interpreter ===== -/
def R_law : String := "EngagedByDeputyLaw"
def lw_At (p : Program) (s : State) (m : MethodId) (meth : Method) (c : Code) (b L : Nat) (xs : Nat → Int32) : Prop :=
  p.tables.exec = Jvm.exec ∧ c.code = code ∧ meth.sig.returnType = ret ∧ c.maxLocals = 8 ∧ s.vm.findClass R_law = some m.cls ∧ (∀ w ∈ lw_tbl, w.before #[Value.ref b] s = true) ∧ va_X b L xs s s.heap ∧ b < s.heap.size ∧ meth.locks = false ∧ (Jvm.Cond.and given_1 narrow_1).before #[Value.ref b] s = true
def lw_Q (_ : Array Value) (s : State) (o : Outcome) (t : State) : Prop := o = .returned (some (.int 1)) ∧ Framed s o t [] 601024 7293034
def lw_Z (below : List Frame) (a : Array Value) (s : State) : State → Prop := fun t => ∃ o, t.status = .running ∧ Ended t below o ∧ lw_Q a s o t
theorem lw_ret {p : Program} {l : Launch} {e : Env} {s : State} {m : MethodId} {below : List Frame} {meth : Method} {c : Code} {b : Nat} (hx : p.tables.exec = Jvm.exec) (hb : c.code = code) (hr : meth.sig.returnType = ret) (hlocks : meth.locks = false) {pc : Nat} {H : Heap} {ls : Array Slot} (hdg : decode code pc = .ok (.ireturn, 1)) : W p l e room_1 s m #[Value.ref b] below meth c H [] 601024 7293034 (lw_Z below #[Value.ref b] s) (F0 m pc ls [.int 1]) := by
  intro T hT X
  obtain ⟨fs, hret, hrun, hended, hW, hframe⟩ := X.leave (v := some (.int 1)) (hlocks := hlocks) (fun h => by rw [hr] at h; cases h)
  have hmeth' : T.vm.method? m = some meth := X.method'
  refine ⟨T.setFrames fs, ?_, .returned (some (.int 1)), hrun, hended, rfl, ⟨_, rfl⟩, hW, hframe⟩
  jvm_step X.here [X.here.top, hx, hb, hdg, hmeth', hr, ret, narrow_b1]
  (try refine ⟨rfl, ?_⟩); (try refine ⟨rfl, ?_⟩)
  first | (intro acts; rw [hret _ acts rfl rfl rfl]) | rw [hret _ _ rfl rfl rfl]
  exact Steps.refl _
/-- the script's numbers -/
def scr (L : Nat) (xs : Nat → Int32) : List Int := (List.range L).map fun j => (xs j).toInt
theorem scr_len (L : Nat) (xs : Nat → Int32) : (scr L xs).length = L := by simp [scr]
theorem scr_get {L : Nat} {xs : Nat → Int32} {j : Nat} (hj : j < L) : (scr L xs).getD j 0 = (xs j).toInt := by
  unfold scr
  rw [List.getD_eq_getElem?_getD, List.getElem?_map, List.getElem?_range hj]
  rfl
theorem scr_in {L : Nat} {xs : Nat → Int32} {z : Int} (hz : z ∈ scr L xs) : inI z = true := by
  unfold scr at hz
  obtain ⟨j, -, rfl⟩ := List.mem_map.mp hz
  rw [inI_iff]
  have h1 := Int32.le_toInt (xs j)
  have h2 := Int32.toInt_lt (xs j)
  constructor
  · have : (-2 : Int) ^ 31 = -2147483648 := by decide
    omega
  · have : (2 : Int) ^ 31 = 2147483648 := by decide
    omega
theorem xW_tbl : ∀ w ∈ xW, w ∈ lw_tbl := by decide +kernel
theorem WSg_tbl {w : Cond} (h : w ∈ WSg) : w ∈ lw_tbl := (List.mem_filter.mp h).1
theorem exZ_start {s : State} {b : Addr} (hts : ∀ w ∈ lw_tbl, w.before #[Value.ref b] s = true) (hgv : (Jvm.Cond.and given_1 narrow_1).before #[Value.ref b] s = true) : exZ (fun z => s.heap.size ≤ z) s s.heap := by
  have hs := flat_of_before _ hgv
  have hA : ∀ a : Nat, a < s.heap.size → ¬ (fun z => s.heap.size ≤ z) a := fun a h => Nat.not_le.mpr h
  have tx : ∀ {own : String} {k : Nat} {t : String}, (Cond.stringRef own k t).before #[Value.ref b] s = true → (Cond.exactly (.string own k) "java/lang/String").before #[Value.ref b] s = true → ∃ a, vk_R own k t a s := fun h1 h2 => by
    obtain ⟨a, c, cA, kA, q1, -⟩ := Cond.exactly_spec (args := #[Value.ref b]) (first := s) (o := none) (s := s) (idx := []) h2
    exact ⟨a, vk_R.of h1 q1⟩
  refine ⟨vx_Zqof (hts _ (by decide +kernel)) (hts _ (by decide +kernel)) (hs _ (by decide +kernel)) hA, vx_Zqof (hts _ (by decide +kernel)) (hts _ (by decide +kernel)) (hs _ (by decide +kernel)) hA, ?_, ?_, ?_, ?_⟩
  · exact List.forall_mem_cons.mpr ⟨tx (hts _ (by decide +kernel)) (hs _ (by decide +kernel)), List.forall_mem_cons.mpr ⟨tx (hts _ (by decide +kernel)) (hs _ (by decide +kernel)), List.forall_mem_cons.mpr ⟨tx (hts _ (by decide +kernel)) (hs _ (by decide +kernel)), List.forall_mem_cons.mpr ⟨tx (hts _ (by decide +kernel)) (hs _ (by decide +kernel)), List.forall_mem_cons.mpr ⟨tx (hts _ (by decide +kernel)) (hs _ (by decide +kernel)), fun _ h => nomatch h⟩⟩⟩⟩⟩
  · exact List.forall_mem_cons.mpr ⟨va_Nc.of (hs _ (by decide +kernel)), List.forall_mem_cons.mpr ⟨va_Nc.of (hs _ (by decide +kernel)), List.forall_mem_cons.mpr ⟨va_Nc.of (hs _ (by decide +kernel)), fun _ h => nomatch h⟩⟩⟩
  · exact List.forall_mem_cons.mpr ⟨va_Nw.of rfl (hts _ (by decide +kernel)), List.forall_mem_cons.mpr ⟨va_Nw.of rfl (hts _ (by decide +kernel)), List.forall_mem_cons.mpr ⟨va_Nw.of rfl (hts _ (by decide +kernel)), fun _ h => nomatch h⟩⟩⟩
  · exact List.forall_mem_cons.mpr ⟨va_Nw.of rfl (hts _ (by decide +kernel)), List.forall_mem_cons.mpr ⟨va_Nw.of rfl (hts _ (by decide +kernel)), List.forall_mem_cons.mpr ⟨va_Nw.of rfl (hts _ (by decide +kernel)), fun _ h => nomatch h⟩⟩⟩
theorem whole_start_of {p : Program} {e : Env} {s : State} {m : MethodId} {below : List Frame} {meth : Method} {c : Code} (l : Launch) {b L : Nat} {xs : Nat → Int32} (C0 : lw_At p s m meth c b L xs)
    {sp : Nat → List iV → iH → Option (Option iV × iH)} (hsp : SpOK l (scr L xs) sp) {n : Nat} {h' : iH} (hex : ex sp (scr L xs) n 20 mL_law (0, ent 8 [.inr (.inr 1)], []) ([], 0) = some (some (.inl 1), h')) (hroom : h'.2 ≤ 7000) :
    W p l e room_1 s m #[Value.ref b] below meth c s.heap [] 0 0 (lw_Z below #[Value.ref b] s) (entryFrame m ([Value.ref b] : List Value).toArray 8) := by
  obtain ⟨hx, hb, hr, hml, hown, hts, hX, hbl, hlocks, hgv⟩ := C0
  have hEX := exZ_start hts hgv
  have hcl : ∀ ci : Nat, ∃ (cC : ClassId) (iS : Nat → Nat), ∀ r, vwCl[ci]? = some r → u_Kn s r.1 r.2.1 r.2.2 cC iS := fun ci => by
    cases hr : vwCl[ci]? with
    | none => exact ⟨0, fun _ => 0, fun r h => by cases h⟩
    | some r =>
      have ocl := okCl_all hr
      obtain ⟨cC, iS, h⟩ := u_known (C := r.1) (T := r.2.1) (N := r.2.2) hts (fun w hw => WSg_tbl (ocl.2.2.1 w hw)) (hts _ (WSg_tbl ocl.2.2.2.1))
      exact ⟨cC, iS, fun r' h' => by cases h'; exact h⟩
  have hka : ∀ t : Nat, ∃ cA : ClassId, t < 6 → ArrOfT s cA (ak t) ∧ va_RA s cA (ak t) := fun t => by
    have prim : ∀ ty : FieldType, (∀ C, ty ≠ .object C) → Cond.arrayClass ty ∈ WSg → ∃ cA : ClassId, ArrOfT s cA ty ∧ va_RA s cA ty := fun ty hne hw => by
      obtain ⟨cA, k, comp, h1, h2, h3⟩ := Cond.arrayClass_spec (hts _ (WSg_tbl hw))
      refine ⟨cA, fun n z => ⟨fun k h => (by cases h), k, h2, comp, h3⟩, ?_⟩
      cases ty with
      | object C => exact absurd rfl (hne C)
      | _ => exact h1
    have obj : ∀ C : String, Cond.arrayOver (.object C) ∈ xW → ∃ cA : ClassId, ArrOfT s cA (.object C) ∧ va_RA s cA (.object C) := fun C hw => by
      obtain ⟨comp, cA, k, h1, h2, h3, h4, h5⟩ := Cond.arrayOver_spec (hts _ (xW_tbl _ hw))
      exact ⟨cA, fun n z => ⟨fun k h => (by cases h), k, h3, comp, h4⟩, k, comp, h3, h4, h1, h5⟩
    match t with
    | 0 => obtain ⟨cA, h⟩ := prim .int (fun _ h => by cases h) wd_ar0; exact ⟨cA, fun _ => h⟩
    | 1 => obtain ⟨cA, h⟩ := prim .long (fun _ h => by cases h) wd_ar1; exact ⟨cA, fun _ => h⟩
    | 2 => obtain ⟨cA, h⟩ := prim .boolean (fun _ h => by cases h) wd_ar2; exact ⟨cA, fun _ => h⟩
    | 3 => obtain ⟨cA, h⟩ := obj "EngagedByDeputy$Steady" (by decide +kernel); exact ⟨cA, fun _ => h⟩
    | 4 => obtain ⟨cA, h⟩ := obj "EngagedByDeputy$Shelf" (by decide +kernel); exact ⟨cA, fun _ => h⟩
    | 5 => obtain ⟨cA, h⟩ := obj "EngagedByDeputy$Figure" (by decide +kernel); exact ⟨cA, fun _ => h⟩
    | t + 6 => exact ⟨0, fun h => absurd h (by omega)⟩
  let D : va_G := (fun ci => Classical.choose (hcl ci), fun ci => Classical.choose (Classical.choose_spec (hcl ci)))
  let kt : Nat → ClassId := fun t => Classical.choose (hka t)
  have hK : va_K D vwCl (tys kt) s := by
    refine ⟨fun ci r hr => Classical.choose_spec (Classical.choose_spec (hcl ci)) r hr, fun t q hq => ?_⟩
    have h6 : t < 6 := (List.getElem?_eq_some_iff.mp hq).1
    have e1 := tys_get (kt := kt) h6
    cases e1.symm.trans hq
    exact Classical.choose_spec (hka t) h6
  have hxw : ∀ w ∈ xW, va_Nw w s := fun w hw => by
    have h1 := hts _ (xW_tbl _ hw)
    have hall : ∀ w ∈ xW, (match w with | .methodLinkNest .. => true | .arrayOver (.object _) => true | .castable .. => true | .declares _ => true | _ => false) = true := by decide +kernel
    have h2 := hall w hw
    split at h2
    · exact va_Nw.of rfl h1
    · exact va_AO.of h1
    · exact va_Nw.of rfl h1
    · exact va_Nw.of rfl h1
    · cases h2
  have hq : mtab[mL_law]? = some (⟨RL, "law", "([I)Z"⟩, code, 8, some .boolean, 13) := rfl
  have C : Cx p room_1 s m #[Value.ref b] meth c D kt b (scr L xs) (fun z => s.heap.size ≤ z) (⟨RL, "law", "([I)Z"⟩, code, 8, some .boolean, 13) 20 := by
    refine ⟨hx, hb, hml, hown, fun w hw => hts _ (WSg_tbl hw), hxw, hK, ?_, hbl, fun h => by omega, fun z hz => hz, fun h => absurd h (by decide), Nat.le_of_ble_eq_true rfl, Nat.le_of_ble_eq_true rfl, hEX⟩
    obtain ⟨scrC, g1, g2, g3, g4, g5⟩ := hX
    refine ⟨scrC, g1, g2, g3, by rw [scr_len]; exact g4, fun j hj => ?_⟩
    rw [scr_len] at hj
    show scrC.slots[j]? = some (.int (Int32.ofInt ((scr L xs).getD j 0)))
    rw [scr_get hj, Int32.ofInt_toInt]
    exact g5 j hj
  have hmono := ex_mono sp _ _ _ _ _ _ _ _ hex
  have hent : (ent 8 [.inr (.inr 1)]).length = 8 := rfl
  have wd : Wd D kt [] b (fun z => s.heap.size ≤ z) s.heap [] s.heap [] := ⟨rfl, fun k q hk => (by cases hk), ⟨fun i j p q hi => (by cases hi), fun k q hk => (by cases hk)⟩, va_S.rf⟩
  rw [lg_entry_eq]
  refine walk hsp _ _ _ _ _ _ _ hex hq C wd (LH_ent (as := []) (b := b) (av := [.inr (.inr 1)]) hent) hent (by show 0 + (h'.2 - 0) ≤ 601024; omega) (by show 0 + 1000 * (h'.2 - 0) ≤ 7293034; omega) ?_
  intro as' H' locs' cells' slots' pc' ls' i' st' hpre wd' hc' hs' hdg hrt
  have hc2 : cells' ≤ 7000 := by have : h'.2 - (([], 0) : iH).2 = h'.2 := Nat.sub_zero _; omega
  have hs2 : slots' ≤ 7000000 := by have : h'.2 - (([], 0) : iH).2 = h'.2 := Nat.sub_zero _; omega
  unfold rtn at hrt
  split at hrt
  · rename_i h1; cases h1
  · split at hrt
    · cases hrt
      refine va_forget (fun q hq => wd'.2.2.2.2.2 q hq) ?_
      refine W.widen (k := 601024) (n := 7293034) (by omega) (by omega) ?_
      exact lw_ret hx hb hr hlocks hdg
    · cases hrt
  · rename_i h1; cases h1
  · rename_i h1; cases h1
  · rename_i h1; cases h1
  · cases hrt
