/-! ===== the instructions that make cells, and the machine's own methods ===== -/
theorem cs_tr {as : List Nat} {b : Nat} (st : List iV) : ((st.map (tr as b)).map fun v => v.category).sum = cs st := by
  unfold cs
  rw [List.map_map]
  congr 1
  apply List.map_congr_left
  intro v _
  match v with
  | .inl z => rfl
  | .inr (.inl z) => rfl
  | .inr (.inr 0) => rfl
  | .inr (.inr 1) => rfl
  | .inr (.inr (n + 2)) => rfl
theorem cpy_len {α : Type} {xs ys : List α} {sp dp n : Nat} (h1 : sp + n ≤ xs.length) (h2 : dp + n ≤ ys.length) : (cpy xs ys sp dp n).length = ys.length := by
  unfold cpy
  simp only [List.length_append, List.length_take, List.length_drop]
  omega
theorem cpy_getD {α : Type} {xs ys : List α} {sp dp n : Nat} {z : α} (h1 : sp + n ≤ xs.length) (h2 : dp + n ≤ ys.length) (k : Nat) : (cpy xs ys sp dp n).getD k z = if dp ≤ k ∧ k < dp + n then xs.getD (sp + (k - dp)) z else ys.getD k z := by
  unfold cpy
  have e1 : (ys.take dp).length = dp := by rw [List.length_take]; omega
  have e2 : ((xs.drop sp).take n).length = n := by rw [List.length_take, List.length_drop]; omega
  simp only [List.getD_eq_getElem?_getD]
  by_cases hk : k < dp
  · rw [List.getElem?_append_left (by omega), if_neg (by omega), List.getElem?_take_of_lt hk]
  · rw [List.getElem?_append_right (by omega), e1]
    by_cases hk2 : k < dp + n
    · rw [List.getElem?_append_left (by omega), if_pos (by omega), List.getElem?_take_of_lt (by omega), List.getElem?_drop]
    · rw [List.getElem?_append_right (by omega), e2, if_neg (by omega), List.getElem?_drop, show dp + n + (k - dp - n) = k by omega]
theorem va_RA_uni {s : State} {c1 c2 : ClassId} {ty : FieldType} (h1 : va_RA s c1 ty) (h2 : va_RA s c2 ty) : c1 = c2 := by
  cases ty with
  | object C =>
    obtain ⟨_, _, -, -, -, g1⟩ := h1
    obtain ⟨_, _, -, -, -, g2⟩ := h2
    exact Option.some.inj (g1.symm.trans g2)
  | _ => exact Option.some.inj (Eq.trans (Eq.symm (show s.vm.findClass _ = some c1 from h1)) (show s.vm.findClass _ = some c2 from h2))
section MK
variable {p : Program} {l : Launch} {e : Env} {R : Room} {s : State} {m : MethodId} {args : Array Value} {below : List Frame} {meth : Method} {c : Code} {H : Heap} {locs : List Loc} {cells slots : Nat} {Q : State → Prop}
variable {pc pc' : Nat} {ls : Array Slot} {i : Instr} {as : List Nat} {b : Nat} {L L' : List (Option iV)} {st st' : List iV} {D : va_G} {kt : Nat → ClassId} {sc : List Int} {A : Nat → Prop} {q : mE} {d : Nat} {h h' : List iO}
theorem kt_of (hK : va_K D vwCl (tys kt) s) {cA : ClassId} {ty : FieldType} {t : Nat} (h6 : t < 6) (ht : ak t = ty) (hK' : va_K D vwCl (tys kt ++ [(cA, ty)]) s) : cA = kt t := by
  have h1 := (hK'.2 6 (cA, ty) rfl).2
  have h2 := (hK.2 t (kt t, ak t) (tys_get h6)).2
  rw [ht] at h2
  exact va_RA_uni h1 h2
theorem lnN_ok (C : Cx p R s m args meth c D kt b sc A q d) (wd : Wd D kt as b A s.heap h H locs) (hdg : decode q.2.1 pc = .ok (i, lnI i)) {x : iO} (hk : stN q.2.2.2.2 i pc st = some (pc', st', x))
    (hv : h.all (vO h.length) = true) (hst : st'.all (vV h.length) = true) (hcells : cells + 1 ≤ R.cells) (hslots : slots + 1000 ≤ R.slots)
    (k : ∀ (z : Nat) (H' : Heap) (locs' : List Loc) (slots' : Nat), Wd D kt (as ++ [z]) b A s.heap (h ++ [x]) H' locs' → slots' ≤ slots + 1000 → W p l e R s m args below meth c H' locs' (cells + 1) slots' Q (F0 m pc' ls (((.inr (.inr (h.length + 2)) : iV) :: st').map (tr (as ++ [z]) b)))) : W p l e R s m args below meth c H locs cells slots Q (F0 m pc ls (st.map (tr as b))) := by
  obtain ⟨hexec, hb, hml, hown, hts, hxw, hK, hX, hbl, hbA, hA, hnm, -⟩ := C
  obtain ⟨hl, hP, hD, hS⟩ := wd
  have done : ∀ {x : iO} {z : Nat} {H' : Heap} {locs' : List Loc}, va_P D vwCl (wso kt as b h ++ [(z, cO kt (as ++ [z]) b x)]) H' → va_D A (wso kt as b h ++ [(z, cO kt (as ++ [z]) b x)]) → va_S A s.heap H' locs' → Wd D kt (as ++ [z]) b A s.heap (h ++ [x]) H' locs' := fun {x z H' locs'} h1 h2 h3 => by
    rw [wso_push hl (by rw [hl]; exact hv)] at h1 h2
    exact ⟨by simp [hl], h1, h2, h3⟩
  have stk : ∀ {z : Nat} {r : List iV}, r.all (vV h.length) = true → ((.inr (.inr (h.length + 2)) : iV) :: r).map (tr (as ++ [z]) b) = .ref z :: r.map (tr as b) := fun {z r} hr => by
    rw [List.map_cons, map_app (by rw [hl]; exact hr)]
    congr 1
    show Value.ref ((as ++ [z]).getD h.length 0) = _
    rw [List.getD_eq_getElem?_getD, List.getElem?_append_right (by omega), hl, Nat.sub_self]; rfl
  unfold stN at hk
  split at hk
  · split at hk
    · rename_i ci hci
      cases hk
      obtain ⟨⟨Cn, T, N⟩, hc, hlk⟩ := ok_nTab_all _ (lk2_mem hci)
      have ocl := okCl_all hc
      refine va_new (Ts := WSg) (T := T) (N := N) hexec hb hts ocl.2.2.1 (tyT ci) ocl.1 hown (hts _ hlk) (hts _ ocl.2.2.2.1) (hts _ ocl.2.2.2.2.1) hK hP hD hS hA hc (fs := (dfT ci).map (tr as b)) (fun j hj => ocl.2.2.2.2.2.2.2.1 as b j hj) hcells (by have h9 : N ≤ 1000 := ocl.2.2.2.2.2.1; omega) hdg fun z H1 h1 h2 h3 => ?_
      have hdf : ∀ v ∈ dfT ci, vV as.length v = true := by
        have : ∀ j : Nat, j < 13 → (dfT j).all (fun v => match v with | .inr (.inr r) => r == 0 | _ => true) = true := by decide
        have hci13 : ci < 13 := (List.getElem?_eq_some_iff.mp hc).1
        intro v hv
        have h5 := List.all_eq_true.mp (this ci hci13) v hv
        match v, h5 with
        | .inl z, _ => rfl
        | .inr (.inl z), _ => rfl
        | .inr (.inr 0), _ => simp [vV]
      have e : (dfT ci).map (tr as b) = (dfT ci).map (tr (as ++ [z]) b) := (map_app (List.all_eq_true.mpr hdf)).symm
      rw [e] at h1 h2
      have k2 := k z H1 locs (slots + N) (done h1 h2 h3) (by have h9 : N ≤ 1000 := ocl.2.2.2.2.2.1; omega)
      rw [stk hst] at k2
      exact k2
    · cases hk
  · split at hk
    · rename_i ty n r
      split at hk
      · rename_i hn
        have hnI : inI n = true := by rw [inI_iff]; omega
        have hneg : ¬ Int32.ofInt n < 0 := by rw [o_0, o_lt hnI i0]; omega
        have hcl := o_clamp hn.1 hnI
        split at hk
        · cases hk
          refine va_newa (ty := .int) (atype := .int) (a0 := (n.toNat, .inl (fun j => Int32.ofInt ((List.replicate n.toNat (0 : Int)).getD j 0)))) hexec hb (hts _ wd_ar0) rfl hK hP hD hS hA (fun cA => ?_) hneg hcl (by show n.toNat * 4 ≤ _; omega) hcells (by omega) hdg fun z cA H1 hK' h1 h2 h3 => ?_
          · rw [vp_cell_i]
            congr 1
            funext j
            rw [List.getD_eq_getElem?_getD]
            cases hj : (List.replicate n.toNat (0 : Int))[j]? with
            | none => rfl
            | some v => rw [List.eq_of_mem_replicate (List.mem_of_getElem? hj)]; rfl
          · have ek := kt_of hK (t := 0) (by decide) rfl hK'
            subst ek
            have k2 := k z H1 locs (slots + n.toNat) (done (x := .inr (.inl (0, List.replicate n.toNat 0))) (by simpa only [cO, List.length_replicate, Nat.zero_ne_one, if_false] using h1) (by simpa only [cO, List.length_replicate, Nat.zero_ne_one, if_false] using h2) h3) (by omega)
            rw [stk hst] at k2
            exact k2
        · cases hk
          refine va_newa (ty := .long) (atype := .long) (a0 := (n.toNat, .inr (.inl (fun j => Int64.ofInt ((List.replicate n.toNat (0 : Int)).getD j 0))))) hexec hb (hts _ wd_ar1) rfl hK hP hD hS hA (fun cA => ?_) hneg hcl (by show n.toNat * 8 ≤ _; omega) hcells (by omega) hdg fun z cA H1 hK' h1 h2 h3 => ?_
          · rw [vp_cell_l]
            congr 1
            funext j
            rw [List.getD_eq_getElem?_getD]
            cases hj : (List.replicate n.toNat (0 : Int))[j]? with
            | none => rfl
            | some v => rw [List.eq_of_mem_replicate (List.mem_of_getElem? hj)]; rfl
          · have ek := kt_of hK (t := 1) (by decide) rfl hK'
            subst ek
            have k2 := k z H1 locs (slots + n.toNat) (done (x := .inr (.inl (1, List.replicate n.toNat 0))) (by simpa only [cO, List.length_replicate, if_true] using h1) (by simpa only [cO, List.length_replicate, if_true] using h2) h3) (by omega)
            rw [stk hst] at k2
            exact k2
        · cases hk
          refine va_newa (ty := .boolean) (atype := .boolean) (a0 := (n.toNat, .inl (fun j => Int32.ofInt ((List.replicate n.toNat (0 : Int)).getD j 0)))) hexec hb (hts _ wd_ar2) rfl hK hP hD hS hA (fun cA => ?_) hneg hcl (by show n.toNat * 1 ≤ _; omega) hcells (by omega) hdg fun z cA H1 hK' h1 h2 h3 => ?_
          · rw [vp_cell_i]
            congr 1
            funext j
            rw [List.getD_eq_getElem?_getD]
            cases hj : (List.replicate n.toNat (0 : Int))[j]? with
            | none => rfl
            | some v => rw [List.eq_of_mem_replicate (List.mem_of_getElem? hj)]; rfl
          · have ek := kt_of hK (t := 2) (by decide) rfl hK'
            subst ek
            have k2 := k z H1 locs (slots + n.toNat) (done (x := .inr (.inl (2, List.replicate n.toNat 0))) (by simpa only [cO, List.length_replicate, show ¬ (2 = 1) by decide, if_false] using h1) (by simpa only [cO, List.length_replicate, show ¬ (2 = 1) by decide, if_false] using h2) h3) (by omega)
            rw [stk hst] at k2
            exact k2
        · cases hk
      · cases hk
    · cases hk
  · split at hk
    · rename_i idx n r
      split at hk
      · rename_i hn
        have hnI : inI n = true := by rw [inI_iff]; omega
        have hneg : ¬ Int32.ofInt n < 0 := by rw [o_0, o_lt hnI i0]; omega
        have hcl := o_clamp hn.1 hnI
        split at hk
        · rename_i t ht
          cases hk
          obtain ⟨Cn, hE, hlk, hov⟩ := ok_aTab_all _ (lk2_mem ht)
          have h6 : t < 6 := by
            have : ∀ e ∈ aTab, e.2.2 < 6 := by decide
            exact this _ (lk2_mem ht)
          refine va_newq (C := Cn) hexec hb hown (hts _ hlk) (va_AO.of (A := #[]) (hxw _ hov)) hK hP hD hS hA hneg hcl (by omega) hcells (by omega) hdg fun z cA H1 hK' h1 h2 h3 => ?_
          have ek := kt_of hK (t := t) h6 hE hK'
          subst ek
          have ef : (fun _ => none : Nat → Option Nat) = fun j => trR (as ++ [z]) b ((List.replicate n.toNat 0).getD j 0) := by
            funext j
            rw [List.getD_eq_getElem?_getD]
            cases hj : (List.replicate n.toNat 0)[j]? with
            | none => rfl
            | some v => rw [List.eq_of_mem_replicate (List.mem_of_getElem? hj)]; rfl
          rw [ef] at h1 h2
          have k2 := k z H1 locs (slots + n.toNat) (done (x := .inr (.inr (t, List.replicate n.toNat 0))) (by simpa only [cO, List.length_replicate] using h1) (by simpa only [cO, List.length_replicate] using h2) h3) (by omega)
          rw [stk hst] at k2
          exact k2
        · cases hk
      · cases hk
    · cases hk
  · cases hk
theorem lnM_ok (C : Cx p R s m args meth c D kt b sc A q d) (hd : 1 ≤ d) (hsz : ls.size = c.maxLocals) (hdg : decode q.2.1 pc = .ok (i, lnI i)) (hk : stM q.2.2.2.2 i pc st = some (pc', st')) (hcells : cells ≤ R.cells) (hslots : slots ≤ R.slots)
    (k : W p l e R s m args below meth c H locs cells slots Q (F0 m pc' ls (st'.map (tr as b)))) : W p l e R s m args below meth c H locs cells slots Q (F0 m pc ls (st.map (tr as b))) := by
  obtain ⟨hexec, hb, hml, hown, hts, hxw, hK, hX, hbl, hbA, hA, hnm, hfr, hlo⟩ := C
  unfold stM at hk
  split at hk
  · split at hk
    · rename_i idx t ht
      split at hk
      · rename_i y x r
        split at hk
        · rename_i hc
          cases hk
          simp only [Bool.and_eq_true, decide_eq_true_eq] at hc
          obtain ⟨⟨hx, hy⟩, hc8⟩ := hc
          have hw := ok_xTab_all _ (lk2_mem ht)
          unfold okX at hw
          by_cases h1 : t = 1
          · subst h1
            refine va_mmax hexec hb hsz.symm hown (hts _ hw) (hts _ wd_max1) (hts _ wd_math) (hts _ wd_max2) (by omega) (by rw [cs_tr]; omega) hcells hslots hdg ?_
            simp only [o_lt hx hy]
            simp only [if_true, List.map_cons, tr] at k
            split
            · rename_i q1; rw [if_pos q1] at k; exact k
            · rename_i q1; rw [if_neg q1] at k; exact k
          · simp only [if_neg h1] at hw k
            refine va_mmin hexec hb hsz.symm hown (hts _ hw) (hts _ wd_min1) (hts _ wd_math) (hts _ wd_min2) (by omega) (by rw [cs_tr]; omega) hcells hslots hdg ?_
            simp only [o_lt hy hx]
            simp only [List.map_cons, tr] at k
            split
            · rename_i q1; rw [if_pos q1] at k; exact k
            · rename_i q1; rw [if_neg q1] at k; exact k
        · cases hk
      · cases hk
    · cases hk
  · split at hk
    · rename_i idx ho
      split at hk
      · rename_i n r
        split at hk
        · rename_i hc8
          cases hk
          exact W.objInit hexec hb hown (hts _ (ok_oTab_all _ (isIn_mem ho))) (hts _ wd_obj1) (hts _ wd_obj2) rfl hsz rfl hdg (by omega) (by rw [cs_tr]; show 2 * 0 + _ + 12 ≤ _; omega) k
        · cases hk
      · cases hk
    · cases hk
  · cases hk
theorem in3_iff {sp dp n : Int} {a c : Nat} (h : in3 sp dp n a c = true) : inI sp = true ∧ inI dp = true ∧ inI n = true ∧ 0 ≤ sp ∧ 0 ≤ dp ∧ 0 ≤ n ∧ sp + n ≤ a ∧ dp + n ≤ c := by
  unfold in3 at h
  simp only [Bool.and_eq_true, decide_eq_true_eq] at h
  obtain ⟨⟨⟨⟨⟨⟨⟨h1, h2⟩, h3⟩, h4⟩, h5⟩, h6⟩, h7⟩, h8⟩ := h
  exact ⟨h1, h2, h3, h4, h5, h6, h7, h8⟩
theorem lnY_ok (C : Cx p R s m args meth c D kt b sc A q d) (wd : Wd D kt as b A s.heap h H locs) (hd : 1 ≤ d) (hsz : ls.size = c.maxLocals) (hdg : decode q.2.1 pc = .ok (i, lnI i)) {n : Nat} {x : iO} (hk : stY q.2.2.2.2 i pc st h = some (pc', st', n, x))
    (k : ∀ H' locs', Wd D kt as b A s.heap (h.set n x) H' locs' → W p l e R s m args below meth c H' locs' cells slots Q (F0 m pc' ls (st'.map (tr as b)))) : W p l e R s m args below meth c H locs cells slots Q (F0 m pc ls (st.map (tr as b))) := by
  obtain ⟨hexec, hb, hml, hown, hts, hxw, hK, hX, hbl, hbA, hA, hnm, hfr, hlo⟩ := C
  obtain ⟨hl, hP, hD, hS⟩ := wd
  have done : ∀ {n : Nat} {x y : iO} {H' : Heap} {locs' : List Loc}, h[n]? = some y → va_P D vwCl ((wso kt as b h).set n (as.getD n 0, cO kt as b x)) H' → va_D A ((wso kt as b h).set n (as.getD n 0, cO kt as b x)) → va_S A s.heap H' locs' → Wd D kt as b A s.heap (h.set n x) H' locs' := fun {n x y H' locs'} hx h1 h2 h3 => by
    have hn := (List.getElem?_eq_some_iff.mp hx).1
    rw [wso_set hl hn] at h1 h2
    exact ⟨by rw [List.length_set]; exact hl, h1, h2, h3⟩
  have hnf : nativeFrameWords "java/lang/System" "arraycopy" 5 + 11 ≤ 50 := by decide
  unfold stY at hk
  split at hk
  · rename_i idx
    split at hk
    · rename_i hy
      have hlk := ok_yTab_all _ (isIn_mem hy)
      unfold okY at hlk
      split at hk
      · rename_i nn dp cc sp aa r
        split at hk
        · rename_i hc8
          have hroom : ((r.map (tr as b)).map fun v => v.category).sum + (nativeFrameWords "java/lang/System" "arraycopy" 5 + 11) ≤ R.locals := by rw [cs_tr]; omega
          split at hk
          · rename_i t xs t' ys hx hy2
            split at hk
            · rename_i hcond
              cases hk
              simp only [Bool.and_eq_true, decide_eq_true_eq] at hcond
              obtain ⟨⟨h3, htt⟩, ht2⟩ := hcond
              subst htt
              obtain ⟨a1, a2, a3, b1, b2, b3, c1, c2⟩ := in3_iff h3
              have hg := wso_get (kt := kt) (b := b) hl hx
              have hg2 := wso_get (kt := kt) (b := b) hl hy2
              have n1 : ¬ Int32.ofInt sp < 0 := by rw [o_0, o_lt a1 i0]; omega
              have n2 : ¬ Int32.ofInt dp < 0 := by rw [o_0, o_lt a2 i0]; omega
              have n3 : ¬ Int32.ofInt nn < 0 := by rw [o_0, o_lt a3 i0]; omega
              have e1 := o_clamp b1 a1
              have e2 := o_clamp b2 a2
              have e3 := o_clamp b3 a3
              have l1 : sp.toNat + nn.toNat ≤ xs.length := by omega
              have l2 : dp.toNat + nn.toNat ≤ ys.length := by omega
              match t, ht2, hg, hg2 with
              | 0, _, hg, hg2 =>
                refine va_copyi (ty := .int) hexec hb hsz.symm hown (hts _ hlk) (hts _ wd_cp1) (hts _ wd_cp2) (hts _ wd_cp3) hK hP hD hS aa n 0 0 hg hg2 rfl rfl rfl n1 n2 n3 (by rw [e1, e3]; exact l1) (by rw [e2, e3]; exact l2) (fun _ _ => rfl) (by omega) hroom hdg fun H1 locs1 h1 h2 h3 => ?_
                have ef : va_cpy (fun j => Int32.ofInt (xs.getD j 0)) (fun j => Int32.ofInt (ys.getD j 0)) sp.toNat dp.toNat nn.toNat = fun j => Int32.ofInt ((cpy xs ys sp.toNat dp.toNat nn.toNat).getD j 0) := by
                  funext j; rw [cpy_getD l1 l2]; unfold va_cpy; split <;> rfl
                rw [e1, e2, e3, ef] at h1 h2
                refine k H1 locs1 (done hy2 ?_ ?_ h3)
                · simpa only [cO, cpy_len l1 l2, Nat.zero_ne_one, if_false] using h1
                · simpa only [cO, cpy_len l1 l2, Nat.zero_ne_one, if_false] using h2
              | 1, _, hg, hg2 =>
                refine va_copyl (ty := .long) hexec hb hsz.symm hown (hts _ hlk) (hts _ wd_cp1) (hts _ wd_cp2) (hts _ wd_cp3) hK hP hD hS aa n 1 1 hg hg2 rfl rfl rfl n1 n2 n3 (by rw [e1, e3]; exact l1) (by rw [e2, e3]; exact l2) (fun _ _ => rfl) (by omega) hroom hdg fun H1 locs1 h1 h2 h3 => ?_
                have ef : va_cpy (fun j => Int64.ofInt (xs.getD j 0)) (fun j => Int64.ofInt (ys.getD j 0)) sp.toNat dp.toNat nn.toNat = fun j => Int64.ofInt ((cpy xs ys sp.toNat dp.toNat nn.toNat).getD j 0) := by
                  funext j; rw [cpy_getD l1 l2]; unfold va_cpy; split <;> rfl
                rw [e1, e2, e3, ef] at h1 h2
                refine k H1 locs1 (done hy2 ?_ ?_ h3)
                · simpa only [cO, cpy_len l1 l2, if_true] using h1
                · simpa only [cO, cpy_len l1 l2, if_true] using h2
            · cases hk
          · rename_i t xs t' ys hx hy2
            split at hk
            · rename_i hcond
              cases hk
              simp only [Bool.and_eq_true, decide_eq_true_eq] at hcond
              obtain ⟨⟨⟨h3, htt⟩, ht2⟩, hel⟩ := hcond
              subst htt; subst ht2
              obtain ⟨a1, a2, a3, b1, b2, b3, c1, c2⟩ := in3_iff h3
              have hg := wso_get (kt := kt) (b := b) hl hx
              have hg2 := wso_get (kt := kt) (b := b) hl hy2
              have n1 : ¬ Int32.ofInt sp < 0 := by rw [o_0, o_lt a1 i0]; omega
              have n2 : ¬ Int32.ofInt dp < 0 := by rw [o_0, o_lt a2 i0]; omega
              have n3 : ¬ Int32.ofInt nn < 0 := by rw [o_0, o_lt a3 i0]; omega
              have e1 := o_clamp b1 a1
              have e2 := o_clamp b2 a2
              have e3 := o_clamp b3 a3
              have l1 : sp.toNat + nn.toNat ≤ xs.length := by omega
              have l2 : dp.toNat + nn.toNat ≤ ys.length := by omega
              refine va_copyM (E0 := "EngagedByDeputy$Steady") (E1 := "EngagedByDeputy$Steady") hexec hb hsz.symm hown (hts _ hlk) (hts _ wd_cp1) (hts _ wd_cp2) (hts _ wd_cp3) hK hP hD hS aa n 3 3 hg hg2 rfl rfl n1 n2 n3 (by rw [e1, e3]; exact l1) (by rw [e2, e3]; exact l2) (fun i hi y hy => ?_) (by omega) hroom hdg fun H1 locs1 h1 h2 h3 => ?_
              · rw [e1, e3] at *
                have hlt : sp.toNat + i < xs.length := by omega
                have hgd : xs[sp.toNat + i]? = some (xs.getD (sp.toNat + i) 0) := by
                  rw [List.getD_eq_getElem?_getD, List.getElem?_eq_getElem hlt]; rfl
                have h9 := List.all_eq_true.mp hel _ (List.mem_of_getElem? hgd)
                generalize xs.getD (sp.toNat + i) 0 = v at h9 hy
                match v, h9, hy with
                | 0, _, hy => cases hy
                | 1, h9, _ => exact absurd (show ((1 : Nat) == 0) = true from h9) (by decide)
                | v + 2, h9, hy =>
                  cases hy
                  dsimp only at h9
                  split at h9
                  · rename_i ci fs hv
                    obtain ⟨h6, E, hE, hasg⟩ := asT_ok hxw h9
                    have hE2 : E = "EngagedByDeputy$Steady" := by cases hE; rfl
                    subst hE2
                    have hv2 := wso_get (kt := kt) (b := b) hl hv
                    obtain ⟨r', hr', -⟩ := hP v _ hv2
                    exact va_rAny hK hP hv2 hr' (hasg _ hr')
                  · cases h9
              · have ef : va_cpy (fun j => trR as b (xs.getD j 0)) (fun j => trR as b (ys.getD j 0)) sp.toNat dp.toNat nn.toNat = fun j => trR as b ((cpy xs ys sp.toNat dp.toNat nn.toNat).getD j 0) := by
                  funext j; rw [cpy_getD l1 l2]; unfold va_cpy; split <;> rfl
                rw [e1, e2, e3, ef] at h1 h2
                refine k H1 locs1 (done hy2 ?_ ?_ h3)
                · simpa only [cO, cpy_len l1 l2] using h1
                · simpa only [cO, cpy_len l1 l2] using h2
            · cases hk
          · cases hk
        · cases hk
      · cases hk
    · cases hk
  · cases hk
end MK
