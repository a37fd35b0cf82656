/-! ===== the instructions that touch cells ===== -/
theorem fitV_ok {as : List Nat} {b : Nat} {ty : FieldType} {v : iV} (h : fitV ty v = true) : narrow ty (tr as b v) = tr as b v ∧ fits ty (tr as b v) = true := by
  have hr : ∀ r : Nat, (∃ a, tr as b (.inr (.inr r)) = .ref a) ∨ tr as b (.inr (.inr r)) = .null := fun r => by
    match r with
    | 0 => exact Or.inr rfl
    | 1 => exact Or.inl ⟨_, rfl⟩
    | n + 2 => exact Or.inl ⟨_, rfl⟩
  unfold fitV at h
  split at h
  · exact ⟨rfl, rfl⟩
  · rename_i z
    simp only [Bool.or_eq_true, decide_eq_true_eq] at h
    rcases h with h | h
    · subst h; exact ⟨rfl, rfl⟩
    · subst h; exact ⟨rfl, rfl⟩
  · exact ⟨rfl, rfl⟩
  · rename_i r
    rcases hr r with ⟨a, e⟩ | e
    · rw [e]; exact ⟨rfl, rfl⟩
    · rw [e]; exact ⟨rfl, rfl⟩
  · rename_i r
    rcases hr r with ⟨a, e⟩ | e
    · rw [e]; exact ⟨rfl, rfl⟩
    · rw [e]; exact ⟨rfl, rfl⟩
  · cases h
theorem getD_set {α : Type} {xs : List α} {i j : Nat} {v z : α} (hi : i < xs.length) : (xs.set i v).getD j z = if j = i then v else xs.getD j z := by
  rw [List.getD_eq_getElem?_getD, List.getElem?_set]
  by_cases h : i = j
  · subst h
    rw [if_pos rfl, if_pos hi, if_pos rfl]; rfl
  · rw [if_neg h, if_neg (Ne.symm h), List.getD_eq_getElem?_getD]
theorem upd_set {xs : List Int} {i : Nat} {v : Int} (hi : i < xs.length) : upd (fun j => Int32.ofInt (xs.getD j 0)) i (Int32.ofInt v) = fun j => Int32.ofInt ((xs.set i v).getD j 0) := by
  funext j
  rw [getD_set hi]
  unfold upd
  split <;> rfl
theorem updL_set {xs : List Int} {i : Nat} {v : Int} (hi : i < xs.length) : vp_updL (fun j => Int64.ofInt (xs.getD j 0)) i (Int64.ofInt v) = fun j => Int64.ofInt ((xs.set i v).getD j 0) := by
  funext j
  rw [getD_set hi]
  unfold vp_updL
  split <;> rfl
theorem upR_set {as : List Nat} {b : Nat} {xs : List Nat} {i v : Nat} (hi : i < xs.length) : va_up (fun j => trR as b (xs.getD j 0)) i (trR as b v) = fun j => trR as b ((xs.set i v).getD j 0) := by
  funext j
  rw [getD_set hi]
  unfold va_up
  split <;> rfl
theorem asT_ok {s : State} (hxw : ∀ w ∈ xW, va_Nw w s) {t ci : Nat} (h : asT t ci = true) : t < 6 ∧ ∃ E : String, ak t = .object E ∧ ∀ r, vwCl[ci]? = some r → ∀ comp c0 : ClassId, s.vm.findClass E = some comp → s.vm.findClass r.1 = some c0 → s.vm.assignable c0 comp = true := by
  have self : ∀ (E : String) (comp c0 : ClassId), s.vm.findClass E = some comp → s.vm.findClass E = some c0 → s.vm.assignable c0 comp = true := fun E comp c0 h1 h2 => by
    cases h1.symm.trans h2; exact va_asg _ _
  unfold asT at h
  split at h
  · refine ⟨by decide, _, rfl, fun r hr comp c0 h1 h2 => ?_⟩
    simp only [Bool.or_eq_true, beq_iff_eq] at h
    rcases h with ((((h | h) | h) | h) | h) | h <;> subst h <;> cases hr
    · exact vb_asgC (hxw _ (by decide +kernel)) comp c0 h1 h2
    · exact vb_asgC (hxw _ (by decide +kernel)) comp c0 h1 h2
    · exact vb_asgC (hxw _ (by decide +kernel)) comp c0 h1 h2
    · exact self _ comp c0 h1 h2
    · exact vb_asgC (hxw _ (by decide +kernel)) comp c0 h1 h2
    · exact vb_asgC (hxw _ (by decide +kernel)) comp c0 h1 h2
  · refine ⟨by decide, _, rfl, fun r hr comp c0 h1 h2 => ?_⟩
    simp only [beq_iff_eq] at h
    subst h; cases hr
    exact self _ comp c0 h1 h2
  · refine ⟨by decide, _, rfl, fun r hr comp c0 h1 h2 => ?_⟩
    simp only [beq_iff_eq] at h
    subst h; cases hr
    exact self _ comp c0 h1 h2
  · cases h
theorem ak_obj {t : Nat} (h : 3 ≤ t) (h2 : t < 6) : ∃ E : String, ak t = .object E := by
  match t, h, h2 with
  | 3, _, _ => exact ⟨_, rfl⟩
  | 4, _, _ => exact ⟨_, rfl⟩
  | 5, _, _ => exact ⟨_, rfl⟩
section MH
variable {p : Program} {l : Launch} {e : Env} {R : Room} {s : State} {m : MethodId} {args : Array Value} {below : List Frame} {meth : Method} {c : Code} {H : Heap} {locs : List Loc} {cells slots : Nat} {Q : State → Prop}
variable {pc pc' : Nat} {ls : Array Slot} {i : Instr} {as : List Nat} {b : Nat} {L L' : List (Option iV)} {st st' : List iV} {D : va_G} {kt : Nat → ClassId} {sc : List Int} {A : Nat → Prop} {q : mE} {d : Nat} {h h' : List iO}
theorem lnK_ok (C : Cx p R s m args meth c D kt b sc A q d) (hdg : decode q.2.1 pc = .ok (i, lnI i)) (hk : stK q.2.2.2.2 i pc L st = some (pc', L', st'))
    (k : L' = L → W p l e R s m args below meth c H locs cells slots Q (F0 m pc' ls (st'.map (tr as b)))) : W p l e R s m args below meth c H locs cells slots Q (F0 m pc ls (st.map (tr as b))) := by
  obtain ⟨hexec, hb, hml, hown, hts, -⟩ := C
  unfold stK at hk
  split at hk
  · split at hk
    · rename_i z hz
      cases hk
      exact lv_ldc hexec hb hown (hts _ (ok_kTab_all _ (lkZ_mem hz))) hdg (k rfl)
    · cases hk
  · split at hk
    · rename_i z hz
      cases hk
      exact lv_ldcw hexec hb hown (hts _ (ok_kTab_all _ (lkZ_mem hz))) hdg (k rfl)
    · cases hk
  · split at hk
    · rename_i z hz
      cases hk
      exact lv_ldc2 hexec hb hown (hts _ (ok_jTab_all _ (lkZ_mem hz))) hdg (k rfl)
    · cases hk
  · cases hk
theorem lnR_ok (C : Cx p R s m args meth c D kt b sc A q d) (wd : Wd D kt as b A s.heap h H locs) (hdg : decode q.2.1 pc = .ok (i, lnI i)) (hk : stR sc q.2.2.2.2 i pc st h = some (pc', st'))
    (k : W p l e R s m args below meth c H locs cells slots Q (F0 m pc' ls (st'.map (tr as b)))) : W p l e R s m args below meth c H locs cells slots Q (F0 m pc ls (st.map (tr as b))) := by
  obtain ⟨hexec, hb, hml, hown, hts, hxw, hK, hX, hbl, hbA, hA, -⟩ := C
  obtain ⟨hl, hP, hD, hS⟩ := wd
  unfold stR at hk
  split at hk
  · split at hk
    · rename_i n r
      split at hk
      · rename_i ci fs hx
        split at hk
        · rename_i kk hF
          split at hk
          · rename_i v hv
            cases hk
            obtain ⟨⟨Cn, T, N⟩, hc, hkN, ref, hlk, hsm⟩ := lkF_mem hF
            refine va_get (Ts := WSg) (fs := fs.map (tr as b)) hexec hb hts (okCl_all hc).2.2.1 hown hK hP n (wso_get hl hx) hc kk hkN (hts _ hlk) ?_ (by rw [List.getElem?_map, hv]; rfl) hdg k
            rcases hsm with h1 | h1
            · rw [h1]; exact fun x hx => hx
            · exact fun x hx => u_same (hts _ h1) x hx
          · cases hk
        · cases hk
      · cases hk
    · cases hk
  · split at hk
    · cases hk
      exact va_slen hexec hb hX hbl hbA hS hdg (by have := k; simpa only [List.map_cons, tr, Int32.ofInt_eq_ofNat] using this)
    · rename_i n r
      split at hk
      · rename_i t xs hx
        split at hk
        · rename_i ht
          cases hk
          have hg := wso_get (kt := kt) (b := b) hl hx
          have k2 : W p l e R s m args below meth c H locs cells slots Q (F0 m (pc + 1) ls (.int (Int32.ofNat xs.length) :: r.map (tr as b))) := by
            have := k; simpa only [List.map_cons, tr, Int32.ofInt_eq_ofNat] using this
          by_cases h1 : t = 1
          · simp only [cO, if_pos h1] at hg
            exact va_alen hexec hb hK hP n t hg (tys_get ht) rfl hdg k2
          · simp only [cO, if_neg h1] at hg
            exact va_alen hexec hb hK hP n t hg (tys_get ht) rfl hdg k2
        · cases hk
      · rename_i t rs hx
        split at hk
        · rename_i ht
          cases hk
          have hg := wso_get (kt := kt) (b := b) hl hx
          have k2 : W p l e R s m args below meth c H locs cells slots Q (F0 m (pc + 1) ls (.int (Int32.ofNat rs.length) :: r.map (tr as b))) := by
            have := k; simpa only [List.map_cons, tr, Int32.ofInt_eq_ofNat] using this
          exact va_alen hexec hb hK hP n t hg (tys_get ht) rfl hdg k2
        · cases hk
      · cases hk
    · cases hk
  · split at hk
    · rename_i j r
      split at hk
      · rename_i hj
        cases hk
        obtain ⟨g1, g2, g3⟩ := inA_vp hj
        exact va_sld hexec hb hX hbl hbA hS g1 hdg (by rw [g2]; exact k)
      · cases hk
    · rename_i j n r
      split at hk
      · rename_i xs hx
        split at hk
        · rename_i hj
          cases hk
          obtain ⟨g1, g2, g3⟩ := inA_vp hj
          exact va_iald hexec hb hK hP n 0 (wso_get (kt := kt) (b := b) hl hx) rfl g1 hdg (by rw [g2]; exact k)
        · cases hk
      · cases hk
    · cases hk
  · split at hk
    · rename_i j n r
      split at hk
      · rename_i xs hx
        split at hk
        · rename_i hj
          cases hk
          obtain ⟨g1, g2, g3⟩ := inA_vp hj
          exact va_lald hexec hb hK hP n 1 (wso_get (kt := kt) (b := b) hl hx) rfl g1 hdg (by rw [g2]; exact k)
        · cases hk
      · cases hk
    · cases hk
  · split at hk
    · rename_i j n r
      split at hk
      · rename_i xs hx
        split at hk
        · rename_i hj
          cases hk
          obtain ⟨g1, g2, g3⟩ := inA_vp hj
          exact va_zald hexec hb hK hP n 2 (wso_get (kt := kt) (b := b) hl hx) rfl g1 hdg (by rw [g2]; exact k)
        · cases hk
      · cases hk
    · cases hk
  · split at hk
    · rename_i j n r
      split at hk
      · rename_i t rs hx
        split at hk
        · rename_i hj
          cases hk
          simp only [Bool.and_eq_true, decide_eq_true_eq] at hj
          obtain ⟨⟨hj, h3⟩, h6⟩ := hj
          obtain ⟨g1, g2, g3⟩ := inA_vp hj
          obtain ⟨E, hE⟩ := ak_obj h3 h6
          refine va_aldq (C := E) hexec hb hK hP n t (wso_get (kt := kt) (b := b) hl hx) (by rw [tys_get h6, hE]) g1 hdg (by rw [g2]; exact k)
        · cases hk
      · cases hk
    · cases hk
  · cases hk
theorem lnW_ok (C : Cx p R s m args meth c D kt b sc A q d) (wd : Wd D kt as b A s.heap h H locs) (hdg : decode q.2.1 pc = .ok (i, lnI i)) {n : Nat} {x : iO} (hk : stW q.2.2.2.2 (decide (q.1.name = "<init>")) i pc st h = some (pc', st', n, x))
    (k : ∀ H' locs', Wd D kt as b A s.heap (h.set n x) H' locs' → W p l e R s m args below meth c H' locs' cells slots Q (F0 m pc' ls (st'.map (tr as b)))) : W p l e R s m args below meth c H locs cells slots Q (F0 m pc ls (st.map (tr as b))) := by
  obtain ⟨hexec, hb, hml, hown, hts, hxw, hK, hX, hbl, hbA, hA, hnm, -⟩ := C
  obtain ⟨hl, hP, hD, hS⟩ := wd
  have done : ∀ {n : Nat} {x y : iO} {H' : Heap} {locs' : List Loc}, h[n]? = some y → va_P D vwCl ((wso kt as b h).set n (as.getD n 0, cO kt as b x)) H' → va_D A ((wso kt as b h).set n (as.getD n 0, cO kt as b x)) → va_S A s.heap H' locs' → Wd D kt as b A s.heap (h.set n x) H' locs' := fun {n x y H' locs'} hx h1 h2 h3 => by
    have hn := (List.getElem?_eq_some_iff.mp hx).1
    rw [wso_set hl hn] at h1 h2
    exact ⟨by rw [List.length_set]; exact hl, h1, h2, h3⟩
  unfold stW at hk
  split at hk
  · split at hk
    · rename_i v n' r
      split at hk
      · rename_i ci fs hx
        split at hk
        · rename_i kk hF
          split at hk
          · rename_i hcond
            cases hk
            simp only [Bool.and_eq_true, decide_eq_true_eq] at hcond
            obtain ⟨⟨hfit, hlen⟩, hp⟩ := hcond
            obtain ⟨⟨Cn, T, N⟩, hc, hkN, ref, hlk, hsm⟩ := lkF_mem hF
            have ocl := okCl_all hc
            have hsame : ∀ x, s.fieldFound? (T kk).1 (T kk).2.1 (T kk).2.2.1 = some x → s.fieldFound? ref (T kk).2.1 (T kk).2.2.1 = some x := by
              rcases hsm with h1 | h1
              · rw [h1]; exact fun x hx => hx
              · exact fun x hx => u_same (hts _ h1) x hx
            obtain ⟨f1, f2⟩ := fitV_ok (as := as) (b := b) hfit
            have fin : ∀ (H1 : Heap) (locs1 : List Loc), va_P D vwCl ((wso kt as b h).set n (as.getD n 0, .inr (ci, (fs.map (tr as b)).set kk (tr as b v)))) H1 → va_D A ((wso kt as b h).set n (as.getD n 0, .inr (ci, (fs.map (tr as b)).set kk (tr as b v)))) → va_S A s.heap H1 locs1 → W p l e R s m args below meth c H1 locs1 cells slots Q (F0 m (pc + 3) ls (st'.map (tr as b))) := fun H1 locs1 h1 h2 h3 => by
              have e : (fs.map (tr as b)).set kk (tr as b v) = (fs.set kk v).map (tr as b) := by rw [List.map_set]
              rw [e] at h1 h2
              exact k H1 locs1 (done hx h1 h2 h3)
            unfold pOK at hp
            rw [hc] at hp
            simp only [Bool.or_eq_true, Bool.not_eq_true', Bool.and_eq_true, decide_eq_true_eq] at hp
            by_cases hfin : (T kk).2.2.2 = false
            · exact va_put (Ts := WSg) (fs := fs.map (tr as b)) (ty := tyT ci kk) (own := cnm q.2.2.2.2) (ref := ref) hexec hb hts ocl.2.2.1 (tyT ci) ocl.1 ocl.2.1 hown hK hP hD hS n (wso_get hl hx) hc kk hkN (hts _ hlk) hsame hfin (ocl.1 kk hkN) f1 f2 (by rw [List.length_map]; exact hlen) hdg fin
            · obtain ⟨hi1, hi2⟩ := hp.resolve_left hfin
              exact va_putF (Ts := WSg) (fs := fs.map (tr as b)) (ty := tyT ci kk) (own := cnm q.2.2.2.2) (ref := ref) hexec hb hts ocl.2.2.1 (tyT ci) ocl.1 ocl.2.1 hown hK hP hD hS n (wso_get hl hx) hc kk hkN (hts _ hlk) hsame (by simpa using hfin) (hnm hi1) hi2 (ocl.1 kk hkN) f1 f2 (by rw [List.length_map]; exact hlen) hdg fin
          · cases hk
        · cases hk
      · cases hk
    · cases hk
  · split at hk
    · rename_i v j n' r
      split at hk
      · rename_i xs hx
        split at hk
        · rename_i hj
          cases hk
          obtain ⟨g1, g2, g3⟩ := inA_vp hj
          refine va_iast hexec hb hK hP hD hS n 0 (wso_get (kt := kt) (b := b) hl hx) rfl g1 hdg fun H1 locs1 h1 h2 h3 => ?_
          rw [g2, upd_set g3] at h1 h2
          refine k H1 locs1 (done hx ?_ ?_ h3)
          · simpa only [cO, List.length_set, Nat.zero_ne_one, if_false] using h1
          · simpa only [cO, List.length_set, Nat.zero_ne_one, if_false] using h2
        · cases hk
      · cases hk
    · cases hk
  · split at hk
    · rename_i v j n' r
      split at hk
      · rename_i xs hx
        split at hk
        · rename_i hj
          cases hk
          obtain ⟨g1, g2, g3⟩ := inA_vp hj
          refine va_last hexec hb hK hP hD hS n 1 (wso_get (kt := kt) (b := b) hl hx) rfl g1 hdg fun H1 locs1 h1 h2 h3 => ?_
          rw [g2, updL_set g3] at h1 h2
          refine k H1 locs1 (done hx ?_ ?_ h3)
          · simpa only [cO, List.length_set, if_true] using h1
          · simpa only [cO, List.length_set, if_true] using h2
        · cases hk
      · cases hk
    · cases hk
  · split at hk
    · rename_i v j n' r
      split at hk
      · rename_i xs hx
        split at hk
        · rename_i hj
          cases hk
          rw [Bool.and_eq_true] at hj
          obtain ⟨hj, hv⟩ := hj
          obtain ⟨g1, g2, g3⟩ := inA_vp hj
          have hv2 : vp_nar .boolean (Int32.ofInt v) = Int32.ofInt v := by
            simp only [Bool.or_eq_true, decide_eq_true_eq] at hv
            rcases hv with rfl | rfl <;> decide
          refine va_zast hexec hb hK hP hD hS n 2 (wso_get (kt := kt) (b := b) hl hx) rfl g1 hdg fun H1 locs1 h1 h2 h3 => ?_
          rw [g2, hv2, upd_set g3] at h1 h2
          refine k H1 locs1 (done hx ?_ ?_ h3)
          · simpa only [cO, List.length_set, show ¬ (2 = 1) by decide, if_false] using h1
          · simpa only [cO, List.length_set, show ¬ (2 = 1) by decide, if_false] using h2
        · cases hk
      · cases hk
    · cases hk
  · split at hk
    · rename_i v j n' r
      split at hk
      · rename_i t rs hx
        split at hk
        · rename_i ci fs hv
          split at hk
          · rename_i hj
            cases hk
            rw [Bool.and_eq_true] at hj
            obtain ⟨hj, ha⟩ := hj
            obtain ⟨g1, g2, g3⟩ := inA_vp hj
            obtain ⟨h6, E, hE, hasg⟩ := asT_ok hxw ha
            have hv2 := wso_get (kt := kt) (b := b) hl hv
            obtain ⟨r', hr', -⟩ := hP v _ hv2
            refine va_astqM (E := E) hexec hb hK hP hD hS n t (wso_get (kt := kt) (b := b) hl hx) (by rw [tys_get h6, hE]) (va_rAny (E := E) hK hP hv2 hr' (hasg _ hr')) g1 hdg fun H1 locs1 h1 h2 h3 => ?_
            rw [g2] at h1 h2
            have eu := upR_set (as := as) (b := b) (v := v + 2) g3
            simp only [trR] at eu
            refine k H1 locs1 (done hx ?_ ?_ h3)
            · simpa only [cO, List.length_set, trR, ← eu] using h1
            · simpa only [cO, List.length_set, trR, ← eu] using h2
          · cases hk
        · cases hk
      · cases hk
    · cases hk
  · cases hk
end MH
