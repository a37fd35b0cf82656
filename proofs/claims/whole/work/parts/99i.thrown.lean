set_option maxRecDepth 16384
/-! ===== steps up to a throw ===== -/
section CH
variable {sp : Nat → List iV → iH → Option (Option iV × iH)} {sc : List Int} {o : Nat} {ini : Bool} {d y n pc : Nat} {L L' : List (Option iV)} {st : List iV} {h : iH} {F F' G : iF}
theorem s_ald {k : Fin 4} {r : Nat} (hl : ld L k.val = some (.inr (.inr (r + 1)))) : stp sc o ini d (.aload_n k) (pc, L, st) h = some ((pc + 1, L, .inr (.inr (r + 1)) :: st), h) := by unfold stp; simp only [stA, hl]
theorem s_ild {k : Fin 4} {x : Int} (hl : ld L k.val = some (.inl x)) : stp sc o ini d (.iload_n k) (pc, L, st) h = some ((pc + 1, L, .inl x :: st), h) := by unfold stp; simp only [stA, hl]
theorem s_ist {k : Fin 4} {x : Int} (hl : st1 L k.val (.inl x) = some L') : stp sc o ini d (.istore_n k) (pc, L, .inl x :: st) h = some ((pc + 1, L', st), h) := by unfold stp; simp only [stA, stB, hl]
theorem s_ast {k : Fin 4} {x : Nat} (hl : st1 L k.val (.inr (.inr (x + 1))) = some L') : stp sc o ini d (.astore_n k) (pc, L, .inr (.inr (x + 1)) :: st) h = some ((pc + 1, L', st), h) := by unfold stp; simp only [stA, stB, hl]
theorem s_ic {z : Int} : stp sc o ini d (.iconst z) (pc, L, st) h = some ((pc + 1, L, .inl z :: st), h) := by unfold stp; simp only [stA]
theorem s_ifn {c : Jvm.ClassFile.Cond} {off a : Int} {q : Nat} (ha : inI a = true) (hj : jmp pc off = some q) (hb : brI c a 0 = false) : stp sc o ini d (.ifCond c off) (pc, L, .inl a :: st) h = some ((pc + 3, L, st), h) := by unfold stp; simp only [stA, stB, stC, stD, ha, hj, hb, if_true, Bool.false_eq_true, if_false]
theorem s_ift {c : Jvm.ClassFile.Cond} {off a : Int} {q : Nat} (ha : inI a = true) (hj : jmp pc off = some q) (hb : brI c a 0 = true) : stp sc o ini d (.ifCond c off) (pc, L, .inl a :: st) h = some ((q, L, st), h) := by unfold stp; simp only [stA, stB, stC, stD, ha, hj, hb, if_true]
theorem s_icn {c : Jvm.ClassFile.Cond} {off a b : Int} {q : Nat} (ha : inI a = true) (hb : inI b = true) (hj : jmp pc off = some q) (hc : brI c a b = false) : stp sc o ini d (.if_icmp c off) (pc, L, .inl b :: .inl a :: st) h = some ((pc + 3, L, st), h) := by unfold stp; simp only [stA, stB, stC, stD, ha, hb, hj, hc, Bool.and_self, if_true, Bool.false_eq_true, if_false]
theorem s_ict {c : Jvm.ClassFile.Cond} {off a b : Int} {q : Nat} (ha : inI a = true) (hb : inI b = true) (hj : jmp pc off = some q) (hc : brI c a b = true) : stp sc o ini d (.if_icmp c off) (pc, L, .inl b :: .inl a :: st) h = some ((q, L, st), h) := by unfold stp; simp only [stA, stB, stC, stD, ha, hb, hj, hc, Bool.and_self, if_true]
theorem s_gf {idx m ci k : Nat} {fs : List iV} {v : iV} (h1 : h.1[m]? = some (.inl (ci, fs))) (h2 : lkF o idx ci = some k) (h3 : fs[k]? = some v) : stp sc o ini d (.getfield idx) (pc, L, .inr (.inr (m + 2)) :: st) h = some ((pc + 3, L, v :: st), h) := by unfold stp; simp only [stA, stB, stC, stD, stE, stK, stR, h1, h2, h3]
theorem s_aal {j : Int} {m t : Nat} {rs : List Nat} (h1 : h.1[m]? = some (.inr (.inr (t, rs)))) (hj : inA j rs.length = true) (ht : 3 ≤ t) (ht2 : t < 6) : stp sc o ini d .aaload (pc, L, .inl j :: .inr (.inr (m + 2)) :: st) h = some ((pc + 1, L, .inr (.inr (rs.getD j.toNat 0)) :: st), h) := by
  unfold stp
  simp only [stA, stB, stC, stD, stE, stK, stR, h1, hj, decide_eq_true ht, decide_eq_true ht2, Bool.and_self, if_true]
theorem ch_f {i : Instr} (hf : fetch y F.1 = some i) (hs : stp sc (oY y) (iniY y) d i F h = some (F', h)) (k : ChP sc d y h n F' G) : ChP sc d y h (n + 1) F G := by
  unfold fetch at hf
  unfold oY iniY at hs
  cases hq : mtab[y]? with
  | none => rw [hq] at hf; cases hf
  | some q =>
    rw [hq] at hf hs
    dsimp only at hf hs
    cases hd : decode q.2.1 F.1 with
    | error e => rw [hd] at hf; cases hf
    | ok z =>
      obtain ⟨i2, len⟩ := z
      rw [hd] at hf
      dsimp only at hf
      by_cases hln : lnI i2 = 0 ∨ len = lnI i2
      · rw [if_pos hln] at hf
        cases hf
        exact ⟨F', ⟨q, i, len, hq, hd, hln, Or.inl hs⟩, k⟩
      · rw [if_neg hln] at hf; cases hf
theorem ch_c {i : Instr} {y' kd : Nat} {av rest : List iV} {r : Option iV} (hf : fetch y F.1 = some i) (hi : lnI i = 3) (hrs : rsv (oY y) i F.2.2 h.1 = some (y', av, rest, kd)) (hy : y' < nCall) (hx : Call sp0 sc d y' av h (fun a b => a = r ∧ b = h)) (k : ChP sc (d + 1) y h n (F.1 + 3, F.2.1, r.toList ++ rest) G) : ChP sc (d + 1) y h (n + 1) F G := by
  unfold fetch at hf
  unfold oY at hrs
  unfold Call at hx
  rw [if_pos hy] at hx
  cases hq : mtab[y]? with
  | none => rw [hq] at hf; cases hf
  | some q =>
    rw [hq] at hf hrs
    dsimp only at hf hrs
    cases hd : decode q.2.1 F.1 with
    | error e => rw [hd] at hf; cases hf
    | ok z =>
      obtain ⟨i2, len⟩ := z
      rw [hd] at hf
      dsimp only at hf
      by_cases hln : lnI i2 = 0 ∨ len = lnI i2
      · rw [if_pos hln] at hf
        cases hf
        cases hq' : mtab[y']? with
        | none => rw [hq'] at hx; exact hx.elim
        | some q' =>
          rw [hq'] at hx
          obtain ⟨he, n2, a, b, e, rfl, rfl⟩ := hx
          exact ⟨_, ⟨q, i, len, hq, hd, hln, Or.inr ⟨d, y', av, rest, kd, n2, q', a, rfl, by rw [← hi]; exact hln.resolve_left (by omega), hrs, hy, hq', he, e, rfl⟩⟩, k⟩
      · rw [if_neg hln] at hf; cases hf
theorem rsv_S {idx y1 n1 kd : Nat} {hh : List iO} (hc : lkC o idx 99 = some (y1, n1, kd)) (hn : n1 ≤ st.length ∧ (kd = 0 ∨ kd = 1 ∨ kd = 9) ∧ cs (st.drop n1) ≤ 8) : rsv o (.invokestatic idx) st hh = some (y1, (st.take n1).reverse, st.drop n1, kd) := by
  unfold rsv
  simp only [hc]
  rw [if_pos hn]
theorem rsv_V {idx n1 r ci y1 kd : Nat} {rest fs : List iV} {hh : List iO} (hN : lkN o idx = some n1) (hd : st.drop n1 = .inr (.inr (r + 2)) :: rest) (hr : hh[r]? = some (.inl (ci, fs))) (hc : lkC o idx ci = some (y1, n1, kd)) (hk : (kd = 2 ∨ kd = 3 ∨ kd = 8) ∧ cs rest ≤ 8) : rsv o (.invokevirtual idx) st hh = some (y1, .inr (.inr (r + 2)) :: (st.take n1).reverse, rest, kd) := by
  unfold rsv
  simp only [hN, hd, hr, hc]
  rw [if_pos ⟨trivial, hk.1, hk.2⟩]
end CH
/-! ===== what throws: the failures of kinds, and an element that isn't there ===== -/
def qF6 : mE := (⟨RX6, "fail", "()V"⟩, prog_8_method_7_code, 1, none, 6)
def qF3 : mE := (⟨RX3, "fail", "()V"⟩, prog_5_method_6_code, 1, none, 3)
def qF7 : mE := (⟨RX7, "fail", "()V"⟩, prog_9_method_7_code, 1, none, 7)
def qEl : mE := (⟨RX11, "element", "(II)J"⟩, prog_1_method_42_code, 3, some .long, 11)
theorem mtab_F6 : mtab[mX6_fail]? = some qF6 := rfl
theorem mtab_F3 : mtab[mX3_fail]? = some qF3 := rfl
theorem mtab_F7 : mtab[mX7_fail]? = some qF7 := rfl
theorem mtab_El : mtab[mX11_element]? = some qEl := rfl
theorem okM_in {y : Nat} {q : mE} (hq : mtab[y]? = some q) (hy : y < nCall) : okM q := by
  have : mtabC[y]? = some q := by
    unfold mtabC
    rw [List.getElem?_take_of_lt hy]; exact hq
  exact (mtabC_ok this).1
theorem thW_6 : thW RX6 17 "java/lang/IllegalStateException" := ⟨by decide +kernel, by decide +kernel, by decide, by decide +kernel, by decide +kernel⟩
theorem thW_3 : thW RX3 35 "java/lang/IllegalArgumentException" := ⟨by decide +kernel, by decide +kernel, by decide, by decide +kernel, by decide +kernel⟩
theorem thW_7 : thW RX7 32 "java/lang/UnsupportedOperationException" := ⟨by decide +kernel, by decide +kernel, by decide, by decide +kernel, by decide +kernel⟩
theorem thW_a : thW RX11 351 "java/lang/IllegalArgumentException" := ⟨by decide +kernel, by decide +kernel, by decide, by decide +kernel, by decide +kernel⟩
theorem thW_s : thW RX11 358 "java/lang/IllegalStateException" := ⟨by decide +kernel, by decide +kernel, by decide, by decide +kernel, by decide +kernel⟩
section MX
variable {l : Launch} {sc : List Int} {d n ci : Nat} {h : iH} {f : Int}
theorem metX_6 (hls : l.stackTraces = false) (hd : 6 ≤ d) (hn : h.1[n]? = some (.inl (ci, [.inl f]))) (hk : lkF 6 7 ci = some 0) (hf : ¬ f = 0) (fi : inI f = true) : MetX l sc qF6 d [.inr (.inr (n + 2))] h "java/lang/IllegalStateException" := by
  refine thr_of (L := [some (.inr (.inr (n + 2)))]) (n := 3) (pc := 7) (ik := 13) (is := 15) (ic := 17) (text := "a plain failure") (own := RX6) hls hd mtab_F6 (okM_in mtab_F6 (by decide)) rfl ?_ rfl (by decide +kernel) (by decide +kernel) (by decide) thW_6 ⟨by decide +kernel, by decide +kernel⟩ ⟨by decide +kernel, by decide +kernel, Or.inl ⟨by decide +kernel, by decide +kernel, by decide +kernel⟩⟩
  have hb : brI .eq f 0 = false := decide_eq_false hf
  refine ch_f (by decide +kernel : fetch mX6_fail 0 = some (.aload_n 0)) (s_ald (r := n + 1) rfl) ?_
  refine ch_f (by decide +kernel : fetch mX6_fail 1 = some (.getfield 7)) (s_gf hn (by rw [show oY mX6_fail = 6 from rfl]; exact hk) rfl) ?_
  exact ch_f (by decide +kernel : fetch mX6_fail 4 = some (.ifCond .eq 13)) (s_ifn (q := 17) fi rfl hb) rfl
theorem metX_3 (hls : l.stackTraces = false) (hd : 6 ≤ d) (hn : h.1[n]? = some (.inl (3, [.inl f]))) (hf : ¬ f = 0) (fi : inI f = true) : MetX l sc qF3 d [.inr (.inr (n + 2))] h "java/lang/IllegalArgumentException" := by
  refine thr_of (L := [some (.inr (.inr (n + 2)))]) (n := 3) (pc := 7) (ik := 31) (is := 33) (ic := 35) (text := "a jealous failure") (own := RX3) hls hd mtab_F3 (okM_in mtab_F3 (by decide)) rfl ?_ rfl (by decide +kernel) (by decide +kernel) (by decide) thW_3 ⟨by decide +kernel, by decide +kernel⟩ ⟨by decide +kernel, by decide +kernel, Or.inl ⟨by decide +kernel, by decide +kernel, by decide +kernel⟩⟩
  have hb : brI .eq f 0 = false := decide_eq_false hf
  refine ch_f (by decide +kernel : fetch mX3_fail 0 = some (.aload_n 0)) (s_ald (r := n + 1) rfl) ?_
  refine ch_f (by decide +kernel : fetch mX3_fail 1 = some (.getfield 11)) (s_gf (k := 0) hn (by rw [show oY mX3_fail = 3 from rfl]; decide +kernel) rfl) ?_
  exact ch_f (by decide +kernel : fetch mX3_fail 4 = some (.ifCond .eq 13)) (s_ifn (q := 17) fi rfl hb) rfl
theorem metX_7 (hls : l.stackTraces = false) (hd : 6 ≤ d) (hn : h.1[n]? = some (.inl (7, [.inl f]))) (hf : ¬ f = 0) (fi : inI f = true) : MetX l sc qF7 d [.inr (.inr (n + 2))] h "java/lang/UnsupportedOperationException" := by
  refine thr_of (L := [some (.inr (.inr (n + 2)))]) (n := 3) (pc := 7) (ik := 28) (is := 30) (ic := 32) (text := "a vain failure") (own := RX7) hls hd mtab_F7 (okM_in mtab_F7 (by decide)) rfl ?_ rfl (by decide +kernel) (by decide +kernel) (by decide) thW_7 ⟨by decide +kernel, by decide +kernel⟩ ⟨by decide +kernel, by decide +kernel, Or.inl ⟨by decide +kernel, by decide +kernel, by decide +kernel⟩⟩
  have hb : brI .eq f 0 = false := decide_eq_false hf
  refine ch_f (by decide +kernel : fetch mX7_fail 0 = some (.aload_n 0)) (s_ald (r := n + 1) rfl) ?_
  refine ch_f (by decide +kernel : fetch mX7_fail 1 = some (.getfield 11)) (s_gf (k := 0) hn (by rw [show oY mX7_fail = 7 from rfl]; decide +kernel) rfl) ?_
  exact ch_f (by decide +kernel : fetch mX7_fail 4 = some (.ifCond .eq 13)) (s_ifn (q := 17) fi rfl hb) rfl
end MX
section MY
variable {l : Launch} {sc : List Int} {d : Nat} {A : iA} {a i : Int}
theorem cl_shelf (ia : inI a = true) {v : Int} (hv : bI (0 ≤ a ∧ a < 8) = v) {h : iH} : Call sp0 sc d mX11_isShelf [.inl a] h (fun x z => x = some (.inl v) ∧ z = h) := Eq.mpr (isShelf_eq (sp := sp0) (sc := sc) (d := d) a ia) ⟨by rw [hv], rfl⟩
theorem rs_shelf {st : List iV} {hh : List iO} {x : iV} (hs : st = [x]) : rsv 11 (.invokestatic 75) st hh = some (mX11_isShelf, [x], [], 0) := by
  subst hs
  exact rsv_S (n1 := 1) (by decide +kernel) ⟨Nat.le_refl 1, Or.inl rfl, Nat.zero_le _⟩
theorem metX_a (hls : l.stackTraces = false) (hd : 6 ≤ d) (ia : inI a = true) (c : ¬ (0 ≤ a ∧ a < 8)) : MetX l sc qEl (d + 1) [.inr (.inr 2), .inl a, .inl i] (hp A) "java/lang/IllegalArgumentException" := by
  refine thr_of (L := [some (.inr (.inr 2)), some (.inl a), some (.inl i)]) (n := 3) (pc := 7) (ik := 347) (is := 349) (ic := 351) (text := "no such shelf") (own := RX11) hls (by omega) mtab_El (okM_in mtab_El (by decide)) rfl ?_ rfl (by decide +kernel) (by decide +kernel) (by decide) thW_a ⟨by decide +kernel, by decide +kernel⟩ ⟨by decide +kernel, by decide +kernel, Or.inr ⟨by decide +kernel, by decide +kernel, by decide +kernel⟩⟩
  refine ch_f (by decide +kernel : fetch mX11_element 0 = some (.iload_n 1)) (s_ild (x := a) rfl) ?_
  refine ch_c (by decide +kernel : fetch mX11_element 1 = some (.invokestatic 75)) rfl (rs_shelf rfl) (by decide) (cl_shelf ia (bI_f c)) ?_
  exact ch_f (by decide +kernel : fetch mX11_element 4 = some (.ifCond .ne 14)) (s_ifn (q := 18) rfl rfl rfl) rfl
theorem metX_s (hls : l.stackTraces = false) (hd : 6 ≤ d) (hR : Rel A) (ia : inI a = true) (ii : inI i = true) (c : 0 ≤ a ∧ a < 8) (c2 : ¬ ((A.sh a.toNat).ho = 2 ∧ 0 ≤ i ∧ i < (A.sh a.toNat).sz)) : MetX l sc qEl (d + 1) [.inr (.inr 2), .inl a, .inl i] (hp A) "java/lang/IllegalStateException" := by
  have hS := hR.shs a.toNat (by omega)
  have hd8 : a.toNat < 8 := by omega
  have ja : inA a 8 = true := inA_of c.1 c.2 (by omega)
  have es := sh_at c.1 c.2
  have rs := rd_s (A := A) hd8
  have ho := hS.hv
  have iho : inI (A.sh a.toNat).ho = true := inI_of (by omega) (by omega)
  have fin : ∀ m, ChP sc (d + 1) mX11_element (hp A) m (0, [some (.inr (.inr 2)), some (.inl a), some (.inl i)], []) (44, [some (.inr (.inr 2)), some (.inl a), some (.inl i)], []) → MetX l sc qEl (d + 1) [.inr (.inr 2), .inl a, .inl i] (hp A) "java/lang/IllegalStateException" := fun m hm => thr_of (L := [some (.inr (.inr 2)), some (.inl a), some (.inl i)]) (n := m) (pc := 44) (ik := 354) (is := 356) (ic := 358) (text := "no row, or no such place") (own := RX11) hls (by omega) mtab_El (okM_in mtab_El (by decide)) rfl hm rfl (by decide +kernel) (by decide +kernel) (by decide) thW_s ⟨by decide +kernel, by decide +kernel⟩ ⟨by decide +kernel, by decide +kernel, Or.inr ⟨by decide +kernel, by decide +kernel, by decide +kernel⟩⟩
  have head : ∀ m G, ChP sc (d + 1) mX11_element (hp A) m (28, [some (.inr (.inr 2)), some (.inl a), some (.inl i)], [.inl 2, .inl (A.sh a.toNat).ho]) G → ChP sc (d + 1) mX11_element (hp A) (m + 9) (0, [some (.inr (.inr 2)), some (.inl a), some (.inl i)], []) G := fun m G hm => by
    refine ch_f (by decide +kernel : fetch mX11_element 0 = some (.iload_n 1)) (s_ild (x := a) rfl) ?_
    refine ch_c (by decide +kernel : fetch mX11_element 1 = some (.invokestatic 75)) rfl (rs_shelf rfl) (by decide) (cl_shelf ia (bI_t c)) ?_
    refine ch_f (by decide +kernel : fetch mX11_element 4 = some (.ifCond .ne 14)) (s_ift (q := 18) rfl rfl rfl) ?_
    refine ch_f (by decide +kernel : fetch mX11_element 18 = some (.aload_n 0)) (s_ald (r := 1) rfl) ?_
    refine ch_f (by decide +kernel : fetch mX11_element 19 = some (.getfield 63)) (s_gf (k := 1) rd_e (by rw [show oY mX11_element = 11 from rfl]; decide +kernel) rfl) ?_
    refine ch_f (by decide +kernel : fetch mX11_element 22 = some (.iload_n 1)) (s_ild (x := a) rfl) ?_
    refine ch_f (by decide +kernel : fetch mX11_element 23 = some .aaload) (s_aal (m := 106) rd_ss ja (by omega) (by omega)) ?_
    rw [es]
    refine ch_f (by decide +kernel : fetch mX11_element 24 = some (.getfield 79)) (s_gf (k := 0) rs (by rw [show oY mX11_element = 11 from rfl]; decide +kernel) rfl) ?_
    exact ch_f (by decide +kernel : fetch mX11_element 27 = some (.iconst 2)) s_ic hm
  by_cases y : (A.sh a.toNat).ho = 2
  · have c3 : ¬ (0 ≤ i ∧ i < (A.sh a.toNat).sz) := fun u => c2 ⟨y, u⟩
    have hpl : Call sp0 sc d mX5_hasPlace [.inr (.inr (107 + 2 * a.toNat + 2)), .inl i] (hp A) (fun x z => x = some (.inl 0) ∧ z = hp A) := Eq.mpr (hasPlace_eq (sp := sp0) (sc := sc) (d := d) hd8 hS.sz ii) ⟨by rw [bI_f c3], rfl⟩
    refine fin (8 + 9) (head 8 _ ?_)
    refine ch_f (by decide +kernel : fetch mX11_element 28 = some (.if_icmp .ne 16)) (s_icn (q := 44) iho rfl rfl (by rw [y]; rfl)) ?_
    refine ch_f (by decide +kernel : fetch mX11_element 31 = some (.aload_n 0)) (s_ald (r := 1) rfl) ?_
    refine ch_f (by decide +kernel : fetch mX11_element 32 = some (.getfield 63)) (s_gf (k := 1) rd_e (by rw [show oY mX11_element = 11 from rfl]; decide +kernel) rfl) ?_
    refine ch_f (by decide +kernel : fetch mX11_element 35 = some (.iload_n 1)) (s_ild (x := a) rfl) ?_
    refine ch_f (by decide +kernel : fetch mX11_element 36 = some .aaload) (s_aal (m := 106) rd_ss ja (by omega) (by omega)) ?_
    rw [es]
    refine ch_f (by decide +kernel : fetch mX11_element 37 = some (.iload_n 2)) (s_ild (x := i) rfl) ?_
    refine ch_c (by decide +kernel : fetch mX11_element 38 = some (.invokevirtual 341)) rfl (rsv_V (n1 := 1) (y1 := mX5_hasPlace) (kd := 2) (by rw [show oY mX11_element = 11 from rfl]; decide +kernel) rfl rs (by rw [show oY mX11_element = 11 from rfl]; decide +kernel) ⟨Or.inl rfl, Nat.zero_le _⟩) (by decide) hpl ?_
    exact ch_f (by decide +kernel : fetch mX11_element 41 = some (.ifCond .ne 14)) (s_ifn (q := 55) rfl rfl rfl) rfl
  · refine fin (1 + 9) (head 1 _ ?_)
    exact ch_f (by decide +kernel : fetch mX11_element 28 = some (.if_icmp .ne 16)) (s_ict (q := 44) iho rfl rfl (decide_eq_true y)) rfl
end MY
