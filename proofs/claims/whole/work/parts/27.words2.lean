set_option maxRecDepth 16384
/-! ===== words for the specs ===== -/
theorem inI_of {z : Int} (h0 : -2147483648 ≤ z) (h1 : z < 2147483648) : inI z = true := inI_iff.mpr ⟨h0, h1⟩
theorem inI_eq {z : Int} (h0 : -2147483648 ≤ z) (h1 : z < 2147483648) : (inI z = true) = True := eq_true (inI_of h0 h1)
theorem inJ_eq {z : Int} (h0 : -9223372036854775808 ≤ z) (h1 : z < 9223372036854775808) : (inJ z = true) = True := eq_true (inJ_iff.mpr ⟨h0, h1⟩)
theorem inA_eq {j : Int} {n : Nat} (h0 : 0 ≤ j) (h1 : j < n) (h2 : n ≤ 1000) : (inA j n = true) = True := by
  unfold inA
  rw [inI_of (by omega) (by omega)]
  simp only [Bool.true_and, Bool.and_eq_true, decide_eq_true_eq, eq_iff_iff, iff_true]
  exact ⟨h0, h1⟩
theorem inA_of {j : Int} {n : Nat} (h0 : 0 ≤ j) (h1 : j < n) (h2 : n ≤ 1000) : inA j n = true := of_eq_true (inA_eq h0 h1 h2)
theorem back_hp {A A' : iA} {L : List (Option iV)} {rest : List iV} (e1 : A'.ext.length = A.ext.length) (e2 : A.mc ≤ A'.mc) : back (hp A) (hp A') L rest = True := eq_true (back_same (by rw [hp_len, hp_len, e1]) e2)
noncomputable def bI (p : Prop) : Int := @ite Int p (Classical.propDecidable p) 1 0
theorem bI_t {p : Prop} (h : p) : bI p = 1 := if_pos h
theorem bI_f {p : Prop} (h : ¬ p) : bI p = 0 := if_neg h
theorem bI_T : bI True = 1 := bI_t trivial
theorem bI_F : bI False = 0 := bI_f id
theorem bI_0 {p : Prop} : (bI p = 0) = ¬ p := by unfold bI; split <;> simp_all
theorem bI_1 {p : Prop} : (bI p = 1) = p := by unfold bI; split <;> simp_all
theorem bI_in {p : Prop} : (inI (bI p) = true) = True := by unfold bI; split <;> simp [inI]
theorem cs_nil : cs [] = 0 := rfl
theorem cs_i {z : Int} {r : List iV} : cs (.inl z :: r) = 1 + cs r := rfl
theorem cs_r {z : Nat} {r : List iV} : cs (.inr (.inr z) :: r) = 1 + cs r := rfl
theorem cs_l {z : Int} {r : List iV} : cs (.inr (.inl z) :: r) = 2 + cs r := rfl
theorem st1_0 {o : Option iV} {L : List (Option iV)} {v : iV} : st1 (o :: L) 0 v = some (some v :: L) := by simp [st1, kill]
theorem st1_1 {o p : Option iV} {L : List (Option iV)} {v : iV} : st1 (o :: p :: L) 1 v = some ((if isJ (some o) then none else o) :: some v :: L) := by
  simp [st1, kill]; split <;> simp
theorem st1_s {o p : Option iV} {L : List (Option iV)} {n : Nat} {v : iV} : st1 (o :: p :: L) (n + 2) v = (match st1 (p :: L) (n + 1) v with | some L' => some (o :: L') | none => none) := by
  simp only [st1, List.length_cons, Nat.add_lt_add_iff_right]
  by_cases h : n < L.length
  · simp only [kill, h, if_true]
    show _ = some _
    have e : (o :: p :: L)[n + 1]? = (p :: L)[n]? := rfl
    rw [e]
    split <;> rfl
  · simp [h]
theorem isJ_i {z : Int} : isJ (some (some (.inl z))) = false := rfl
theorem isJ_r {z : Nat} : isJ (some (some (.inr (.inr z)))) = false := rfl
theorem isJ_n : isJ (some none) = false := rfl
theorem isJ_l {z : Int} : isJ (some (some (.inr (.inl z)))) = true := rfl
theorem st2_0 {o p : Option iV} {L : List (Option iV)} {v : iV} : st2 (o :: p :: L) 0 v = some (some v :: none :: L) := by simp [st2, kill]
theorem st2_1 {o p q : Option iV} {L : List (Option iV)} {v : iV} : st2 (o :: p :: q :: L) 1 v = some ((if isJ (some o) then none else o) :: some v :: none :: L) := by
  simp [st2, kill]; split <;> simp
theorem st2_s {o p : Option iV} {L : List (Option iV)} {n : Nat} {v : iV} : st2 (o :: p :: L) (n + 2) v = (match st2 (p :: L) (n + 1) v with | some L' => some (o :: L') | none => none) := by
  simp only [st2, List.length_cons]
  by_cases h : n + 2 + 1 < L.length + 1 + 1
  · have h2 : n + 1 + 1 < L.length + 1 := by omega
    simp only [kill, h, h2, if_true]
    show _ = some _
    have e : (o :: p :: L)[n + 1]? = (p :: L)[n]? := rfl
    rw [e]
    split <;> rfl
  · have h2 : ¬ n + 1 + 1 < L.length + 1 := by omega
    simp [h, h2]
theorem GK_no {sp : Nat → List iV → iH → Option (Option iV × iH)} {sc : List Int} {B : List Nat} {d y n pc : Nat} {L : List (Option iV)} {st : List iV} {h : iH} {Q : Option iV → iH → Prop} (e : B.contains pc = false) : GK sp sc B d y n pc L st h Q = G sp sc B d y n pc L st h Q := by unfold GK; rw [e]
theorem GK_yes {sp : Nat → List iV → iH → Option (Option iV × iH)} {sc : List Int} {B : List Nat} {d y n pc : Nat} {L : List (Option iV)} {st : List iV} {h : iH} {Q : Option iV → iH → Prop} (e : B.contains pc = true) : GK sp sc B d y n pc L st h Q = Run sp sc d y pc L st h Q := by unfold GK; rw [e]
