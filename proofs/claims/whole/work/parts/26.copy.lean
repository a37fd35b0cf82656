set_option maxRecDepth 16384
/-! ===== copies and makings ===== -/
section GC2
variable {sp : Nat → List iV → iH → Option (Option iV × iH)} {sc : List Int} {B : List Nat} {d y n pc : Nat} {L : List (Option iV)} {st : List iV} {h : iH} {Q : Option iV → iH → Prop}
theorem G_copyI {idx a c t : Nat} {s dp k : Int} {r : List iV} {xs ys : List Int} (hf : fetch y pc = some (.invokestatic idx)) (hx : lk2 xTab (oY y) idx = none) (hy : isIn yTab (oY y) idx = true) (ha : h.1[a]? = some (.inr (.inl (t, xs)))) (hc : h.1[c]? = some (.inr (.inl (t, ys)))) (ht : t < 2) : G sp sc B (d + 1) y (n + 1) pc L (.inl k :: .inl dp :: .inr (.inr (c + 2)) :: .inl s :: .inr (.inr (a + 2)) :: r) h Q = (cs r ≤ 8 ∧ in3 s dp k xs.length ys.length = true ∧ GK sp sc B (d + 1) y n (pc + 3) L r (h.1.set c (.inr (.inl (t, cpy xs ys s.toNat dp.toNat k.toNat))), h.2) Q) := by
  rw [G_at hf]
  simp only [wpI, hx, hy, stY, if_true, ha, hc]
  by_cases h8 : cs r ≤ 8
  · simp only [h8, if_true, true_and, decide_true, Bool.and_true, ht]
    by_cases h3 : in3 s dp k xs.length ys.length = true
    · simp only [h3, if_true, true_and]; rfl
    · simp only [h3, if_false, false_and, Bool.false_eq_true]
  · simp only [h8, if_false, false_and]
theorem G_copyR {idx a c : Nat} {s dp k : Int} {r : List iV} {xs ys : List Nat} (hf : fetch y pc = some (.invokestatic idx)) (hx : lk2 xTab (oY y) idx = none) (hy : isIn yTab (oY y) idx = true) (ha : h.1[a]? = some (.inr (.inr (3, xs)))) (hc : h.1[c]? = some (.inr (.inr (3, ys)))) (hn : ∀ x, x ∈ xs → ∃ v ci fs, x = v + 2 ∧ h.1[v]? = some (.inl (ci, fs)) ∧ asT 3 ci = true) : G sp sc B (d + 1) y (n + 1) pc L (.inl k :: .inl dp :: .inr (.inr (c + 2)) :: .inl s :: .inr (.inr (a + 2)) :: r) h Q = (cs r ≤ 8 ∧ in3 s dp k xs.length ys.length = true ∧ GK sp sc B (d + 1) y n (pc + 3) L r (h.1.set c (.inr (.inr (3, cpy xs ys s.toNat dp.toNat k.toNat))), h.2) Q) := by
  rw [G_at hf]
  simp only [wpI, hx, hy, stY, if_true, ha, hc]
  by_cases h8 : cs r ≤ 8
  · simp only [h8, if_true, true_and, decide_true, Bool.and_true]
    by_cases h3 : in3 s dp k xs.length ys.length = true
    · rw [h3, Bool.true_and, if_pos]
      · simp only [true_and]
        rfl
      · rw [List.all_eq_true]
        intro x hx
        obtain ⟨v, ci, fs, rfl, e1, e2⟩ := hn x hx
        simp only [e1, e2]
    · simp only [Bool.not_eq_true] at h3
      rw [h3, Bool.false_and]
      simp
  · simp only [h8, if_false, false_and]
/-- all references that the caller holds, and that the cells hold, are good -/
def good (h : iH) (L : List (Option iV)) (st : List iV) : Prop := (vL h.1.length L && (st.all (vV h.1.length) && h.1.all (vO h.1.length))) = true
theorem G_new {idx ci : Nat} (hf : fetch y pc = some (.new idx)) (hn : lk2 nTab (oY y) idx = some ci) : G sp sc B d y (n + 1) pc L st h Q = (good h L st ∧ GK sp sc B d y n (pc + 3) L (.inr (.inr (h.1.length + 2)) :: st) (h.1 ++ [.inl (ci, dfT ci)], h.2 + 1) Q) := by
  rw [G_at hf]
  simp only [wpI, stN, hn]
  rfl
theorem G_newI {k : Int} (hf : fetch y pc = some (.newarray .int)) (h0 : 0 ≤ k) (h1 : k ≤ 1000) : G sp sc B d y (n + 1) pc L (.inl k :: st) h Q = (good h L st ∧ GK sp sc B d y n (pc + 2) L (.inr (.inr (h.1.length + 2)) :: st) (h.1 ++ [.inr (.inl (0, List.replicate k.toNat 0))], h.2 + 1) Q) := by
  rw [G_at hf]
  simp only [wpI, stN, h0, h1, and_self, if_true]
  rfl
theorem G_newJ {k : Int} (hf : fetch y pc = some (.newarray .long)) (h0 : 0 ≤ k) (h1 : k ≤ 1000) : G sp sc B d y (n + 1) pc L (.inl k :: st) h Q = (good h L st ∧ GK sp sc B d y n (pc + 2) L (.inr (.inr (h.1.length + 2)) :: st) (h.1 ++ [.inr (.inl (1, List.replicate k.toNat 0))], h.2 + 1) Q) := by
  rw [G_at hf]
  simp only [wpI, stN, h0, h1, and_self, if_true]
  rfl
theorem G_newZ {k : Int} (hf : fetch y pc = some (.newarray .boolean)) (h0 : 0 ≤ k) (h1 : k ≤ 1000) : G sp sc B d y (n + 1) pc L (.inl k :: st) h Q = (good h L st ∧ GK sp sc B d y n (pc + 2) L (.inr (.inr (h.1.length + 2)) :: st) (h.1 ++ [.inr (.inl (2, List.replicate k.toNat 0))], h.2 + 1) Q) := by
  rw [G_at hf]
  simp only [wpI, stN, h0, h1, and_self, if_true]
  rfl
theorem G_newR {idx t : Nat} {k : Int} (hf : fetch y pc = some (.anewarray idx)) (hn : lk2 aTab (oY y) idx = some t) (h0 : 0 ≤ k) (h1 : k ≤ 1000) : G sp sc B d y (n + 1) pc L (.inl k :: st) h Q = (good h L st ∧ GK sp sc B d y n (pc + 3) L (.inr (.inr (h.1.length + 2)) :: st) (h.1 ++ [.inr (.inr (t, List.replicate k.toNat 0))], h.2 + 1) Q) := by
  rw [G_at hf]
  simp only [wpI, stN, hn, h0, h1, and_self, if_true]
  rfl
end GC2
