set_option maxRecDepth 16384
/-! ===== one more of a side ===== -/
def iVal.addO (X : iVal) (s : Int) (x : Nat) : iVal := (iVal.mk (X.on.set s.toNat (X.num s + 1)) (X.na.set (s * 5 + X.num s).toNat (x + 2)) X.de X.bo X.li X.cp X.me X.wo X.sa X.dd X.wh X.sl X.dy)
section ADD
variable {X : iVal} {e : Int}
theorem num_addO (hO : OkV X) {s t : Int} {x : Nat} (h0 : 0 ≤ s) (h1 : s < 2) (g0 : 0 ≤ t) : (X.addO s x).num t = if s = t then X.num s + 1 else X.num t := by
  show (X.on.set s.toNat (X.num s + 1)).getD t.toNat 0 = _
  rw [gs h0 g0 (by rw [hO.lon]; omega)]; rfl
theorem nr_addO (hO : OkV X) {s t a : Int} {x : Nat} (h0 : 0 ≤ s) (h1 : s < 2) (h2 : X.num s < 5) (g0 : 0 ≤ t) (g1 : t < 2) (g2 : 0 ≤ a) (g3 : a < 5) : (X.addO s x).nr t a = if s = t ∧ X.num s = a then x + 2 else X.nr t a := by
  have nn := hO.num h0 h1
  have ln := hO.lna
  show (X.na.set (s * 5 + X.num s).toNat (x + 2)).getD (t * 5 + a).toNat 0 = _
  rw [List.getD_eq_getElem?_getD, List.getElem?_set]
  by_cases c : s = t ∧ X.num s = a
  · rw [if_pos c, if_pos (by obtain ⟨rfl, rfl⟩ := c; rfl), if_pos (by omega)]; rfl
  · rw [if_neg c, if_neg (by omega), ← List.getD_eq_getElem?_getD]; rfl
theorem okV_addO (hO : OkV X) {s : Int} {x : Nat} (h0 : 0 ≤ s) (h1 : s < 2) (h2 : X.num s < 5) (hx : NatOK x) : OkV (X.addO s x) := by
  have nn := hO.num h0 h1
  have N := fun t (g0 : 0 ≤ t) => @num_addO X hO s t x h0 h1 g0
  have ge : ∀ t, 0 ≤ t → X.num t ≤ (X.addO s x).num t := fun t g => by
    rw [N t g]
    split
    · rename_i c; subst c; omega
    · exact Int.le_refl _
  have NR := fun t a g0 g1 g2 g3 => @nr_addO X hO s t a x h0 h1 h2 g0 g1 g2 g3
  refine (OkV.mk (by show (X.on.set _ _).length = 2; rw [List.length_set]; exact hO.lon) (by show (X.na.set _ _).length = 10; rw [List.length_set]; exact hO.lna) hO.lde hO.lbo hO.lli hO.lme hO.lwo hO.lsa hO.ldd hO.lwh (?_) (?_) hO.cp hO.sl (fun t a g0 g1 g2 g3 => ?_) (fun c g0 g1 => ?_) (fun c g0 g1 => ?_) hO.sta hO.dds hO.ddg hO.who hO.lik (fun t a g0 g1 g2 g3 => ?_) (fun t a g0 g1 g2 g3 => ?_) (fun t a g0 g1 g2 g3 => ?_) (fun t a g0 g1 g2 g3 => ?_) (fun t a g0 g1 g2 g3 => ?_) (fun t a b g0 g1 g2 g3 g4 g5 g6 => ?_) hO.ucpl)
  · rw [N 0 (by omega)]
    have := hO.n0
    split
    · rename_i c; subst c; omega
    · exact this
  · rw [N 1 (by omega)]
    have := hO.n1
    split
    · rename_i c; subst c; omega
    · exact this
  · show (X.addO s x).nr t a = (X.addO s x).nr t a - 2 + 2 ∧ NatOK ((X.addO s x).nr t a - 2)
    rw [NR t a g0 g1 g2 g3]
    split
    · exact ⟨rfl, hx⟩
    · exact hO.nat t a g0 g1 g2 g3
  · have m := hO.man c g0 g1
    have := ge 0 (by omega)
    exact ⟨m.1, by show X.man c < _; omega⟩
  · have m := hO.wom c g0 g1
    have := ge 1 (by omega)
    exact ⟨m.1, by show X.wom c < _; omega⟩
  · have m := hO.dep t a g0 g1 g2 g3
    have := ge t g0
    rcases m with z | z
    · left; exact z
    · right; exact ⟨z.1, by show X.dep t a < _; omega⟩
  · have m := hO.bnd t a g0 g1 g2 g3
    have := ge (1 - t) (by omega)
    rcases m with z | z
    · left; exact z
    · right; exact ⟨z.1, by show X.bnd t a < _; omega⟩
  · have := ge t g0
    have nt := hO.num g0 g1
    rw [NR t a g0 g1 (by omega) g3]
    rw [N t g0] at g2 this
    by_cases c : s = t
    · subst c
      rw [if_pos rfl] at g2
      rw [if_neg (by omega)]
      exact hO.unat s a g0 g1 (by omega) g3
    · rw [if_neg (fun z => c z.1)]
      rw [if_neg c] at g2
      exact hO.unat t a g0 g1 g2 g3
  · have := ge t g0
    exact hO.udep t a g0 g1 (by omega) g3
  · have := ge t g0
    exact hO.ubnd t a g0 g1 (by omega) g3
  · have a1 := ge t g0
    have a2 := ge (1 - t) (by omega)
    exact hO.ulik t a b g0 g1 g2 g3 g4 g5 (by omega)
/-- the reference's row behind it -/
def aoS (X : iVal) (e s : Int) (x : Nat) : List Int := ((((rowOf X e).set (aOne s (X.num s) 0).toNat (nK x)).set (aOne s (X.num s) 1).toNat (nF x)).set (aOne s (X.num s) 2).toNat (-1)).set (aOne s (X.num s) 3).toNat (-1)
def aoL (s k : Int) (l : List Int) (j : Int) : List Int := (l.set (aLik s k j).toNat 10).set (aLik (1 - s) j k).toNat 10
theorem aoL_get {s k j : Int} {l : List Int} {i : Nat} (hl : l.length = 117) (h0 : 0 ≤ s) (h1 : s < 2) (h2 : 0 ≤ k) (h3 : k < 5) (h4 : 0 ≤ j) (h5 : j < 5) : (aoL s k l j).getD i 0 = if (aLik (1 - s) j k).toNat = i ∨ (aLik s k j).toNat = i then 10 else l.getD i 0 := by
  have G : ∀ (l : List Int) (j : Nat) (v : Int), j < l.length → (l.set j v).getD i 0 = if j = i then v else l.getD i 0 := fun l j v hj => by
    rw [List.getD_eq_getElem?_getD, List.getElem?_set]
    by_cases c : j = i
    · rw [if_pos c, if_pos c, if_pos (by omega), Option.getD_some]
    · rw [if_neg c, if_neg c, List.getD_eq_getElem?_getD]
  unfold aoL
  rw [G _ _ _ (by rw [List.length_set, hl]; unfold aLik; omega), G _ _ _ (by rw [hl]; unfold aLik; omega)]
  by_cases c1 : (aLik (1 - s) j k).toNat = i
  · rw [if_pos c1, if_pos (Or.inl c1)]
  · rw [if_neg c1]
    by_cases c2 : (aLik s k j).toNat = i
    · rw [if_pos c2, if_pos (Or.inr c2)]
    · rw [if_neg c2, if_neg (fun z => z.elim c1 c2)]
theorem aoL_len {s k j : Int} {l : List Int} : (aoL s k l j).length = l.length := by unfold aoL; rw [List.length_set, List.length_set]
theorem w_addO (hO : OkV X) {s : Int} {x : Nat} (h0 : 0 ≤ s) (h1 : s < 2) (h2 : X.num s < 5) (hx : NatOK x) : (aoL s (X.num s) (aoL s (X.num s) (aoL s (X.num s) (aoL s (X.num s) (aoL s (X.num s) (aoS X e s x) 0) 1) 2) 3) 4).set s.toNat (X.num s + 1) = rowOf (X.addO s x) e := by
  have nn := hO.num h0 h1
  have rl := @row_len X e
  have ls : (aoS X e s x).length = 117 := by unfold aoS; simp only [List.length_set, row_len]
  apply row_ext
  · simp only [List.length_set, aoL_len, ls]
  · intro i hi
    have G : ∀ (l : List Int) (j : Nat) (v : Int), j < l.length → (l.set j v).getD i 0 = if j = i then v else l.getD i 0 := fun l j v hj => by
      rw [List.getD_eq_getElem?_getD, List.getElem?_set]
      by_cases c : j = i
      · rw [if_pos c, if_pos c, if_pos (by omega), Option.getD_some]
      · rw [if_neg c, if_neg c, List.getD_eq_getElem?_getD]
    have k5 := h2
    rw [G _ _ _ (by simp only [aoL_len, ls]; omega), aoL_get (by simp only [aoL_len, ls]) h0 h1 nn.1 k5 (by omega) (by omega), aoL_get (by simp only [aoL_len, ls]) h0 h1 nn.1 k5 (by omega) (by omega), aoL_get (by simp only [aoL_len, ls]) h0 h1 nn.1 k5 (by omega) (by omega), aoL_get (by simp only [aoL_len, ls]) h0 h1 nn.1 k5 (by omega) (by omega), aoL_get ls h0 h1 nn.1 k5 (by omega) (by omega)]
    unfold aoS aLik aOne
    rw [G _ _ _ (by simp only [List.length_set]; omega), G _ _ _ (by simp only [List.length_set]; omega), G _ _ _ (by simp only [List.length_set]; omega), G _ _ _ (by omega), row_get hi]
    by_cases r1 : i < 11
    · rw [ro_lo r1, ro_lo r1]
      by_cases a1 : i < 2
      · rw [if_pos a1, if_pos a1, num_addO hO h0 h1 (by omega)]
        by_cases c : s.toNat = i
        · rw [if_pos c, if_pos (by omega)]
        · rw [if_neg c, if_neg (by omega), if_neg (by omega), if_neg (by omega), if_neg (by omega), if_neg (by omega), if_neg (by omega), if_neg (by omega), if_neg (by omega), if_neg (by omega), if_neg (by omega)]
      · rw [if_neg (by omega), if_neg (by omega), if_neg (by omega), if_neg (by omega), if_neg (by omega), if_neg (by omega), if_neg (by omega), if_neg (by omega), if_neg (by omega), if_neg (by omega), if_neg a1, if_neg a1]; rfl
    by_cases r2 : i < 51
    · rw [if_neg (by omega), if_neg (by omega), if_neg (by omega), if_neg (by omega), if_neg (by omega), if_neg (by omega), ro_one (by omega) r2, ro_one (by omega) r2, num_addO hO h0 h1 (by omega)]
      have hT0 : 0 ≤ (((i - 11) / 20 : Nat) : Int) := by omega
      have hK0 : 0 ≤ (((i - 11) / 4 % 5 : Nat) : Int) := by omega
      have hT : (((i - 11) / 20 : Nat) : Int) < 2 := by omega
      have hK : (((i - 11) / 4 % 5 : Nat) : Int) < 5 := by omega
      have hi2 : (i : Int) = 11 + 4 * (5 * (((i - 11) / 20 : Nat) : Int) + (((i - 11) / 4 % 5 : Nat) : Int)) + (((i - 11) % 4 : Nat) : Int) := by omega
      have w4 : (i - 11) % 4 = 0 ∨ (i - 11) % 4 = 1 ∨ (i - 11) % 4 = 2 ∨ (i - 11) % 4 = 3 := by omega
      generalize (((i - 11) / 20 : Nat) : Int) = T at *
      generalize (((i - 11) / 4 % 5 : Nat) : Int) = K at *
      by_cases c : s = T ∧ X.num s = K
      · obtain ⟨rfl, rfl⟩ := c
        have nx1 : (X.addO s x).nx s (X.num s) = x := by
          unfold iVal.nx
          rw [nr_addO hO h0 h1 h2 h0 h1 nn.1 h2, if_pos ⟨rfl, rfl⟩]; rfl
        have d1 : (X.addO s x).dep s (X.num s) = -1 := hO.udep s (X.num s) h0 h1 (Int.le_refl _) h2
        have d2 : (X.addO s x).bnd s (X.num s) = -1 := hO.ubnd s (X.num s) h0 h1 (Int.le_refl _) h2
        rw [if_pos (rfl : s = s), if_pos (show X.num s < X.num s + 1 by omega), nx1, d1, d2]
        rcases w4 with q | q | q | q
        · rw [if_neg (by omega), if_neg (by omega), if_neg (by omega), if_pos (by omega), if_pos q]
        · rw [if_neg (by omega), if_neg (by omega), if_pos (by omega), if_neg (by omega), if_pos q]
        · rw [if_neg (by omega), if_pos (by omega), if_neg (by omega), if_neg (by omega), if_pos q]
        · rw [if_pos (by omega), if_neg (by omega), if_neg (by omega), if_neg (by omega)]
      · rw [if_neg (by omega), if_neg (by omega), if_neg (by omega), if_neg (by omega)]
        have nx1 : (X.addO s x).nx T K = X.nx T K := by
          unfold iVal.nx
          rw [nr_addO hO h0 h1 h2 hT0 hT hK0 hK, if_neg c]
        have cond : (K < (if s = T then X.num s + 1 else X.num T)) ↔ K < X.num T := by
          by_cases d : s = T
          · rw [if_pos d]; subst d; omega
          · rw [if_neg d]
        by_cases u : K < X.num T
        · rw [if_pos u, if_pos (cond.mpr u), nx1]; rfl
        · rw [if_neg u, if_neg (fun z => u (cond.mp z))]
    by_cases r3 : i < 101
    · rw [if_neg (by omega : ¬ s.toNat = i), ro_lik (by omega) r3, ro_lik (by omega) r3, num_addO hO h0 h1 (by omega), num_addO hO h0 h1 (by omega)]
      have hT0 : 0 ≤ (((i - 51) / 25 : Nat) : Int) := by omega
      have hT : (((i - 51) / 25 : Nat) : Int) < 2 := by omega
      have hK0 : 0 ≤ (((i - 51) / 5 % 5 : Nat) : Int) := by omega
      have hK : (((i - 51) / 5 % 5 : Nat) : Int) < 5 := by omega
      have hL0 : 0 ≤ (((i - 51) % 5 : Nat) : Int) := by omega
      have hL : (((i - 51) % 5 : Nat) : Int) < 5 := by omega
      have hi2 : (i : Int) = 51 + 25 * (((i - 51) / 25 : Nat) : Int) + 5 * (((i - 51) / 5 % 5 : Nat) : Int) + (((i - 51) % 5 : Nat) : Int) := by omega
      generalize (((i - 51) / 25 : Nat) : Int) = T at *
      generalize (((i - 51) / 5 % 5 : Nat) : Int) = K at *
      generalize (((i - 51) % 5 : Nat) : Int) = L at *
      have lk : (X.addO s x).lik T K L = X.lik T K L := rfl
      rw [lk]
      by_cases c : (s = T ∧ X.num s = K) ∨ (s = 1 - T ∧ X.num s = L)
      · have l10 : X.lik T K L = 10 := hO.ulik T K L hT0 hT hK0 hK hL0 hL (by
          rcases c with ⟨rfl, z⟩ | ⟨z, y⟩
          · left; omega
          · right; rw [← z]; omega)
        have cond : K < (if s = T then X.num s + 1 else X.num T) ∨ L < (if s = 1 - T then X.num s + 1 else X.num (1 - T)) := by
          rcases c with ⟨z, y⟩ | ⟨z, y⟩
          · left; rw [if_pos z]; omega
          · right; rw [if_pos z]; omega
        rw [if_pos cond, l10]
        split
        · rfl
        · split
          · rfl
          · split
            · rfl
            · split
              · rfl
              · split
                · rfl
                · exfalso; omega
      · have cond : (K < (if s = T then X.num s + 1 else X.num T) ∨ L < (if s = 1 - T then X.num s + 1 else X.num (1 - T))) ↔ (K < X.num T ∨ L < X.num (1 - T)) := by
          by_cases d : s = T
          · have d2 : ¬ s = 1 - T := by omega
            rw [if_pos d, if_neg d2]; subst d; omega
          · have d2 : s = 1 - T := by omega
            rw [if_neg d, if_pos d2, ← d2]; omega
        rw [if_neg (by omega), if_neg (by omega), if_neg (by omega), if_neg (by omega), if_neg (by omega), if_neg (by omega), if_neg (by omega), if_neg (by omega), if_neg (by omega)]
        by_cases u : K < X.num T ∨ L < X.num (1 - T)
        · rw [if_pos u, if_pos (cond.mpr u)]
        · rw [if_neg u, if_neg (fun z => u (cond.mp z))]
    · rw [if_neg (by omega), if_neg (by omega), if_neg (by omega), if_neg (by omega), if_neg (by omega), if_neg (by omega), if_neg (by omega), if_neg (by omega), if_neg (by omega), if_neg (by omega), ro_cpl (by omega), ro_cpl (by omega)]; rfl
end ADD
