set_option maxRecDepth 16384
/-! ===== a valley in one row, as the reference holds it ===== -/
def rowAt (X : iVal) (e : Int) (i : Nat) : Int :=
  if i < 2 then X.num i else if i = 2 then X.cp else if i = 3 then e else if i = 4 then X.sl else if i < 11 then X.who ((i - 5 : Nat) : Int)
  else if i < 51 then (if (((i - 11) / 4 % 5 : Nat) : Int) < X.num (((i - 11) / 20 : Nat) : Int) then
      (if (i - 11) % 4 = 0 then (nK (X.nx (((i - 11) / 20 : Nat) : Int) (((i - 11) / 4 % 5 : Nat) : Int)) : Int)
      else if (i - 11) % 4 = 1 then nF (X.nx (((i - 11) / 20 : Nat) : Int) (((i - 11) / 4 % 5 : Nat) : Int))
      else if (i - 11) % 4 = 2 then X.dep (((i - 11) / 20 : Nat) : Int) (((i - 11) / 4 % 5 : Nat) : Int)
      else X.bnd (((i - 11) / 20 : Nat) : Int) (((i - 11) / 4 % 5 : Nat) : Int)) else 0)
  else if i < 101 then (if (((i - 51) / 5 % 5 : Nat) : Int) < X.num (((i - 51) / 25 : Nat) : Int) ∨ (((i - 51) % 5 : Nat) : Int) < X.num (1 - (((i - 51) / 25 : Nat) : Int)) then X.lik (((i - 51) / 25 : Nat) : Int) (((i - 51) / 5 % 5 : Nat) : Int) (((i - 51) % 5 : Nat) : Int) else 0)
  else (if (i - 101) % 4 = 0 then X.man (((i - 101) / 4 : Nat) : Int) else if (i - 101) % 4 = 1 then X.wom (((i - 101) / 4 : Nat) : Int) else if (i - 101) % 4 = 2 then X.sta (((i - 101) / 4 : Nat) : Int) else X.dds (((i - 101) / 4 : Nat) : Int))
def rowOf (X : iVal) (e : Int) : List Int := (List.range 117).map (rowAt X e)
theorem row_len {X : iVal} {e : Int} : (rowOf X e).length = 117 := by simp [rowOf]
theorem row_get {X : iVal} {e : Int} {i : Nat} (h : i < 117) : (rowOf X e).getD i 0 = rowAt X e i := by
  simp [rowOf, List.getD_eq_getElem?_getD, List.getElem?_map, List.getElem?_range h]
theorem row_ext {X : iVal} {e : Int} {l : List Int} (h1 : l.length = 117) (h2 : ∀ i, i < 117 → l.getD i 0 = rowAt X e i) : l = rowOf X e := by
  apply List.ext_getElem
  · rw [h1, row_len]
  · intro i a b
    have := h2 i (by omega)
    rw [List.getD_eq_getElem?_getD, List.getElem?_eq_getElem a] at this
    rw [Option.getD_some] at this
    rw [this]
    simp [rowOf]
theorem row_set {X X' : iVal} {e e' : Int} {j : Nat} {v : Int} (hj : j < 117) (h1 : rowAt X' e' j = v) (h2 : ∀ i, i < 117 → i ≠ j → rowAt X' e' i = rowAt X e i) : (rowOf X e).set j v = rowOf X' e' := by
  apply row_ext
  · rw [List.length_set, row_len]
  · intro i hi
    rw [List.getD_eq_getElem?_getD, List.getElem?_set]
    by_cases c : j = i
    · subst c
      rw [if_pos rfl, if_pos (by rw [row_len]; exact hj), Option.getD_some, h1]
    · rw [if_neg c, ← List.getD_eq_getElem?_getD, row_get hi, h2 i hi (fun z => c z.symm)]
section ROW
variable {X : iVal} {e : Int}
theorem r_num {s : Int} (h0 : 0 ≤ s) (h1 : s < 2) : (rowOf X e).getD s.toNat 0 = X.num s := by
  have : s = 0 ∨ s = 1 := by omega
  rcases this with rfl | rfl <;> rw [row_get (by decide)] <;> rfl
theorem r_cp : (rowOf X e).getD 2 0 = X.cp := by rw [row_get (by decide)]; rfl
theorem r_dy : (rowOf X e).getD 3 0 = e := by rw [row_get (by decide)]; rfl
theorem r_sl : (rowOf X e).getD 4 0 = X.sl := by rw [row_get (by decide)]; rfl
theorem r_who {i : Int} (h0 : 0 ≤ i) (h1 : i < 6) : (rowOf X e).getD (5 + i).toNat 0 = X.who i := by
  rw [row_get (by omega)]
  unfold rowAt
  rw [if_neg (by omega), if_neg (by omega), if_neg (by omega), if_neg (by omega), if_pos (by omega)]
  congr 1; omega
theorem r_one {s a w : Int} (h0 : 0 ≤ s) (h1 : s < 2) (h2 : 0 ≤ a) (h3 : a < X.num s) (h4 : X.num s ≤ 5) (hw : 0 ≤ w) (hw2 : w < 4) : (rowOf X e).getD (11 + 4 * (5 * s + a) + w).toNat 0 = if w = 0 then (nK (X.nx s a) : Int) else if w = 1 then nF (X.nx s a) else if w = 2 then X.dep s a else X.bnd s a := by
  rw [row_get (by omega)]
  unfold rowAt
  have es : ((((11 + 4 * (5 * s + a) + w).toNat - 11) / 20 : Nat) : Int) = s := by omega
  have ea : ((((11 + 4 * (5 * s + a) + w).toNat - 11) / 4 % 5 : Nat) : Int) = a := by omega
  rw [if_neg (by omega), if_neg (by omega), if_neg (by omega), if_neg (by omega), if_neg (by omega), if_pos (by omega), es, ea, if_pos h3]
  have : w = 0 ∨ w = 1 ∨ w = 2 ∨ w = 3 := by omega
  rcases this with rfl | rfl | rfl | rfl
  · rw [if_pos (by omega), if_pos rfl]
  · rw [if_neg (by omega), if_pos (by omega), if_neg (by omega), if_pos rfl]
  · rw [if_neg (by omega), if_neg (by omega), if_pos (by omega), if_neg (by omega), if_neg (by omega), if_pos rfl]
  · rw [if_neg (by omega), if_neg (by omega), if_neg (by omega), if_neg (by omega), if_neg (by omega), if_neg (by omega)]
theorem r_lik {s a b : Int} (h0 : 0 ≤ s) (h1 : s < 2) (h2 : 0 ≤ a) (h3 : a < 5) (h4 : 0 ≤ b) (h5 : b < 5) (h6 : a < X.num s ∨ b < X.num (1 - s)) : (rowOf X e).getD (51 + 25 * s + 5 * a + b).toNat 0 = X.lik s a b := by
  rw [row_get (by omega)]
  unfold rowAt
  have es : ((((51 + 25 * s + 5 * a + b).toNat - 51) / 25 : Nat) : Int) = s := by omega
  have ea : ((((51 + 25 * s + 5 * a + b).toNat - 51) / 5 % 5 : Nat) : Int) = a := by omega
  have eb : ((((51 + 25 * s + 5 * a + b).toNat - 51) % 5 : Nat) : Int) = b := by omega
  rw [if_neg (by omega), if_neg (by omega), if_neg (by omega), if_neg (by omega), if_neg (by omega), if_neg (by omega), if_pos (by omega), es, ea, eb, if_pos h6]
theorem r_cpl {c w : Int} (h0 : 0 ≤ c) (h1 : c < 4) (hw : 0 ≤ w) (hw2 : w < 4) : (rowOf X e).getD (101 + 4 * c + w).toNat 0 = if w = 0 then X.man c else if w = 1 then X.wom c else if w = 2 then X.sta c else X.dds c := by
  rw [row_get (by omega)]
  unfold rowAt
  have ec : ((((101 + 4 * c + w).toNat - 101) / 4 : Nat) : Int) = c := by omega
  rw [if_neg (by omega), if_neg (by omega), if_neg (by omega), if_neg (by omega), if_neg (by omega), if_neg (by omega), if_neg (by omega), ec]
  have : w = 0 ∨ w = 1 ∨ w = 2 ∨ w = 3 := by omega
  rcases this with rfl | rfl | rfl | rfl
  · rw [if_pos (by omega), if_pos rfl]
  · rw [if_neg (by omega), if_pos (by omega), if_neg (by omega), if_pos rfl]
  · rw [if_neg (by omega), if_neg (by omega), if_pos (by omega), if_neg (by omega), if_neg (by omega), if_pos rfl]
  · rw [if_neg (by omega), if_neg (by omega), if_neg (by omega), if_neg (by omega), if_neg (by omega), if_neg (by omega)]
end ROW
