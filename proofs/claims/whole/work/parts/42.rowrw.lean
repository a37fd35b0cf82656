set_option maxRecDepth 16384
/-! ===== the reference's row: places, reads, writes ===== -/
def aOne (s k w : Int) : Int := 11 + 4 * (5 * s + k) + w
def aLik (s a b : Int) : Int := 51 + 25 * s + 5 * a + b
def aCpl (c w : Int) : Int := 101 + 4 * c + w
section ROWW
variable {X X' : iVal} {e e' : Int} {i : Nat}
theorem ro_lo (h : i < 11) : rowAt X e i = if i < 2 then X.num i else if i = 2 then X.cp else if i = 3 then e else if i = 4 then X.sl else X.who ((i - 5 : Nat) : Int) := by
  unfold rowAt
  rw [if_pos (show i < 11 from h)]
theorem ro_one (h : 11 ≤ i) (h2 : i < 51) : rowAt X e i = if (((i - 11) / 4 % 5 : Nat) : Int) < X.num (((i - 11) / 20 : Nat) : Int) then
      (if (i - 11) % 4 = 0 then (nK (X.nx (((i - 11) / 20 : Nat) : Int) (((i - 11) / 4 % 5 : Nat) : Int)) : Int)
      else if (i - 11) % 4 = 1 then nF (X.nx (((i - 11) / 20 : Nat) : Int) (((i - 11) / 4 % 5 : Nat) : Int))
      else if (i - 11) % 4 = 2 then X.dep (((i - 11) / 20 : Nat) : Int) (((i - 11) / 4 % 5 : Nat) : Int)
      else X.bnd (((i - 11) / 20 : Nat) : Int) (((i - 11) / 4 % 5 : Nat) : Int)) else 0 := by
  unfold rowAt
  rw [if_neg (by omega), if_neg (by omega), if_neg (by omega), if_neg (by omega), if_neg (by omega), if_pos h2]
theorem ro_lik (h : 51 ≤ i) (h2 : i < 101) : rowAt X e i = if (((i - 51) / 5 % 5 : Nat) : Int) < X.num (((i - 51) / 25 : Nat) : Int) ∨ (((i - 51) % 5 : Nat) : Int) < X.num (1 - (((i - 51) / 25 : Nat) : Int)) then X.lik (((i - 51) / 25 : Nat) : Int) (((i - 51) / 5 % 5 : Nat) : Int) (((i - 51) % 5 : Nat) : Int) else 0 := by
  unfold rowAt
  rw [if_neg (by omega), if_neg (by omega), if_neg (by omega), if_neg (by omega), if_neg (by omega), if_neg (by omega), if_pos h2]
theorem ro_cpl (h : 101 ≤ i) : rowAt X e i = if (i - 101) % 4 = 0 then X.man (((i - 101) / 4 : Nat) : Int) else if (i - 101) % 4 = 1 then X.wom (((i - 101) / 4 : Nat) : Int) else if (i - 101) % 4 = 2 then X.sta (((i - 101) / 4 : Nat) : Int) else X.dds (((i - 101) / 4 : Nat) : Int) := by
  unfold rowAt
  rw [if_neg (by omega), if_neg (by omega), if_neg (by omega), if_neg (by omega), if_neg (by omega), if_neg (by omega), if_neg (by omega)]
theorem inA_one {s k w : Int} (h0 : 0 ≤ s) (h1 : s < 2) (h2 : 0 ≤ k) (h3 : k < 5) (h4 : 0 ≤ w) (h5 : w < 4) : inA (aOne s k w) 117 = true := inA_of (by unfold aOne; omega) (by unfold aOne; omega) (by omega)
theorem inA_lik {s a b : Int} (h0 : 0 ≤ s) (h1 : s < 2) (h2 : 0 ≤ a) (h3 : a < 5) (h4 : 0 ≤ b) (h5 : b < 5) : inA (aLik s a b) 117 = true := inA_of (by unfold aLik; omega) (by unfold aLik; omega) (by omega)
theorem inA_cpl {c w : Int} (h0 : 0 ≤ c) (h1 : c < 4) (h4 : 0 ≤ w) (h5 : w < 4) : inA (aCpl c w) 117 = true := inA_of (by unfold aCpl; omega) (by unfold aCpl; omega) (by omega)
theorem q_num {s : Int} (h0 : 0 ≤ s) (h1 : s < 2) : (rowOf X e).getD (0 + s).toNat 0 = X.num s := by rw [Int.zero_add]; exact r_num h0 h1
theorem q_n0 : (rowOf X e).getD 0 0 = X.num 0 := r_num (s := 0) (by omega) (by omega)
theorem q_n1 : (rowOf X e).getD 1 0 = X.num 1 := r_num (s := 1) (by omega) (by omega)
theorem q_kind {s a : Int} (h0 : 0 ≤ s) (h1 : s < 2) (h2 : 0 ≤ a) (h3 : a < X.num s) (h4 : X.num s ≤ 5) : (rowOf X e).getD (aOne s a 0).toNat 0 = nK (X.nx s a) := r_one h0 h1 h2 h3 h4 (by omega) (by omega)
theorem q_fig {s a : Int} (h0 : 0 ≤ s) (h1 : s < 2) (h2 : 0 ≤ a) (h3 : a < X.num s) (h4 : X.num s ≤ 5) : (rowOf X e).getD (aOne s a 1).toNat 0 = nF (X.nx s a) := r_one h0 h1 h2 h3 h4 (by omega) (by omega)
theorem q_dep {s a : Int} (h0 : 0 ≤ s) (h1 : s < 2) (h2 : 0 ≤ a) (h3 : a < X.num s) (h4 : X.num s ≤ 5) : (rowOf X e).getD (aOne s a 2).toNat 0 = X.dep s a := r_one h0 h1 h2 h3 h4 (by omega) (by omega)
theorem q_bnd {s a : Int} (h0 : 0 ≤ s) (h1 : s < 2) (h2 : 0 ≤ a) (h3 : a < X.num s) (h4 : X.num s ≤ 5) : (rowOf X e).getD (aOne s a 3).toNat 0 = X.bnd s a := r_one h0 h1 h2 h3 h4 (by omega) (by omega)
theorem q_lik {s a b : Int} (h0 : 0 ≤ s) (h1 : s < 2) (h2 : 0 ≤ a) (h3 : a < 5) (h4 : 0 ≤ b) (h5 : b < 5) (h6 : a < X.num s ∨ b < X.num (1 - s)) : (rowOf X e).getD (aLik s a b).toNat 0 = X.lik s a b := r_lik h0 h1 h2 h3 h4 h5 h6
theorem q_man {c : Int} (h0 : 0 ≤ c) (h1 : c < 4) : (rowOf X e).getD (aCpl c 0).toNat 0 = X.man c := r_cpl h0 h1 (by omega) (by omega)
theorem q_wom {c : Int} (h0 : 0 ≤ c) (h1 : c < 4) : (rowOf X e).getD (aCpl c 1).toNat 0 = X.wom c := r_cpl h0 h1 (by omega) (by omega)
theorem q_sta {c : Int} (h0 : 0 ≤ c) (h1 : c < 4) : (rowOf X e).getD (aCpl c 2).toNat 0 = X.sta c := r_cpl h0 h1 (by omega) (by omega)
theorem q_dds {c : Int} (h0 : 0 ≤ c) (h1 : c < 4) : (rowOf X e).getD (aCpl c 3).toNat 0 = X.dds c := r_cpl h0 h1 (by omega) (by omega)
theorem slk_num {s a b v t : Int} : (X.slk s a b v).num t = X.num t := rfl
theorem w_lik (hO : OkV X) {s a b v : Int} (h0 : 0 ≤ s) (h1 : s < 2) (h2 : 0 ≤ a) (h3 : a < X.num s) (h4 : 0 ≤ b) (h5 : b < X.num (1 - s)) : (rowOf X e).set (aLik s a b).toNat (clamp v) = rowOf (X.slk s a b v) e := by
  have n0 := hO.num h0 h1
  have n1 := hO.num (s := 1 - s) (by omega) (by omega)
  have E := @lik_slk X hO s a b v
  unfold aLik
  refine row_set (by omega) ?_ ?_
  · rw [ro_lik (by omega) (by omega)]
    have es : ((((51 + 25 * s + 5 * a + b).toNat - 51) / 25 : Nat) : Int) = s := by omega
    have ea : ((((51 + 25 * s + 5 * a + b).toNat - 51) / 5 % 5 : Nat) : Int) = a := by omega
    have eb : ((((51 + 25 * s + 5 * a + b).toNat - 51) % 5 : Nat) : Int) = b := by omega
    rw [es, ea, eb, slk_num, if_pos (Or.inl h3), lik_slk hO h0 h1 h2 (by omega) h4 (by omega) h0 h1 h2 (by omega) h4 (by omega), if_pos ⟨rfl, rfl, rfl⟩]
  · intro i hi ne
    by_cases r1 : i < 11
    · rw [ro_lo r1, ro_lo r1]; rfl
    by_cases r2 : i < 51
    · rw [ro_one (by omega) r2, ro_one (by omega) r2]; rfl
    by_cases r3 : i < 101
    · rw [ro_lik (by omega) r3, ro_lik (by omega) r3, lik_slk hO h0 h1 h2 (by omega) h4 (by omega) (by omega) (by omega) (by omega) (by omega) (by omega) (by omega), slk_num, slk_num, if_neg (by omega : ¬ (s = (((i - 51) / 25 : Nat) : Int) ∧ a = (((i - 51) / 5 % 5 : Nat) : Int) ∧ b = (((i - 51) % 5 : Nat) : Int)))]
    · rw [ro_cpl (by omega), ro_cpl (by omega)]; rfl
def iVal.sbn (X : iVal) (s a v : Int) : iVal := (iVal.mk X.on X.na X.de (X.bo.set (s * 5 + a).toNat v) X.li X.cp X.me X.wo X.sa X.dd X.wh X.sl X.dy)
theorem bind_sbn {a b : Int} : (X.sbn 0 a b).sbn 1 b a = X.bind a b := by
  unfold iVal.sbn iVal.bind
  rw [Int.zero_mul, Int.zero_add, Int.one_mul] <;> rfl
theorem bnd_sbn (hl : X.bo.length = 10) {s k v s' k' : Int} (h0 : 0 ≤ s) (h1 : s < 2) (h2 : 0 ≤ k) (h3 : k < 5) (g0 : 0 ≤ s') (g1 : s' < 2) (g2 : 0 ≤ k') (g3 : k' < 5) : (X.sbn s k v).bnd s' k' = if s = s' ∧ k = k' then v else X.bnd s' k' := by
  show (X.bo.set (s * 5 + k).toNat _).getD (s' * 5 + k').toNat 0 = _
  rw [gs (by omega) (by omega) (by omega)]
  by_cases c : s = s' ∧ k = k'
  · rw [if_pos c, if_pos (by omega)]
  · rw [if_neg c, if_neg (by omega)]; rfl
theorem sbn_num {s a v t : Int} : (X.sbn s a v).num t = X.num t := rfl
theorem w_bnd (hl : X.bo.length = 10) {s a v : Int} (h0 : 0 ≤ s) (h1 : s < 2) (h2 : 0 ≤ a) (h3 : a < X.num s) (h4 : X.num s ≤ 5) : (rowOf X e).set (aOne s a 3).toNat v = rowOf (X.sbn s a v) e := by
  unfold aOne
  refine row_set (by omega) ?_ ?_
  · rw [ro_one (by omega) (by omega)]
    have es : ((((11 + 4 * (5 * s + a) + 3).toNat - 11) / 20 : Nat) : Int) = s := by omega
    have ea : ((((11 + 4 * (5 * s + a) + 3).toNat - 11) / 4 % 5 : Nat) : Int) = a := by omega
    rw [es, ea, sbn_num, if_pos h3, if_neg (by omega), if_neg (by omega), if_neg (by omega), bnd_sbn hl h0 h1 h2 (by omega) h0 h1 h2 (by omega), if_pos ⟨rfl, rfl⟩]
  · intro i hi ne
    by_cases r1 : i < 11
    · rw [ro_lo r1, ro_lo r1]; rfl
    by_cases r2 : i < 51
    · rw [ro_one (by omega) r2, ro_one (by omega) r2, sbn_num]
      by_cases u : (((i - 11) / 4 % 5 : Nat) : Int) < X.num (((i - 11) / 20 : Nat) : Int)
      · rw [if_pos u, if_pos u]
        by_cases q : (i - 11) % 4 = 3
        · rw [bnd_sbn hl h0 h1 h2 (by omega) (by omega) (by omega) (by omega) (by omega), if_neg (by omega : ¬ (s = (((i - 11) / 20 : Nat) : Int) ∧ a = (((i - 11) / 4 % 5 : Nat) : Int)))]; rfl
        · have : (i - 11) % 4 = 0 ∨ (i - 11) % 4 = 1 ∨ (i - 11) % 4 = 2 := by omega
          rcases this with q | q | q
          · rw [if_pos q, if_pos q]; rfl
          · rw [if_neg (by omega), if_pos q, if_neg (by omega), if_pos q]; rfl
          · rw [if_neg (by omega), if_neg (by omega), if_pos q, if_neg (by omega), if_neg (by omega), if_pos q]; rfl
      · rw [if_neg u, if_neg u]
    by_cases r3 : i < 101
    · rw [ro_lik (by omega) r3, ro_lik (by omega) r3]; rfl
    · rw [ro_cpl (by omega), ro_cpl (by omega)]; rfl
theorem w_sta (hl : X.sa.length = 4) {c v : Int} (h0 : 0 ≤ c) (h1 : c < 4) : (rowOf X e).set (aCpl c 2).toNat v = rowOf (X.sst c v) e := by
  unfold aCpl
  refine row_set (by omega) ?_ ?_
  · rw [ro_cpl (by omega)]
    have es : ((((101 + 4 * c + 2).toNat - 101) / 4 : Nat) : Int) = c := by omega
    rw [es, if_neg (by omega), if_neg (by omega), if_pos (by omega), sta_sst hl h0 h1 h0, if_pos rfl]
  · intro i hi ne
    by_cases r1 : i < 11
    · rw [ro_lo r1, ro_lo r1]; rfl
    by_cases r2 : i < 51
    · rw [ro_one (by omega) r2, ro_one (by omega) r2]; rfl
    by_cases r3 : i < 101
    · rw [ro_lik (by omega) r3, ro_lik (by omega) r3]; rfl
    · rw [ro_cpl (by omega), ro_cpl (by omega)]
      by_cases q : (i - 101) % 4 = 2
      · rw [sta_sst hl h0 h1 (by omega), if_neg (by omega : ¬ c = (((i - 101) / 4 : Nat) : Int))]; rfl
      · have : (i - 101) % 4 = 0 ∨ (i - 101) % 4 = 1 ∨ (i - 101) % 4 = 3 := by omega
        rcases this with q | q | q
        · rw [if_pos q, if_pos q]; rfl
        · rw [if_neg (by omega), if_pos q, if_neg (by omega), if_pos q]; rfl
        · rw [if_neg (by omega), if_neg (by omega), if_neg (by omega), if_neg (by omega), if_neg (by omega), if_neg (by omega)]; rfl
theorem w_dds (hl : X.dd.length = 4) {c : Int} (h0 : 0 ≤ c) (h1 : c < 4) : (rowOf X e).set (aCpl c 3).toNat (X.dds c + 1) = rowOf (X.inc c) e := by
  unfold aCpl
  refine row_set (by omega) ?_ ?_
  · rw [ro_cpl (by omega)]
    have es : ((((101 + 4 * c + 3).toNat - 101) / 4 : Nat) : Int) = c := by omega
    rw [es, if_neg (by omega), if_neg (by omega), if_neg (by omega), dds_inc hl h0 h1 h0, if_pos rfl]
  · intro i hi ne
    by_cases r1 : i < 11
    · rw [ro_lo r1, ro_lo r1]; rfl
    by_cases r2 : i < 51
    · rw [ro_one (by omega) r2, ro_one (by omega) r2]; rfl
    by_cases r3 : i < 101
    · rw [ro_lik (by omega) r3, ro_lik (by omega) r3]; rfl
    · rw [ro_cpl (by omega), ro_cpl (by omega)]
      by_cases q : (i - 101) % 4 = 3
      · rw [dds_inc hl h0 h1 (by omega), if_neg (by omega : ¬ c = (((i - 101) / 4 : Nat) : Int))]; rfl
      · have : (i - 101) % 4 = 0 ∨ (i - 101) % 4 = 1 ∨ (i - 101) % 4 = 2 := by omega
        rcases this with q | q | q
        · rw [if_pos q, if_pos q]; rfl
        · rw [if_neg (by omega), if_pos q, if_neg (by omega), if_pos q]; rfl
        · rw [if_neg (by omega), if_neg (by omega), if_pos q, if_neg (by omega), if_neg (by omega), if_pos q]; rfl
theorem w_dy {v : Int} : (rowOf X e).set 3 v = rowOf X v := by
  refine row_set (by omega) rfl ?_
  intro i hi ne
  by_cases r1 : i < 11
  · rw [ro_lo r1, ro_lo r1, if_neg (by omega : ¬ i = 3), if_neg (by omega : ¬ i = 3)]
  by_cases r2 : i < 51
  · rw [ro_one (by omega) r2, ro_one (by omega) r2]
  by_cases r3 : i < 101
  · rw [ro_lik (by omega) r3, ro_lik (by omega) r3]
  · rw [ro_cpl (by omega), ro_cpl (by omega)]
end ROWW
