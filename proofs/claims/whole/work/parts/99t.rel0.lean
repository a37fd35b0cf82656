set_option maxRecDepth 16384
/-! ===== what holds at the start of the loop ===== -/
theorem c1_of {n : Nat} {P : Int → Prop} (h : ∀ s : Nat, s < n → P s) : ∀ s : Int, 0 ≤ s → s < n → P s := by
  intro s h0 h1
  obtain ⟨k, rfl⟩ := Int.eq_ofNat_of_zero_le h0
  exact h k (by omega)
theorem c2_of {P : Int → Int → Prop} (h : ∀ s : Nat, s < 2 → ∀ a : Nat, a < 5 → P s a) : ∀ s a : Int, 0 ≤ s → s < 2 → 0 ≤ a → a < 5 → P s a := by
  intro s a h0 h1 h2 h3
  obtain ⟨n, rfl⟩ := Int.eq_ofNat_of_zero_le h0
  obtain ⟨m, rfl⟩ := Int.eq_ofNat_of_zero_le h2
  exact h n (by omega) m (by omega)
theorem c3_of {P : Int → Int → Int → Prop} (h : ∀ s : Nat, s < 2 → ∀ a : Nat, a < 5 → ∀ b : Nat, b < 5 → P s a b) : ∀ s a b : Int, 0 ≤ s → s < 2 → 0 ≤ a → a < 5 → 0 ≤ b → b < 5 → P s a b := by
  intro s a b h0 h1 h2 h3 h4 h5
  obtain ⟨n, rfl⟩ := Int.eq_ofNat_of_zero_le h0
  obtain ⟨m, rfl⟩ := Int.eq_ofNat_of_zero_le h2
  obtain ⟨k, rfl⟩ := Int.eq_ofNat_of_zero_le h4
  exact h n (by omega) m (by omega) k (by omega)
theorem v0_nr : ∀ s a : Int, 0 ≤ s → s < 2 → 0 ≤ a → a < 5 → val0.nr s a = 3 := c2_of (by decide +kernel)
theorem v0_de : ∀ s a : Int, 0 ≤ s → s < 2 → 0 ≤ a → a < 5 → val0.dep s a = -1 := c2_of (by decide +kernel)
theorem v0_bo : ∀ s a : Int, 0 ≤ s → s < 2 → 0 ≤ a → a < 5 → val0.bnd s a = -1 := c2_of (by decide +kernel)
theorem v0_li : ∀ s a b : Int, 0 ≤ s → s < 2 → 0 ≤ a → a < 5 → 0 ≤ b → b < 5 → val0.lik s a b = 10 := c3_of (by decide +kernel)
theorem v0_me : ∀ c : Int, 0 ≤ c → c < (4 : Nat) → val0.man c = 0 := c1_of (by decide +kernel)
theorem v0_wo : ∀ c : Int, 0 ≤ c → c < (4 : Nat) → val0.wom c = 0 := c1_of (by decide +kernel)
theorem v0_sa : ∀ c : Int, 0 ≤ c → c < (4 : Nat) → val0.sta c = 0 := c1_of (by decide +kernel)
theorem v0_dd : ∀ c : Int, 0 ≤ c → c < (4 : Nat) → val0.dds c = 0 := c1_of (by decide +kernel)
theorem v0_wh : ∀ c : Int, 0 ≤ c → c < (6 : Nat) → 0 ≤ val0.who c ∧ val0.who c ≤ 2 := c1_of (by decide +kernel)
theorem v0_ok : OkV val0 := OkV.mk (by decide +kernel) (by decide +kernel) (by decide +kernel) (by decide +kernel) (by decide +kernel) (by decide +kernel) (by decide +kernel) (by decide +kernel) (by decide +kernel) (by decide +kernel) (by decide +kernel) (by decide +kernel) (by decide +kernel) (by decide +kernel)
  (fun s a h0 h1 h2 h3 => by
    have e := v0_nr s a h0 h1 h2 h3
    have e2 : val0.nx s a = 1 := by unfold iVal.nx; rw [e]
    rw [e, e2]
    exact ⟨rfl, Or.inl rfl⟩)
  (fun c h0 h1 => by
    have h1 : c < 0 := h1
    omega)
  (fun c h0 h1 => by
    have h1 : c < 0 := h1
    omega)
  (fun c h0 h1 => by rw [v0_sa c h0 h1]; decide)
  (fun c h0 h1 => by rw [v0_dd c h0 h1]; decide)
  (fun c h0 h1 _ => by rw [v0_dd c h0 h1]; decide)
  (fun c h0 h1 => v0_wh c h0 h1)
  (fun s a b h0 h1 h2 h3 h4 h5 => by rw [v0_li s a b h0 h1 h2 h3 h4 h5]; decide)
  (fun s a h0 h1 h2 h3 => Or.inl (v0_de s a h0 h1 h2 h3))
  (fun s a h0 h1 h2 h3 => Or.inl (v0_bo s a h0 h1 h2 h3))
  (fun s a h0 h1 h2 h3 => v0_nr s a h0 h1 (Int.le_trans ((c1_of (n := 2) (P := fun s => 0 ≤ val0.num s) (by decide +kernel)) s h0 h1) h2) h3)
  (fun s a h0 h1 h2 h3 => v0_de s a h0 h1 (Int.le_trans ((c1_of (n := 2) (P := fun s => 0 ≤ val0.num s) (by decide +kernel)) s h0 h1) h2) h3)
  (fun s a h0 h1 h2 h3 => v0_bo s a h0 h1 (Int.le_trans ((c1_of (n := 2) (P := fun s => 0 ≤ val0.num s) (by decide +kernel)) s h0 h1) h2) h3)
  (fun s a b h0 h1 h2 h3 h4 h5 _ => v0_li s a b h0 h1 h2 h3 h4 h5)
  (fun c h0 h1 => by
    have h0 : 0 ≤ c := h0
    exact ⟨v0_me c h0 h1, v0_wo c h0 h1, v0_sa c h0 h1, v0_dd c h0 h1⟩)
theorem ke0 : ∀ d, d < 8 → A0.mo.ke.getD d 0 = 0 := by decide +kernel
theorem relS0 {d : Nat} (hd : d < 8) : RelS A0 d := RelS.mk (ke0 d hd) (Or.inl rfl) (Or.inl rfl)
  (fun h => by
    have h : (0 : Int) = 1 := h
    omega)
  (fun h => by
    have h : (0 : Int) = 1 := h
    omega)
  (by show (0 : Int) ≤ 0 ∧ (0 : Int) ≤ 2; decide) (by show (0 : Int) ≤ 0 ∧ (0 : Int) ≤ 100; decide)
  (fun h => by
    have h : (0 : Int) = 2 := h
    omega)
  (fun h => by
    have h : (0 : Int) = 2 := h
    omega)
  (Or.inl rfl)
  (by show (0 : Int) ≤ ((A0.cel d).length : Int); omega)
  (fun h => by
    have h : (0 : Int) = 2 := h
    omega)
  (fun h => by
    have h : (0 : Int) = 2 := h
    omega)
  (fun h => by
    have h : (0 : Int) = 2 := h
    omega)
theorem lenY0 : LenY A0.yr := LenY.mk (by decide +kernel) (by decide +kernel) (by decide +kernel) (by decide +kernel) (c1_of (n := 10) (P := fun i => A0.yr.bus i = 0 ∨ A0.yr.bus i = 1) (by decide +kernel))
theorem rel0 : Rel A0 := Rel.mk v0_ok v0_ok v0_ok.len v0_ok lenY0 (by decide +kernel) (by decide +kernel) (by decide +kernel) (Or.inl rfl) rfl
  (fun h => by
    have h : (0 : Int) = 1 := h
    omega)
  (by decide +kernel) (by decide +kernel) (by decide +kernel) (by decide +kernel) (by decide +kernel) (by decide +kernel) (by decide +kernel) (by decide +kernel) (by decide +kernel) (by decide +kernel) (by decide +kernel) (by decide +kernel) (by decide +kernel) (by decide +kernel) (by decide +kernel) (by decide +kernel) (by decide +kernel) (by decide +kernel) (by decide +kernel) (by decide +kernel) (by decide +kernel) (by decide +kernel)
  (fun d _ => by show (List.replicate 8 (0 : Int)).length = 8; rfl) (by decide +kernel) (fun d hd => relS0 hd)
  (fun d e _ _ h => by
    have h : 108 + 2 * d = 108 + 2 * e := h
    omega)
