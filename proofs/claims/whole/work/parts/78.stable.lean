set_option maxRecDepth 16384
/-! ===== men ask, women keep: the mathematics ===== -/
abbrev iZt : Type := List Int × List Int × List Int
/-- the woman has the second rather than the first -/
abbrev pwP (X : iVal) (w r m : Int) : Prop := X.lik 1 w r < X.lik 1 w m ∨ (X.lik 1 w m = X.lik 1 w r ∧ m < r)
/-- the man likes the second more than the first -/
abbrev pmP (X : iVal) (m v c : Int) : Prop := X.lik 0 m v < X.lik 0 m c ∨ (X.lik 0 m v = X.lik 0 m c ∧ c < v)
def askd (Z : iZt) (m w : Int) : Prop := gt0 Z.2.2 (m * 5 + w) = 1
def nxF (X : iVal) (ak : List Int) (m : Int) : Nat → Int → Int → Int
  | 0, _, cur => cur
  | k + 1, w, cur => nxF X ak m k (w + 1) (if ¬ gt0 ak (m * 5 + w) = 1 ∧ (cur = -1 ∨ X.lik 0 m cur < X.lik 0 m w) then w else cur)
def nxZ (X : iVal) (ak : List Int) (m : Int) : Int := nxF X ak m (X.num 1).toNat 0 (-1)
def askZ (X : iVal) (m w : Int) (Z : iZt) : iZt :=
  if gt0 Z.2.1 w = -1 then (Z.1.set m.toNat w, Z.2.1.set w.toNat m, Z.2.2.set (m * 5 + w).toNat 1)
  else if pwP X w (gt0 Z.2.1 w) m then ((Z.1.set (gt0 Z.2.1 w).toNat (-1)).set m.toNat w, Z.2.1.set w.toNat m, Z.2.2.set (m * 5 + w).toNat 1)
  else (Z.1, Z.2.1, Z.2.2.set (m * 5 + w).toNat 1)
def VZ (X : iVal) (Z : iZt) : Prop := ((Z.1.length = 5) ∧ (Z.2.1.length = 5) ∧ (Z.2.2.length = 25) ∧ (∀ i, 0 ≤ i → i < 25 → gt0 Z.2.2 i = 0 ∨ gt0 Z.2.2 i = 1) ∧ (∀ m, 0 ≤ m → m < 5 → gt0 Z.1 m = -1 ∨ (0 ≤ gt0 Z.1 m ∧ gt0 Z.1 m < X.num 1 ∧ gt0 Z.2.1 (gt0 Z.1 m) = m)) ∧ (∀ w, 0 ≤ w → w < 5 → gt0 Z.2.1 w = -1 ∨ (0 ≤ gt0 Z.2.1 w ∧ gt0 Z.2.1 w < X.num 0 ∧ gt0 Z.1 (gt0 Z.2.1 w) = w)) ∧ (∀ w, 0 ≤ w → w < 5 → ¬ gt0 Z.2.1 w = -1 → askd Z (gt0 Z.2.1 w) w) ∧ (∀ m w, 0 ≤ m → m < 5 → 0 ≤ w → w < 5 → askd Z m w → ¬ gt0 Z.2.1 w = -1 ∧ (gt0 Z.2.1 w = m ∨ pwP X w m (gt0 Z.2.1 w))) ∧ (∀ m w v, 0 ≤ m → m < 5 → 0 ≤ w → w < 5 → askd Z m w → 0 ≤ v → v < X.num 1 → pmP X m w v → askd Z m v)) ∨ False
theorem VZ.mk {X : iVal} {Z : iZt} (a_lw : Z.1.length = 5) (a_lh : Z.2.1.length = 5) (a_lk : Z.2.2.length = 25) (a_r01 : ∀ i, 0 ≤ i → i < 25 → gt0 Z.2.2 i = 0 ∨ gt0 Z.2.2 i = 1) (a_wi : ∀ m, 0 ≤ m → m < 5 → gt0 Z.1 m = -1 ∨ (0 ≤ gt0 Z.1 m ∧ gt0 Z.1 m < X.num 1 ∧ gt0 Z.2.1 (gt0 Z.1 m) = m)) (a_hu : ∀ w, 0 ≤ w → w < 5 → gt0 Z.2.1 w = -1 ∨ (0 ≤ gt0 Z.2.1 w ∧ gt0 Z.2.1 w < X.num 0 ∧ gt0 Z.1 (gt0 Z.2.1 w) = w)) (a_ha : ∀ w, 0 ≤ w → w < 5 → ¬ gt0 Z.2.1 w = -1 → askd Z (gt0 Z.2.1 w) w) (a_hb : ∀ m w, 0 ≤ m → m < 5 → 0 ≤ w → w < 5 → askd Z m w → ¬ gt0 Z.2.1 w = -1 ∧ (gt0 Z.2.1 w = m ∨ pwP X w m (gt0 Z.2.1 w))) (a_up : ∀ m w v, 0 ≤ m → m < 5 → 0 ≤ w → w < 5 → askd Z m w → 0 ≤ v → v < X.num 1 → pmP X m w v → askd Z m v) : VZ X Z := Or.inl ⟨a_lw, a_lh, a_lk, a_r01, a_wi, a_hu, a_ha, a_hb, a_up⟩
theorem VZ.lw {X : iVal} {Z : iZt} (h : VZ X Z) : Z.1.length = 5 := (h.elim id False.elim).1
theorem VZ.lh {X : iVal} {Z : iZt} (h : VZ X Z) : Z.2.1.length = 5 := (h.elim id False.elim).2.1
theorem VZ.lk {X : iVal} {Z : iZt} (h : VZ X Z) : Z.2.2.length = 25 := (h.elim id False.elim).2.2.1
theorem VZ.r01 {X : iVal} {Z : iZt} (h : VZ X Z) : ∀ i, 0 ≤ i → i < 25 → gt0 Z.2.2 i = 0 ∨ gt0 Z.2.2 i = 1 := (h.elim id False.elim).2.2.2.1
theorem VZ.wi {X : iVal} {Z : iZt} (h : VZ X Z) : ∀ m, 0 ≤ m → m < 5 → gt0 Z.1 m = -1 ∨ (0 ≤ gt0 Z.1 m ∧ gt0 Z.1 m < X.num 1 ∧ gt0 Z.2.1 (gt0 Z.1 m) = m) := (h.elim id False.elim).2.2.2.2.1
theorem VZ.hu {X : iVal} {Z : iZt} (h : VZ X Z) : ∀ w, 0 ≤ w → w < 5 → gt0 Z.2.1 w = -1 ∨ (0 ≤ gt0 Z.2.1 w ∧ gt0 Z.2.1 w < X.num 0 ∧ gt0 Z.1 (gt0 Z.2.1 w) = w) := (h.elim id False.elim).2.2.2.2.2.1
theorem VZ.ha {X : iVal} {Z : iZt} (h : VZ X Z) : ∀ w, 0 ≤ w → w < 5 → ¬ gt0 Z.2.1 w = -1 → askd Z (gt0 Z.2.1 w) w := (h.elim id False.elim).2.2.2.2.2.2.1
theorem VZ.hb {X : iVal} {Z : iZt} (h : VZ X Z) : ∀ m w, 0 ≤ m → m < 5 → 0 ≤ w → w < 5 → askd Z m w → ¬ gt0 Z.2.1 w = -1 ∧ (gt0 Z.2.1 w = m ∨ pwP X w m (gt0 Z.2.1 w)) := (h.elim id False.elim).2.2.2.2.2.2.2.1
theorem VZ.up {X : iVal} {Z : iZt} (h : VZ X Z) : ∀ m w v, 0 ≤ m → m < 5 → 0 ≤ w → w < 5 → askd Z m w → 0 ≤ v → v < X.num 1 → pmP X m w v → askd Z m v := (h.elim id False.elim).2.2.2.2.2.2.2.2
def clsZ (X : iVal) (Z : iZt) : Prop := ∀ m, 0 ≤ m → m < X.num 0 → gt0 Z.1 m = -1 → ∀ w, 0 ≤ w → w < X.num 1 → askd Z m w
def subZ (Z C : iZt) : Prop := ∀ m w, 0 ≤ m → m < 5 → 0 ≤ w → w < 5 → askd Z m w → askd C m w
def invZ (X : iVal) (Z : iZt) : Prop := VZ X Z ∧ ∀ C, VZ X C → clsZ X C → subZ Z C
/-- whom he asks next: what is so of him behind the loop -/
def nxOK (X : iVal) (ak : List Int) (m cur w : Int) : Prop := (cur = -1 ∧ ∀ v, 0 ≤ v → v < w → gt0 ak (m * 5 + v) = 1) ∨ (0 ≤ cur ∧ cur < w ∧ ¬ gt0 ak (m * 5 + cur) = 1 ∧ ∀ v, 0 ≤ v → v < w → ¬ gt0 ak (m * 5 + v) = 1 → v = cur ∨ pmP X m v cur)
theorem nxF_ok {X : iVal} {ak : List Int} {m : Int} : ∀ (k : Nat) (w cur : Int), 0 ≤ w → nxOK X ak m cur w → nxOK X ak m (nxF X ak m k w cur) (w + k) := by
  intro k
  induction k with
  | zero => intro w cur h0 h; have : w + ((0 : Nat) : Int) = w := by omega
            rw [this]; exact h
  | succ k ih =>
    intro w cur h0 h
    unfold nxF
    have e : w + ((k + 1 : Nat) : Int) = w + 1 + k := by omega
    rw [e]
    apply ih _ _ (by omega)
    by_cases c : ¬ gt0 ak (m * 5 + w) = 1 ∧ (cur = -1 ∨ X.lik 0 m cur < X.lik 0 m w)
    · rw [if_pos c]
      right
      refine ⟨h0, by omega, c.1, fun v a b nv => ?_⟩
      by_cases z : v = w
      · left; exact z
      · right
        rcases h with h | h
        · exact absurd (h.2 v a (by omega)) nv
        · rcases h.2.2.2 v a (by omega) nv with y | y
          · left; rw [y]; rcases c.2 with u | u
            · omega
            · exact u
          · left
            rcases c.2 with u | u
            · omega
            · rcases y with y | y <;> omega
    · rw [if_neg c]
      rcases h with h | h
      · left
        refine ⟨h.1, fun v a b => ?_⟩
        by_cases z : v = w
        · rw [z]
          by_cases y : gt0 ak (m * 5 + w) = 1
          · exact y
          · exact absurd ⟨y, Or.inl h.1⟩ c
        · exact h.2 v a (by omega)
      · right
        refine ⟨h.1, by omega, h.2.2.1, fun v a b nv => ?_⟩
        by_cases z : v = w
        · rw [z] at nv ⊢
          right
          have : ¬ X.lik 0 m cur < X.lik 0 m w := fun y => c ⟨nv, Or.inr y⟩
          by_cases y : X.lik 0 m w = X.lik 0 m cur
          · right; exact ⟨y, by omega⟩
          · left; omega
        · exact h.2.2.2 v a (by omega) nv
theorem nxZ_ok {X : iVal} (hO : OkV X) {ak : List Int} {m : Int} : nxOK X ak m (nxZ X ak m) (X.num 1) := by
  have n1 := hO.n1
  have := nxF_ok (X := X) (ak := ak) (m := m) (X.num 1).toNat 0 (-1) (by omega) (Or.inl ⟨rfl, fun v a b => by omega⟩)
  have e : (0 : Int) + ((X.num 1).toNat : Int) = X.num 1 := by omega
  rw [e] at this
  exact this
theorem askd_set {ak : List Int} {m w a b : Int} (h0 : 0 ≤ m) (h1 : m < 5) (h2 : 0 ≤ w) (h3 : w < 5) (h4 : 0 ≤ a) (h5 : a < 5) (h6 : 0 ≤ b) (h7 : b < 5) (hl : ak.length = 25) : gt0 (ak.set (m * 5 + w).toNat 1) (a * 5 + b) = if m = a ∧ w = b then 1 else gt0 ak (a * 5 + b) := by
  rw [gt_set (by omega) (by omega) (by omega)]
  by_cases z : m = a ∧ w = b
  · rw [if_pos z, if_pos (by omega)]
  · rw [if_neg z, if_neg (by omega)]
theorem askZ_ak {X : iVal} {m w : Int} {Z : iZt} : (askZ X m w Z).2.2 = Z.2.2.set (m * 5 + w).toNat 1 := by
  unfold askZ
  split
  · rfl
  · split <;> rfl
/-- one ask more: all stays as it must be -/
theorem askZ_V {X : iVal} (hO : OkV X) {Z : iZt} (hV : VZ X Z) {m : Int} (h0 : 0 ≤ m) (h1 : m < X.num 0) (hf : gt0 Z.1 m = -1) (hn : ¬ nxZ X Z.2.2 m = -1) : VZ X (askZ X m (nxZ X Z.2.2 m) Z) := by
  have n0 := hO.n0
  have n1 := hO.n1
  have sp := nxZ_ok hO (ak := Z.2.2) (m := m)
  generalize nxZ X Z.2.2 m = w at *
  have sp := sp.resolve_left (fun y => hn y.1)
  have w0 := sp.1
  have w1 := sp.2.1
  have lw := hV.lw
  have lh := hV.lh
  have lk := hV.lk
  have nk : ¬ askd Z m w := sp.2.2.1
  have aS : ∀ a b, 0 ≤ a → a < 5 → 0 ≤ b → b < 5 → (askd (askZ X m w Z) a b ↔ (m = a ∧ w = b) ∨ askd Z a b) := fun a b a0 a1 b0 b1 => by
    unfold askd
    rw [askZ_ak, askd_set h0 (by omega) w0 (by omega) a0 a1 b0 b1 lk]
    by_cases z : m = a ∧ w = b
    · rw [if_pos z]; exact ⟨fun _ => Or.inl z, fun _ => rfl⟩
    · rw [if_neg z]; exact ⟨fun y => Or.inr y, fun y => y.resolve_left z⟩
  have up : ∀ a b v, 0 ≤ a → a < 5 → 0 ≤ b → b < 5 → askd (askZ X m w Z) a b → 0 ≤ v → v < X.num 1 → pmP X a b v → askd (askZ X m w Z) a v := fun a b v a0 a1 b0 b1 hab v0 v1 hp => by
    rw [aS a v a0 a1 v0 (by omega)]
    rcases (aS a b a0 a1 b0 b1).mp hab with z | z
    · obtain ⟨rfl, rfl⟩ := z
      right
      by_cases y : askd Z m v
      · exact y
      · exfalso
        rcases sp.2.2.2 v v0 v1 y with u | u
        · rw [u] at hp; rcases hp with q | q <;> omega
        · rcases hp with q | q <;> rcases u with r | r <;> omega
    · right; exact hV.up a b v a0 a1 b0 b1 z v0 v1 hp
  have r01 : ∀ i, 0 ≤ i → i < 25 → gt0 (askZ X m w Z).2.2 i = 0 ∨ gt0 (askZ X m w Z).2.2 i = 1 := fun i a b => by
    rw [askZ_ak, gt_set (by omega) a (by omega)]
    by_cases z : m * 5 + w = i
    · rw [if_pos z]; exact Or.inr rfl
    · rw [if_neg z]; exact hV.r01 i a b
  have lk2 : (askZ X m w Z).2.2.length = 25 := by rw [askZ_ak, List.length_set]; exact lk
  have hw := hV.hu w w0 (by omega)
  by_cases c : gt0 Z.2.1 w = -1
  · have e : askZ X m w Z = (Z.1.set m.toNat w, Z.2.1.set w.toNat m, Z.2.2.set (m * 5 + w).toNat 1) := if_pos c
    have e1 : ∀ a, 0 ≤ a → a < 5 → gt0 (askZ X m w Z).1 a = if m = a then w else gt0 Z.1 a := fun a a0 a1 => by rw [e]; exact gt_set h0 a0 (by omega)
    have e2 : ∀ a, 0 ≤ a → a < 5 → gt0 (askZ X m w Z).2.1 a = if w = a then m else gt0 Z.2.1 a := fun a a0 a1 => by rw [e]; exact gt_set w0 a0 (by omega)
    refine VZ.mk (by rw [e]; show (Z.1.set _ _).length = 5; rw [List.length_set]; exact lw) (by rw [e]; show (Z.2.1.set _ _).length = 5; rw [List.length_set]; exact lh) lk2 r01 (fun a a0 a1 => ?_) (fun a a0 a1 => ?_) (fun a a0 a1 hne => ?_) (fun a b a0 a1 b0 b1 hab => ?_) up
    · have z := hV.wi a a0 a1
      rw [e1 a a0 a1]
      by_cases y : m = a
      · rw [if_pos y, e2 w w0 (by omega), if_pos rfl]; right; exact ⟨w0, w1, y⟩
      · rw [if_neg y]
        rcases z with z | z
        · left; exact z
        · right
          rw [e2 _ z.1 (by omega), if_neg (fun u => by rw [← u] at z; omega)]
          exact z
    · have z := hV.hu a a0 a1
      rw [e2 a a0 a1]
      by_cases y : w = a
      · rw [if_pos y, e1 m h0 (by omega), if_pos rfl]; right; exact ⟨h0, h1, y⟩
      · rw [if_neg y]
        rcases z with z | z
        · left; exact z
        · right
          rw [e1 _ z.1 (by omega), if_neg (fun u => by rw [← u] at z; omega)]
          exact z
    · rw [e2 a a0 a1] at hne ⊢
      by_cases y : w = a
      · rw [if_pos y, aS m a h0 (by omega) a0 a1]; left; exact ⟨rfl, y⟩
      · rw [if_neg y] at hne ⊢
        have z := hV.hu a a0 a1
        rw [aS _ a (by omega) (by omega) a0 a1]; right; exact hV.ha a a0 a1 hne
    · rw [e2 b b0 b1]
      rcases (aS a b a0 a1 b0 b1).mp hab with z | z
      · rw [if_pos z.2]; exact ⟨by omega, Or.inl z.1⟩
      · by_cases y : w = b
        · exfalso
          have := (hV.hb a b a0 a1 b0 b1 z).1
          rw [← y] at this; exact this c
        · rw [if_neg y]; exact hV.hb a b a0 a1 b0 b1 z
  · have hw := hw.resolve_left c
    generalize hr : gt0 Z.2.1 w = r at *
    have rm : ¬ r = m := fun y => by rw [y] at hw; omega
    by_cases c2 : pwP X w r m
    · have e : askZ X m w Z = ((Z.1.set r.toNat (-1)).set m.toNat w, Z.2.1.set w.toNat m, Z.2.2.set (m * 5 + w).toNat 1) := by
        unfold askZ
        rw [if_neg (by rw [hr]; exact c), hr, if_pos c2]
      have e1 : ∀ a, 0 ≤ a → a < 5 → gt0 (askZ X m w Z).1 a = if m = a then w else if r = a then -1 else gt0 Z.1 a := fun a a0 a1 => by
        rw [e]
        show gt0 ((Z.1.set r.toNat (-1)).set m.toNat w) a = _
        rw [gt_set h0 a0 (by rw [List.length_set]; omega), gt_set hw.1 a0 (by omega)]
      have e2 : ∀ a, 0 ≤ a → a < 5 → gt0 (askZ X m w Z).2.1 a = if w = a then m else gt0 Z.2.1 a := fun a a0 a1 => by rw [e]; exact gt_set w0 a0 (by omega)
      refine VZ.mk (by rw [e]; show ((Z.1.set _ _).set _ _).length = 5; rw [List.length_set, List.length_set]; exact lw) (by rw [e]; show (Z.2.1.set _ _).length = 5; rw [List.length_set]; exact lh) lk2 r01 (fun a a0 a1 => ?_) (fun a a0 a1 => ?_) (fun a a0 a1 hne => ?_) (fun a b a0 a1 b0 b1 hab => ?_) up
      · have z := hV.wi a a0 a1
        rw [e1 a a0 a1]
        by_cases y : m = a
        · rw [if_pos y, e2 w w0 (by omega), if_pos rfl]; right; exact ⟨w0, w1, y⟩
        · rw [if_neg y]
          by_cases x : r = a
          · rw [if_pos x]; left; rfl
          · rw [if_neg x]
            rcases z with z | z
            · left; exact z
            · right
              rw [e2 _ z.1 (by omega), if_neg (fun u => by rw [← u] at z; omega)]
              exact z
      · have z := hV.hu a a0 a1
        rw [e2 a a0 a1]
        by_cases y : w = a
        · rw [if_pos y, e1 m h0 (by omega), if_pos rfl]; right; exact ⟨h0, h1, y⟩
        · rw [if_neg y]
          rcases z with z | z
          · left; exact z
          · right
            rw [e1 _ z.1 (by omega), if_neg (fun u => by rw [← u] at z; omega), if_neg (fun u => by rw [← u] at z; omega)]
            exact z
      · rw [e2 a a0 a1] at hne ⊢
        by_cases y : w = a
        · rw [if_pos y, aS m a h0 (by omega) a0 a1]; left; exact ⟨rfl, y⟩
        · rw [if_neg y] at hne ⊢
          have z := hV.hu a a0 a1
          rw [aS _ a (by omega) (by omega) a0 a1]; right; exact hV.ha a a0 a1 hne
      · rw [e2 b b0 b1]
        rcases (aS a b a0 a1 b0 b1).mp hab with z | z
        · rw [if_pos z.2]; exact ⟨by omega, Or.inl z.1⟩
        · by_cases y : w = b
          · rw [if_pos y]
            refine ⟨by omega, ?_⟩
            have k := (hV.hb a b a0 a1 b0 b1 z).2
            rw [← y, hr] at k
            rw [← y]
            right
            rcases k with k | k
            · rw [← k]; exact c2
            · rcases k with k | k <;> rcases c2 with q | q <;> omega
          · rw [if_neg y]; exact hV.hb a b a0 a1 b0 b1 z
    · have e : askZ X m w Z = (Z.1, Z.2.1, Z.2.2.set (m * 5 + w).toNat 1) := by
        unfold askZ
        rw [if_neg (by rw [hr]; exact c), hr, if_neg c2]
      have e1 : (askZ X m w Z).1 = Z.1 := by rw [e]
      have e2 : (askZ X m w Z).2.1 = Z.2.1 := by rw [e]
      refine VZ.mk (by rw [e1]; exact lw) (by rw [e2]; exact lh) lk2 r01 (fun a a0 a1 => by rw [e1, e2]; exact hV.wi a a0 a1) (fun a a0 a1 => by rw [e1, e2]; exact hV.hu a a0 a1) (fun a a0 a1 hne => ?_) (fun a b a0 a1 b0 b1 hab => ?_) up
      · rw [e2] at hne ⊢
        have z := hV.hu a a0 a1
        rw [aS _ a (by omega) (by omega) a0 a1]; right; exact hV.ha a a0 a1 hne
      · rw [e2]
        rcases (aS a b a0 a1 b0 b1).mp hab with z | z
        · rw [← z.1, ← z.2, hr]
          refine ⟨c, Or.inr ?_⟩
          by_cases q : X.lik 1 w m < X.lik 1 w r
          · left; exact q
          · right
            by_cases q2 : X.lik 1 w r < X.lik 1 w m
            · exact absurd (Or.inl q2) c2
            · have q3 : ¬ m < r := fun q4 => c2 (Or.inr ⟨by omega, q4⟩)
              omega
        · exact hV.hb a b a0 a1 b0 b1 z
theorem askZ_sub {X : iVal} (hO : OkV X) {Z C : iZt} (hV : VZ X Z) (hC : VZ X C) (hcl : clsZ X C) (hs : subZ Z C) {m : Int} (h0 : 0 ≤ m) (h1 : m < X.num 0) (hf : gt0 Z.1 m = -1) (hn : ¬ nxZ X Z.2.2 m = -1) : subZ (askZ X m (nxZ X Z.2.2 m) Z) C := by
  have n0 := hO.n0
  have n1 := hO.n1
  have sp := nxZ_ok hO (ak := Z.2.2) (m := m)
  generalize nxZ X Z.2.2 m = w at *
  have sp := sp.resolve_left (fun y => hn y.1)
  have w0 := sp.1
  have w1 := sp.2.1
  intro a b a0 a1 b0 b1 hab
  unfold askd at hab
  rw [askZ_ak, askd_set h0 (by omega) w0 (by omega) a0 a1 b0 b1 hV.lk] at hab
  by_cases z : m = a ∧ w = b
  · obtain ⟨rfl, rfl⟩ := z
    by_cases k : askd C m w
    · exact k
    · exfalso
      have wc : ¬ gt0 C.1 m = -1 := fun y => k (hcl m h0 h1 y w w0 w1)
      have q := (hC.wi m h0 (by omega)).resolve_left wc
      generalize gt0 C.1 m = v at *
      have kv : askd C m v := by
        have := hC.ha v q.1 (by omega) (by rw [q.2.2]; omega)
        rw [q.2.2] at this; exact this
      have nv : ¬ v = w := fun y => k (by rw [← y]; exact kv)
      have np : ¬ pmP X m v w := fun y => k (hC.up m v w h0 (by omega) q.1 (by omega) kv w0 w1 y)
      have kz : askd Z m v := by
        by_cases y : askd Z m v
        · exact y
        · rcases sp.2.2.2 v q.1 q.2.1 y with u | u
          · exact absurd u nv
          · exact absurd u np
      have hz := hV.hb m v h0 (by omega) q.1 (by omega) kz
      have hh := (hV.hu v q.1 (by omega)).resolve_left hz.1
      have ka := hV.ha v q.1 (by omega) hz.1
      generalize gt0 Z.2.1 v = m2 at *
      have nm : ¬ m2 = m := fun y => by rw [y] at hh; omega
      have pw := hz.2.resolve_left nm
      have kc := hs m2 v hh.1 (by omega) q.1 (by omega) ka
      have hc := (hC.hb m2 v hh.1 (by omega) q.1 (by omega) kc).2
      rw [q.2.2] at hc
      rcases hc with y | y
      · exact nm y.symm
      · rcases y with y | y <;> rcases pw with u | u <;> omega
  · rw [if_neg z] at hab
    exact hs a b a0 a1 b0 b1 hab
theorem invZ_ask {X : iVal} (hO : OkV X) {Z : iZt} (h : invZ X Z) {m : Int} (h0 : 0 ≤ m) (h1 : m < X.num 0) (hf : gt0 Z.1 m = -1) (hn : ¬ nxZ X Z.2.2 m = -1) : invZ X (askZ X m (nxZ X Z.2.2 m) Z) :=
  ⟨askZ_V hO h.1 h0 h1 hf hn, fun C hC hcl => askZ_sub hO h.1 hC hcl (h.2 C hC hcl) h0 h1 hf hn⟩
def z25 : List Int := List.replicate 25 0
def Z0 : iZt := (m5, m5, z25)
theorem gt_z25 {i : Int} : gt0 z25 i = 0 := by
  unfold gt0 z25
  rw [List.getD_eq_getElem?_getD, List.getElem?_replicate]
  split <;> rfl
theorem invZ_0 {X : iVal} : invZ X Z0 := by
  have no : ∀ m w, ¬ askd Z0 m w := fun m w y => by
    have : gt0 z25 (m * 5 + w) = 1 := y
    rw [gt_z25] at this
    exact absurd this (by decide)
  refine ⟨VZ.mk rfl rfl (List.length_replicate ..) (fun i _ _ => Or.inl gt_z25) (fun m a b => Or.inl (gt_m5 a b)) (fun m a b => Or.inl (gt_m5 a b)) (fun w a b h => absurd (gt_m5 a b) h) (fun m w _ _ _ _ h => absurd h (no m w)) (fun m w v _ _ _ _ h => absurd h (no m w)), fun C _ _ m w _ _ _ _ h => absurd h (no m w)⟩
/-- two ends are the same -/
theorem endsZ_eq {X : iVal} (hO : OkV X) {Z C : iZt} (hZ : invZ X Z) (cZ : clsZ X Z) (hC : invZ X C) (cC : clsZ X C) {m : Int} (h0 : 0 ≤ m) (h1 : m < 5) : gt0 Z.1 m = gt0 C.1 m := by
  have n0 := hO.n0
  have n1 := hO.n1
  have s1 := hZ.2 C hC.1 cC
  have s2 := hC.2 Z hZ.1 cZ
  have key : ∀ (P R : iZt), VZ X P → VZ X R → subZ P R → subZ R P → ∀ m, 0 ≤ m → m < 5 → ¬ gt0 P.1 m = -1 → gt0 R.1 m = gt0 P.1 m := fun P R hP hR sPR sRP m a b hne => by
    have q := (hP.wi m a b).resolve_left hne
    generalize gt0 P.1 m = v at *
    have kp : askd P m v := by
      have := hP.ha v q.1 (by omega) (by rw [q.2.2]; omega)
      rw [q.2.2] at this; exact this
    have kr := sPR m v a b q.1 (by omega) kp
    have hr := hR.hb m v a b q.1 (by omega) kr
    have hh := (hR.hu v q.1 (by omega)).resolve_left hr.1
    have ka := hR.ha v q.1 (by omega) hr.1
    generalize gt0 R.2.1 v = m2 at *
    by_cases z : m2 = m
    · rw [← z]; exact hh.2.2
    · exfalso
      have pw := hr.2.resolve_left z
      have kc := sRP m2 v hh.1 (by omega) q.1 (by omega) ka
      have hc := (hP.hb m2 v hh.1 (by omega) q.1 (by omega) kc).2
      rw [q.2.2] at hc
      rcases hc with y | y
      · exact z y.symm
      · rcases y with y | y <;> rcases pw with u | u <;> omega
  by_cases c : gt0 Z.1 m = -1
  · by_cases c2 : gt0 C.1 m = -1
    · rw [c, c2]
    · exact key C Z hC.1 hZ.1 s2 s1 m h0 h1 c2
  · exact (key Z C hZ.1 hC.1 s1 s2 m h0 h1 c).symm
def cntZ (Z : iZt) : Nat := Z.2.2.count 1
theorem cnt_ask {X : iVal} (hO : OkV X) {Z : iZt} (hV : VZ X Z) {m : Int} (h0 : 0 ≤ m) (h1 : m < X.num 0) (hn : ¬ nxZ X Z.2.2 m = -1) : cntZ (askZ X m (nxZ X Z.2.2 m) Z) = cntZ Z + 1 := by
  have n0 := hO.n0
  have n1 := hO.n1
  have sp := (nxZ_ok hO (ak := Z.2.2) (m := m)).resolve_left (fun y => hn y.1)
  generalize nxZ X Z.2.2 m = w at *
  unfold cntZ
  rw [askZ_ak]
  have lk := hV.lk
  have hi : (m * 5 + w).toNat < Z.2.2.length := by omega
  have hne : ¬ Z.2.2[(m * 5 + w).toNat] = 1 := by
    have : gt0 Z.2.2 (m * 5 + w) = Z.2.2[(m * 5 + w).toNat] := by
      unfold gt0
      rw [List.getD_eq_getElem?_getD, List.getElem?_eq_getElem hi]; rfl
    rw [← this]; exact sp.2.2.1
  rw [List.count_set hi]
  simp [hne]
theorem cnt_le {X : iVal} {Z : iZt} (hV : VZ X Z) : cntZ Z ≤ 25 := by
  have := List.count_le_length (a := (1 : Int)) (l := Z.2.2)
  rw [hV.lk] at this; exact this
theorem cnt_full {X : iVal} {Z : iZt} (hO : OkV X) (hV : VZ X Z) (h : 25 ≤ cntZ Z) : clsZ X Z := by
  have n0 := hO.n0
  have n1 := hO.n1
  have e : Z.2.2.count 1 = Z.2.2.length := by
    have := cnt_le hV
    unfold cntZ at *
    rw [hV.lk]; omega
  have all := List.count_eq_length.mp e
  intro m a b _ w c d
  have hi : (m * 5 + w).toNat < Z.2.2.length := by rw [hV.lk]; omega
  have := all _ (List.getElem_mem hi)
  show gt0 Z.2.2 (m * 5 + w) = 1
  unfold gt0
  rw [List.getD_eq_getElem?_getD, List.getElem?_eq_getElem hi]
  exact this.symm
/-- the class's turns -/
def turnZ (X : iVal) : Nat → Int → iZt → iZt
  | 0, _, Z => Z
  | k + 1, m, Z => turnZ X k (m + 1) (if gt0 Z.1 m = -1 ∧ ¬ nxZ X Z.2.2 m = -1 then askZ X m (nxZ X Z.2.2 m) Z else Z)
def allZ (X : iVal) : Nat → iZt → iZt
  | 0, Z => Z
  | k + 1, Z => allZ X k (turnZ X (X.num 0).toNat 0 Z)
theorem turnZ_ok {X : iVal} (hO : OkV X) : ∀ (k : Nat) (m : Int) (Z : iZt), invZ X Z → 0 ≤ m → m + k = X.num 0 → invZ X (turnZ X k m Z) ∧ (cntZ Z < cntZ (turnZ X k m Z) ∨ (turnZ X k m Z = Z ∧ ∀ a, m ≤ a → a < X.num 0 → gt0 Z.1 a = -1 → nxZ X Z.2.2 a = -1)) := by
  intro k
  induction k with
  | zero => intro m Z hZ h0 h1; exact ⟨hZ, Or.inr ⟨rfl, fun a b c => by omega⟩⟩
  | succ k ih =>
    intro m Z hZ h0 h1
    unfold turnZ
    by_cases c : gt0 Z.1 m = -1 ∧ ¬ nxZ X Z.2.2 m = -1
    · rw [if_pos c]
      have i2 := invZ_ask hO hZ h0 (by omega) c.1 c.2
      have r := ih (m + 1) _ i2 (by omega) (by omega)
      have ct := cnt_ask hO hZ.1 h0 (by omega) c.2
      refine ⟨r.1, Or.inl ?_⟩
      rcases r.2 with y | y
      · omega
      · rw [y.1]; omega
    · rw [if_neg c]
      have r := ih (m + 1) Z hZ (by omega) (by omega)
      refine ⟨r.1, ?_⟩
      rcases r.2 with y | y
      · left; exact y
      · right
        refine ⟨y.1, fun a b e f => ?_⟩
        by_cases z : a = m
        · rw [z] at f ⊢
          by_cases u : nxZ X Z.2.2 m = -1
          · exact u
          · exact absurd ⟨f, u⟩ c
        · exact y.2 a (by omega) e f
theorem allZ_ok {X : iVal} (hO : OkV X) : ∀ (k : Nat) (Z : iZt), invZ X Z → invZ X (allZ X k Z) ∧ (clsZ X (allZ X k Z) ∨ cntZ Z + k ≤ cntZ (allZ X k Z)) := by
  have n0 := hO.n0
  have fix : ∀ (k : Nat) (Z : iZt), turnZ X (X.num 0).toNat 0 Z = Z → allZ X k Z = Z := fun k => by
    induction k with
    | zero => intro Z _; rfl
    | succ k ih => intro Z h; unfold allZ; rw [h]; exact ih Z h
  intro k
  induction k with
  | zero => intro Z hZ; exact ⟨hZ, Or.inr (Nat.le_refl _)⟩
  | succ k ih =>
    intro Z hZ
    have t := turnZ_ok hO (X.num 0).toNat 0 Z hZ (by omega) (by omega)
    unfold allZ
    have r := ih _ t.1
    refine ⟨r.1, ?_⟩
    rcases t.2 with y | y
    · rcases r.2 with u | u
      · left; exact u
      · right; omega
    · left
      rw [y.1, fix k Z y.1]
      intro m a b hf w c d
      have nx := y.2 m a b hf
      have sp := nxZ_ok hO (ak := Z.2.2) (m := m)
      rw [nx] at sp
      rcases sp with s | s
      · exact s.2 w c d
      · omega
theorem allZ_end {X : iVal} (hO : OkV X) {k : Nat} (hk : k = 25) : invZ X (allZ X k Z0) ∧ clsZ X (allZ X k Z0) := by
  have r := allZ_ok hO k Z0 invZ_0
  refine ⟨r.1, ?_⟩
  rcases r.2 with y | y
  · exact y
  · exact cnt_full hO r.1.1 (by omega)
