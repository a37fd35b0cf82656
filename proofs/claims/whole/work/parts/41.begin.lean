/-! ===== the class: a year begins; orders ===== -/
structure LenY (Y : iYr) : Prop where
  lod : Y.od.length = 4
  lbz : Y.bz.length = 10
  lwt : Y.wt.length = 4
  len : Y.en.length = 4
  bus : ∀ i, 0 ≤ i → i < 10 → Y.bus i = 0 ∨ Y.bus i = 1
theorem OkY.len' {X : iVal} {Y : iYr} {B : Int} (h : OkY X Y B) : LenY Y := ⟨h.lod, h.lbz, h.lwt, h.len, h.bus⟩
theorem len4 {l : List Int} (h : l.length = 4) : ∃ a b c e, l = [a, b, c, e] := by
  match l, h with
  | [a, b, c, e], _ => exact ⟨a, b, c, e, rfl⟩
def z4 : List Int := [0, 0, 0, 0]
/-- a year begins: this order, these left from before -/
def yr0 (od bz : List Int) : iYr := ⟨od, bz, z4, z4, 0, 0, 0, 0⟩
section YB
variable {sp : Nat → List iV → iH → Option (Option iV × iH)} {sc : List Int} {d : Nat} {A : iA} {Q : Option iV → iH → Prop} {B : Int} {S T : iXY}
theorem orderByNumbers_eq (hl : A.yr.od.length = 4) : Call sp sc d mX10_orderByNumbers [.inr (.inr 31)] (hp A) Q = Q none (hp (A.sxy (A.v .mnd, { A.yr with od := [0, 1, 2, 3] }))) := Call_eq (by
  obtain ⟨a, b, c, e, he⟩ := len4 hl
  apply eX10_orderByNumbers 40; sy [gX10_orderByNumbers]
  refine G_run (B := [2]) 40 _ _ _ _ ?_
  sy [gX10_orderByNumbers, he]
  refine G_run (B := [2]) 40 _ _ _ _ ?_
  sy [gX10_orderByNumbers]
  refine G_run (B := [2]) 40 _ _ _ _ ?_
  sy [gX10_orderByNumbers]
  refine G_run (B := [2]) 40 _ _ _ _ ?_
  sy [gX10_orderByNumbers]
  refine G_run (B := [2]) 40 _ _ _ _ ?_
  sy [gX10_orderByNumbers])
theorem nwm : ¬ (iW.now = iW.mnd) := by intro h; cases h
theorem again_eq (hO : OkV (A.v .now)) (hL : LenV (A.v .mnd)) (hY : LenY A.yr) : Call sp sc (d + 2) mX10_again [.inr (.inr 31), .inr (.inr (vb .now + 2))] (hp A) Q = Q none (hp (A.sxy (A.v .now, yr0 A.yr.od A.yr.bz))) := Call_eq (by
  obtain ⟨a, b, c, e, he⟩ := len4 hY.lwt
  obtain ⟨a', b', c', e', he'⟩ := len4 hY.len
  have hn := nwm
  apply eX10_again 60; sy [gX10_again, takeFrom_eq]
  refine G_run (B := [30]) 40 _ _ _ _ ?_
  sy [gX10_again, he, he']
  refine G_run (B := [30]) 40 _ _ _ _ ?_
  sy [gX10_again]
  refine G_run (B := [30]) 40 _ _ _ _ ?_
  sy [gX10_again]
  refine G_run (B := [30]) 40 _ _ _ _ ?_
  sy [gX10_again]
  refine G_run (B := [30]) 40 _ _ _ _ ?_
  sy [gX10_again]
  rfl)
theorem begin_eq (hO : OkV (A.v .now)) (hL : LenV (A.v .mnd)) (hY : LenY A.yr) : Call sp sc (d + 3) mX10_begin [.inr (.inr 31), .inr (.inr (vb .now + 2))] (hp A) Q = Q none (hp (A.sxy (A.v .now, yr0 [0, 1, 2, 3] A.yr.bz))) := Call_eq (by
  have hY2 : LenY (A.sxy (A.v .mnd, { A.yr with od := [0, 1, 2, 3] })).yr := { hY with lod := rfl }
  apply eX10_begin 60; sy [gX10_begin, orderByNumbers_eq hY.lod, again_eq])
def digF (Y : iYr) : Nat → Int → Int → Int
  | 0, _, n => n
  | k + 1, i, n => digF Y k (i + 1) (10 * n + Y.ord i)
theorem orderDigits_loop (hY : A.yr.od.length = 4) (hcp : 0 ≤ (A.v .mnd).cp ∧ (A.v .mnd).cp ≤ 4) : ∀ (k : Nat) (i n : Int), 0 ≤ i → i + k = (A.v .mnd).cp → Q (some (.inl (digF A.yr k i n))) (hp A) → Run sp sc d mX10_orderDigits 4 [some (.inr (.inr 31)), some (.inl n), some (.inl i)] [] (hp A) Q := by
  intro k
  induction k with
  | zero =>
    intro i n h0 h1 hq
    refine G_run (B := [4]) 40 _ _ _ _ ?_
    have e : (A.v .mnd).cp ≤ i := by omega
    sy [gX10_orderDigits, e]
    exact hq
  | succ k ih =>
    intro i n h0 h1 hq
    refine G_run (B := [4]) 40 _ _ _ _ ?_
    have e : ¬ (A.v .mnd).cp ≤ i := by omega
    sy [gX10_orderDigits, e, hY]
    exact ih _ _ (by omega) (by omega) hq
theorem orderDigits_eq (hY : A.yr.od.length = 4) (hcp : 0 ≤ (A.v .mnd).cp ∧ (A.v .mnd).cp ≤ 4) : Call sp sc d mX10_orderDigits [.inr (.inr 31)] (hp A) Q = Q (some (.inl (digF A.yr (A.v .mnd).cp.toNat 0 0))) (hp A) := Call_eq (by
  apply eX10_orderDigits 60; sy [gX10_orderDigits]
  exact orderDigits_loop hY hcp _ 0 0 (by omega) (by omega) ⟨rfl, rfl⟩)
def gt0 (l : List Int) (i : Int) : Int := l.getD i.toNat 0
def swp (l : List Int) (i j : Int) : List Int := (l.set i.toNat (gt0 l j)).set j.toNat (gt0 l i)
theorem swap_eq (hY : A.yr.od.length = 4) {i j : Int} (h0 : 0 ≤ i) (h1 : i < 4) (h2 : 0 ≤ j) (h3 : j < 4) : Call sp sc d mX10_swap [.inr (.inr 31), .inl i, .inl j] (hp A) Q = Q none (hp (A.sxy (A.v .mnd, { A.yr with od := swp A.yr.od i j }))) := Call_eq (by
  apply eX10_swap 60; sy [gX10_swap, hY, List.length_set]
  rfl)
def up1 (l : List Int) : Nat → Int → Int
  | 0, i => i
  | k + 1, i => if 0 ≤ i then (if gt0 l (i + 1) < gt0 l i then up1 l k (i - 1) else i) else i
def dn1 (l : List Int) (i : Int) : Nat → Int → Int
  | 0, j => j
  | k + 1, j => if i < j then (if gt0 l j < gt0 l i then dn1 l i k (j - 1) else j) else j
def rv1 : Nat → Int → Int → List Int → List Int
  | 0, _, _, l => l
  | k + 1, a, b, l => if a < b then rv1 k (a + 1) (b - 1) (swp l a b) else l
def nxt (cp : Int) (l : List Int) : Int × List Int :=
  let i := up1 l 4 (cp - 2)
  if i < 0 then (0, l) else (1, rv1 4 (i + 1) (cp - 1) (swp l i (dn1 l i 4 (cp - 1))))
theorem next1 (hY : A.yr.od.length = 4) (hr : ∀ i, 0 ≤ i → i < 4 → inI (gt0 A.yr.od i) = true) {l : Int} (hl : l ≤ 3) {o1 o2 o3 : Option iV} : ∀ (k : Nat) (i : Int), i < k → i < l → -1 ≤ i → Run sp sc (d + 1) mX10_nextOrder 14 [some (.inr (.inr 31)), some (.inl l), some (.inl (up1 A.yr.od k i)), o1, o2, o3] [] (hp A) Q → Run sp sc (d + 1) mX10_nextOrder 14 [some (.inr (.inr 31)), some (.inl l), some (.inl i), o1, o2, o3] [] (hp A) Q := by
  intro k
  induction k with
  | zero => intro i h0 h1 h2 hq; exact hq
  | succ k ih =>
    intro i h0 h1 h2 hq
    unfold up1 at hq
    by_cases c : 0 ≤ i
    · rw [if_pos c] at hq
      by_cases c2 : gt0 A.yr.od (i + 1) < gt0 A.yr.od i
      · rw [if_pos c2] at hq
        have r1 := hr i c (by omega)
        have r2 := hr (i + 1) (by omega) (by omega)
        have c3 : ¬ gt0 A.yr.od i ≤ gt0 A.yr.od (i + 1) := by omega
        have c4 : ¬ i < 0 := by omega
        refine G_run (B := [14, 49, 89]) 60 _ _ _ _ ?_
        unfold gt0 at *
        sx [gX10_nextOrder, rd_y, rd_y1, hY, r1, r2, c3, c4]
        exact ih (i - 1) (by omega) (by omega) (by omega) hq
      · rw [if_neg c2] at hq
        exact hq
    · rw [if_neg c] at hq
      exact hq
theorem up1_stop {l : List Int} : ∀ (k : Nat) (i : Int), i < k → -1 ≤ i → -1 ≤ up1 l k i ∧ up1 l k i ≤ i ∧ (up1 l k i < 0 ∨ ¬ gt0 l (up1 l k i + 1) < gt0 l (up1 l k i)) := by
  intro k
  induction k with
  | zero => intro i h0 h1; exact ⟨h1, Int.le_refl _, Or.inl (by show i < 0; omega)⟩
  | succ k ih =>
    intro i h0 h1
    unfold up1
    by_cases c : 0 ≤ i
    · rw [if_pos c]
      by_cases c2 : gt0 l (i + 1) < gt0 l i
      · rw [if_pos c2]
        have := ih (i - 1) (by omega) (by omega)
        exact ⟨this.1, by omega, this.2.2⟩
      · rw [if_neg c2]
        exact ⟨h1, Int.le_refl _, Or.inr c2⟩
    · rw [if_neg c]
      exact ⟨h1, Int.le_refl _, Or.inl (by omega)⟩
theorem dn1_stop {l : List Int} {i : Int} : ∀ (k : Nat) (j : Int), j - i ≤ k → i ≤ j → i ≤ dn1 l i k j ∧ dn1 l i k j ≤ j ∧ (dn1 l i k j ≤ i ∨ ¬ gt0 l (dn1 l i k j) < gt0 l i) := by
  intro k
  induction k with
  | zero => intro j h0 h1; exact ⟨h1, Int.le_refl _, Or.inl (by show j ≤ i; omega)⟩
  | succ k ih =>
    intro j h0 h1
    unfold dn1
    by_cases c : i < j
    · rw [if_pos c]
      by_cases c2 : gt0 l j < gt0 l i
      · rw [if_pos c2]
        have := ih (j - 1) (by omega) (by omega)
        exact ⟨this.1, by omega, this.2.2⟩
      · rw [if_neg c2]
        exact ⟨h1, Int.le_refl _, Or.inr c2⟩
    · rw [if_neg c]
      exact ⟨h1, Int.le_refl _, Or.inl (by omega)⟩
theorem next2 (hY : A.yr.od.length = 4) (hr : ∀ i, 0 ≤ i → i < 4 → inI (gt0 A.yr.od i) = true) {l i : Int} (hl : l ≤ 3) (hi : 0 ≤ i) {o2 o3 : Option iV} : ∀ (k : Nat) (j : Int), j ≤ l → i ≤ j → Run sp sc (d + 1) mX10_nextOrder 49 [some (.inr (.inr 31)), some (.inl l), some (.inl i), some (.inl (dn1 A.yr.od i k j)), o2, o3] [] (hp A) Q → Run sp sc (d + 1) mX10_nextOrder 49 [some (.inr (.inr 31)), some (.inl l), some (.inl i), some (.inl j), o2, o3] [] (hp A) Q := by
  intro k
  induction k with
  | zero => intro i h0 h1 hq; exact hq
  | succ k ih =>
    intro j h0 h1 hq
    unfold dn1 at hq
    by_cases c : i < j
    · rw [if_pos c] at hq
      by_cases c2 : gt0 A.yr.od j < gt0 A.yr.od i
      · rw [if_pos c2] at hq
        have r1 := hr i (by omega) (by omega)
        have r2 := hr j (by omega) (by omega)
        have c3 : ¬ gt0 A.yr.od i ≤ gt0 A.yr.od j := by omega
        have c4 : ¬ j ≤ i := by omega
        refine G_run (B := [14, 49, 89]) 60 _ _ _ _ ?_
        unfold gt0 at *
        sx [gX10_nextOrder, rd_y, rd_y1, hY, r1, r2, c3, c4]
        exact ih (j - 1) (by omega) (by omega) hq
      · rw [if_neg c2] at hq
        exact hq
    · rw [if_neg c] at hq
      exact hq
theorem next3 {l0 i0 j0 : Int} : ∀ (k : Nat) (a b : Int) (A : iA), A.yr.od.length = 4 → 0 ≤ a → -1 ≤ b → b < 4 → a ≤ 4 → b - a < k → Q (some (.inl 1)) (hp (A.sxy (A.v .mnd, { A.yr with od := rv1 k a b A.yr.od }))) → Run sp sc (d + 1) mX10_nextOrder 89 [some (.inr (.inr 31)), some (.inl l0), some (.inl i0), some (.inl j0), some (.inl b), some (.inl a)] [] (hp A) Q := by
  intro k
  induction k with
  | zero =>
    intro a b A hY h0 h1 h2 h4 h3 hq
    have c : b ≤ a := by omega
    refine G_run (B := [14, 49, 89]) 60 _ _ _ _ ?_
    sx [gX10_nextOrder, c]
    exact hq
  | succ k ih =>
    intro a b A hY h0 h1 h2 h4 h3 hq
    unfold rv1 at hq
    by_cases c : a < b
    · rw [if_pos c] at hq
      have c4 : ¬ b ≤ a := by omega
      refine G_run (B := [14, 49, 89]) 60 _ _ _ _ ?_
      sx [gX10_nextOrder, rd_y, rd_y1, hY, c4, swap_eq]
      exact ih (a + 1) (b - 1) (A.sxy (A.v .mnd, { A.yr with od := swp A.yr.od a b })) (by show (swp A.yr.od a b).length = 4; unfold swp; rw [List.length_set, List.length_set]; exact hY) (by omega) (by omega) (by omega) (by omega) (by omega) hq
    · rw [if_neg c] at hq
      have c4 : b ≤ a := by omega
      refine G_run (B := [14, 49, 89]) 60 _ _ _ _ ?_
      sx [gX10_nextOrder, c4]
      exact hq
theorem nextOrder_eq (hY : A.yr.od.length = 4) (hcp : 1 ≤ (A.v .mnd).cp ∧ (A.v .mnd).cp ≤ 4) (hr : ∀ i, 0 ≤ i → i < 4 → inI (gt0 A.yr.od i) = true) : Call sp sc (d + 1) mX10_nextOrder [.inr (.inr 31)] (hp A) Q = Q (some (.inl (nxt (A.v .mnd).cp A.yr.od).1)) (hp (A.sxy (A.v .mnd, { A.yr with od := (nxt (A.v .mnd).cp A.yr.od).2 }))) := Call_eq (by
  apply eX10_nextOrder 60; sy [gX10_nextOrder]
  have ec : (A.v .mnd).cp - 1 - 1 = (A.v .mnd).cp - 2 := by omega
  rw [ec]
  refine next1 hY hr (by omega) 4 ((A.v .mnd).cp - 2) (by omega) (by omega) (by omega) ?_
  have u := up1_stop (l := A.yr.od) 4 ((A.v .mnd).cp - 2) (by omega) (by omega)
  unfold nxt
  dsimp only
  generalize up1 A.yr.od 4 ((A.v .mnd).cp - 2) = i at *
  by_cases c : i < 0
  · rw [if_pos c]
    have c2 : ¬ 0 ≤ i := by omega
    refine G_run (B := [14, 49, 89]) 60 _ _ _ _ ?_
    sy [gX10_nextOrder, c, c2]
    rfl
  · rw [if_neg c]
    have r1 := hr i (by omega) (by omega)
    have r2 := hr (i + 1) (by omega) (by omega)
    have c3 : gt0 A.yr.od i ≤ gt0 A.yr.od (i + 1) := by omega
    have c4 : 0 ≤ i := by omega
    refine G_run (B := [14, 49, 89]) 60 _ _ _ _ ?_
    unfold gt0 at r1 r2 c3
    sx [gX10_nextOrder, rd_y, rd_y1, hY, r1, r2, c3, c4, c]
    refine next2 hY hr (by omega) c4 4 ((A.v .mnd).cp - 1) (by omega) (by omega) ?_
    have v := dn1_stop (l := A.yr.od) (i := i) 4 ((A.v .mnd).cp - 1) (by omega) (by omega)
    generalize dn1 A.yr.od i 4 ((A.v .mnd).cp - 1) = j at *
    have hx : ∀ x y : Int, (swp A.yr.od x y).length = 4 := fun x y => by unfold swp; rw [List.length_set, List.length_set]; exact hY
    have fin : Run sp sc (d + 1) mX10_nextOrder 75 [some (.inr (.inr 31)), some (.inl ((A.v .mnd).cp - 1)), some (.inl i), some (.inl j), none, none] [] (hp A) (fun a b => a = some (.inl 1) ∧ b = hp (A.sxy (A.v .mnd, { A.yr with od := rv1 4 (i + 1) ((A.v .mnd).cp - 1) (swp A.yr.od i j) }))) := by
      refine G_run (B := [14, 49, 89]) 60 _ _ _ _ ?_
      sy [gX10_nextOrder, swap_eq]
      exact next3 4 (i + 1) ((A.v .mnd).cp - 1) (A.sxy (A.v .mnd, { A.yr with od := swp A.yr.od i j })) (hx _ _) (by omega) (by omega) (by omega) (by omega) (by omega) ⟨rfl, rfl⟩
    by_cases c5 : j ≤ i
    · refine G_run (B := [14, 49, 89]) 3 _ _ _ _ ?_
      sx [gX10_nextOrder, c5]
      exact fin
    · have r3 := hr j (by omega) (by omega)
      have c6 : gt0 A.yr.od i ≤ gt0 A.yr.od j := by omega
      refine G_run (B := [14, 49, 89]) 12 _ _ _ _ ?_
      unfold gt0 at r3 c6
      sx [gX10_nextOrder, rd_y, rd_y1, hY, r1, r3, c5, c6]
      exact fin)
end YB
