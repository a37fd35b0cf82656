set_option maxRecDepth 16384
/-! ===== how couples end ===== -/
def L4 (S : iXY) : Prop := S.1.sa.length = 4 ∧ S.2.en.length = 4
def stpP (S T : iXY) : Prop := T.2.ps = S.2.ps ∧ ∀ c : Int, 0 ≤ c → c < 4 → (T.1.sta c = S.1.sta c ∧ T.2.fin c = S.2.fin c) ∨ (S.1.sta c = 0 ∧ ¬ T.1.sta c = 0 ∧ T.2.fin c = S.2.ps)
theorem stpP.refl {S : iXY} : stpP S S := ⟨rfl, fun _ _ _ => Or.inl ⟨rfl, rfl⟩⟩
theorem stpP.of {S T : iXY} (h1 : T.1.sa = S.1.sa) (h2 : T.2.en = S.2.en) (h3 : T.2.ps = S.2.ps) : stpP S T := ⟨h3, fun c _ _ => Or.inl ⟨by unfold iVal.sta; rw [h1], by unfold iYr.fin; rw [h2]⟩⟩
theorem stpP.trans {S T U : iXY} (h : stpP S T) (k : stpP T U) : stpP S U := by
  refine ⟨k.1.trans h.1, fun c a b => ?_⟩
  rcases h.2 c a b with x | x
  · rcases k.2 c a b with y | y
    · left; exact ⟨y.1.trans x.1, y.2.trans x.2⟩
    · right; exact ⟨x.1.symm.trans y.1, y.2.1, y.2.2.trans h.1⟩
  · rcases k.2 c a b with y | y
    · right; exact ⟨x.1, fun z => x.2.1 (y.1.symm.trans z), y.2.trans x.2.2⟩
    · exact absurd y.1 x.2.1
theorem stp_end {S : iXY} (hL : L4 S) {c v : Int} (h0 : 0 ≤ c) (h1 : c < 4) (hs : S.1.sta c = 0) (hv : ¬ v = 0) : stpP S (endA S c v) ∧ L4 (endA S c v) := by
  refine ⟨⟨rfl, fun j a b => ?_⟩, ?_, ?_⟩
  · have e1 : (endA S c v).1.sta j = if c = j then v else S.1.sta j := sta_sst hL.1 h0 h1 a
    have e2 : (endA S c v).2.fin j = if c = j then S.2.ps else S.2.fin j := gs h0 a (by have := hL.2; omega)
    by_cases z : c = j
    · right
      rw [e1, e2, if_pos z, if_pos z, ← z]
      exact ⟨hs, hv, rfl⟩
    · left
      rw [e1, e2, if_neg z, if_neg z]
      exact ⟨rfl, rfl⟩
  · show (S.1.sa.set c.toNat v).length = 4
    rw [List.length_set]; exact hL.1
  · show (S.2.en.set c.toNat S.2.ps).length = 4
    rw [List.length_set]; exact hL.2
theorem stp_lose {a b : Int} : ∀ (k : Nat) (c : Int) (S : iXY), L4 S → 0 ≤ c → c + k ≤ 4 → stpP S (loseF a b k c S) ∧ L4 (loseF a b k c S) := by
  intro k
  induction k with
  | zero => intro c S hL h0 h1; exact ⟨stpP.refl, hL⟩
  | succ k ih =>
    intro c S hL h0 h1
    unfold loseF
    by_cases z : S.1.sta c = 0 ∧ (S.1.man c = a ∨ S.1.wom c = b)
    · rw [if_pos z]
      have e := stp_end hL h0 (by omega) z.1 (show ¬ (2 : Int) = 0 by decide)
      have r := ih (c + 1) _ e.2 (by omega) (by omega)
      exact ⟨e.1.trans r.1, r.2⟩
    · rw [if_neg z]
      exact ih (c + 1) S hL (by omega) (by omega)
theorem stp_bind {S : iXY} (hL : L4 S) (hcp : 0 ≤ S.1.cp ∧ S.1.cp ≤ 4) {c v a b : Int} (h0 : 0 ≤ c) (h1 : c < 4) (hs : S.1.sta c = 0) (hv : ¬ v = 0) : stpP S (bindA S c v a b) ∧ L4 (bindA S c v a b) := by
  have e := stp_end hL h0 h1 hs hv
  have m : stpP (endA S c v) ((endA S c v).1.bind a b, (endA S c v).2) := stpP.of rfl rfl rfl
  have ec : (((endA S c v).1.bind a b, (endA S c v).2) : iXY).1.cp = S.1.cp := rfl
  have r := @stp_lose a b (((endA S c v).1.bind a b, (endA S c v).2) : iXY).1.cp.toNat 0 ((endA S c v).1.bind a b, (endA S c v).2) e.2 (by omega) (by rw [ec]; omega)
  exact ⟨(e.1.trans m).trans r.1, r.2⟩
theorem stp_slip {S : iXY} (hL : L4 S) (hcp : 0 ≤ S.1.cp ∧ S.1.cp ≤ 4) {c a b : Int} (h0 : 0 ≤ c) (h1 : c < 4) (hs : S.1.sta c = 0) : stpP S (slipA S c a b) ∧ L4 (slipA S c a b) := by
  have r := @stp_bind (S.1, slipY S.2) hL hcp c 2 a b h0 h1 hs (by decide)
  exact ⟨(stpP.of (T := (S.1, slipY S.2)) rfl rfl rfl).trans r.1, r.2⟩
theorem stp_deed {S : iXY} (hL : L4 S) (hcp : 0 ≤ S.1.cp ∧ S.1.cp ≤ 4) {c : Int} (h0 : 0 ≤ c) (h1 : c < 4) (hs : S.1.sta c = 0) : stpP S (deedA S c) ∧ L4 (deedA S c) := by
  unfold deedA
  split
  · exact ⟨stpP.of rfl rfl rfl, hL⟩
  · have r := @stp_bind (S.1.inc c, (iYr.mk S.2.od S.2.bz S.2.wt S.2.en S.2.ps (S.2.dn + 1) S.2.sp S.2.fs)) hL hcp c 1 (S.1.man c) (S.1.wom c) h0 h1 hs (by decide)
    exact ⟨(stpP.of (T := (S.1.inc c, (iYr.mk S.2.od S.2.bz S.2.wt S.2.en S.2.ps (S.2.dn + 1) S.2.sp S.2.fs))) rfl rfl rfl).trans r.1, r.2⟩
theorem stp_turn {S : iXY} (hL : L4 S) (hcp : 0 ≤ S.1.cp ∧ S.1.cp ≤ 4) {c : Int} (h0 : 0 ≤ c) (h1 : c < 4) (hs : S.1.sta c = 0) : stpP S (turnA S c) ∧ L4 (turnA S c) := by
  unfold turnA
  by_cases m : metA S c
  · rw [if_pos m]
    dsimp only
    have sl := @sameL_all S.1 (S.1.doer 0 c) (S.1.doer 1 c)
    generalize (S.1.meet (S.1.doer 0 c) (S.1.doer 1 c)).sulk (S.1.doer 0 c) (S.1.doer 1 c) = X at *
    have e1 : X.sa = S.1.sa := by rw [sl] <;> rfl
    have e2 : X.cp = S.1.cp := by rw [sl] <;> rfl
    have m1 : stpP S (X, busyY S.2 (S.1.doer 0 c) (S.1.doer 1 c)) := stpP.of e1 rfl rfl
    have hL2 : L4 (X, busyY S.2 (S.1.doer 0 c) (S.1.doer 1 c)) := ⟨by show X.sa.length = 4; rw [e1]; exact hL.1, hL.2⟩
    have hs2 : (((X, busyY S.2 (S.1.doer 0 c) (S.1.doer 1 c)) : iXY)).1.sta c = 0 := by show X.sta c = 0; unfold iVal.sta; rw [e1]; exact hs
    have hc2 : 0 ≤ (((X, busyY S.2 (S.1.doer 0 c) (S.1.doer 1 c)) : iXY)).1.cp ∧ (((X, busyY S.2 (S.1.doer 0 c) (S.1.doer 1 c)) : iXY)).1.cp ≤ 4 := by show 0 ≤ X.cp ∧ X.cp ≤ 4; rw [e2]; exact hcp
    split
    · have r := stp_slip hL2 hc2 (a := S.1.doer 0 c) (b := S.1.doer 1 c) h0 h1 hs2
      exact ⟨m1.trans r.1, r.2⟩
    · have r := stp_deed hL2 hc2 h0 h1 hs2
      exact ⟨m1.trans r.1, r.2⟩
  · rw [if_neg m]
    exact ⟨stpP.of rfl rfl rfl, hL⟩
theorem stp_dayF : ∀ (k : Nat) (i : Int) (S : iXY), L4 S → 0 ≤ S.1.cp ∧ S.1.cp ≤ 4 → (∀ j, 0 ≤ j → j < S.1.cp → 0 ≤ S.2.ord j ∧ S.2.ord j < 4) → 0 ≤ i → i + k = S.1.cp → stpP S (dayF k i S) ∧ L4 (dayF k i S) := by
  intro k
  induction k with
  | zero => intro i S hL hcp ho h0 h1; exact ⟨stpP.refl, hL⟩
  | succ k ih =>
    intro i S hL hcp ho h0 h1
    unfold dayF
    by_cases z : S.1.sta (S.2.ord i) = 0
    · rw [if_pos z]
      have o := ho i h0 (by omega)
      have e := stp_turn hL hcp o.1 o.2 z
      have t := @sameT_turn S (S.2.ord i)
      have ecp := t.1
      have eod : (turnA S (S.2.ord i)).2.od = S.2.od := t.2.2.2.2.2.2.2.2.2.1
      have r := ih (i + 1) (turnA S (S.2.ord i)) e.2 (by rw [ecp]; exact hcp) (fun j a b => by
        rw [ecp] at b
        have := ho j a b
        unfold iYr.ord at *
        rw [eod]; exact this) (by omega) (by rw [ecp]; omega)
      exact ⟨e.1.trans r.1, r.2⟩
    · rw [if_neg z]
      exact ih (i + 1) S hL hcp ho (by omega) (by omega)
def stpD (S T : iXY) : Prop := S.2.ps ≤ T.2.ps ∧ ∀ c : Int, 0 ≤ c → c < 4 → (T.1.sta c = S.1.sta c ∧ T.2.fin c = S.2.fin c) ∨ (S.1.sta c = 0 ∧ ¬ T.1.sta c = 0 ∧ S.2.ps + 1 ≤ T.2.fin c ∧ T.2.fin c ≤ T.2.ps)
theorem stpD.trans {S T U : iXY} (h : stpD S T) (k : stpD T U) : stpD S U := by
  refine ⟨Int.le_trans h.1 k.1, fun c a b => ?_⟩
  have h1 := h.1
  have k1 := k.1
  rcases h.2 c a b with x | x
  · rcases k.2 c a b with y | y
    · left; exact ⟨y.1.trans x.1, y.2.trans x.2⟩
    · right; exact ⟨x.1.symm.trans y.1, y.2.1, by omega, by omega⟩
  · rcases k.2 c a b with y | y
    · right; exact ⟨x.1, fun z => x.2.1 (y.1.symm.trans z), by rw [y.2]; omega, by rw [y.2]; omega⟩
    · exact absurd y.1 x.2.1
theorem stp_day {S : iXY} {B : Int} (h : OkS S B) : stpD S (dayA S) := by
  have hcp := h.1.cp
  have k := stp_dayF S.1.cp.toNat 0 (dawn S) ⟨h.1.lsa, h.2.len⟩ hcp (fun j a b => by
    have b : j < S.1.cp := b
    have : 0 ≤ S.2.ord j ∧ S.2.ord j < S.1.cp := h.2.ord j a b
    show 0 ≤ S.2.ord j ∧ S.2.ord j < 4
    omega) (by omega) (by show 0 + (S.1.cp.toNat : Int) = S.1.cp; omega)
  have e1 : (dayA S).2.ps = S.2.ps + 1 := k.1.1
  refine ⟨by omega, fun c a b => ?_⟩
  rcases k.1.2 c a b with x | x
  · left; exact x
  · right
    have x3 : (dayA S).2.fin c = S.2.ps + 1 := x.2.2
    exact ⟨x.1, x.2.1, by omega, by omega⟩
theorem stp_days : ∀ (n : Nat) (S : iXY) (B : Int), OkS S B → stpD S (daysA n S) := by
  intro n
  induction n with
  | zero => intro S B h; exact ⟨Int.le_refl _, fun _ _ _ => Or.inl ⟨rfl, rfl⟩⟩
  | succ n ih =>
    intro S B h
    exact (stp_day h).trans (ih (dayA S) (B + 5) (okS_day h).1)
