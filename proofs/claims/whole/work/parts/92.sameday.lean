set_option maxRecDepth 16384
/-! ===== what a day does to the valley: the counters of the year don't matter ===== -/
def sdP (S T : iXY) : Prop := S.1 = T.1 ∧ S.2.od = T.2.od ∧ S.2.bz = T.2.bz
def vdY (X : iVal) (Y : iYr) (n : Nat) : iVal := (daysA n (X, Y)).1
section OPS
variable {S T : iXY} {a b c v : Int}
theorem sd_end (h : sdP S T) : sdP (endA S c v) (endA T c v) := ⟨by show S.1.sst c v = T.1.sst c v; rw [h.1], h.2.1, h.2.2⟩
theorem sd_lose : ∀ (k : Nat) (c : Int) (S T : iXY), sdP S T → sdP (loseF a b k c S) (loseF a b k c T) := by
  intro k
  induction k with
  | zero => intro c S T h; exact h
  | succ k ih =>
    intro c S T h
    unfold loseF
    by_cases z : S.1.sta c = 0 ∧ (S.1.man c = a ∨ S.1.wom c = b)
    · have z2 : T.1.sta c = 0 ∧ (T.1.man c = a ∨ T.1.wom c = b) := by rw [← h.1]; exact z
      rw [if_pos z, if_pos z2]
      exact ih _ _ _ (sd_end h)
    · have z2 : ¬ (T.1.sta c = 0 ∧ (T.1.man c = a ∨ T.1.wom c = b)) := by rw [← h.1]; exact z
      rw [if_neg z, if_neg z2]
      exact ih _ _ _ h
theorem sd_loseA (h : sdP S T) : sdP (loseA S a b) (loseA T a b) := by
  unfold loseA
  rw [← h.1]
  exact sd_lose _ _ _ _ h
theorem sd_bind (h : sdP S T) : sdP (bindA S c v a b) (bindA T c v a b) := by
  have e := sd_end (c := c) (v := v) h
  unfold bindA
  refine sd_loseA ⟨?_, e.2⟩
  show (endA S c v).1.bind a b = (endA T c v).1.bind a b
  rw [e.1]
theorem sd_slip (h : sdP S T) : sdP (slipA S c a b) (slipA T c a b) := by
  unfold slipA
  exact sd_bind ⟨h.1, h.2.1, h.2.2⟩
theorem sd_deed (h : sdP S T) : sdP (deedA S c) (deedA T c) := by
  unfold deedA
  rw [← h.1]
  by_cases z : S.1.dds c + 1 < 6
  · rw [if_pos z, if_pos z]
    exact ⟨rfl, h.2.1, h.2.2⟩
  · rw [if_neg z, if_neg z]
    exact sd_bind ⟨rfl, h.2.1, h.2.2⟩
theorem sd_turn (h : sdP S T) : sdP (turnA S c) (turnA T c) := by
  have eb : ∀ i, T.2.bus i = S.2.bus i := fun i => by unfold iYr.bus; rw [h.2.2]
  have em : metA T c ↔ metA S c := by
    unfold metA isTak
    rw [eb, eb, ← h.1]
  unfold turnA
  by_cases m : metA S c
  · rw [if_pos m, if_pos (em.mpr m)]
    dsimp only
    rw [← h.1]
    generalize S.1.doer 0 c = a
    generalize S.1.doer 1 c = b
    have hb : sdP ((S.1.meet a b).sulk a b, busyY S.2 a b) ((S.1.meet a b).sulk a b, busyY T.2 a b) := ⟨rfl, h.2.1, by
      show (S.2.bz.set a.toNat 1).set (5 + b).toNat 1 = (T.2.bz.set a.toNat 1).set (5 + b).toNat 1
      rw [h.2.2]⟩
    split
    · exact sd_slip hb
    · exact sd_deed hb
  · rw [if_neg m, if_neg (fun z => m (em.mp z))]
    exact ⟨h.1, h.2.1, h.2.2⟩
theorem sd_dayF : ∀ (k : Nat) (i : Int) (S T : iXY), sdP S T → sdP (dayF k i S) (dayF k i T) := by
  intro k
  induction k with
  | zero => intro i S T h; exact h
  | succ k ih =>
    intro i S T h
    have eo : T.2.ord i = S.2.ord i := by unfold iYr.ord; rw [h.2.1]
    unfold dayF
    rw [eo, ← h.1]
    by_cases z : S.1.sta (S.2.ord i) = 0
    · rw [if_pos z, if_pos z]
      exact ih _ _ _ (sd_turn h)
    · rw [if_neg z, if_neg z]
      exact ih _ _ _ h
theorem sd_dawn (h : sdP S T) : sdP (dawn S) (dawn T) := by
  refine ⟨?_, h.2.1, rfl⟩
  show ((iVal.mk S.1.on S.1.na S.1.de S.1.bo S.1.li S.1.cp S.1.me S.1.wo S.1.sa S.1.dd S.1.wh S.1.sl (S.1.dy + 1)) : iVal) = (iVal.mk T.1.on T.1.na T.1.de T.1.bo T.1.li T.1.cp T.1.me T.1.wo T.1.sa T.1.dd T.1.wh T.1.sl (T.1.dy + 1))
  rw [h.1]
theorem sd_day (h : S.1 = T.1) (ho : S.2.od = T.2.od) : sdP (dayA S) (dayA T) := by
  have w : sdP (dawn S) (dawn T) := by
    refine ⟨?_, ho, rfl⟩
    show ((iVal.mk S.1.on S.1.na S.1.de S.1.bo S.1.li S.1.cp S.1.me S.1.wo S.1.sa S.1.dd S.1.wh S.1.sl (S.1.dy + 1)) : iVal) = (iVal.mk T.1.on T.1.na T.1.de T.1.bo T.1.li T.1.cp T.1.me T.1.wo T.1.sa T.1.dd T.1.wh T.1.sl (T.1.dy + 1))
    rw [h]
  unfold dayA
  rw [← h]
  exact sd_dayF _ _ _ _ w
theorem sd_days : ∀ (n : Nat) (S T : iXY), S.1 = T.1 → S.2.od = T.2.od → (daysA n S).1 = (daysA n T).1 ∧ (daysA n S).2.od = (daysA n T).2.od := by
  intro n
  induction n with
  | zero => intro S T h ho; exact ⟨h, ho⟩
  | succ n ih =>
    intro S T h ho
    have k := sd_day h ho
    exact ih _ _ k.1 k.2.1
end OPS
