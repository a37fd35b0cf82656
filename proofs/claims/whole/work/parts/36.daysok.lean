set_option maxRecDepth 16384
/-! ===== days: what stays so ===== -/
def OkS (S : iXY) (B : Int) : Prop := OkV S.1 ∧ OkY S.1 S.2 B
theorem OkY.cpc {X X' : iVal} {Y : iYr} {B : Int} (h : OkY X Y B) (e : X'.cp = X.cp) : OkY X' Y B :=
  (OkY.mk h.lod h.lbz h.lwt h.len (fun i a b => by rw [e] at *; exact h.ord i a b) (fun i j a b c d z => by rw [e] at *; exact h.inj i j a b c d z) h.bus h.wai h.fin h.ps h.dn h.sp h.fs)
/-- only states and ends change -/
def sameE (S T : iXY) : Prop := T.1 = (iVal.mk S.1.on S.1.na S.1.de S.1.bo S.1.li S.1.cp S.1.me S.1.wo (T.1.sa) S.1.dd S.1.wh S.1.sl S.1.dy) ∧ T.2 = (iYr.mk S.2.od S.2.bz S.2.wt (T.2.en) S.2.ps S.2.dn S.2.sp S.2.fs)
theorem sameE.refl {S : iXY} : sameE S S := ⟨rfl, rfl⟩
theorem sameE.trans {S T U : iXY} (h : sameE S T) (h' : sameE T U) : sameE S U := by
  unfold sameE at *
  refine ⟨?_, ?_⟩
  · rw [h'.1]; rw [h.1] <;> rfl
  · rw [h'.2]; rw [h.2] <;> rfl
section OKS
variable {S : iXY} {B : Int}
theorem sameE_end {c v : Int} : sameE S (endA S c v) := ⟨rfl, rfl⟩
theorem okS_end (h : OkS S B) {c v : Int} (h0 : 0 ≤ c) (h1 : c < S.1.cp) (h2 : 1 ≤ v) (h3 : v ≤ 2) : OkS (endA S c v) B := by
  have := h.1.cp
  refine ⟨okV_sst h.1 h0 h1 h2 h3, ?_⟩
  have h2 := h.2
  have e := h2.ps
  exact (OkY.mk h2.lod h2.lbz h2.lwt (by show (S.2.en.set _ _).length = 4; rw [List.length_set]; exact h2.len) h2.ord h2.inj h2.bus h2.wai (fun c' g0 g1 => by
      show 0 ≤ (S.2.en.set c.toNat S.2.ps).getD c'.toNat 0 ∧ (S.2.en.set c.toNat S.2.ps).getD c'.toNat 0 ≤ B
      rw [gs h0 g0 (by rw [h2.len]; omega)]
      split
      · exact e
      · exact h2.fin _ g0 g1) h2.ps h2.dn h2.sp h2.fs)
theorem loseF_ok {a b : Int} : ∀ (k : Nat) (c : Int) (S : iXY), OkS S B → 0 ≤ c → c + k = S.1.cp → OkS (loseF a b k c S) B ∧ sameE S (loseF a b k c S) := by
  intro k
  induction k with
  | zero => intro c S h h0 h1; exact ⟨h, .refl⟩
  | succ k ih =>
    intro c S h h0 h1
    unfold loseF
    split
    · have e := ih (c + 1) (endA S c 2) (okS_end h h0 (by omega) (by omega) (by omega)) (by omega) (by show c + 1 + k = S.1.cp; omega)
      exact ⟨e.1, sameE_end.trans e.2⟩
    · exact ih _ S h (by omega) (by omega)
theorem okS_lose (h : OkS S B) {a b : Int} : OkS (loseA S a b) B ∧ sameE S (loseA S a b) := by
  have := h.1.cp
  exact loseF_ok _ _ _ h (by omega) (by omega)
/-- states, ends and bounds change -/
def sameB (S T : iXY) : Prop := T.1 = (iVal.mk S.1.on S.1.na S.1.de (T.1.bo) S.1.li S.1.cp S.1.me S.1.wo (T.1.sa) S.1.dd S.1.wh S.1.sl S.1.dy) ∧ T.2 = (iYr.mk S.2.od S.2.bz S.2.wt (T.2.en) S.2.ps S.2.dn S.2.sp S.2.fs)
theorem okS_bind (h : OkS S B) {c v a b : Int} (h0 : 0 ≤ c) (h1 : c < S.1.cp) (h2 : 1 ≤ v) (h3 : v ≤ 2) (g0 : 0 ≤ a) (g1 : a < S.1.num 0) (g2 : 0 ≤ b) (g3 : b < S.1.num 1) : OkS (bindA S c v a b) B ∧ sameB S (bindA S c v a b) := by
  have e1 := okS_end h h0 h1 h2 h3
  have e2 : OkS ((endA S c v).1.bind a b, (endA S c v).2) B := ⟨okV_bind e1.1 g0 g1 g2 g3, e1.2.cpc rfl⟩
  have e3 := okS_lose e2 (a := a) (b := b)
  refine ⟨e3.1, ?_⟩
  obtain ⟨z1, z2⟩ := e3.2
  unfold bindA sameB
  exact ⟨by rw [z1]; rfl, by rw [z2]; rfl⟩
theorem okS_slip (h : OkS S B) {c a b : Int} (h0 : 0 ≤ c) (h1 : c < S.1.cp) (g0 : 0 ≤ a) (g1 : a < S.1.num 0) (g2 : 0 ≤ b) (g3 : b < S.1.num 1) : OkS (slipA S c a b) (B + 1) := by
  have h2 := h.2
  have e : OkS (S.1, slipY S.2) (B + 1) := ⟨h.1, (OkY.mk (h2.mono (by omega : B ≤ B + 1)).lod (h2.mono (by omega : B ≤ B + 1)).lbz (h2.mono (by omega : B ≤ B + 1)).lwt (h2.mono (by omega : B ≤ B + 1)).len (h2.mono (by omega : B ≤ B + 1)).ord (h2.mono (by omega : B ≤ B + 1)).inj (h2.mono (by omega : B ≤ B + 1)).bus (h2.mono (by omega : B ≤ B + 1)).wai (h2.mono (by omega : B ≤ B + 1)).fin (h2.mono (by omega : B ≤ B + 1)).ps (h2.mono (by omega : B ≤ B + 1)).dn (by have := h2.sp; show 0 ≤ S.2.sp + 1 ∧ S.2.sp + 1 ≤ B + 1; omega) (by have := h2.fs; have := h2.ps; show 0 ≤ (if S.2.sp + 1 = 1 then S.2.ps else S.2.fs) ∧ (if S.2.sp + 1 = 1 then S.2.ps else S.2.fs) ≤ B + 1; split <;> omega))⟩
  exact (okS_bind e h0 h1 (by omega) (by omega) g0 g1 g2 g3).1
theorem okS_deed (h : OkS S B) {c : Int} (h0 : 0 ≤ c) (h1 : c < S.1.cp) (hs : S.1.sta c = 0) : OkS (deedA S c) (B + 1) := by
  have h2 := h.2
  have hcp := h.1.cp
  have hd := h.1.ddg c h0 (by omega) hs
  have em := h.1.man c h0 h1
  have ew := h.1.wom c h0 h1
  have ed := h2.dn
  have eY : ∀ X : iVal, X.cp = S.1.cp → OkY X (iYr.mk S.2.od S.2.bz S.2.wt S.2.en S.2.ps (S.2.dn + 1) S.2.sp S.2.fs) (B + 1) := fun X e =>
    OkY.cpc (X := S.1) (OkY.mk (h2.mono (by omega : B ≤ B + 1)).lod (h2.mono (by omega : B ≤ B + 1)).lbz (h2.mono (by omega : B ≤ B + 1)).lwt (h2.mono (by omega : B ≤ B + 1)).len (h2.mono (by omega : B ≤ B + 1)).ord (h2.mono (by omega : B ≤ B + 1)).inj (h2.mono (by omega : B ≤ B + 1)).bus (h2.mono (by omega : B ≤ B + 1)).wai (h2.mono (by omega : B ≤ B + 1)).fin (h2.mono (by omega : B ≤ B + 1)).ps (by show 0 ≤ S.2.dn + 1 ∧ S.2.dn + 1 ≤ B + 1; omega) (h2.mono (by omega : B ≤ B + 1)).sp (h2.mono (by omega : B ≤ B + 1)).fs) e
  unfold deedA
  split
  · rename_i z
    exact ⟨okV_inc h.1 h0 h1 z, eY _ rfl⟩
  · rename_i z
    have e1 : OkV ((S.1.inc c).sst c 1) := okV_inc6 h.1 h0 h1 (by omega)
    have e2 : OkV (((S.1.inc c).sst c 1).bind (S.1.man c) (S.1.wom c)) := okV_bind e1 em.1 em.2 ew.1 ew.2
    have e3 : OkY ((S.1.inc c).sst c 1) (endA (S.1.inc c, (iYr.mk S.2.od S.2.bz S.2.wt S.2.en S.2.ps (S.2.dn + 1) S.2.sp S.2.fs)) c 1).2 (B + 1) := by
      have h3 := eY ((S.1.inc c).sst c 1) rfl
      have e := h3.ps
      exact (OkY.mk h3.lod h3.lbz h3.lwt (by show (S.2.en.set _ _).length = 4; rw [List.length_set]; exact h2.len) h3.ord h3.inj h3.bus h3.wai (fun c' g0 g1 => by
          show 0 ≤ (S.2.en.set c.toNat S.2.ps).getD c'.toNat 0 ∧ (S.2.en.set c.toNat S.2.ps).getD c'.toNat 0 ≤ B + 1
          rw [gs h0 g0 (by rw [h2.len]; omega)]
          split
          · exact e
          · exact h3.fin _ g0 g1) h3.ps h3.dn h3.sp h3.fs)
    exact (okS_lose (S := (((S.1.inc c).sst c 1).bind (S.1.man c) (S.1.wom c), (endA (S.1.inc c, (iYr.mk S.2.od S.2.bz S.2.wt S.2.en S.2.ps (S.2.dn + 1) S.2.sp S.2.fs)) c 1).2)) ⟨e2, e3.cpc rfl⟩).1
theorem okY_busy {X : iVal} {Y : iYr} (h : OkY X Y B) {a b : Int} (g0 : 0 ≤ a) (g1 : a < 5) (g2 : 0 ≤ b) (g3 : b < 5) : OkY X (busyY Y a b) B :=
  (OkY.mk h.lod (by show ((Y.bz.set _ _).set _ _).length = 10; rw [List.length_set, List.length_set]; exact h.lbz) h.lwt h.len h.ord h.inj (fun i a0 a1 => by
      show ((Y.bz.set a.toNat 1).set (5 + b).toNat 1).getD i.toNat 0 = 0 ∨ ((Y.bz.set a.toNat 1).set (5 + b).toNat 1).getD i.toNat 0 = 1
      have := h.lbz
      rw [gs (by omega) a0 (by rw [List.length_set]; omega), gs g0 a0 (by omega)]
      split
      · right; rfl
      · split
        · right; rfl
        · exact h.bus _ a0 a1) h.wai h.fin h.ps h.dn h.sp h.fs)
theorem okY_wait {X : iVal} {Y : iYr} (h : OkY X Y B) {c : Int} (g0 : 0 ≤ c) (g1 : c < 4) : OkY X (waitY Y c) (B + 1) :=
  (OkY.mk (h.mono (by omega : B ≤ B + 1)).lod (h.mono (by omega : B ≤ B + 1)).lbz (by show (Y.wt.set _ _).length = 4; rw [List.length_set]; exact h.lwt) (h.mono (by omega : B ≤ B + 1)).len (h.mono (by omega : B ≤ B + 1)).ord (h.mono (by omega : B ≤ B + 1)).inj (h.mono (by omega : B ≤ B + 1)).bus (fun c' a0 a1 => by
      show 0 ≤ (Y.wt.set c.toNat (Y.wai c + 1)).getD c'.toNat 0 ∧ (Y.wt.set c.toNat (Y.wai c + 1)).getD c'.toNat 0 ≤ B + 1
      rw [gs g0 a0 (by rw [h.lwt]; omega)]
      have e := h.wai c g0 g1
      split
      · omega
      · have := h.wai c' a0 a1
        unfold iYr.wai at this
        omega) (h.mono (by omega : B ≤ B + 1)).fin (h.mono (by omega : B ≤ B + 1)).ps (h.mono (by omega : B ≤ B + 1)).dn (h.mono (by omega : B ≤ B + 1)).sp (h.mono (by omega : B ≤ B + 1)).fs)
/-- what a turn leaves alone -/
def sameT (S T : iXY) : Prop := T.1.cp = S.1.cp ∧ T.1.dy = S.1.dy ∧ T.1.on = S.1.on ∧ T.1.na = S.1.na ∧ T.1.de = S.1.de ∧ T.1.me = S.1.me ∧ T.1.wo = S.1.wo ∧ T.1.wh = S.1.wh ∧ T.1.sl = S.1.sl ∧ T.2.od = S.2.od ∧ T.2.ps = S.2.ps
theorem sameT.refl {S : iXY} : sameT S S := ⟨rfl, rfl, rfl, rfl, rfl, rfl, rfl, rfl, rfl, rfl, rfl⟩
theorem sameT.trans {S T U : iXY} (h : sameT S T) (k : sameT T U) : sameT S U := by
  obtain ⟨h1, h2, h3, h4, h5, h6, h7, h8, h9, h10, h11⟩ := h
  obtain ⟨k1, k2, k3, k4, k5, k6, k7, k8, k9, k10, k11⟩ := k
  exact ⟨k1.trans h1, k2.trans h2, k3.trans h3, k4.trans h4, k5.trans h5, k6.trans h6, k7.trans h7, k8.trans h8, k9.trans h9, k10.trans h10, k11.trans h11⟩
theorem sameT_of_E {S T : iXY} (h : sameE S T) : sameT S T := by
  obtain ⟨h1, h2⟩ := h
  unfold sameT
  rw [h1, h2]
  refine ⟨rfl, rfl, rfl, rfl, rfl, rfl, rfl, rfl, rfl, rfl, rfl⟩
theorem sameT_lose {k : Nat} {c a b : Int} : sameT S (loseF a b k c S) := by
  induction k generalizing c S with
  | zero => exact .refl
  | succ k ih =>
    unfold loseF
    split
    · exact sameT.trans (sameT_of_E sameE_end) ih
    · exact ih
theorem sameT_bind {c v a b : Int} : sameT S (bindA S c v a b) := by
  unfold bindA loseA
  exact sameT.trans (T := ((endA S c v).1.bind a b, (endA S c v).2)) ⟨rfl, rfl, rfl, rfl, rfl, rfl, rfl, rfl, rfl, rfl, rfl⟩ sameT_lose
theorem sameT_slip {c a b : Int} : sameT S (slipA S c a b) := sameT.trans (T := (S.1, slipY S.2)) ⟨rfl, rfl, rfl, rfl, rfl, rfl, rfl, rfl, rfl, rfl, rfl⟩ sameT_bind
theorem sameT_deed {c : Int} : sameT S (deedA S c) := by
  unfold deedA
  split
  · exact ⟨rfl, rfl, rfl, rfl, rfl, rfl, rfl, rfl, rfl, rfl, rfl⟩
  · exact sameT.trans (T := (S.1.inc c, (iYr.mk S.2.od S.2.bz S.2.wt S.2.en S.2.ps (S.2.dn + 1) S.2.sp S.2.fs))) ⟨rfl, rfl, rfl, rfl, rfl, rfl, rfl, rfl, rfl, rfl, rfl⟩ sameT_bind
theorem sameT_of_L {X X' : iVal} {Y : iYr} (h : sameL X X') : sameT (X, Y) (X', Y) := by
  have e : X' = (iVal.mk X.on X.na X.de X.bo (X'.li) X.cp X.me X.wo X.sa X.dd X.wh X.sl X.dy) := h
  unfold sameT
  dsimp only
  rw [e]
  exact ⟨rfl, rfl, rfl, rfl, rfl, rfl, rfl, rfl, rfl, rfl, rfl⟩
theorem sameL_meet {X : iVal} {a b : Int} : sameL X (X.meet a b) := rfl
theorem sameL_sulkF {a b : Int} : ∀ (k : Nat) (c : Int) (X : iVal), sameL X (iVal.sulkF a b k c X) := by
  intro k
  induction k with
  | zero => intro c X; exact sameL_rfl
  | succ k ih => intro c X; exact sameL_sulk1.trans (ih _ _)
theorem sameL_all {X : iVal} {a b : Int} : sameL X ((X.meet a b).sulk a b) := sameL_meet.trans (sameL_sulkF _ _ _)
theorem sameT_turn {c : Int} : sameT S (turnA S c) := by
  unfold turnA
  split
  · dsimp only
    have e : sameT S ((S.1.meet (S.1.doer 0 c) (S.1.doer 1 c)).sulk (S.1.doer 0 c) (S.1.doer 1 c), busyY S.2 (S.1.doer 0 c) (S.1.doer 1 c)) :=
      sameT.trans (T := (S.1, busyY S.2 (S.1.doer 0 c) (S.1.doer 1 c))) ⟨rfl, rfl, rfl, rfl, rfl, rfl, rfl, rfl, rfl, rfl, rfl⟩ (sameT_of_L sameL_all)
    split
    · exact e.trans sameT_slip
    · exact e.trans sameT_deed
  · exact ⟨rfl, rfl, rfl, rfl, rfl, rfl, rfl, rfl, rfl, rfl, rfl⟩
theorem okS_turn (h : OkS S B) {c : Int} (h0 : 0 ≤ c) (h1 : c < S.1.cp) (hs : S.1.sta c = 0) : OkS (turnA S c) (B + 1) := by
  have hcp := h.1.cp
  have n0 := h.1.n0
  have n1 := h.1.n1
  have a := doer_b h.1 (s := 0) (c := c) (by omega) (by omega) h0 h1
  have b := doer_b h.1 (s := 1) (c := c) (by omega) (by omega) h0 h1
  unfold turnA
  split
  · dsimp only
    have e := okV_sulk (okV_meet h.1 a.1 a.2 b.1 b.2) (a := S.1.doer 0 c) (b := S.1.doer 1 c)
    have l : (S.1.meet (S.1.doer 0 c) (S.1.doer 1 c)).sulk (S.1.doer 0 c) (S.1.doer 1 c) = (iVal.mk S.1.on S.1.na S.1.de S.1.bo (((S.1.meet (S.1.doer 0 c) (S.1.doer 1 c)).sulk (S.1.doer 0 c) (S.1.doer 1 c)).li) S.1.cp S.1.me S.1.wo S.1.sa S.1.dd S.1.wh S.1.sl S.1.dy) := sameL_all
    have o : OkS ((S.1.meet (S.1.doer 0 c) (S.1.doer 1 c)).sulk (S.1.doer 0 c) (S.1.doer 1 c), busyY S.2 (S.1.doer 0 c) (S.1.doer 1 c)) B :=
      ⟨e.1, (okY_busy h.2 a.1 (by omega) b.1 (by omega)).cpc (by rw [l] <;> rfl)⟩
    split
    · exact okS_slip o h0 (by rw [l]; exact h1) a.1 (by rw [l]; exact a.2) b.1 (by rw [l]; exact b.2)
    · exact okS_deed o h0 (by rw [l]; exact h1) (by rw [l]; exact hs)
  · exact ⟨h.1, okY_wait h.2 h0 (by omega)⟩
end OKS
