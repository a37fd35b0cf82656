/-! ===== days: what they do ===== -/
def iYr.ord (Y : iYr) (i : Int) : Int := Y.od.getD i.toNat 0
def iYr.bus (Y : iYr) (i : Int) : Int := Y.bz.getD i.toNat 0
def iYr.wai (Y : iYr) (c : Int) : Int := Y.wt.getD c.toNat 0
def iYr.fin (Y : iYr) (c : Int) : Int := Y.en.getD c.toNat 0
structure OkY (X : iVal) (Y : iYr) (B : Int) : Prop where
  lod : Y.od.length = 4
  lbz : Y.bz.length = 10
  lwt : Y.wt.length = 4
  len : Y.en.length = 4
  ord : ∀ i, 0 ≤ i → i < X.cp → 0 ≤ Y.ord i ∧ Y.ord i < X.cp
  inj : ∀ i j, 0 ≤ i → i < X.cp → 0 ≤ j → j < X.cp → Y.ord i = Y.ord j → i = j
  bus : ∀ i, 0 ≤ i → i < 10 → Y.bus i = 0 ∨ Y.bus i = 1
  wai : ∀ c, 0 ≤ c → c < 4 → 0 ≤ Y.wai c ∧ Y.wai c ≤ B
  fin : ∀ c, 0 ≤ c → c < 4 → 0 ≤ Y.fin c ∧ Y.fin c ≤ B
  ps : 0 ≤ Y.ps ∧ Y.ps ≤ B
  dn : 0 ≤ Y.dn ∧ Y.dn ≤ B
  sp : 0 ≤ Y.sp ∧ Y.sp ≤ B
  fs : 0 ≤ Y.fs ∧ Y.fs ≤ B
theorem OkY.mono {X : iVal} {Y : iYr} {B B' : Int} (h : OkY X Y B) (hB : B ≤ B') : OkY X Y B' :=
  { h with
    wai := fun c a b => ⟨(h.wai c a b).1, by have := h.wai c a b; omega⟩
    fin := fun c a b => ⟨(h.fin c a b).1, by have := h.fin c a b; omega⟩
    ps := by have := h.ps; omega
    dn := by have := h.dn; omega
    sp := by have := h.sp; omega
    fs := by have := h.fs; omega }
/-- what a couple's one sulks about -/
def iVal.slk1 (X : iVal) (s k : Int) : Int := sB (nK (X.nx s k)) (nF (X.nx s k))
def iVal.grw (X : iVal) (s k own : Int) : Int := gB (nK (X.nx s k)) (nF (X.nx s k)) own
def iVal.sulk1 (X : iVal) (a b c : Int) : iVal :=
  if X.sta c = 0 then
    (if X.wom c = b ∧ ¬ X.man c = a then X.alk 0 (X.man c) (X.wom c) (-(X.slk1 0 (X.man c)))
     else if X.man c = a ∧ ¬ X.wom c = b then X.alk 1 (X.wom c) (X.man c) (-(X.slk1 1 (X.wom c))) else X) else X
def iVal.sulkF (a b : Int) : Nat → Int → iVal → iVal
  | 0, _, X => X
  | k + 1, c, X => iVal.sulkF a b k (c + 1) (X.sulk1 a b c)
def iVal.meet (X : iVal) (a b : Int) : iVal := (X.alk 0 a b (X.grw 0 a (X.own a b))).alk 1 b a (X.grw 1 b (X.own a b))
def iVal.sulk (X : iVal) (a b : Int) : iVal := iVal.sulkF a b X.cp.toNat 0 X
abbrev iXY : Type := iVal × iYr
def endA (S : iXY) (c v : Int) : iXY := (S.1.sst c v, { S.2 with en := S.2.en.set c.toNat S.2.ps })
def loseF (a b : Int) : Nat → Int → iXY → iXY
  | 0, _, S => S
  | k + 1, c, S => loseF a b k (c + 1) (if S.1.sta c = 0 ∧ (S.1.man c = a ∨ S.1.wom c = b) then endA S c 2 else S)
def loseA (S : iXY) (a b : Int) : iXY := loseF a b S.1.cp.toNat 0 S
def slipY (Y : iYr) : iYr := { Y with sp := Y.sp + 1, fs := if Y.sp + 1 = 1 then Y.ps else Y.fs }
def bindA (S : iXY) (c v a b : Int) : iXY := loseA ((endA S c v).1.bind a b, (endA S c v).2) a b
def slipA (S : iXY) (c a b : Int) : iXY := bindA (S.1, slipY S.2) c 2 a b
def deedA (S : iXY) (c : Int) : iXY :=
  if S.1.dds c + 1 < 6 then (S.1.inc c, { S.2 with dn := S.2.dn + 1 })
  else bindA (S.1.inc c, { S.2 with dn := S.2.dn + 1 }) c 1 (S.1.man c) (S.1.wom c)
def busyY (Y : iYr) (a b : Int) : iYr := { Y with bz := (Y.bz.set a.toNat 1).set (5 + b).toNat 1 }
def waitY (Y : iYr) (c : Int) : iYr := { Y with wt := Y.wt.set c.toNat (Y.wai c + 1) }
def isTak (S : iXY) (s k : Int) : Prop := ¬ S.1.bnd s k = -1 ∨ S.2.bus (s * 5 + k) = 1
instance {S : iXY} {s k : Int} : Decidable (isTak S s k) := by unfold isTak; infer_instance
/-- a turn: whether the doers meet; what is then -/
def metA (S : iXY) (c : Int) : Prop := ¬ (isTak S 0 (S.1.doer 0 c) ∨ isTak S 1 (S.1.doer 1 c))
instance {S : iXY} {c : Int} : Decidable (metA S c) := by unfold metA; infer_instance
def turnA (S : iXY) (c : Int) : iXY :=
  if metA S c then
    (let a := S.1.doer 0 c
     let b := S.1.doer 1 c
     let X := (S.1.meet a b).sulk a b
     let T : iXY := (X, busyY S.2 a b)
     if ¬ (a = S.1.man c ∧ b = S.1.wom c) ∧ X.sl < X.lik 0 a b ∧ X.sl < X.lik 1 b a then slipA T c a b else deedA T c)
  else (S.1, waitY S.2 c)
def dayF : Nat → Int → iXY → iXY
  | 0, _, S => S
  | k + 1, i, S => dayF k (i + 1) (if S.1.sta (S.2.ord i) = 0 then turnA S (S.2.ord i) else S)
def dawn (S : iXY) : iXY := ({ S.1 with dy := S.1.dy + 1 }, { S.2 with bz := List.replicate 10 0, ps := S.2.ps + 1 })
def dayA (S : iXY) : iXY := dayF S.1.cp.toNat 0 (dawn S)
def daysA : Nat → iXY → iXY
  | 0, S => S
  | n + 1, S => daysA n (dayA S)
section DAYS
variable {X : iVal} {Y : iYr} {S : iXY} {B : Int}
theorem slk1_b (hO : OkV X) {s k : Int} (h0 : 0 ≤ s) (h1 : s < 2) (h2 : 0 ≤ k) (h3 : k < 5) : 0 ≤ X.slk1 s k ∧ X.slk1 s k ≤ 18 := by
  have := nF_b (hO.nat s k h0 h1 h2 h3).2
  exact sB_b this.1 this.2
theorem grw_b (hO : OkV X) {s k own : Int} (h0 : 0 ≤ s) (h1 : s < 2) (h2 : 0 ≤ k) (h3 : k < 5) : 0 ≤ X.grw s k own ∧ X.grw s k own ≤ 14 := by
  have := nF_b (hO.nat s k h0 h1 h2 h3).2
  exact gB_b this.1 this.2
/-- all but the likes is as it was -/
def sameL (X X' : iVal) : Prop := X' = { X with li := X'.li }
theorem sameL_rfl : sameL X X := rfl
theorem sameL_slk {s a b v : Int} : sameL X (X.slk s a b v) := rfl
theorem sameL_alk {s a b v : Int} : sameL X (X.alk s a b v) := rfl
theorem sameL.trans {X X' X'' : iVal} (h : sameL X X') (h' : sameL X' X'') : sameL X X'' := by
  unfold sameL at *
  rw [h'] ; rw [h]
theorem sameL_sulk1 {a b c : Int} : sameL X (X.sulk1 a b c) := by
  unfold iVal.sulk1
  split
  · split
    · exact sameL_alk
    · split
      · exact sameL_alk
      · exact sameL_rfl
  · exact sameL_rfl
theorem okV_sulk1 (hO : OkV X) {a b c : Int} (h0 : 0 ≤ c) (h1 : c < X.cp) : OkV (X.sulk1 a b c) := by
  have e1 := hO.man c h0 h1
  have e2 := hO.wom c h0 h1
  unfold iVal.sulk1
  split
  · split
    · exact okV_alk hO (by omega) (by omega) e1.1 e1.2 e2.1 e2.2
    · split
      · exact okV_alk hO (by omega) (by omega) e2.1 e2.2 e1.1 e1.2
      · exact hO
  · exact hO
theorem sulkF_ok {a b : Int} : ∀ (k : Nat) (c : Int) (X : iVal), OkV X → 0 ≤ c → c + k = X.cp → OkV (iVal.sulkF a b k c X) ∧ sameL X (iVal.sulkF a b k c X) := by
  intro k
  induction k with
  | zero => intro c X hO h0 h1; exact ⟨hO, rfl⟩
  | succ k ih =>
    intro c X hO h0 h1
    have s1 : sameL X (X.sulk1 a b c) := sameL_sulk1
    have e : (X.sulk1 a b c).cp = X.cp := by rw [s1]
    have := ih (c + 1) (X.sulk1 a b c) (okV_sulk1 hO h0 (by omega)) (by omega) (by omega)
    exact ⟨this.1, s1.trans this.2⟩
theorem okV_meet (hO : OkV X) {a b : Int} (h0 : 0 ≤ a) (h1 : a < X.num 0) (h2 : 0 ≤ b) (h3 : b < X.num 1) : OkV (X.meet a b) :=
  okV_alk (okV_alk hO (by omega) (by omega) h0 h1 h2 h3) (by omega) (by omega) h2 h3 h0 h1
theorem okV_sulk (hO : OkV X) {a b : Int} : OkV (X.sulk a b) ∧ sameL X (X.sulk a b) := by
  have := hO.cp
  exact sulkF_ok _ _ _ hO (by omega) (by omega)
end DAYS
