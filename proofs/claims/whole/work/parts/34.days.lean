set_option maxRecDepth 16384
/-! ===== days: what they do ===== -/
def iYr.ord (Y : iYr) (i : Int) : Int := Y.od.getD i.toNat 0
def iYr.bus (Y : iYr) (i : Int) : Int := Y.bz.getD i.toNat 0
def iYr.wai (Y : iYr) (c : Int) : Int := Y.wt.getD c.toNat 0
def iYr.fin (Y : iYr) (c : Int) : Int := Y.en.getD c.toNat 0
def OkY (X : iVal) (Y : iYr) (B : Int) : Prop := ((Y.od.length = 4) ∧ (Y.bz.length = 10) ∧ (Y.wt.length = 4) ∧ (Y.en.length = 4) ∧ (∀ i, 0 ≤ i → i < X.cp → 0 ≤ Y.ord i ∧ Y.ord i < X.cp) ∧ (∀ i j, 0 ≤ i → i < X.cp → 0 ≤ j → j < X.cp → Y.ord i = Y.ord j → i = j) ∧ (∀ i, 0 ≤ i → i < 10 → Y.bus i = 0 ∨ Y.bus i = 1) ∧ (∀ c, 0 ≤ c → c < 4 → 0 ≤ Y.wai c ∧ Y.wai c ≤ B) ∧ (∀ c, 0 ≤ c → c < 4 → 0 ≤ Y.fin c ∧ Y.fin c ≤ B) ∧ (0 ≤ Y.ps ∧ Y.ps ≤ B) ∧ (0 ≤ Y.dn ∧ Y.dn ≤ B) ∧ (0 ≤ Y.sp ∧ Y.sp ≤ B) ∧ (0 ≤ Y.fs ∧ Y.fs ≤ B)) ∨ False
theorem OkY.mk {X : iVal} {Y : iYr} {B : Int} (a_lod : Y.od.length = 4) (a_lbz : Y.bz.length = 10) (a_lwt : Y.wt.length = 4) (a_len : Y.en.length = 4) (a_ord : ∀ i, 0 ≤ i → i < X.cp → 0 ≤ Y.ord i ∧ Y.ord i < X.cp) (a_inj : ∀ i j, 0 ≤ i → i < X.cp → 0 ≤ j → j < X.cp → Y.ord i = Y.ord j → i = j) (a_bus : ∀ i, 0 ≤ i → i < 10 → Y.bus i = 0 ∨ Y.bus i = 1) (a_wai : ∀ c, 0 ≤ c → c < 4 → 0 ≤ Y.wai c ∧ Y.wai c ≤ B) (a_fin : ∀ c, 0 ≤ c → c < 4 → 0 ≤ Y.fin c ∧ Y.fin c ≤ B) (a_ps : 0 ≤ Y.ps ∧ Y.ps ≤ B) (a_dn : 0 ≤ Y.dn ∧ Y.dn ≤ B) (a_sp : 0 ≤ Y.sp ∧ Y.sp ≤ B) (a_fs : 0 ≤ Y.fs ∧ Y.fs ≤ B) : OkY X Y B := Or.inl ⟨a_lod, a_lbz, a_lwt, a_len, a_ord, a_inj, a_bus, a_wai, a_fin, a_ps, a_dn, a_sp, a_fs⟩
theorem OkY.lod {X : iVal} {Y : iYr} {B : Int} (h : OkY X Y B) : Y.od.length = 4 := (h.elim id False.elim).1
theorem OkY.lbz {X : iVal} {Y : iYr} {B : Int} (h : OkY X Y B) : Y.bz.length = 10 := (h.elim id False.elim).2.1
theorem OkY.lwt {X : iVal} {Y : iYr} {B : Int} (h : OkY X Y B) : Y.wt.length = 4 := (h.elim id False.elim).2.2.1
theorem OkY.len {X : iVal} {Y : iYr} {B : Int} (h : OkY X Y B) : Y.en.length = 4 := (h.elim id False.elim).2.2.2.1
theorem OkY.ord {X : iVal} {Y : iYr} {B : Int} (h : OkY X Y B) : ∀ i, 0 ≤ i → i < X.cp → 0 ≤ Y.ord i ∧ Y.ord i < X.cp := (h.elim id False.elim).2.2.2.2.1
theorem OkY.inj {X : iVal} {Y : iYr} {B : Int} (h : OkY X Y B) : ∀ i j, 0 ≤ i → i < X.cp → 0 ≤ j → j < X.cp → Y.ord i = Y.ord j → i = j := (h.elim id False.elim).2.2.2.2.2.1
theorem OkY.bus {X : iVal} {Y : iYr} {B : Int} (h : OkY X Y B) : ∀ i, 0 ≤ i → i < 10 → Y.bus i = 0 ∨ Y.bus i = 1 := (h.elim id False.elim).2.2.2.2.2.2.1
theorem OkY.wai {X : iVal} {Y : iYr} {B : Int} (h : OkY X Y B) : ∀ c, 0 ≤ c → c < 4 → 0 ≤ Y.wai c ∧ Y.wai c ≤ B := (h.elim id False.elim).2.2.2.2.2.2.2.1
theorem OkY.fin {X : iVal} {Y : iYr} {B : Int} (h : OkY X Y B) : ∀ c, 0 ≤ c → c < 4 → 0 ≤ Y.fin c ∧ Y.fin c ≤ B := (h.elim id False.elim).2.2.2.2.2.2.2.2.1
theorem OkY.ps {X : iVal} {Y : iYr} {B : Int} (h : OkY X Y B) : 0 ≤ Y.ps ∧ Y.ps ≤ B := (h.elim id False.elim).2.2.2.2.2.2.2.2.2.1
theorem OkY.dn {X : iVal} {Y : iYr} {B : Int} (h : OkY X Y B) : 0 ≤ Y.dn ∧ Y.dn ≤ B := (h.elim id False.elim).2.2.2.2.2.2.2.2.2.2.1
theorem OkY.sp {X : iVal} {Y : iYr} {B : Int} (h : OkY X Y B) : 0 ≤ Y.sp ∧ Y.sp ≤ B := (h.elim id False.elim).2.2.2.2.2.2.2.2.2.2.2.1
theorem OkY.fs {X : iVal} {Y : iYr} {B : Int} (h : OkY X Y B) : 0 ≤ Y.fs ∧ Y.fs ≤ B := (h.elim id False.elim).2.2.2.2.2.2.2.2.2.2.2.2
theorem OkY.mono {X : iVal} {Y : iYr} {B B' : Int} (h : OkY X Y B) (hB : B ≤ B') : OkY X Y B' :=
  (OkY.mk h.lod h.lbz h.lwt h.len h.ord h.inj h.bus (fun c a b => ⟨(h.wai c a b).1, by have := h.wai c a b; omega⟩) (fun c a b => ⟨(h.fin c a b).1, by have := h.fin c a b; omega⟩) (by have := h.ps; omega) (by have := h.dn; omega) (by have := h.sp; omega) (by have := h.fs; omega))
/-- what a couple's one sulks about -/
def iVal.slk1 (X : iVal) (s k : Int) : Int := sB (nK (X.nx s k)) (nF (X.nx s k))
def iVal.grw (X : iVal) (s k own : Int) : Int := gB (nK (X.nx s k)) (nF (X.nx s k)) own
def iVal.sulk1 (X : iVal) (a b c : Int) : iVal :=
  if X.sta c = 0 then
    (if X.wom c = b ∧ ¬ X.man c = a then X.alk 0 (X.man c) (X.wom c) (-(X.slk1 0 (X.man c)))
     else if X.man c = a ∧ ¬ X.wom c = b then X.alk 1 (X.wom c) (X.man c) (-(X.slk1 1 (X.wom c))) else X) else X
def iVal.sulkF (a b : Int) : Nat → Int → iVal → iVal
  | 0, _, X => X
  | k + 1, c, X => iVal.sulkF a b k (c + 1) (X.sulk1 a b c)
def iVal.meet (X : iVal) (a b : Int) : iVal := (X.alk 0 a b (X.grw 0 a (X.own a b))).alk 1 b a (X.grw 1 b (X.own a b))
def iVal.sulk (X : iVal) (a b : Int) : iVal := iVal.sulkF a b X.cp.toNat 0 X
abbrev iXY : Type := iVal × iYr
def endA (S : iXY) (c v : Int) : iXY := (S.1.sst c v, (iYr.mk S.2.od S.2.bz S.2.wt (S.2.en.set c.toNat S.2.ps) S.2.ps S.2.dn S.2.sp S.2.fs))
def loseF (a b : Int) : Nat → Int → iXY → iXY
  | 0, _, S => S
  | k + 1, c, S => loseF a b k (c + 1) (if S.1.sta c = 0 ∧ (S.1.man c = a ∨ S.1.wom c = b) then endA S c 2 else S)
def loseA (S : iXY) (a b : Int) : iXY := loseF a b S.1.cp.toNat 0 S
def slipY (Y : iYr) : iYr := (iYr.mk Y.od Y.bz Y.wt Y.en Y.ps Y.dn (Y.sp + 1) (if Y.sp + 1 = 1 then Y.ps else Y.fs))
def bindA (S : iXY) (c v a b : Int) : iXY := loseA ((endA S c v).1.bind a b, (endA S c v).2) a b
def slipA (S : iXY) (c a b : Int) : iXY := bindA (S.1, slipY S.2) c 2 a b
def deedA (S : iXY) (c : Int) : iXY :=
  if S.1.dds c + 1 < 6 then (S.1.inc c, (iYr.mk S.2.od S.2.bz S.2.wt S.2.en S.2.ps (S.2.dn + 1) S.2.sp S.2.fs))
  else bindA (S.1.inc c, (iYr.mk S.2.od S.2.bz S.2.wt S.2.en S.2.ps (S.2.dn + 1) S.2.sp S.2.fs)) c 1 (S.1.man c) (S.1.wom c)
def busyY (Y : iYr) (a b : Int) : iYr := (iYr.mk Y.od ((Y.bz.set a.toNat 1).set (5 + b).toNat 1) Y.wt Y.en Y.ps Y.dn Y.sp Y.fs)
def waitY (Y : iYr) (c : Int) : iYr := (iYr.mk Y.od Y.bz (Y.wt.set c.toNat (Y.wai c + 1)) Y.en Y.ps Y.dn Y.sp Y.fs)
abbrev isTak (S : iXY) (s k : Int) : Prop := ¬ S.1.bnd s k = -1 ∨ S.2.bus (s * 5 + k) = 1
/-- a turn: whether the doers meet; what is then -/
abbrev metA (S : iXY) (c : Int) : Prop := ¬ (isTak S 0 (S.1.doer 0 c) ∨ isTak S 1 (S.1.doer 1 c))
def turnA (S : iXY) (c : Int) : iXY :=
  if metA S c then
    (let a := S.1.doer 0 c
     let b := S.1.doer 1 c
     let X := (S.1.meet a b).sulk a b
     let T : iXY := (X, busyY S.2 a b)
     if ¬ (a = S.1.man c ∧ b = S.1.wom c) ∧ X.sl < X.lik 0 a b ∧ X.sl < X.lik 1 b a then slipA T c a b else deedA T c)
  else (S.1, waitY S.2 c)
def dayF : Nat → Int → iXY → iXY
  | 0, _, S => S
  | k + 1, i, S => dayF k (i + 1) (if S.1.sta (S.2.ord i) = 0 then turnA S (S.2.ord i) else S)
def dawn (S : iXY) : iXY := ((iVal.mk S.1.on S.1.na S.1.de S.1.bo S.1.li S.1.cp S.1.me S.1.wo S.1.sa S.1.dd S.1.wh S.1.sl (S.1.dy + 1)), (iYr.mk S.2.od (List.replicate 10 0) S.2.wt S.2.en (S.2.ps + 1) S.2.dn S.2.sp S.2.fs))
def dayA (S : iXY) : iXY := dayF S.1.cp.toNat 0 (dawn S)
def daysA : Nat → iXY → iXY
  | 0, S => S
  | n + 1, S => daysA n (dayA S)
section DAYS
variable {X : iVal} {Y : iYr} {S : iXY} {B : Int}
theorem slk1_b (hO : OkV X) {s k : Int} (h0 : 0 ≤ s) (h1 : s < 2) (h2 : 0 ≤ k) (h3 : k < 5) : 0 ≤ X.slk1 s k ∧ X.slk1 s k ≤ 18 := by
  have := nF_b (hO.nat s k h0 h1 h2 h3).2
  exact sB_b this.1 this.2
theorem grw_b (hO : OkV X) {s k own : Int} (h0 : 0 ≤ s) (h1 : s < 2) (h2 : 0 ≤ k) (h3 : k < 5) : 0 ≤ X.grw s k own ∧ X.grw s k own ≤ 14 := by
  have := nF_b (hO.nat s k h0 h1 h2 h3).2
  exact gB_b this.1 this.2
/-- all but the likes is as it was -/
def sameL (X X' : iVal) : Prop := X' = (iVal.mk X.on X.na X.de X.bo (X'.li) X.cp X.me X.wo X.sa X.dd X.wh X.sl X.dy)
theorem sameL_rfl : sameL X X := rfl
theorem sameL_slk {s a b v : Int} : sameL X (X.slk s a b v) := rfl
theorem sameL_alk {s a b v : Int} : sameL X (X.alk s a b v) := rfl
theorem sameL.trans {X X' X'' : iVal} (h : sameL X X') (h' : sameL X' X'') : sameL X X'' := by
  unfold sameL at *
  rw [h'] ; rw [h] <;> rfl
theorem sameL_sulk1 {a b c : Int} : sameL X (X.sulk1 a b c) := by
  unfold iVal.sulk1
  split
  · split
    · exact sameL_alk
    · split
      · exact sameL_alk
      · exact sameL_rfl
  · exact sameL_rfl
theorem okV_sulk1 (hO : OkV X) {a b c : Int} (h0 : 0 ≤ c) (h1 : c < X.cp) : OkV (X.sulk1 a b c) := by
  have e1 := hO.man c h0 h1
  have e2 := hO.wom c h0 h1
  unfold iVal.sulk1
  split
  · split
    · exact okV_alk hO (by omega) (by omega) e1.1 e1.2 e2.1 e2.2
    · split
      · exact okV_alk hO (by omega) (by omega) e2.1 e2.2 e1.1 e1.2
      · exact hO
  · exact hO
theorem sulkF_ok {a b : Int} : ∀ (k : Nat) (c : Int) (X : iVal), OkV X → 0 ≤ c → c + k = X.cp → OkV (iVal.sulkF a b k c X) ∧ sameL X (iVal.sulkF a b k c X) := by
  intro k
  induction k with
  | zero => intro c X hO h0 h1; exact ⟨hO, rfl⟩
  | succ k ih =>
    intro c X hO h0 h1
    have s1 : sameL X (X.sulk1 a b c) := sameL_sulk1
    have e : (X.sulk1 a b c).cp = X.cp := by rw [s1] <;> rfl
    have := ih (c + 1) (X.sulk1 a b c) (okV_sulk1 hO h0 (by omega)) (by omega) (by omega)
    exact ⟨this.1, s1.trans this.2⟩
theorem okV_meet (hO : OkV X) {a b : Int} (h0 : 0 ≤ a) (h1 : a < X.num 0) (h2 : 0 ≤ b) (h3 : b < X.num 1) : OkV (X.meet a b) :=
  okV_alk (okV_alk hO (by omega) (by omega) h0 h1 h2 h3) (by omega) (by omega) h2 h3 h0 h1
theorem okV_sulk (hO : OkV X) {a b : Int} : OkV (X.sulk a b) ∧ sameL X (X.sulk a b) := by
  have := hO.cp
  exact sulkF_ok _ _ _ hO (by omega) (by omega)
end DAYS
