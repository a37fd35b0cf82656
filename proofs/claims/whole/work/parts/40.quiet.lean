set_option maxRecDepth 16384
/-! ===== a day without a meeting: all days behind it are like it ===== -/
theorem ext4 {l l' : List Int} (h : l.length = 4) (h' : l'.length = 4) (e : ∀ c : Int, 0 ≤ c → c < 4 → l.getD c.toNat 0 = l'.getD c.toNat 0) : l = l' := by
  apply List.ext_getElem (by omega)
  intro i a b
  have := e (i : Int) (by omega) (by omega)
  rw [Int.toNat_natCast, List.getD_eq_getElem?_getD, List.getElem?_eq_getElem a, List.getD_eq_getElem?_getD, List.getElem?_eq_getElem b] at this
  exact this
def wtF (X : iVal) (od : List Int) : Nat → Int → List Int → List Int
  | 0, _, w => w
  | k + 1, i, w => wtF X od k (i + 1) (if X.sta (od.getD i.toNat 0) = 0 then w.set (od.getD i.toNat 0).toNat (w.getD (od.getD i.toNat 0).toNat 0 + 1) else w)
theorem metF_1 : ∀ (k : Nat) (i : Int) (S : iXY), metF k i S 1 = 1 := by
  intro k
  induction k with
  | zero => intro i S; rfl
  | succ k ih =>
    intro i S
    unfold metF
    split
    · split
      · exact ih _ _
      · exact ih _ _
    · exact ih _ _
theorem quiet_day : ∀ (k : Nat) (i : Int) (X : iVal) (Y : iYr) (w : List Int), metF k i (X, (iYr.mk Y.od Y.bz (w) Y.en Y.ps Y.dn Y.sp Y.fs)) 0 = 0 → dayF k i (X, (iYr.mk Y.od Y.bz (w) Y.en Y.ps Y.dn Y.sp Y.fs)) = (X, (iYr.mk Y.od Y.bz (wtF X Y.od k i w) Y.en Y.ps Y.dn Y.sp Y.fs)) ∧ (∀ j, i ≤ j → j < i + k → X.sta (Y.ord j) = 0 → ¬ metA (X, Y) (Y.ord j)) := by
  intro k
  induction k with
  | zero => intro i X Y w h; exact ⟨rfl, fun j a b => by omega⟩
  | succ k ih =>
    intro i X Y w h
    unfold metF at h
    unfold dayF wtF
    by_cases g : X.sta (Y.ord i) = 0
    · have h : metF k (i + 1) (turnA (X, (iYr.mk Y.od Y.bz (w) Y.en Y.ps Y.dn Y.sp Y.fs)) (Y.ord i)) (if metA (X, (iYr.mk Y.od Y.bz (w) Y.en Y.ps Y.dn Y.sp Y.fs)) (Y.ord i) then 1 else 0) = 0 := (if_pos g).symm.trans h
      by_cases m : metA (X, (iYr.mk Y.od Y.bz (w) Y.en Y.ps Y.dn Y.sp Y.fs)) (Y.ord i)
      · rw [if_pos m, metF_1] at h; omega
      · rw [if_neg m] at h
        have et : turnA (X, (iYr.mk Y.od Y.bz (w) Y.en Y.ps Y.dn Y.sp Y.fs)) (Y.ord i) = (X, (iYr.mk Y.od Y.bz (w.set (Y.ord i).toNat (w.getD (Y.ord i).toNat 0 + 1)) Y.en Y.ps Y.dn Y.sp Y.fs)) := by
          unfold turnA; rw [if_neg m]; rfl
        rw [et] at h
        have r := ih (i + 1) X Y _ h
        refine ⟨?_, ?_⟩
        · show dayF k (i + 1) (if X.sta (Y.ord i) = 0 then turnA (X, (iYr.mk Y.od Y.bz (w) Y.en Y.ps Y.dn Y.sp Y.fs)) (Y.ord i) else _) = (X, (iYr.mk Y.od Y.bz (wtF X Y.od k (i + 1) (if X.sta (Y.ord i) = 0 then _ else w)) Y.en Y.ps Y.dn Y.sp Y.fs))
          rw [if_pos g, if_pos g, et]
          exact r.1
        · intro j a b e
          by_cases c : j = i
          · subst c; exact m
          · exact r.2 j (by omega) (by omega) e
    · have h : metF k (i + 1) (X, (iYr.mk Y.od Y.bz (w) Y.en Y.ps Y.dn Y.sp Y.fs)) 0 = 0 := (if_neg g).symm.trans h
      have r := ih (i + 1) X Y w h
      refine ⟨?_, ?_⟩
      · show dayF k (i + 1) (if X.sta (Y.ord i) = 0 then turnA (X, (iYr.mk Y.od Y.bz (w) Y.en Y.ps Y.dn Y.sp Y.fs)) (Y.ord i) else _) = (X, (iYr.mk Y.od Y.bz (wtF X Y.od k (i + 1) (if X.sta (Y.ord i) = 0 then _ else w)) Y.en Y.ps Y.dn Y.sp Y.fs))
        rw [if_neg g, if_neg g]
        exact r.1
      · intro j a b e
        by_cases c : j = i
        · subst c; exact absurd e g
        · exact r.2 j (by omega) (by omega) e
theorem quiet_met : ∀ (k : Nat) (i : Int) (X : iVal) (Y : iYr) (w : List Int), (∀ j, i ≤ j → j < i + k → X.sta (Y.ord j) = 0 → ¬ metA (X, Y) (Y.ord j)) → metF k i (X, (iYr.mk Y.od Y.bz (w) Y.en Y.ps Y.dn Y.sp Y.fs)) 0 = 0 := by
  intro k
  induction k with
  | zero => intro i X Y w h; rfl
  | succ k ih =>
    intro i X Y w h
    unfold metF
    by_cases g : X.sta (Y.ord i) = 0
    · have m : ¬ metA (X, (iYr.mk Y.od Y.bz (w) Y.en Y.ps Y.dn Y.sp Y.fs)) (Y.ord i) := h i (by omega) (by omega) g
      have et : turnA (X, (iYr.mk Y.od Y.bz (w) Y.en Y.ps Y.dn Y.sp Y.fs)) (Y.ord i) = (X, (iYr.mk Y.od Y.bz (w.set (Y.ord i).toNat (w.getD (Y.ord i).toNat 0 + 1)) Y.en Y.ps Y.dn Y.sp Y.fs)) := by
        unfold turnA; rw [if_neg m]; rfl
      show (if X.sta (Y.ord i) = 0 then metF k (i + 1) (turnA (X, (iYr.mk Y.od Y.bz (w) Y.en Y.ps Y.dn Y.sp Y.fs)) (Y.ord i)) (if metA (X, (iYr.mk Y.od Y.bz (w) Y.en Y.ps Y.dn Y.sp Y.fs)) (Y.ord i) then 1 else 0) else metF k (i + 1) (X, (iYr.mk Y.od Y.bz (w) Y.en Y.ps Y.dn Y.sp Y.fs)) 0) = 0
      rw [if_pos g, if_neg m, et]
      exact ih _ _ _ _ (fun j a b => h j (by omega) (by omega))
    · show (if X.sta (Y.ord i) = 0 then metF k (i + 1) (turnA (X, (iYr.mk Y.od Y.bz (w) Y.en Y.ps Y.dn Y.sp Y.fs)) (Y.ord i)) (if metA (X, (iYr.mk Y.od Y.bz (w) Y.en Y.ps Y.dn Y.sp Y.fs)) (Y.ord i) then 1 else 0) else metF k (i + 1) (X, (iYr.mk Y.od Y.bz (w) Y.en Y.ps Y.dn Y.sp Y.fs)) 0) = 0
      rw [if_neg g]
      exact ih _ _ _ _ (fun j a b => h j (by omega) (by omega))
theorem stepF_dy {X : iVal} {y s : Int} : ∀ (n : Nat) (k : Int), iVal.stepF (iVal.mk X.on X.na X.de X.bo X.li X.cp X.me X.wo X.sa X.dd X.wh X.sl (y)) s n k = X.stepF s n k := by
  intro n
  induction n with
  | zero => intro k; rfl
  | succ n ih =>
    intro k
    unfold iVal.stepF
    exact ih _
theorem doer_dy {X : iVal} {y s c : Int} : iVal.doer (iVal.mk X.on X.na X.de X.bo X.li X.cp X.me X.wo X.sa X.dd X.wh X.sl (y)) s c = X.doer s c := stepF_dy _ _
theorem metA_dy {X : iVal} {Y : iYr} {y c : Int} {w : List Int} {p : Int} : metA ((iVal.mk X.on X.na X.de X.bo X.li X.cp X.me X.wo X.sa X.dd X.wh X.sl (y)), (iYr.mk Y.od Y.bz (w) Y.en (p) Y.dn Y.sp Y.fs)) c ↔ metA (X, Y) c := by
  unfold metA isTak
  dsimp only
  rw [doer_dy (s := 0), doer_dy (s := 1)]
  exact Iff.rfl
section Q
variable {S : iXY} {B : Int}
/-- nobody is busy, and no going couple's doers would meet -/
def quiet (S : iXY) : Prop := S.2.bz = List.replicate 10 0 ∧ ∀ j, 0 ≤ j → j < S.1.cp → S.1.sta (S.2.ord j) = 0 → ¬ metA S (S.2.ord j)
theorem wtF_get {X : iVal} {Y : iYr} {B : Int} (hY : OkY X Y B) (hcp : 0 ≤ X.cp ∧ X.cp ≤ 4) : ∀ (k : Nat) (i : Int) (w : List Int), w.length = 4 → 0 ≤ i → i + k = X.cp → (wtF X Y.od k i w).length = 4 ∧ ∀ c, 0 ≤ c → c < 4 → (X.sta c = 0 ∧ (∃ j, i ≤ j ∧ j < X.cp ∧ Y.ord j = c) → (wtF X Y.od k i w).getD c.toNat 0 = w.getD c.toNat 0 + 1) ∧ (¬ (X.sta c = 0 ∧ ∃ j, i ≤ j ∧ j < X.cp ∧ Y.ord j = c) → (wtF X Y.od k i w).getD c.toNat 0 = w.getD c.toNat 0) := by
  intro k
  induction k with
  | zero =>
    intro i w hw h0 h1
    refine ⟨hw, fun c g0 g1 => ⟨?_, fun _ => rfl⟩⟩
    rintro ⟨_, j, a, b, _⟩
    omega
  | succ k ih =>
    intro i w hw h0 h1
    have o := hY.ord i h0 (by omega)
    unfold wtF
    by_cases g : X.sta (Y.ord i) = 0
    · have e : (if X.sta (Y.od.getD i.toNat 0) = 0 then w.set (Y.od.getD i.toNat 0).toNat (w.getD (Y.od.getD i.toNat 0).toNat 0 + 1) else w) = w.set (Y.ord i).toNat (w.getD (Y.ord i).toNat 0 + 1) := if_pos g
      rw [e]
      have r := ih (i + 1) (w.set (Y.ord i).toNat (w.getD (Y.ord i).toNat 0 + 1)) (by rw [List.length_set]; exact hw) (by omega) (by omega)
      refine ⟨r.1, fun c g0 g1 => ?_⟩
      have r := r.2 c g0 g1
      rw [gs o.1 g0 (by omega)] at r
      by_cases ec : Y.ord i = c
      · rw [if_pos ec] at r
        have no : ¬ (X.sta c = 0 ∧ ∃ j, i + 1 ≤ j ∧ j < X.cp ∧ Y.ord j = c) := by
          rintro ⟨_, j, a, b, e⟩
          have := hY.inj i j h0 (by omega) (by omega) b (by rw [ec, e])
          omega
        rw [ec] at r g ⊢
        refine ⟨fun _ => r.2 no, fun z => absurd ⟨g, i, by omega, by omega, ec⟩ z⟩
      · rw [if_neg ec] at r
        refine ⟨?_, ?_⟩
        · rintro ⟨z, j, a, b, e⟩
          exact r.1 ⟨z, j, by have : j ≠ i := fun q => ec (by rw [← q]; exact e); omega, b, e⟩
        · intro z
          exact r.2 (fun ⟨q, j, a, b, e⟩ => z ⟨q, j, by omega, b, e⟩)
    · have e : (if X.sta (Y.od.getD i.toNat 0) = 0 then w.set (Y.od.getD i.toNat 0).toNat (w.getD (Y.od.getD i.toNat 0).toNat 0 + 1) else w) = w := if_neg g
      rw [e]
      have r := ih (i + 1) w hw (by omega) (by omega)
      refine ⟨r.1, fun c g0 g1 => ?_⟩
      have r := r.2 c g0 g1
      refine ⟨?_, ?_⟩
      · rintro ⟨z, j, a, b, e⟩
        exact r.1 ⟨z, j, by have : j ≠ i := fun q => g (by rw [← q, e]; exact z); omega, b, e⟩
      · intro z
        exact r.2 (fun ⟨q, j, a, b, e⟩ => z ⟨q, j, by omega, b, e⟩)
theorem ord_sur {X : iVal} {Y : iYr} {B : Int} (hY : OkY X Y B) (hcp : 0 ≤ X.cp ∧ X.cp ≤ 4) {c : Int} (h0 : 0 ≤ c) (h1 : c < X.cp) : ∃ j, 0 ≤ j ∧ j < X.cp ∧ Y.ord j = c := by
  have o := hY.ord
  have n := hY.inj
  by_cases e0 : Y.ord 0 = c
  · exact ⟨0, by omega, by omega, e0⟩
  by_cases e1 : 1 < X.cp ∧ Y.ord 1 = c
  · exact ⟨1, by omega, by omega, e1.2⟩
  by_cases e2 : 2 < X.cp ∧ Y.ord 2 = c
  · exact ⟨2, by omega, by omega, e2.2⟩
  by_cases e3 : 3 < X.cp ∧ Y.ord 3 = c
  · exact ⟨3, by omega, by omega, e3.2⟩
  exfalso
  have o0 := o 0 (by omega) (by omega)
  have : X.cp = 1 ∨ X.cp = 2 ∨ X.cp = 3 ∨ X.cp = 4 := by omega
  rcases this with q | q | q | q
  · omega
  · have o1 := o 1 (by omega) (by omega)
    have n1 := n 0 1 (by omega) (by omega) (by omega) (by omega)
    omega
  · have o1 := o 1 (by omega) (by omega)
    have o2 := o 2 (by omega) (by omega)
    have n1 := n 0 1 (by omega) (by omega) (by omega) (by omega)
    have n2 := n 0 2 (by omega) (by omega) (by omega) (by omega)
    have n3 := n 1 2 (by omega) (by omega) (by omega) (by omega)
    omega
  · have o1 := o 1 (by omega) (by omega)
    have o2 := o 2 (by omega) (by omega)
    have o3 := o 3 (by omega) (by omega)
    have n1 := n 0 1 (by omega) (by omega) (by omega) (by omega)
    have n2 := n 0 2 (by omega) (by omega) (by omega) (by omega)
    have n3 := n 1 2 (by omega) (by omega) (by omega) (by omega)
    have n4 := n 0 3 (by omega) (by omega) (by omega) (by omega)
    have n5 := n 1 3 (by omega) (by omega) (by omega) (by omega)
    have n6 := n 2 3 (by omega) (by omega) (by omega) (by omega)
    omega
/-- what waitF leaves of the waits -/
def wwF (X : iVal) (n : Int) : Nat → Int → List Int → List Int
  | 0, _, w => w
  | k + 1, c, w => wwF X n k (c + 1) (if X.sta c = 0 then w.set c.toNat (w.getD c.toNat 0 + n) else w)
theorem waitF_ww {X : iVal} {n : Int} : ∀ (k : Nat) (c : Int) (Y : iYr), waitF X n k c Y = (iYr.mk Y.od Y.bz (wwF X n k c Y.wt) Y.en Y.ps Y.dn Y.sp Y.fs) := by
  intro k
  induction k with
  | zero => intro c Y; rfl
  | succ k ih =>
    intro c Y
    unfold waitF wwF
    rw [ih]
    by_cases g : X.sta c = 0
    · rw [if_pos g, if_pos g]; rfl
    · rw [if_neg g, if_neg g]
theorem wwF_get {X : iVal} {n : Int} : ∀ (k : Nat) (i : Int) (w : List Int), w.length = 4 → 0 ≤ i → i + k ≤ 4 → (wwF X n k i w).length = 4 ∧ ∀ c, 0 ≤ c → c < 4 → (wwF X n k i w).getD c.toNat 0 = w.getD c.toNat 0 + (if X.sta c = 0 ∧ i ≤ c ∧ c < i + k then n else 0) := by
  intro k
  induction k with
  | zero =>
    intro i w hw h0 h1
    refine ⟨hw, fun c g0 g1 => ?_⟩
    rw [if_neg (by omega), Int.add_zero]; rfl
  | succ k ih =>
    intro i w hw h0 h1
    unfold wwF
    by_cases g : X.sta i = 0
    · rw [if_pos g]
      have r := ih (i + 1) (w.set i.toNat (w.getD i.toNat 0 + n)) (by rw [List.length_set]; exact hw) (by omega) (by omega)
      refine ⟨r.1, fun c g0 g1 => ?_⟩
      rw [r.2 c g0 g1, gs h0 g0 (by omega)]
      by_cases ec : i = c
      · subst ec
        rw [if_pos rfl, if_neg (by omega), if_pos ⟨g, by omega, by omega⟩]; omega
      · rw [if_neg ec]
        by_cases z : X.sta c = 0 ∧ i + 1 ≤ c ∧ c < i + 1 + k
        · rw [if_pos z, if_pos ⟨z.1, by omega, by omega⟩]
        · rw [if_neg z, if_neg (by omega)]
    · rw [if_neg g]
      have r := ih (i + 1) w hw (by omega) (by omega)
      refine ⟨r.1, fun c g0 g1 => ?_⟩
      rw [r.2 c g0 g1]
      by_cases z : X.sta c = 0 ∧ i + 1 ≤ c ∧ c < i + 1 + k
      · rw [if_pos z, if_pos ⟨z.1, by omega, by omega⟩]
      · rw [if_neg z, if_neg]
        rintro ⟨a, b, e⟩
        have : c ≠ i := fun q => g (by rw [← q]; exact a)
        exact z ⟨a, by omega, by omega⟩
theorem wt_eq {X : iVal} {Y : iYr} {B : Int} (hY : OkY X Y B) (hcp : 0 ≤ X.cp ∧ X.cp ≤ 4) {w : List Int} (hw : w.length = 4) : wtF X Y.od X.cp.toNat 0 w = wwF X 1 X.cp.toNat 0 w := by
  have a := wtF_get hY hcp X.cp.toNat 0 w hw (by omega) (by omega)
  have b := wwF_get (X := X) (n := 1) X.cp.toNat 0 w hw (by omega) (by omega)
  refine ext4 a.1 b.1 (fun c g0 g1 => ?_)
  rw [b.2 c g0 g1]
  by_cases z : X.sta c = 0 ∧ 0 ≤ c ∧ c < 0 + (X.cp.toNat : Int)
  · rw [if_pos z]
    exact (a.2 c g0 g1).1 ⟨z.1, ord_sur hY hcp g0 (by omega)⟩
  · rw [if_neg z, Int.add_zero]
    refine (a.2 c g0 g1).2 ?_
    rintro ⟨p, j, q, r, e⟩
    have := hY.ord j q r
    exact z ⟨p, g0, by omega⟩
theorem quiet_next (h : OkS S B) (q : quiet S) : dayA S = waitA 1 S ∧ quiet (waitA 1 S) := by
  have hcp := h.1.cp
  have nm := quiet_met S.1.cp.toNat 0 (dawn S).1 (dawn S).2 (dawn S).2.wt (fun j a b e => by
    have := q.2 j a (by omega) e
    have e2 : metA ((dawn S).1, (dawn S).2) ((dawn S).2.ord j) ↔ metA S (S.2.ord j) := by
      show metA ((iVal.mk S.1.on S.1.na S.1.de S.1.bo S.1.li S.1.cp S.1.me S.1.wo S.1.sa S.1.dd S.1.wh S.1.sl (S.1.dy + 1)), (iYr.mk S.2.od (List.replicate 10 0) S.2.wt S.2.en (S.2.ps + 1) S.2.dn S.2.sp S.2.fs)) (S.2.ord j) ↔ _
      rw [← q.1]; exact metA_dy (X := S.1) (Y := S.2)
    exact fun z => this (e2.mp z))
  have qd := quiet_day S.1.cp.toNat 0 (dawn S).1 (dawn S).2 (dawn S).2.wt nm
  have e : dayA S = waitA 1 S := by
    show dayF S.1.cp.toNat 0 (dawn S) = _
    refine Eq.trans qd.1 ?_
    unfold waitA
    rw [waitF_ww]
    have hY : OkY (dawn S).1 (dawn S).2 (B + 1) := (okS_dawn h).2
    have w := wt_eq hY hcp (w := S.2.wt) h.2.lwt
    have w : wtF (dawn S).1 (dawn S).2.od S.1.cp.toNat 0 (dawn S).2.wt = wwF (iVal.mk S.1.on S.1.na S.1.de S.1.bo S.1.li S.1.cp S.1.me S.1.wo S.1.sa S.1.dd S.1.wh S.1.sl (S.1.dy + 1)) 1 S.1.cp.toNat 0 S.2.wt := w
    rw [w]
    show (((iVal.mk S.1.on S.1.na S.1.de S.1.bo S.1.li S.1.cp S.1.me S.1.wo S.1.sa S.1.dd S.1.wh S.1.sl (S.1.dy + 1)) : iVal), ((iYr.mk S.2.od (List.replicate 10 0) (_) S.2.en (S.2.ps + 1) S.2.dn S.2.sp S.2.fs) : iYr)) = _
    rw [← q.1] <;> rfl
  refine ⟨e, ?_⟩
  unfold waitA
  rw [waitF_ww]
  exact ⟨q.1, fun j a b c z => q.2 j a b c ((metA_dy (X := S.1) (Y := S.2)).mp z)⟩
theorem wait_0 (h : OkS S B) : waitA 0 S = S := by
  have hcp := h.1.cp
  unfold waitA
  rw [waitF_ww]
  have e := wwF_get (X := (iVal.mk S.1.on S.1.na S.1.de S.1.bo S.1.li S.1.cp S.1.me S.1.wo S.1.sa S.1.dd S.1.wh S.1.sl (S.1.dy + 0))) (n := 0) S.1.cp.toNat 0 S.2.wt h.2.lwt (by omega) (by omega)
  have e2 : wwF (iVal.mk S.1.on S.1.na S.1.de S.1.bo S.1.li S.1.cp S.1.me S.1.wo S.1.sa S.1.dd S.1.wh S.1.sl (S.1.dy + 0)) 0 S.1.cp.toNat 0 S.2.wt = S.2.wt := ext4 e.1 h.2.lwt (fun c g0 g1 => by
    rw [e.2 c g0 g1]
    split <;> omega)
  have e3 : S.1.dy + 0 = S.1.dy := by omega
  have e4 : S.2.ps + 0 = S.2.ps := by omega
  show (((iVal.mk S.1.on S.1.na S.1.de S.1.bo S.1.li S.1.cp S.1.me S.1.wo S.1.sa S.1.dd S.1.wh S.1.sl (S.1.dy + 0)) : iVal), ((iYr.mk S.2.od S.2.bz (wwF (iVal.mk S.1.on S.1.na S.1.de S.1.bo S.1.li S.1.cp S.1.me S.1.wo S.1.sa S.1.dd S.1.wh S.1.sl (S.1.dy + 0)) 0 S.1.cp.toNat 0 S.2.wt) S.2.en (S.2.ps + 0) S.2.dn S.2.sp S.2.fs) : iYr)) = S
  rw [e2, e3, e4] <;> rfl
theorem wait_s (h : OkS S B) (n : Nat) : waitA ((n + 1 : Nat) : Int) S = waitA n (waitA 1 S) := by
  have hcp := h.1.cp
  unfold waitA
  rw [waitF_ww, waitF_ww, waitF_ww]
  have a := wwF_get (X := (iVal.mk S.1.on S.1.na S.1.de S.1.bo S.1.li S.1.cp S.1.me S.1.wo S.1.sa S.1.dd S.1.wh S.1.sl (S.1.dy + ((n + 1 : Nat) : Int)))) (n := ((n + 1 : Nat) : Int)) S.1.cp.toNat 0 S.2.wt h.2.lwt (by omega) (by omega)
  have b := wwF_get (X := (iVal.mk S.1.on S.1.na S.1.de S.1.bo S.1.li S.1.cp S.1.me S.1.wo S.1.sa S.1.dd S.1.wh S.1.sl (S.1.dy + 1))) (n := 1) S.1.cp.toNat 0 S.2.wt h.2.lwt (by omega) (by omega)
  have c := wwF_get (X := (iVal.mk S.1.on S.1.na S.1.de S.1.bo S.1.li S.1.cp S.1.me S.1.wo S.1.sa S.1.dd S.1.wh S.1.sl (S.1.dy + 1 + n))) (n := n) S.1.cp.toNat 0 (wwF (iVal.mk S.1.on S.1.na S.1.de S.1.bo S.1.li S.1.cp S.1.me S.1.wo S.1.sa S.1.dd S.1.wh S.1.sl (S.1.dy + 1)) 1 S.1.cp.toNat 0 S.2.wt) b.1 (by omega) (by omega)
  have e2 : wwF (iVal.mk S.1.on S.1.na S.1.de S.1.bo S.1.li S.1.cp S.1.me S.1.wo S.1.sa S.1.dd S.1.wh S.1.sl (S.1.dy + ((n + 1 : Nat) : Int))) ((n + 1 : Nat) : Int) S.1.cp.toNat 0 S.2.wt = wwF (iVal.mk S.1.on S.1.na S.1.de S.1.bo S.1.li S.1.cp S.1.me S.1.wo S.1.sa S.1.dd S.1.wh S.1.sl (S.1.dy + 1 + n)) n S.1.cp.toNat 0 (wwF (iVal.mk S.1.on S.1.na S.1.de S.1.bo S.1.li S.1.cp S.1.me S.1.wo S.1.sa S.1.dd S.1.wh S.1.sl (S.1.dy + 1)) 1 S.1.cp.toNat 0 S.2.wt) := ext4 a.1 c.1 (fun k g0 g1 => by
    rw [a.2 k g0 g1, c.2 k g0 g1, b.2 k g0 g1]
    show S.2.wt.getD k.toNat 0 + (if S.1.sta k = 0 ∧ 0 ≤ k ∧ k < 0 + (S.1.cp.toNat : Int) then ((n + 1 : Nat) : Int) else 0) = S.2.wt.getD k.toNat 0 + (if S.1.sta k = 0 ∧ 0 ≤ k ∧ k < 0 + (S.1.cp.toNat : Int) then 1 else 0) + (if S.1.sta k = 0 ∧ 0 ≤ k ∧ k < 0 + (S.1.cp.toNat : Int) then (n : Int) else 0)
    by_cases z : S.1.sta k = 0 ∧ 0 ≤ k ∧ k < 0 + (S.1.cp.toNat : Int)
    · rw [if_pos z, if_pos z, if_pos z]; omega
    · rw [if_neg z, if_neg z, if_neg z]; omega)
  have e3 : S.1.dy + ((n + 1 : Nat) : Int) = S.1.dy + 1 + n := by omega
  have e4 : S.2.ps + ((n + 1 : Nat) : Int) = S.2.ps + 1 + n := by omega
  show (((iVal.mk S.1.on S.1.na S.1.de S.1.bo S.1.li S.1.cp S.1.me S.1.wo S.1.sa S.1.dd S.1.wh S.1.sl (S.1.dy + ((n + 1 : Nat) : Int))) : iVal), ((iYr.mk S.2.od S.2.bz (wwF (iVal.mk S.1.on S.1.na S.1.de S.1.bo S.1.li S.1.cp S.1.me S.1.wo S.1.sa S.1.dd S.1.wh S.1.sl (S.1.dy + ((n + 1 : Nat) : Int))) ((n + 1 : Nat) : Int) S.1.cp.toNat 0 S.2.wt) S.2.en (S.2.ps + ((n + 1 : Nat) : Int)) S.2.dn S.2.sp S.2.fs) : iYr)) = (((iVal.mk S.1.on S.1.na S.1.de S.1.bo S.1.li S.1.cp S.1.me S.1.wo S.1.sa S.1.dd S.1.wh S.1.sl (S.1.dy + 1 + n)) : iVal), ((iYr.mk S.2.od S.2.bz (wwF (iVal.mk S.1.on S.1.na S.1.de S.1.bo S.1.li S.1.cp S.1.me S.1.wo S.1.sa S.1.dd S.1.wh S.1.sl (S.1.dy + 1 + n)) n S.1.cp.toNat 0 (wwF (iVal.mk S.1.on S.1.na S.1.de S.1.bo S.1.li S.1.cp S.1.me S.1.wo S.1.sa S.1.dd S.1.wh S.1.sl (S.1.dy + 1)) 1 S.1.cp.toNat 0 S.2.wt)) S.2.en (S.2.ps + 1 + n) S.2.dn S.2.sp S.2.fs) : iYr))
  rw [e2, e3, e4] <;> rfl
theorem quiet_days : ∀ (n : Nat) (S : iXY) (B : Int), OkS S B → quiet S → daysA n S = waitA n S := by
  intro n
  induction n with
  | zero => intro S B h q; exact (wait_0 h).symm
  | succ n ih =>
    intro S B h q
    have e := quiet_next h q
    have k := okS_day h
    rw [e.1] at k
    rw [wait_s h]
    show daysA n (dayA S) = _
    rw [e.1]
    exact ih _ _ k.1 e.2
theorem pass_days : ∀ (n : Nat) (S : iXY) (B : Int), OkS S B → passA n S = daysA n S := by
  intro n
  induction n with
  | zero => intro S B h; rfl
  | succ n ih =>
    intro S B h
    have k := okS_day h
    unfold passA daysA
    by_cases m : metF S.1.cp.toNat 0 (dawn S) 0 = 0
    · rw [if_pos m]
      have hcp := h.1.cp
      have qd := quiet_day S.1.cp.toNat 0 (dawn S).1 (dawn S).2 (dawn S).2.wt m
      refine (quiet_days n (dayA S) _ k.1 ?_).symm
      have e : dayA S = ((dawn S).1, (iYr.mk ((dawn S).2).od ((dawn S).2).bz (wtF (dawn S).1 (dawn S).2.od S.1.cp.toNat 0 (dawn S).2.wt) ((dawn S).2).en ((dawn S).2).ps ((dawn S).2).dn ((dawn S).2).sp ((dawn S).2).fs)) := qd.1
      rw [e]
      refine ⟨rfl, fun j a b c => ?_⟩
      have b : j < S.1.cp := b
      exact qd.2 j a (by omega) c
    · rw [if_neg m]
      exact ih _ _ k.1
end Q
