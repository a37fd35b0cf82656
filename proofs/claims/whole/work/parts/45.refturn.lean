/-! ===== the reference: a turn, a day ===== -/
def bitsL (n : Nat) : List Int := (List.range 10).map fun i => ((n.testBit i).toNat : Int)
theorem bits_has : ∀ n : Nat, n < 1024 → ∀ k : Nat, k < 10 → (bAnd (bShr (n : Int) (k : Int)) 1 = 1 ↔ (bitsL n).getD k 0 = 1) := by decide +kernel
theorem bOr_nat {a b : Nat} (ha : a < 2147483648) (hb : b < 2147483648) : bOr (a : Int) (b : Int) = ((a ||| b : Nat) : Int) := by
  unfold bOr
  have e1 : Int32.ofInt (a : Int) = Int32.ofNat a := rfl
  have e2 : Int32.ofInt (b : Int) = Int32.ofNat b := rfl
  have e3 : Int32.ofNat a ||| Int32.ofNat b = Int32.ofNat (a ||| b) := by
    apply Int32.toBitVec.inj
    rw [Int32.toBitVec_or]
    exact (BitVec.ofNat_or (w := 32) (x := a) (y := b)).symm
  rw [e1, e2, e3]
  exact Int32.toInt_ofNat_of_lt (Nat.or_lt_two_pow (n := 31) (by omega) (by omega))
theorem bShl_1 : ∀ k : Nat, k < 10 → bShl 1 (k : Int) = ((1 <<< k : Nat) : Int) ∧ 1 <<< k < 1024 := by decide +kernel
theorem bits_len {n : Nat} : (bitsL n).length = 10 := by simp [bitsL]
theorem bits_set {n k : Nat} (hk : k < 10) : bitsL (n ||| 1 <<< k) = (bitsL n).set k 1 := by
  apply List.ext_getElem
  · rw [List.length_set, bits_len, bits_len]
  · intro i h1 h2
    rw [List.getElem_set]
    by_cases c : k = i
    · subst c
      rw [if_pos rfl]
      simp [bitsL, Nat.testBit_or, Nat.one_shiftLeft, Nat.testBit_two_pow]
    · rw [if_neg c]
      simp [bitsL, Nat.testBit_or, Nat.one_shiftLeft, Nat.testBit_two_pow, c]
theorem bits_or {n a b : Nat} (hn : n < 1024) (ha : a < 5) (hb : b < 5) : bOr (bOr (n : Int) (bShl 1 (a : Int))) (bShl 1 (5 + (b : Int))) = ((n ||| 1 <<< a ||| 1 <<< (5 + b) : Nat) : Int) ∧ (n ||| 1 <<< a ||| 1 <<< (5 + b)) < 1024 ∧ bitsL (n ||| 1 <<< a ||| 1 <<< (5 + b)) = ((bitsL n).set a 1).set (5 + b) 1 := by
  have e1 := bShl_1 a (by omega)
  have e2 := bShl_1 (5 + b) (by omega)
  have e3 : (5 : Int) + (b : Int) = ((5 + b : Nat) : Int) := by omega
  have l1 : n ||| 1 <<< a < 1024 := Nat.or_lt_two_pow (n := 10) hn e1.2
  have l2 : n ||| 1 <<< a ||| 1 <<< (5 + b) < 1024 := Nat.or_lt_two_pow (n := 10) l1 e2.2
  refine ⟨?_, l2, ?_⟩
  · rw [e3, e1.1, e2.1, bOr_nat (by omega) (by omega), bOr_nat (by omega) (by omega)]
  · rw [bits_set (by omega), bits_set (by omega)]
theorem bits_0 : bitsL 0 = List.replicate 10 0 := by decide
theorem bAnd_in {a b : Int} : inI (bAnd a b) = true := by
  unfold bAnd
  have h1 := Int32.toInt_lt (Int32.ofInt a &&& Int32.ofInt b)
  have h2 := Int32.le_toInt (Int32.ofInt a &&& Int32.ofInt b)
  exact inI_of (by simpa using h2) (by simpa using h1)
theorem slip_end {S : iXY} {c v : Int} : endA (S.1, slipY S.2) c v = ((endA S c v).1, slipY (endA S c v).2) := rfl
theorem slip_lose {a b : Int} : ∀ (k : Nat) (c : Int) (S : iXY), loseF a b k c (S.1, slipY S.2) = ((loseF a b k c S).1, slipY (loseF a b k c S).2) := by
  intro k
  induction k with
  | zero => intro c S; rfl
  | succ k ih =>
    intro c S
    unfold loseF
    by_cases g : S.1.sta c = 0 ∧ (S.1.man c = a ∨ S.1.wom c = b)
    · rw [if_pos g, if_pos g, slip_end]
      exact ih _ _
    · rw [if_neg g, if_neg g]
      exact ih _ _
theorem slip_bind {S : iXY} {c v a b : Int} : bindA (S.1, slipY S.2) c v a b = ((bindA S c v a b).1, slipY (bindA S c v a b).2) := by
  unfold bindA loseA
  rw [slip_end]
  exact slip_lose _ _ ((endA S c v).1.bind a b, (endA S c v).2)
section RT
variable {sp : Nat → List iV → iH → Option (Option iV × iH)} {sc : List Int} {d : Nat} {A : iA} {r : iR} {R : iRy} {h : iH} {Q : Option iV → iH → Prop} {X : iVal} {e g B : Int} {S : iXY}
theorem has_eq {n k : Int} : Call sp sc d mX12_has [.inl n, .inl k] h Q = Q (some (.inl (bI (bAnd (bShr n k) 1 = 1)))) h := Call_eq (by
  have := @bAnd_in (bShr n k) 1
  apply eX12_has 30; sx [gX12_has, this]
  fb)
theorem loseR_loop {a b c0 v : Int} (ha : inI a = true) (hb : inI b = true) (hg0 : 0 ≤ g) : ∀ (k : Nat) (c : Int) (S : iXY), OkS S B → S.2.ps = g + 1 → 0 ≤ c → c + k = S.1.cp → Q none (hp (A.sro r (rowOf (loseF a b k c S).1 e) (ryOf (loseF a b k c S).2 g))) → Run sp sc (d + 3) mX12_bind 30 [some (.inr (.inr 140)), some (.inr (.inr (rb r + 2))), some (.inl a), some (.inl b), some (.inl c0), some (.inl v), some (.inl c)] [] (hp (A.sro r (rowOf S.1 e) (ryOf S.2 g))) Q := by
  intro k
  induction k with
  | zero =>
    intro c S hS hg h0 h1 hq
    have hcp := hS.1.cp
    refine G_run (B := [30]) 60 _ _ _ _ ?_
    have e : S.1.cp ≤ c := by omega
    sr [gX12_bind, r_cp, e]
    exact hq
  | succ k ih =>
    intro c S hS hg h0 h1 hq
    have hO := hS.1
    have hcp := hO.cp
    have n0 := hO.n0
    have n1 := hO.n1
    have em := hO.man c h0 (by omega)
    have ew := hO.wom c h0 (by omega)
    refine G_run (B := [30]) 60 _ _ _ _ ?_
    have e : ¬ S.1.cp ≤ c := by omega
    unfold loseF at hq
    have h4 := okS_end hS h0 (by omega) (by omega : (1 : Int) ≤ 2) (by omega)
    by_cases g1 : S.1.sta c = 0
    · by_cases gm : S.1.man c = a
      · rw [if_pos ⟨g1, Or.inl gm⟩] at hq
        sr [gX12_bind, r_cp, e, goesOnR_eq, g1, atCouple_eq, q_man, q_wom, gm, ha, ends_eq hS hg hg0]
        exact ih _ _ h4 hg (by omega) (by show c + 1 + k = S.1.cp; omega) hq
      · by_cases gw : S.1.wom c = b
        · rw [if_pos ⟨g1, Or.inr gw⟩] at hq
          sr [gX12_bind, r_cp, e, goesOnR_eq, g1, atCouple_eq, q_man, q_wom, gm, ha, gw, hb, ends_eq hS hg hg0]
          exact ih _ _ h4 hg (by omega) (by show c + 1 + k = S.1.cp; omega) hq
        · rw [if_neg (by omega)] at hq
          sr [gX12_bind, r_cp, e, goesOnR_eq, g1, atCouple_eq, q_man, q_wom, gm, ha, gw, hb]
          exact ih _ _ hS hg (by omega) (by omega) hq
    · rw [if_neg (by omega)] at hq
      sr [gX12_bind, r_cp, e, goesOnR_eq, g1]
      exact ih _ _ hS hg (by omega) (by omega) hq
theorem bindR_eq (hS : OkS S B) (hg : S.2.ps = g + 1) (hg0 : 0 ≤ g) {c v a b : Int} (h0 : 0 ≤ c) (h1 : c < S.1.cp) (h2 : 1 ≤ v) (h3 : v ≤ 2) (g0 : 0 ≤ a) (g1 : a < S.1.num 0) (g2 : 0 ≤ b) (g3 : b < S.1.num 1) : Call sp sc (d + 3) mX12_bind [.inr (.inr 140), .inr (.inr (rb r + 2)), .inl a, .inl b, .inl c, .inl v] (hp (A.sro r (rowOf S.1 e) (ryOf S.2 g))) Q = Q none (hp (A.sro r (rowOf (bindA S c v a b).1 e) (ryOf (bindA S c v a b).2 g))) := Call_eq (by
  have hO := hS.1
  have hcp := hO.cp
  have n0 := hO.n0
  have n1 := hO.n1
  have lb := hO.lbo
  have lb2 : (S.1.sbn 0 a b).bo.length = 10 := by show (S.1.bo.set _ _).length = 10; rw [List.length_set]; exact lb
  have g3' : b < (S.1.sbn 0 a b).num 1 := g3
  have n1' : (S.1.sbn 0 a b).num 1 ≤ 5 := n1.2
  have hB : OkS (S.1.bind a b, S.2) B := ⟨okV_bind hO g0 g1 g2 g3, hS.2.cpc rfl⟩
  have hE := okS_end hB h0 h1 h2 h3
  have e1 := fun Q => @ends_eq sp sc (d + 1) A r Q e g B (S.1.bind a b, S.2) hB hg hg0 c v h0 (by omega)
  dsimp only at e1
  have hcE : (endA (S.1.bind a b, S.2) c v).1.cp = S.1.cp := rfl
  apply eX12_bind 60
  sr [gX12_bind, atOne_eq, w_bnd lb (s := 0) (by omega) (by omega) g0 g1 n0.2, w_bnd lb2 (s := 1) (by omega) (by omega) g2 g3' n1', bind_sbn, e1]
  exact loseR_loop (inI_of (by omega) (by omega)) (inI_of (by omega) (by omega)) hg0 S.1.cp.toNat 0 (endA (S.1.bind a b, S.2) c v) hE hg (by omega) (by rw [hcE]; omega) ⟨rfl, rfl⟩)
/-- who has done something in this day, as bits, behind a turn -/
noncomputable def busN (S : iXY) (c n : Int) : Int := if metA S c then bOr (bOr n (bShl 1 (S.1.doer 0 c))) (bShl 1 (5 + S.1.doer 1 c)) else n
theorem has_bus {n : Nat} {Y : iYr} (hn : n < 1024) (hb : Y.bz = bitsL n) {k : Int} (h0 : 0 ≤ k) (h1 : k < 10) : (bAnd (bShr (n : Int) k) 1 = 1) ↔ Y.bus k = 1 := by
  have e : ((k.toNat : Nat) : Int) = k := by omega
  have := bits_has n hn k.toNat (by omega)
  rw [e] at this
  rw [this]
  unfold iYr.bus
  rw [hb]
theorem busN_ok (hS : OkS S B) {n : Nat} (hn : n < 1024) (hb : S.2.bz = bitsL n) {c : Int} (h0 : 0 ≤ c) (h1 : c < S.1.cp) : ∃ n' : Nat, n' < 1024 ∧ busN S c n = (n' : Int) ∧ (turnA S c).2.bz = bitsL n' := by
  have hO := hS.1
  have n0 := hO.n0
  have n1 := hO.n1
  have da := doer_b hO (s := 0) (c := c) (by omega) (by omega) h0 h1
  have db := doer_b hO (s := 1) (c := c) (by omega) (by omega) h0 h1
  unfold busN turnA
  by_cases m : metA S c
  · rw [if_pos m, if_pos m]
    have ea : ((S.1.doer 0 c).toNat : Int) = S.1.doer 0 c := by omega
    have eb : ((S.1.doer 1 c).toNat : Int) = S.1.doer 1 c := by omega
    have e := bits_or hn (a := (S.1.doer 0 c).toNat) (b := (S.1.doer 1 c).toNat) (by omega) (by omega)
    rw [ea, eb] at e
    refine ⟨_, e.2.1, e.1, ?_⟩
    rw [e.2.2]
    have lem : ∀ T : iXY, T.2.bz = (busyY S.2 (S.1.doer 0 c) (S.1.doer 1 c)).bz → T.2.bz = ((bitsL n).set (S.1.doer 0 c).toNat 1).set (5 + (S.1.doer 1 c).toNat) 1 := fun T h => by
      rw [h]
      show (S.2.bz.set (S.1.doer 0 c).toNat 1).set (5 + S.1.doer 1 c).toNat 1 = _
      rw [hb]
      congr 1
      omega
    apply lem
    have lose : ∀ (k : Nat) (c : Int) (T : iXY) (a b : Int), (loseF a b k c T).2.bz = T.2.bz := by
      intro k
      induction k with
      | zero => intro c T a b; rfl
      | succ k ih =>
        intro c T a b
        unfold loseF
        rw [ih]
        split <;> rfl
    have bnd : ∀ (T : iXY) (c v a b : Int), (bindA T c v a b).2.bz = T.2.bz := fun T c v a b => by
      unfold bindA loseA
      rw [lose]; rfl
    dsimp only
    split
    · exact bnd _ _ _ _ _
    · unfold deedA
      split
      · rfl
      · exact bnd _ _ _ _ _
  · rw [if_neg m, if_neg m]
    exact ⟨n, hn, rfl, hb⟩
theorem turnR_eq (hS : OkS S B) (hB : B ≤ 100000) (hg : S.2.ps = g + 1) (hg0 : 0 ≤ g) {n : Nat} (hn : n < 1024) (hb : S.2.bz = bitsL n) {c : Int} (h0 : 0 ≤ c) (h1 : c < S.1.cp) (hs : S.1.sta c = 0) : Call sp sc (d + 4) mX12_turn [.inr (.inr 140), .inr (.inr (rb r + 2)), .inl c, .inl (n : Int)] (hp (A.sro r (rowOf S.1 e) (ryOf S.2 g))) Q = Q (some (.inl (busN S c n))) (hp (A.sro r (rowOf (turnA S c).1 e) (ryOf (turnA S c).2 g))) := Call_eq (by
  have hO := hS.1
  have hY := hS.2
  have hcp := hO.cp
  have n0 := hO.n0
  have n1 := hO.n1
  have lw := hY.lwt
  have em := hO.man c h0 h1
  have ew := hO.wom c h0 h1
  have ed := hO.dds c h0 (by omega)
  have eg := hO.ddg c h0 (by omega) hs
  have ewh := hO.who (S.1.dds c) (by omega) (by omega)
  have da := doer_b hO (s := 0) (c := c) (by omega) (by omega) h0 h1
  have db := doer_b hO (s := 1) (c := c) (by omega) (by omega) h0 h1
  have fa : S.1.stepF 0 (S.1.who (S.1.dds c)).toNat (S.1.man c) = S.1.doer 0 c := rfl
  have fb' : S.1.stepF 1 (S.1.who (S.1.dds c)).toNat (S.1.wom c) = S.1.doer 1 c := rfl
  have b0 := hO.bnd 0 (S.1.doer 0 c) (by omega) (by omega) da.1 (by omega)
  have b1 := hO.bnd 1 (S.1.doer 1 c) (by omega) (by omega) db.1 (by omega)
  have hb0 := has_bus hn hb (k := S.1.doer 0 c) da.1 (by omega)
  have hb1 := has_bus hn hb (k := 5 + S.1.doer 1 c) (by omega) (by omega)
  apply eX12_turn 150
  by_cases m : metA S c
  · sorry
  · have et : turnA S c = (S.1, waitY S.2 c) := by unfold turnA; rw [if_neg m]
    have eb : busN S c n = n := by unfold busN; rw [if_neg m]
    rw [et, eb]
    have m2 := m
    unfold metA isTak at m2
    rw [Int.zero_mul, Int.zero_add, Int.one_mul] at m2
    unfold ryOf
    sr [gX12_turn, atCouple_eq, q_man, q_wom, q_dds, r_who, doerR_eq, fa, fb', atOne_eq, q_bnd, has_eq, hb0, hb1, lw]
    trace_state
    sorry)
end RT
