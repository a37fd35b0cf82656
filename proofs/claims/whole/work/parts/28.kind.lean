/-! ===== kinds: what a nature answers ===== -/
def nK (x : Nat) : Nat := if x = 1 then 0 else (x - 46) % 6
def nF (x : Nat) : Int := if x = 1 then 0 else (((x - 46) / 6 : Nat) : Int)
def NatOK (x : Nat) : Prop := x = 1 ∨ (46 ≤ x ∧ x < 106)
def cls (k : Nat) : Nat := [6, 9, 0, 3, 7, 1].getD k 6
theorem clsE : cls 0 = 6 ∧ cls 1 = 9 ∧ cls 2 = 0 ∧ cls 3 = 3 ∧ cls 4 = 7 ∧ cls 5 = 1 := by decide
theorem nK_lt (x : Nat) : nK x < 6 := by unfold nK; split <;> omega
theorem nF_b {x : Nat} (h : NatOK x) : 0 ≤ nF x ∧ nF x ≤ 9 := by unfold nF; unfold NatOK at h; split <;> omega
theorem rd_nat {A : iA} {x : Nat} (h : NatOK x) : (hp A).1[x]? = some (.inl (cls (nK x), [.inl (nF x)])) := by
  rcases h with h | h
  · subst h; rfl
  · obtain ⟨h1, h2⟩ := h
    obtain ⟨y, rfl⟩ : ∃ y, x = 46 + y := ⟨x - 46, by omega⟩
    have hy : y < 60 := by omega
    clear h1 h2
    have key : ∀ y, y < 60 → (hp A).1[46 + y]? = some (.inl (cls (nK (46 + y)), [.inl (nF (46 + y))])) := by
      intro y hy
      match y, hy with
      | 0, _ => rfl
      | 1, _ => rfl
      | 2, _ => rfl
      | 3, _ => rfl
      | 4, _ => rfl
      | 5, _ => rfl
      | 6, _ => rfl
      | 7, _ => rfl
      | 8, _ => rfl
      | 9, _ => rfl
      | 10, _ => rfl
      | 11, _ => rfl
      | 12, _ => rfl
      | 13, _ => rfl
      | 14, _ => rfl
      | 15, _ => rfl
      | 16, _ => rfl
      | 17, _ => rfl
      | 18, _ => rfl
      | 19, _ => rfl
      | 20, _ => rfl
      | 21, _ => rfl
      | 22, _ => rfl
      | 23, _ => rfl
      | 24, _ => rfl
      | 25, _ => rfl
      | 26, _ => rfl
      | 27, _ => rfl
      | 28, _ => rfl
      | 29, _ => rfl
      | 30, _ => rfl
      | 31, _ => rfl
      | 32, _ => rfl
      | 33, _ => rfl
      | 34, _ => rfl
      | 35, _ => rfl
      | 36, _ => rfl
      | 37, _ => rfl
      | 38, _ => rfl
      | 39, _ => rfl
      | 40, _ => rfl
      | 41, _ => rfl
      | 42, _ => rfl
      | 43, _ => rfl
      | 44, _ => rfl
      | 45, _ => rfl
      | 46, _ => rfl
      | 47, _ => rfl
      | 48, _ => rfl
      | 49, _ => rfl
      | 50, _ => rfl
      | 51, _ => rfl
      | 52, _ => rfl
      | 53, _ => rfl
      | 54, _ => rfl
      | 55, _ => rfl
      | 56, _ => rfl
      | 57, _ => rfl
      | 58, _ => rfl
      | 59, _ => rfl
      | n + 60, h => exact absurd h (by omega)
    exact key y hy
def gB (k : Nat) (f : Int) (own : Int) : Int := match k with
  | 1 => 5
  | 2 => 1
  | 3 => 5
  | 4 => 5 + f
  | 5 => if own = 0 then 0 else 6
  | _ => 3
def sB (k : Nat) (f : Int) : Int := match k with
  | 2 => 1
  | 3 => f
  | 4 => 2 * f
  | _ => 0
def rB (k : Nat) (f v : Int) : Int := match k with
  | 1 => v - v.tdiv 4 + 2
  | 2 => (v - v.tdiv 4).tdiv 2
  | 3 => if 0 < v - v.tdiv 4 + 2 - f then v - v.tdiv 4 + 2 - f else 0
  | 4 => (if 0 < v - v.tdiv 4 + 2 - f then v - v.tdiv 4 + 2 - f else 0) + v
  | 5 => v
  | _ => v - v.tdiv 4
def pB (k : Nat) (f : Int) : Int := match k with
  | 1 => 7
  | 2 => 2
  | 3 => 7 + f
  | 4 => 2 * (7 + 2 * f)
  | 5 => 5 + f
  | _ => 5
def yKind (k : Nat) : Nat := [mX6_kind, mX9_kind, mX0_kind, mX3_kind, mX7_kind, mX1_kind].getD k 0
def yGrowth (k : Nat) : Nat := [mX6_growth, mX9_growth, mX0_growth, mX9_growth, mX7_growth, mX1_growth].getD k 0
def ySulk (k : Nat) : Nat := [mX6_sulking, mX6_sulking, mX0_sulking, mX3_sulking, mX7_sulking, mX6_sulking].getD k 0
def yRetold (k : Nat) : Nat := [mX6_retold, mX9_retold, mX0_retold, mX3_retold, mX7_retold, mX1_retold].getD k 0
def yPrice (k : Nat) : Nat := [mX6_price, mX9_price, mX0_price, mX3_price, mX7_price, mX1_price].getD k 0
section KIND
variable {sp : Nat → List iV → iH → Option (Option iV × iH)} {sc : List Int} {d x r : Nat} {h : iH} {A : iA} {f : Int} {Q : Option iV → iH → Prop}
/-- a call that answers v and leaves the cells as they were -/
abbrev Ret (sp : Nat → List iV → iH → Option (Option iV × iH)) (sc : List Int) (d y : Nat) (av : List iV) (h : iH) (v : Int) : Prop := Call sp sc d y av h (fun a h' => a = some (.inl v) ∧ h' = h)
theorem st_growth (own : Int) : Ret sp sc d mX6_growth [.inr (.inr r), .inl own] h 3 := by
  apply eX6_growth 20; sx [gX6_growth]
theorem st_sulking : Ret sp sc d mX6_sulking [.inr (.inr r)] h 0 := by
  apply eX6_sulking 20; sx [gX6_sulking]
theorem st_price : Ret sp sc d mX6_price [.inr (.inr r)] h 5 := by
  apply eX6_price 20; sx [gX6_price]
theorem st_retold (v : Int) (h0 : inI v = true) : Ret sp sc d mX6_retold [.inr (.inr r), .inl v] h (v - v.tdiv 4) := by
  apply eX6_retold 20; sx [gX6_retold, h0]
  all_goals fin
theorem wa_growth (hx : NatOK x) (own : Int) : Ret sp sc (d + 1) mX9_growth [.inr (.inr (x + 2)), .inl own] (hp A) 5 := by
  apply eX9_growth 20; sx [gX9_growth, rd_nat, Call_eq (st_growth _)]
  all_goals fin
theorem wa_price (hx : NatOK x) : Ret sp sc (d + 1) mX9_price [.inr (.inr (x + 2))] (hp A) 7 := by
  apply eX9_price 20; sx [gX9_price, rd_nat, Call_eq st_price]
  all_goals fin
theorem wa_retold (hx : NatOK x) (v : Int) (h0 : inI v = true) : Ret sp sc (d + 1) mX9_retold [.inr (.inr (x + 2)), .inl v] (hp A) (v - v.tdiv 4 + 2) := by
  apply eX9_retold 20; sx [gX9_retold, rd_nat, Call_eq (st_retold _ h0)]
  all_goals fin
theorem co_growth (hx : NatOK x) (own : Int) : Ret sp sc (d + 1) mX0_growth [.inr (.inr (x + 2)), .inl own] (hp A) 1 := by
  apply eX0_growth 20; sx [gX0_growth, rd_nat, Call_eq (st_growth _)]
  all_goals fin
theorem co_sulking (hx : NatOK x) : Ret sp sc (d + 1) mX0_sulking [.inr (.inr (x + 2))] (hp A) 1 := by
  apply eX0_sulking 20; sx [gX0_sulking, rd_nat, Call_eq st_sulking]
  all_goals fin
theorem co_price (hx : NatOK x) : Ret sp sc (d + 1) mX0_price [.inr (.inr (x + 2))] (hp A) 2 := by
  apply eX0_price 20; sx [gX0_price, rd_nat, Call_eq st_price]
  all_goals fin
theorem co_retold (hx : NatOK x) (v : Int) (h0 : 0 ≤ v) (h1 : v < 10000) : Ret sp sc (d + 1) mX0_retold [.inr (.inr (x + 2)), .inl v] (hp A) ((v - v.tdiv 4).tdiv 2) := by
  have e : v.tdiv 4 = v / 4 := Int.tdiv_eq_ediv_of_nonneg h0
  apply eX0_retold 20; sx [gX0_retold, rd_nat, Call_eq (st_retold _ (inI_of (by omega : (-2147483648 : Int) ≤ v) (by omega)))]
  all_goals fin
theorem fa_growth (hx : NatOK x) (own : Int) (h0 : own = 0 ∨ own = 1) : Ret sp sc (d + 1) mX1_growth [.inr (.inr (x + 2)), .inl own] (hp A) (if own = 0 then 0 else 6) := by
  apply eX1_growth 20; sx [gX1_growth, rd_nat, Call_eq (st_growth _)]
  rcases h0 with rfl | rfl <;> simp
theorem fa_price (hx : NatOK x) (hc : nK x = 5) : Ret sp sc (d + 1) mX1_price [.inr (.inr (x + 2))] (hp A) (5 + nF x) := by
  apply eX1_price 20; sx [gX1_price, rd_nat, Call_eq st_price, hc, clsE]
  all_goals fin
theorem fa_retold (v : Int) : Ret sp sc d mX1_retold [.inr (.inr r), .inl v] h v := by
  apply eX1_retold 20; sx [gX1_retold]
theorem je_sulking3 (hx : NatOK x) (hc : nK x = 3) : Ret sp sc (d + 1) mX3_sulking [.inr (.inr (x + 2))] (hp A) (nF x) := by
  apply eX3_sulking 20; sx [gX3_sulking, rd_nat, Call_eq st_sulking, hc, clsE]
  all_goals fin
theorem je_sulking4 (hx : NatOK x) (hc : nK x = 4) : Ret sp sc (d + 1) mX3_sulking [.inr (.inr (x + 2))] (hp A) (nF x) := by
  apply eX3_sulking 20; sx [gX3_sulking, rd_nat, Call_eq st_sulking, hc, clsE]
  all_goals fin
theorem va_sulking (hx : NatOK x) (hc : nK x = 4) : Ret sp sc (d + 2) mX7_sulking [.inr (.inr (x + 2))] (hp A) (2 * nF x) := by
  apply eX7_sulking 20; sx [gX7_sulking, rd_nat, Call_eq (je_sulking4 hx hc)]
  all_goals fin
theorem je_retold3 (hx : NatOK x) (hc : nK x = 3) (v : Int) (h0 : 0 ≤ v) (h1 : v < 10000) : Ret sp sc (d + 2) mX3_retold [.inr (.inr (x + 2)), .inl v] (hp A) (if 0 < v - v.tdiv 4 + 2 - nF x then v - v.tdiv 4 + 2 - nF x else 0) := by
  have e : v.tdiv 4 = v / 4 := Int.tdiv_eq_ediv_of_nonneg h0
  have := nF_b hx
  apply eX3_retold 20; sx [gX3_retold, rd_nat, Call_eq (wa_retold hx _ (inI_of (by omega : (-2147483648 : Int) ≤ v) (by omega))), hc, clsE]
  all_goals fin
theorem je_retold4 (hx : NatOK x) (hc : nK x = 4) (v : Int) (h0 : 0 ≤ v) (h1 : v < 10000) : Ret sp sc (d + 2) mX3_retold [.inr (.inr (x + 2)), .inl v] (hp A) (if 0 < v - v.tdiv 4 + 2 - nF x then v - v.tdiv 4 + 2 - nF x else 0) := by
  have e : v.tdiv 4 = v / 4 := Int.tdiv_eq_ediv_of_nonneg h0
  have := nF_b hx
  apply eX3_retold 20; sx [gX3_retold, rd_nat, Call_eq (wa_retold hx _ (inI_of (by omega : (-2147483648 : Int) ≤ v) (by omega))), hc, clsE]
  all_goals fin
theorem va_retold (hx : NatOK x) (hc : nK x = 4) (v : Int) (h0 : 0 ≤ v) (h1 : v < 10000) : Ret sp sc (d + 3) mX7_retold [.inr (.inr (x + 2)), .inl v] (hp A) ((if 0 < v - v.tdiv 4 + 2 - nF x then v - v.tdiv 4 + 2 - nF x else 0) + v) := by
  apply eX7_retold 20; sx [gX7_retold, rd_nat, Call_eq (je_retold4 hx hc v h0 h1)]
  all_goals fin
theorem va_growth (hx : NatOK x) (hc : nK x = 4) (own : Int) : Ret sp sc (d + 2) mX7_growth [.inr (.inr (x + 2)), .inl own] (hp A) (5 + nF x) := by
  apply eX7_growth 20; sx [gX7_growth, rd_nat, Call_eq (wa_growth hx _), hc, clsE]
  all_goals fin
theorem je_price3 (hx : NatOK x) (hc : nK x = 3) : Ret sp sc (d + 2) mX3_price [.inr (.inr (x + 2))] (hp A) (7 + nF x) := by
  apply eX3_price 20; sx [gX3_price, rd_nat, Call_eq (wa_price hx), Call_eq (je_sulking3 hx hc), hc, clsE]
  all_goals fin
theorem je_price4 (hx : NatOK x) (hc : nK x = 4) : Ret sp sc (d + 3) mX3_price [.inr (.inr (x + 2))] (hp A) (7 + 2 * nF x) := by
  apply eX3_price 20; sx [gX3_price, rd_nat, Call_eq (wa_price hx), Call_eq (va_sulking hx hc), hc, clsE]
  all_goals fin
theorem va_price (hx : NatOK x) (hc : nK x = 4) : Ret sp sc (d + 4) mX7_price [.inr (.inr (x + 2))] (hp A) (2 * (7 + 2 * nF x)) := by
  apply eX7_price 20; sx [gX7_price, rd_nat, Call_eq (je_price4 hx hc)]
  all_goals fin
theorem ki0 : Ret sp sc d mX6_kind [.inr (.inr r)] h 0 := by
  apply eX6_kind 20; sx [gX6_kind]
theorem ki1 : Ret sp sc d mX9_kind [.inr (.inr r)] h 1 := by
  apply eX9_kind 20; sx [gX9_kind]
theorem ki2 : Ret sp sc d mX0_kind [.inr (.inr r)] h 2 := by
  apply eX0_kind 20; sx [gX0_kind]
theorem ki3 : Ret sp sc d mX3_kind [.inr (.inr r)] h 3 := by
  apply eX3_kind 20; sx [gX3_kind]
theorem ki4 : Ret sp sc d mX7_kind [.inr (.inr r)] h 4 := by
  apply eX7_kind 20; sx [gX7_kind]
theorem ki5 : Ret sp sc d mX1_kind [.inr (.inr r)] h 5 := by
  apply eX1_kind 20; sx [gX1_kind]
end KIND
