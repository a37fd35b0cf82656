set_option maxRecDepth 16384
/-! ===== kinds: calls by class ===== -/
def kd3 (k : Nat) : Nat := if k = 0 then 2 else 3
theorem kd3_ok {k : Nat} : (kd3 k = 2 ∨ kd3 k = 3 ∨ kd3 k = 8) = True := by unfold kd3; split <;> simp
theorem lk_all : ∀ k, k < 6 → lkC 11 121 (cls k) = some (yKind k, 0, kd3 k) ∧ lkC 11 139 (cls k) = some (ySulk k, 0, kd3 k) ∧ lkC 11 145 (cls k) = some (yGrowth k, 1, kd3 k) ∧ lkC 11 149 (cls k) = some (yRetold k, 1, kd3 k) ∧ lkC 11 368 (cls k) = some (yPrice k, 0, kd3 k) ∧ lkC 10 118 (cls k) = some (yGrowth k, 1, kd3 k) ∧ lkC 10 128 (cls k) = some (ySulk k, 0, kd3 k) := by
  intro k hk
  match k, hk with
  | 0, _ => decide +kernel
  | 1, _ => decide +kernel
  | 2, _ => decide +kernel
  | 3, _ => decide +kernel
  | 4, _ => decide +kernel
  | 5, _ => decide +kernel
theorem lkC_k (x : Nat) : lkC 11 121 (cls (nK x)) = some (yKind (nK x), 0, kd3 (nK x)) := (lk_all _ (nK_lt x)).1
theorem lkC_s (x : Nat) : lkC 11 139 (cls (nK x)) = some (ySulk (nK x), 0, kd3 (nK x)) := (lk_all _ (nK_lt x)).2.1
theorem lkC_g (x : Nat) : lkC 11 145 (cls (nK x)) = some (yGrowth (nK x), 1, kd3 (nK x)) := (lk_all _ (nK_lt x)).2.2.1
theorem lkC_r (x : Nat) : lkC 11 149 (cls (nK x)) = some (yRetold (nK x), 1, kd3 (nK x)) := (lk_all _ (nK_lt x)).2.2.2.1
theorem lkC_p (x : Nat) : lkC 11 368 (cls (nK x)) = some (yPrice (nK x), 0, kd3 (nK x)) := (lk_all _ (nK_lt x)).2.2.2.2.1
theorem lkC_yg (x : Nat) : lkC 10 118 (cls (nK x)) = some (yGrowth (nK x), 1, kd3 (nK x)) := (lk_all _ (nK_lt x)).2.2.2.2.2.1
theorem lkC_ys (x : Nat) : lkC 10 128 (cls (nK x)) = some (ySulk (nK x), 0, kd3 (nK x)) := (lk_all _ (nK_lt x)).2.2.2.2.2.2
theorem lkF_k : ∀ k, k < 6 → lkF 11 125 (cls k) = some 0 := by
  intro k hk
  match k, hk with
  | 0, _ => decide +kernel
  | 1, _ => decide +kernel
  | 2, _ => decide +kernel
  | 3, _ => decide +kernel
  | 4, _ => decide +kernel
  | 5, _ => decide +kernel
theorem lkF_x (x : Nat) : lkF 11 125 (cls (nK x)) = some 0 := lkF_k _ (nK_lt x)
section KIND
variable {sp : Nat → List iV → iH → Option (Option iV × iH)} {sc : List Int} {d x : Nat} {A : iA} {Q : Option iV → iH → Prop}
theorem k_cases {P : Nat → Prop} {k : Nat} (hk : k < 6) (h0 : P 0) (h1 : P 1) (h2 : P 2) (h3 : P 3) (h4 : P 4) (h5 : P 5) : P k := by
  match k, hk with
  | 0, _ => exact h0
  | 1, _ => exact h1
  | 2, _ => exact h2
  | 3, _ => exact h3
  | 4, _ => exact h4
  | 5, _ => exact h5
theorem kind_ok (hx : NatOK x) : Ret sp sc d (yKind (nK x)) [.inr (.inr (x + 2))] (hp A) (nK x) := by
  refine k_cases (P := fun k => nK x = k → Ret sp sc d (yKind k) [.inr (.inr (x + 2))] (hp A) k) (nK_lt x) ?_ ?_ ?_ ?_ ?_ ?_ rfl <;> intro hc
  · exact ki0
  · exact ki1
  · exact ki2
  · exact ki3
  · exact ki4
  · exact ki5
theorem growth_ok (hx : NatOK x) {own : Int} (ho : own = 0 ∨ own = 1) : Ret sp sc (d + 2) (yGrowth (nK x)) [.inr (.inr (x + 2)), .inl own] (hp A) (gB (nK x) (nF x) own) := by
  refine k_cases (P := fun k => nK x = k → Ret sp sc (d + 2) (yGrowth k) [.inr (.inr (x + 2)), .inl own] (hp A) (gB k (nF x) own)) (nK_lt x) ?_ ?_ ?_ ?_ ?_ ?_ rfl <;> intro hc
  · exact st_growth _
  · exact wa_growth hx _
  · exact co_growth hx _
  · exact wa_growth hx _
  · exact va_growth hx hc _
  · exact fa_growth hx _ ho
theorem sulk_ok (hx : NatOK x) : Ret sp sc (d + 2) (ySulk (nK x)) [.inr (.inr (x + 2))] (hp A) (sB (nK x) (nF x)) := by
  refine k_cases (P := fun k => nK x = k → Ret sp sc (d + 2) (ySulk k) [.inr (.inr (x + 2))] (hp A) (sB k (nF x))) (nK_lt x) ?_ ?_ ?_ ?_ ?_ ?_ rfl <;> intro hc
  · exact st_sulking
  · exact st_sulking
  · exact co_sulking hx
  · exact je_sulking3 hx hc
  · exact va_sulking hx hc
  · exact st_sulking
theorem retold_ok (hx : NatOK x) {v : Int} (h0 : 0 ≤ v) (h1 : v < 10000) : Ret sp sc (d + 3) (yRetold (nK x)) [.inr (.inr (x + 2)), .inl v] (hp A) (rB (nK x) (nF x) v) := by
  have h2 : inI v = true := inI_of (by omega) (by omega)
  refine k_cases (P := fun k => nK x = k → Ret sp sc (d + 3) (yRetold k) [.inr (.inr (x + 2)), .inl v] (hp A) (rB k (nF x) v)) (nK_lt x) ?_ ?_ ?_ ?_ ?_ ?_ rfl <;> intro hc
  · exact st_retold _ h2
  · exact wa_retold hx _ h2
  · exact co_retold hx _ h0 h1
  · exact je_retold3 hx hc _ h0 h1
  · exact va_retold hx hc _ h0 h1
  · exact fa_retold _
theorem price_ok (hx : NatOK x) : Ret sp sc (d + 4) (yPrice (nK x)) [.inr (.inr (x + 2))] (hp A) (pB (nK x) (nF x)) := by
  refine k_cases (P := fun k => nK x = k → Ret sp sc (d + 4) (yPrice k) [.inr (.inr (x + 2))] (hp A) (pB k (nF x))) (nK_lt x) ?_ ?_ ?_ ?_ ?_ ?_ rfl <;> intro hc
  · exact st_price
  · exact wa_price hx
  · exact co_price hx
  · exact je_price3 hx hc
  · exact va_price hx hc
  · exact fa_price hx hc
theorem kind_eq (hx : NatOK x) : Call sp sc d (yKind (nK x)) [.inr (.inr (x + 2))] (hp A) Q = Q (some (.inl (nK x))) (hp A) := Call_eq (kind_ok hx)
theorem growth_eq (hx : NatOK x) {own : Int} (ho : own = 0 ∨ own = 1) : Call sp sc (d + 2) (yGrowth (nK x)) [.inr (.inr (x + 2)), .inl own] (hp A) Q = Q (some (.inl (gB (nK x) (nF x) own))) (hp A) := Call_eq (growth_ok hx ho)
theorem sulk_eq (hx : NatOK x) : Call sp sc (d + 2) (ySulk (nK x)) [.inr (.inr (x + 2))] (hp A) Q = Q (some (.inl (sB (nK x) (nF x)))) (hp A) := Call_eq (sulk_ok hx)
theorem retold_eq (hx : NatOK x) {v : Int} (h0 : 0 ≤ v) (h1 : v < 10000) : Call sp sc (d + 3) (yRetold (nK x)) [.inr (.inr (x + 2)), .inl v] (hp A) Q = Q (some (.inl (rB (nK x) (nF x) v))) (hp A) := Call_eq (retold_ok hx h0 h1)
theorem price_eq (hx : NatOK x) : Call sp sc (d + 4) (yPrice (nK x)) [.inr (.inr (x + 2))] (hp A) Q = Q (some (.inl (pB (nK x) (nF x)))) (hp A) := Call_eq (price_ok hx)
end KIND
theorem gB_b {k : Nat} {f own : Int} (h0 : 0 ≤ f) (h1 : f ≤ 9) : 0 ≤ gB k f own ∧ gB k f own ≤ 14 := by
  unfold gB; split <;> (try split) <;> omega
theorem sB_b {k : Nat} {f : Int} (h0 : 0 ≤ f) (h1 : f ≤ 9) : 0 ≤ sB k f ∧ sB k f ≤ 18 := by
  unfold sB; split <;> omega
theorem pB_b {k : Nat} {f : Int} (h0 : 0 ≤ f) (h1 : f ≤ 9) : 0 ≤ pB k f ∧ pB k f ≤ 50 := by
  unfold pB; split <;> omega
theorem rB_b {k : Nat} {f v : Int} (h0 : 0 ≤ f) (h1 : f ≤ 9) (h2 : 0 ≤ v) : 0 ≤ rB k f v ∧ rB k f v ≤ 2 * v + 2 := by
  have e : v.tdiv 4 = v / 4 := Int.tdiv_eq_ediv_of_nonneg h2
  have e2 : (v - v / 4).tdiv 2 = (v - v / 4) / 2 := Int.tdiv_eq_ediv_of_nonneg (by omega)
  unfold rB; rw [e, e2]; split <;> (try split) <;> omega
