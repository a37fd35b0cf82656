/-! ===== the reference: its row and its year ===== -/
inductive iR where
  | s
  | m
def rb : iR → Nat
  | .s => 139
  | .m => 140
def iA.rr (A : iA) : iR → List Int
  | .s => A.mo.s
  | .m => A.mo.m
def iA.srr (A : iA) (r : iR) (l : List Int) : iA := match r with
  | .s => { A with mo := { A.mo with s := l } }
  | .m => { A with mo := { A.mo with m := l } }
/-- the reference's year: waits, ends, order, deeds done, slips, the first slip's day, days gone -/
structure iRy where
  wt : List Int
  en : List Int
  od : List Int
  dn : Int
  sm : Int
  sf : Int
  go : Int
def iA.ry (A : iA) : iRy := ⟨A.mo.wt, A.mo.en, A.mo.od, A.mo.dn, A.mo.sm, A.mo.sf, A.mo.go⟩
def iA.sro (A : iA) (r : iR) (l : List Int) (R : iRy) : iA := ({ A with mo := { A.mo with wt := R.wt, en := R.en, od := R.od, dn := R.dn, sm := R.sm, sf := R.sf, go := R.go } }).srr r l
section RW
variable {sp : Nat → List iV → iH → Option (Option iV × iH)} {sc : List Int} {d : Nat} {A : iA} {r : iR} {l l' : List Int} {R R' : iRy} {h : iH} {Q : Option iV → iH → Prop} {X : iVal} {e : Int}
theorem rd_r : (hp A).1[rb r]? = some (.inr (.inl (0, A.rr r))) := by cases r <;> rfl
theorem wr_r : ((hp A).1.set (rb r) (.inr (.inl (0, l))), A.mc) = hp (A.srr r l) := by cases r <;> rfl
theorem sro_rr : (A.sro r l R).rr r = l := by cases r <;> rfl
theorem sro_ry : (A.sro r l R).ry = R := by cases r <;> rfl
theorem sro_sro : (A.sro r l R).sro r l' R' = A.sro r l' R' := by cases r <;> rfl
theorem sro_srr : (A.sro r l R).srr r l' = A.sro r l' R := by cases r <;> rfl
theorem sro_id : A.sro r (A.rr r) A.ry = A := by cases r <;> rfl
theorem sro_mc : (A.sro r l R).mc = A.mc := by cases r <;> rfl
theorem sro_ext : (A.sro r l R).ext = A.ext := by cases r <;> rfl
theorem sro_wt : (A.sro r l R).mo.wt = R.wt := by cases r <;> rfl
theorem sro_en : (A.sro r l R).mo.en = R.en := by cases r <;> rfl
theorem sro_od : (A.sro r l R).mo.od = R.od := by cases r <;> rfl
theorem sro_dn : (A.sro r l R).mo.dn = R.dn := by cases r <;> rfl
theorem sro_sm : (A.sro r l R).mo.sm = R.sm := by cases r <;> rfl
theorem sro_sf : (A.sro r l R).mo.sf = R.sf := by cases r <;> rfl
theorem sro_go : (A.sro r l R).mo.go = R.go := by cases r <;> rfl
theorem wro_wt {w : List Int} : ((hp (A.sro r l R)).1.set 143 (.inr (.inl (0, w))), (A.sro r l R).mc) = hp (A.sro r l { R with wt := w }) := by cases r <;> rfl
theorem wro_en {w : List Int} : ((hp (A.sro r l R)).1.set 144 (.inr (.inl (0, w))), (A.sro r l R).mc) = hp (A.sro r l { R with en := w }) := by cases r <;> rfl
theorem wro_od {w : List Int} : ((hp (A.sro r l R)).1.set 145 (.inr (.inl (0, w))), (A.sro r l R).mc) = hp (A.sro r l { R with od := w }) := by cases r <;> rfl
theorem wro_r {w : List Int} : ((hp (A.sro r l R)).1.set (rb r) (.inr (.inl (0, w))), (A.sro r l R).mc) = hp (A.sro r w R) := by cases r <;> rfl
theorem wro_o {a b c g : Int} : ((hp (A.sro r l R)).1.set 138 (.inl (12, [.inr (.inr 141), .inr (.inr 142), .inr (.inr 143), .inr (.inr 144), .inl (A.sro r l R).mo.hi, .inr (.inr 145), .inr (.inr 146), .inr (.inr 147), .inl a, .inl b, .inl c, .inl g, .inl (A.sro r l R).mo.at_, .inl (A.sro r l R).mo.ra, .inl (A.sro r l R).mo.re, .inr (.inr 148), .inl (A.sro r l R).mo.bd, .inl (A.sro r l R).mo.bg, .inr (.inr 149), .inr (.inr 150), .inr (.inr 151), .inl (A.sro r l R).mo.st, .inl (A.sro r l R).mo.ml, .inr (.inr 152), .inr (.inr 153), .inl (A.sro r l R).mo.se, .inr (.inr 154), .inr (.inr 155), .inr (.inr 156), .inr (.inr 157), .inr (.inr 158), .inr (.inr 159), .inl (A.sro r l R).mo.tn])), (A.sro r l R).mc) = hp (A.sro r l { R with dn := a, sm := b, sf := c, go := g }) := by cases r <;> rfl
theorem back_sro {L : List (Option iV)} {rest : List iV} : back (hp (A.sro r l R)) (hp (A.sro r l' R')) L rest = True := back_hp (by rw [sro_ext, sro_ext]) (by rw [sro_mc, sro_mc]; exact Nat.le_refl _)
theorem back_sro1 {L : List (Option iV)} {rest : List iV} : back (hp A) (hp (A.sro r l' R')) L rest = True := back_hp (by rw [sro_ext]) (by rw [sro_mc]; exact Nat.le_refl _)
macro "sr" "[" ls:Lean.Parser.Tactic.simpLemma,* "]" : tactic => `(tactic| sx [back_sro, back_sro1, rd_r, rd_o, rd_o_wt, rd_o_en, rd_o_od, sro_rr, sro_srr, sro_sro, sro_wt, sro_en, sro_od, sro_dn, sro_sm, sro_sf, sro_go, wro_wt, wro_en, wro_od, wro_r, wro_o, row_len, inA_one, inA_lik, inA_cpl, $ls,*])
theorem isIn_eq {v a b : Int} (h0 : inI v = true) (h1 : inI a = true) (h2 : inI b = true) : Call sp sc d mX12_isIn [.inl v, .inl a, .inl b] h Q = Q (some (.inl (bI (a ≤ v ∧ v ≤ b)))) h := Call_eq (by
  apply eX12_isIn 30; sx [gX12_isIn, h0, h1, h2]
  fb)
theorem least_eq {a b : Int} (h0 : inI a = true) (h1 : inI b = true) : Call sp sc d mX12_least [.inl a, .inl b] h Q = Q (some (.inl (if a < b then a else b))) h := Call_eq (by
  apply eX12_least 30; sx [gX12_least, h0, h1]
  refine ⟨fun z => ?_, fun z => ?_⟩
  · rw [if_neg (by omega)]
  · rw [if_pos (by omega)])
theorem most_eq {a b : Int} (h0 : inI a = true) (h1 : inI b = true) : Call sp sc d mX12_most_II [.inl a, .inl b] h Q = Q (some (.inl (if b < a then a else b))) h := Call_eq (by
  apply eX12_most_II 30; sx [gX12_most_II, h0, h1]
  refine ⟨fun z => ?_, fun z => ?_⟩
  · rw [if_neg (by omega)]
  · rw [if_pos (by omega)])
theorem atOne_eq {s k w : Int} : Call sp sc d mX12_atOne [.inl s, .inl k, .inl w] h Q = Q (some (.inl (aOne s k w))) h := Call_eq (by
  apply eX12_atOne 30; sx [gX12_atOne]; rfl)
theorem atLike_eq {s a b : Int} : Call sp sc d mX12_atLike [.inl s, .inl a, .inl b] h Q = Q (some (.inl (aLik s a b))) h := Call_eq (by
  apply eX12_atLike 30; sx [gX12_atLike]; rfl)
theorem atCouple_eq {c w : Int} : Call sp sc d mX12_atCouple [.inl c, .inl w] h Q = Q (some (.inl (aCpl c w))) h := Call_eq (by
  apply eX12_atCouple 30; sx [gX12_atCouple]; rfl)
theorem growsBy_eq {k : Nat} {f own : Int} (hk : k < 6) (ho : own = 0 ∨ own = 1) : Call sp sc d mX12_growsBy [.inl (k : Int), .inl f, .inl own] h Q = Q (some (.inl (gB k f own))) h := Call_eq (by
  apply eX12_growsBy 30
  refine k_cases (P := fun k => G sp sc [] d mX12_growsBy 30 0 [some (.inl (k : Int)), some (.inl f), some (.inl own)] [] h (fun a b => a = some (.inl (gB k f own)) ∧ b = h)) hk ?_ ?_ ?_ ?_ ?_ ?_
  all_goals sx [gX12_growsBy]
  all_goals first | rfl | skip
  rcases ho with rfl | rfl <;> simp [gB])
theorem sulksBy_eq {k : Nat} {f : Int} (hk : k < 6) : Call sp sc d mX12_sulksBy [.inl (k : Int), .inl f] h Q = Q (some (.inl (sB k f))) h := Call_eq (by
  apply eX12_sulksBy 30
  refine k_cases (P := fun k => G sp sc [] d mX12_sulksBy 30 0 [some (.inl (k : Int)), some (.inl f)] [] h (fun a b => a = some (.inl (sB k f)) ∧ b = h)) hk ?_ ?_ ?_ ?_ ?_ ?_
  all_goals sx [gX12_sulksBy]
  all_goals rfl)
theorem retellsBy_eq {k : Nat} {f v : Int} (hk : k < 6) (h0 : 0 ≤ v) (h1 : v < 10000) (h2 : 0 ≤ f) (h3 : f ≤ 9) : Call sp sc (d + 1) mX12_retellsBy [.inl (k : Int), .inl f, .inl v] h Q = Q (some (.inl (rB k f v))) h := Call_eq (by
  have e : v.tdiv 4 = v / 4 := Int.tdiv_eq_ediv_of_nonneg h0
  apply eX12_retellsBy 40
  refine k_cases (P := fun k => G sp sc [] (d + 1) mX12_retellsBy 40 0 [some (.inl (k : Int)), some (.inl f), some (.inl v), none] [] h (fun a b => a = some (.inl (rB k f v)) ∧ b = h)) hk ?_ ?_ ?_ ?_ ?_ ?_
  all_goals sx [gX12_retellsBy, most_eq]
  all_goals first | rfl | skip
  all_goals unfold rB
  all_goals (split <;> simp <;> omega))
theorem costBy_eq {k : Nat} {f : Int} (hk : k < 6) : Call sp sc (d + 1) mX12_costBy [.inl (k : Int), .inl f] h Q = Q (some (.inl (pB k f))) h := Call_eq (by
  have e3 : Call sp sc d mX12_sulksBy [.inl 3, .inl f] h = fun Q => Q (some (.inl (sB 3 f))) h := funext fun Q => sulksBy_eq (k := 3) (by omega)
  have e4 : Call sp sc d mX12_sulksBy [.inl 4, .inl f] h = fun Q => Q (some (.inl (sB 4 f))) h := funext fun Q => sulksBy_eq (k := 4) (by omega)
  apply eX12_costBy 40
  refine k_cases (P := fun k => G sp sc [] (d + 1) mX12_costBy 40 0 [some (.inl (k : Int)), some (.inl f)] [] h (fun a b => a = some (.inl (pB k f)) ∧ b = h)) hk ?_ ?_ ?_ ?_ ?_ ?_
  all_goals sx [gX12_costBy, e3, e4]
  all_goals first | rfl | (unfold pB sB; omega))
theorem goesOnR_eq (hO : OkV X) {c : Int} (h0 : 0 ≤ c) (h1 : c < 4) : Call sp sc (d + 1) mX12_goesOn [.inr (.inr (rb r + 2)), .inl c] (hp (A.sro r (rowOf X e) R)) Q = Q (some (.inl (bI (X.sta c = 0)))) (hp (A.sro r (rowOf X e) R)) := Call_eq (by
  have e1 := hO.sta c h0 h1
  apply eX12_goesOn 30; sr [gX12_goesOn, atCouple_eq, q_sta]
  fb)
theorem sulksOf_eq (hO : OkV X) {s k : Int} (h0 : 0 ≤ s) (h1 : s < 2) (h2 : 0 ≤ k) (h3 : k < X.num s) : Call sp sc (d + 1) mX12_sulksOf [.inr (.inr (rb r + 2)), .inl s, .inl k] (hp (A.sro r (rowOf X e) R)) Q = Q (some (.inl (X.slk1 s k))) (hp (A.sro r (rowOf X e) R)) := Call_eq (by
  have n := hO.num h0 h1
  have hk := nK_lt (X.nx s k)
  apply eX12_sulksOf 30; sr [gX12_sulksOf, atOne_eq, q_kind, q_fig, sulksBy_eq hk]
  rfl)
theorem changesLike_eq (hO : OkV X) {s a b v : Int} (h0 : 0 ≤ s) (h1 : s < 2) (h2 : 0 ≤ a) (h3 : a < X.num s) (h4 : 0 ≤ b) (h5 : b < X.num (1 - s)) (h6 : -100 ≤ v) (h7 : v ≤ 100) : Call sp sc (d + 1) mX12_changesLike [.inr (.inr (rb r + 2)), .inl (aLik s a b), .inl v] (hp (A.sro r (rowOf X e) R)) Q = Q none (hp (A.sro r (rowOf (X.alk s a b v) e) R)) := Call_eq (by
  have n0 := hO.num h0 h1
  have n1 := hO.num (s := 1 - s) (by omega) (by omega)
  have el := hO.lik s a b h0 h1 h2 (by omega) h4 (by omega)
  have e1 : inI (X.lik s a b + v) = true := inI_of (by omega) (by omega)
  have e2 : inI (if 99 < X.lik s a b + v then 99 else X.lik s a b + v) = true := by split <;> exact inI_of (by omega) (by omega)
  have e3 : (if (if 99 < X.lik s a b + v then 99 else X.lik s a b + v) < 0 then 0 else (if 99 < X.lik s a b + v then 99 else X.lik s a b + v)) = clamp (X.lik s a b + v) := by unfold clamp; split <;> split <;> split <;> omega
  apply eX12_changesLike 30; sr [gX12_changesLike, q_lik, least_eq, most_eq, e1, e2, e3, w_lik hO h0 h1 h2 h3 h4 h5]

  rfl)
end RW
