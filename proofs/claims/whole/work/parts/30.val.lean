/-! ===== a valley: what it says, and the class's small methods ===== -/
def iVal.num (X : iVal) (s : Int) : Int := X.on.getD s.toNat 0
def iVal.lik (X : iVal) (s a b : Int) : Int := X.li.getD ((s * 5 + a) * 5 + b).toNat 0
def iVal.dep (X : iVal) (s a : Int) : Int := X.de.getD (s * 5 + a).toNat 0
def iVal.bnd (X : iVal) (s a : Int) : Int := X.bo.getD (s * 5 + a).toNat 0
def iVal.nr (X : iVal) (s a : Int) : Nat := X.na.getD (s * 5 + a).toNat 0
def iVal.nx (X : iVal) (s a : Int) : Nat := X.nr s a - 2
def iVal.man (X : iVal) (c : Int) : Int := X.me.getD c.toNat 0
def iVal.wom (X : iVal) (c : Int) : Int := X.wo.getD c.toNat 0
def iVal.sta (X : iVal) (c : Int) : Int := X.sa.getD c.toNat 0
def iVal.dds (X : iVal) (c : Int) : Int := X.dd.getD c.toNat 0
def iVal.who (X : iVal) (c : Int) : Int := X.wh.getD c.toNat 0
def clamp (v : Int) : Int := if 0 < (if v < 99 then v else 99) then (if v < 99 then v else 99) else 0
theorem clamp_b (v : Int) : 0 ≤ clamp v ∧ clamp v ≤ 99 := by unfold clamp; split <;> split <;> omega
theorem clamp_in {v : Int} (h0 : 0 ≤ v) (h1 : v ≤ 99) : clamp v = v := by unfold clamp; split <;> split <;> omega
theorem f_num {X : iVal} {s : Int} : X.on.getD s.toNat 0 = X.num s := rfl
theorem f_lik {X : iVal} {s a b : Int} : X.li.getD ((s * 5 + a) * 5 + b).toNat 0 = X.lik s a b := rfl
theorem f_dep {X : iVal} {s a : Int} : X.de.getD (s * 5 + a).toNat 0 = X.dep s a := rfl
theorem f_bnd {X : iVal} {s a : Int} : X.bo.getD (s * 5 + a).toNat 0 = X.bnd s a := rfl
theorem f_man {X : iVal} {c : Int} : X.me.getD c.toNat 0 = X.man c := rfl
theorem f_wom {X : iVal} {c : Int} : X.wo.getD c.toNat 0 = X.wom c := rfl
theorem f_sta {X : iVal} {c : Int} : X.sa.getD c.toNat 0 = X.sta c := rfl
theorem f_dds {X : iVal} {c : Int} : X.dd.getD c.toNat 0 = X.dds c := rfl
theorem f_who {X : iVal} {c : Int} : X.wh.getD c.toNat 0 = X.who c := rfl
macro "sv" "[" ls:Lean.Parser.Tactic.simpLemma,* "]" : tactic => `(tactic| sx [rd_v, f_num, f_lik, f_dep, f_bnd, f_man, f_wom, f_sta, f_dds, f_who, $ls,*])
structure OkV (X : iVal) : Prop where
  lon : X.on.length = 2
  lna : X.na.length = 10
  lde : X.de.length = 10
  lbo : X.bo.length = 10
  lli : X.li.length = 50
  lme : X.me.length = 4
  lwo : X.wo.length = 4
  lsa : X.sa.length = 4
  ldd : X.dd.length = 4
  lwh : X.wh.length = 6
  n0 : 0 ≤ X.num 0 ∧ X.num 0 ≤ 5
  n1 : 0 ≤ X.num 1 ∧ X.num 1 ≤ 5
  cp : 0 ≤ X.cp ∧ X.cp ≤ 4
  sl : 0 ≤ X.sl ∧ X.sl ≤ 99
  nat : ∀ s a, 0 ≤ s → s < 2 → 0 ≤ a → a < 5 → X.nr s a = X.nx s a + 2 ∧ NatOK (X.nx s a)
  man : ∀ c, 0 ≤ c → c < X.cp → 0 ≤ X.man c ∧ X.man c < X.num 0
  wom : ∀ c, 0 ≤ c → c < X.cp → 0 ≤ X.wom c ∧ X.wom c < X.num 1
  sta : ∀ c, 0 ≤ c → c < 4 → 0 ≤ X.sta c ∧ X.sta c ≤ 2
  dds : ∀ c, 0 ≤ c → c < 4 → 0 ≤ X.dds c ∧ X.dds c ≤ 6
  ddg : ∀ c, 0 ≤ c → c < 4 → X.sta c = 0 → X.dds c ≤ 5
  who : ∀ c, 0 ≤ c → c < 6 → 0 ≤ X.who c ∧ X.who c ≤ 2
  lik : ∀ s a b, 0 ≤ s → s < 2 → 0 ≤ a → a < 5 → 0 ≤ b → b < 5 → 0 ≤ X.lik s a b ∧ X.lik s a b ≤ 99
  dep : ∀ s a, 0 ≤ s → s < 2 → 0 ≤ a → a < 5 → X.dep s a = -1 ∨ (0 ≤ X.dep s a ∧ X.dep s a < X.num s)
  bnd : ∀ s a, 0 ≤ s → s < 2 → 0 ≤ a → a < 5 → X.bnd s a = -1 ∨ (0 ≤ X.bnd s a ∧ X.bnd s a < X.num (1 - s))
  unat : ∀ s a, 0 ≤ s → s < 2 → X.num s ≤ a → a < 5 → X.nr s a = 3
  udep : ∀ s a, 0 ≤ s → s < 2 → X.num s ≤ a → a < 5 → X.dep s a = -1
  ubnd : ∀ s a, 0 ≤ s → s < 2 → X.num s ≤ a → a < 5 → X.bnd s a = -1
  ulik : ∀ s a b, 0 ≤ s → s < 2 → 0 ≤ a → a < 5 → 0 ≤ b → b < 5 → (X.num s ≤ a ∨ X.num (1 - s) ≤ b) → X.lik s a b = 10
  ucpl : ∀ c, X.cp ≤ c → c < 4 → X.man c = 0 ∧ X.wom c = 0 ∧ X.sta c = 0 ∧ X.dds c = 0
theorem OkV.num {X : iVal} (h : OkV X) {s : Int} (h0 : 0 ≤ s) (h1 : s < 2) : 0 ≤ X.num s ∧ X.num s ≤ 5 := by
  have : s = 0 ∨ s = 1 := by omega
  rcases this with rfl | rfl
  · exact h.n0
  · exact h.n1
section VAL
variable {sp : Nat → List iV → iH → Option (Option iV × iH)} {sc : List Int} {d : Nat} {A : iA} {w : iW} {Q : Option iV → iH → Prop}
theorem place_eq (a b : Int) {h : iH} : Call sp sc d mX8_place [.inl a, .inl b] h Q = Q (some (.inl (a * 5 + b))) h := Call_eq (by apply eX8_place 20; sx [gX8_place])
theorem isSide_eq (a : Int) (ha : inI a = true) {h : iH} : Call sp sc d mX11_isSide [.inl a] h Q = Q (some (.inl (bI (a = 0 ∨ a = 1)))) h := Call_eq (by
  apply eX11_isSide 20; sx [gX11_isSide, ha]
  refine ⟨fun e => ?_, fun e => ⟨fun e2 => ?_, fun e2 => ?_⟩⟩ <;> simp [bI, *])
theorem isShelf_eq (a : Int) (ha : inI a = true) {h : iH} : Call sp sc d mX11_isShelf [.inl a] h Q = Q (some (.inl (bI (0 ≤ a ∧ a < 8)))) h := Call_eq (by
  apply eX11_isShelf 20; sx [gX11_isShelf, ha]
  refine ⟨fun e => ?_, fun e => ⟨fun e2 => ?_, fun e2 => ?_⟩⟩ <;> simp [bI] <;> omega)
theorem isDeed_eq (a : Int) (ha : inI a = true) {h : iH} : Call sp sc d mX11_isDeed [.inl a] h Q = Q (some (.inl (bI (0 ≤ a ∧ a < 6)))) h := Call_eq (by
  apply eX11_isDeed 20; sx [gX11_isDeed, ha]
  refine ⟨fun e => ?_, fun e => ⟨fun e2 => ?_, fun e2 => ?_⟩⟩ <;> simp [bI] <;> omega)
theorem isKind_eq (a : Int) (ha : inI a = true) {h : iH} : Call sp sc d mX11_isKind [.inl a] h Q = Q (some (.inl (bI (0 ≤ a ∧ a < 6)))) h := Call_eq (by
  apply eX11_isKind 20; sx [gX11_isKind, ha]
  refine ⟨fun e => ?_, fun e => ⟨fun e2 => ?_, fun e2 => ?_⟩⟩ <;> simp [bI] <;> omega)
theorem isMindSpan_eq (a : Int) (ha : inI a = true) {h : iH} : Call sp sc d mX11_isMindSpan [.inl a] h Q = Q (some (.inl (bI (0 ≤ a ∧ a ≤ 60)))) h := Call_eq (by
  apply eX11_isMindSpan 20; sx [gX11_isMindSpan, ha]
  refine ⟨fun e => ?_, fun e => ⟨fun e2 => ?_, fun e2 => ?_⟩⟩ <;> simp [bI] <;> omega)
theorem isDigit_eq (a : Int) (ha : inI a = true) {h : iH} : Call sp sc d mX11_isDigit [.inl a] h Q = Q (some (.inl (bI (48 ≤ a ∧ a ≤ 57)))) h := Call_eq (by
  apply eX11_isDigit 20; sx [gX11_isDigit, ha]
  refine ⟨fun e => ?_, fun e => ⟨fun e2 => ?_, fun e2 => ?_⟩⟩ <;> simp [bI] <;> omega)
theorem orNone_eq (a : Int) (ha : inI a = true) {h : iH} : Call sp sc d mX11_orNone [.inl a] h Q = Q (some (.inl (if a = -1 then -4 else a))) h := Call_eq (by
  apply eX11_orNone 20; sx [gX11_orNone, ha]
  refine ⟨fun e => ?_, fun e => ?_⟩ <;> simp <;> omega)
theorem hasOne_eq (hO : OkV (A.v w)) (s k : Int) (hs : inI s = true) (hk : inI k = true) : Call sp sc (d + 1) mX8_hasOne [.inr (.inr (vb w + 2)), .inl s, .inl k] (hp A) Q = Q (some (.inl (bI ((0 ≤ s ∧ s < 2) ∧ 0 ≤ k ∧ k < (A.v w).num s)))) (hp A) := Call_eq (by
  have e : ∀ s, 0 ≤ s → s < 2 → 0 ≤ (A.v w).num s ∧ (A.v w).num s ≤ 5 := fun s h0 h1 => hO.num h0 h1
  unfold iVal.num at *
  apply eX8_hasOne 30; sx [gX8_hasOne, isSide_eq, rd_v, rd_v1, hO.lon]
  by_cases c : s = 0 ∨ s = 1
  · have := e s (by omega) (by omega)
    fb
  · fb)
theorem hasTwo_eq (hO : OkV (A.v w)) (s k j : Int) (hs : inI s = true) (hk : inI k = true) (hj : inI j = true) : Call sp sc (d + 2) mX8_hasTwo [.inr (.inr (vb w + 2)), .inl s, .inl k, .inl j] (hp A) Q = Q (some (.inl (bI (((0 ≤ s ∧ s < 2) ∧ 0 ≤ k ∧ k < (A.v w).num s) ∧ 0 ≤ j ∧ j < (A.v w).num (1 - s))))) (hp A) := Call_eq (by
  apply eX8_hasTwo 30
  by_cases c : (0 ≤ s ∧ s < 2) ∧ 0 ≤ k ∧ k < (A.v w).num s
  · have e1 : inI (1 - s) = true := inI_of (by omega) (by omega)
    sx [gX8_hasTwo, hasOne_eq, rd_v, hs, e1]
    fb
  · sx [gX8_hasTwo, hasOne_eq, rd_v, hs, c, false_and])
theorem hasCouple_eq (hO : OkV (A.v w)) (c : Int) (hc : inI c = true) : Call sp sc d mX8_hasCouple [.inr (.inr (vb w + 2)), .inl c] (hp A) Q = Q (some (.inl (bI (0 ≤ c ∧ c < (A.v w).cp)))) (hp A) := Call_eq (by
  have := hO.cp
  apply eX8_hasCouple 30; sx [gX8_hasCouple, rd_v, hc]
  fb)
theorem liking_eq (hO : OkV (A.v w)) {s a b : Int} (h0 : 0 ≤ s) (h1 : s < 2) (h2 : 0 ≤ a) (h3 : a < 5) (h4 : 0 ≤ b) (h5 : b < 5) : Call sp sc d mX8_liking [.inr (.inr (vb w + 2)), .inl s, .inl a, .inl b] (hp A) Q = Q (some (.inl ((A.v w).lik s a b))) (hp A) := Call_eq (by
  apply eX8_liking 20; sx [gX8_liking, rd_v, rd_v5, hO.lli, iVal.lik])
theorem natureOf_eq (hO : OkV (A.v w)) {s a : Int} (h0 : 0 ≤ s) (h1 : s < 2) (h2 : 0 ≤ a) (h3 : a < 5) : Call sp sc (d + 1) mX8_natureOf [.inr (.inr (vb w + 2)), .inl s, .inl a] (hp A) Q = Q (some (.inr (.inr ((A.v w).nx s a + 2)))) (hp A) := Call_eq (by
  have e := (hO.nat s a h0 h1 h2 h3).1
  unfold iVal.nr at e
  apply eX8_natureOf 20; sx [gX8_natureOf, rd_v, rd_v2, hO.lna, place_eq, e])
theorem goesOn_eq (hO : OkV (A.v w)) {c : Int} (h0 : 0 ≤ c) (h1 : c < 4) : Call sp sc d mX8_goesOn [.inr (.inr (vb w + 2)), .inl c] (hp A) Q = Q (some (.inl (bI ((A.v w).sta c = 0)))) (hp A) := Call_eq (by
  have e := hO.sta c h0 h1
  unfold iVal.sta at *
  apply eX8_goesOn 20; sx [gX8_goesOn, rd_v, rd_v8, hO.lsa]
  fb)
theorem isBound_eq (hO : OkV (A.v w)) {s a : Int} (h0 : 0 ≤ s) (h1 : s < 2) (h2 : 0 ≤ a) (h3 : a < 5) : Call sp sc (d + 1) mX8_isBound [.inr (.inr (vb w + 2)), .inl s, .inl a] (hp A) Q = Q (some (.inl (bI (¬ (A.v w).bnd s a = -1)))) (hp A) := Call_eq (by
  have e := hO.bnd s a h0 h1 h2 h3
  have n1 := hO.n0
  have n2 := hO.n1
  have e2 := hO.num (s := 1 - s) (by omega) (by omega)
  unfold iVal.bnd at *
  apply eX8_isBound 20; sx [gX8_isBound, rd_v, rd_v4, hO.lbo, place_eq]
  fb)
def iVal.slk (X : iVal) (s a b v : Int) : iVal := { X with li := X.li.set ((s * 5 + a) * 5 + b).toNat (clamp v) }
theorem setLiking_eq (hO : OkV (A.v w)) {s a b v : Int} (h0 : 0 ≤ s) (h1 : s < 2) (h2 : 0 ≤ a) (h3 : a < 5) (h4 : 0 ≤ b) (h5 : b < 5) (h6 : -1000 ≤ v) (h7 : v < 1000) : Call sp sc (d + 1) mX8_setLiking [.inr (.inr (vb w + 2)), .inl s, .inl a, .inl b, .inl v] (hp A) Q = Q none (hp (A.sv w ((A.v w).slk s a b v))) := Call_eq (by
  apply eX8_setLiking 40; sx [gX8_setLiking, rd_v, rd_v5, hO.lli, wr_v5, iVal.slk]
  fb)
def iVal.alk (X : iVal) (s a b v : Int) : iVal := X.slk s a b (X.lik s a b + v)
theorem addLiking_eq (hO : OkV (A.v w)) {s a b v : Int} (h0 : 0 ≤ s) (h1 : s < 2) (h2 : 0 ≤ a) (h3 : a < 5) (h4 : 0 ≤ b) (h5 : b < 5) (h6 : -100 ≤ v) (h7 : v < 100) : Call sp sc (d + 2) mX8_addLiking [.inr (.inr (vb w + 2)), .inl s, .inl a, .inl b, .inl v] (hp A) Q = Q none (hp (A.sv w ((A.v w).alk s a b v))) := Call_eq (by
  have e := hO.lik s a b h0 h1 h2 h3 h4 h5
  apply eX8_addLiking 40; sx [gX8_addLiking, rd_v, liking_eq, setLiking_eq, iVal.alk, sv_ext, sv_mc])
def iVal.sdp (X : iVal) (s k j : Int) : iVal := { X with de := X.de.set (s * 5 + k).toNat (if j = k then -1 else j) }
theorem setDeputy_eq (hO : OkV (A.v w)) {s k j : Int} (h0 : 0 ≤ s) (h1 : s < 2) (h2 : 0 ≤ k) (h3 : k < 5) (h4 : 0 ≤ j) (h5 : j < 5) : Call sp sc (d + 1) mX8_setDeputy [.inr (.inr (vb w + 2)), .inl s, .inl k, .inl j] (hp A) Q = Q none (hp (A.sv w ((A.v w).sdp s k j))) := Call_eq (by
  apply eX8_setDeputy 40; sx [gX8_setDeputy, rd_v, rd_v3, hO.lde, place_eq, wr_v3, iVal.sdp]
  refine ⟨fun e => ?_, fun e => ?_⟩
  · rw [if_neg e]
  · rw [if_pos e])
def iVal.bind (X : iVal) (a b : Int) : iVal := { X with bo := (X.bo.set a.toNat b).set (5 + b).toNat a }
theorem bind_eq (hO : OkV (A.v w)) {a b : Int} (h0 : 0 ≤ a) (h1 : a < 5) (h2 : 0 ≤ b) (h3 : b < 5) : Call sp sc (d + 1) mX8_bind [.inr (.inr (vb w + 2)), .inl a, .inl b] (hp A) Q = Q none (hp (A.sv w ((A.v w).bind a b))) := Call_eq (by
  apply eX8_bind 40; sx [gX8_bind, rd_v, rd_v4, hO.lbo, place_eq, wr_v4, sv_v, sv_sv, List.length_set, iVal.bind, Int.zero_mul, Int.zero_add, Int.one_mul])
theorem likeAboveSlip_eq (hO : OkV (A.v w)) {a b : Int} (h0 : 0 ≤ a) (h1 : a < 5) (h2 : 0 ≤ b) (h3 : b < 5) : Call sp sc (d + 1) mX8_likeAboveSlip [.inr (.inr (vb w + 2)), .inl a, .inl b] (hp A) Q = Q (some (.inl (bI ((A.v w).sl < (A.v w).lik 0 a b ∧ (A.v w).sl < (A.v w).lik 1 b a)))) (hp A) := Call_eq (by
  have e1 := hO.lik 0 a b (by omega) (by omega) h0 h1 h2 h3
  have e2 := hO.lik 1 b a (by omega) (by omega) h2 h3 h0 h1
  have e3 := hO.sl
  apply eX8_likeAboveSlip 40; sx [gX8_likeAboveSlip, rd_v, liking_eq hO (s := 0) (by omega) (by omega) h0 h1 h2 h3, liking_eq hO (s := 1) (by omega) (by omega) h2 h3 h0 h1]
  fb)
end VAL
