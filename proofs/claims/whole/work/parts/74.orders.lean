set_option maxRecDepth 16384
/-! ===== orders ===== -/
def odF : Nat → Int → List Int → List Int
  | 0, _, l => l
  | k + 1, r, l => odF k (r.tdiv 10) (l.set k (r.tmod 10))
def odOf (cp : Nat) (g : Int) : List Int := odF cp g [0, 1, 2, 3]
def lvO (cp : Nat) : Nat → Int → Int → List Int
  | 0, _, _ => []
  | f + 1, left, dg => if left = 0 then [dg] else (List.range' 0 cp).flatMap fun (c : Nat) => if bAnd (bShr left (c : Int)) 1 = 1 then lvO cp f (bAnd left (bXor (bShl 1 (c : Int)) (-1))) (10 * dg + (c : Int)) else []
def fuO (cp : Nat) : Nat → Int → Bool
  | 0, _ => false
  | f + 1, left => decide (left = 0) || (List.range' 0 cp).all fun (c : Nat) => !(decide (bAnd (bShr left (c : Int)) 1 = 1)) || fuO cp f (bAnd left (bXor (bShl 1 (c : Int)) (-1)))
/-- an order that is one -/
def prm (cp : Nat) (od : List Int) : Bool := (decide (od.length = 4) && (List.range 4).all fun i => decide (0 ≤ od.getD i 0 ∧ od.getD i 0 < 10)) && (List.range cp).all (fun i => decide (0 ≤ od.getD i 0 ∧ od.getD i 0 < (cp : Int)) && (List.range cp).all fun j => !(decide (od.getD i 0 = od.getD j 0)) || decide (i = j))
def dgL (od : List Int) : Nat → Int → Int → Int
  | 0, _, n => n
  | k + 1, i, n => dgL od k (i + 1) (10 * n + gt0 od i)
def gdO (cp : Nat) (g : Int) : Bool := decide (0 ≤ g ∧ g < 10000) && prm cp (odOf cp g) && decide (dgL (odOf cp g) cp 0 0 = g)
def chnO (cp : Nat) : List Int → Bool
  | [] => false
  | g :: r => match r with
    | [] => decide (nxt cp (odOf cp g) = (0, odOf cp g))
    | g2 :: _ => decide (nxt cp (odOf cp g) = (1, odOf cp g2)) && chnO cp r
def oL (cp : Nat) : List Int := lvO cp 5 (bShl 1 (cp : Int) - 1) 0
theorem oL_ok : ∀ cp : Nat, cp < 5 → 1 ≤ cp → (oL cp).all (gdO cp) = true ∧ chnO cp (oL cp) = true ∧ fuO cp 5 (bShl 1 (cp : Int) - 1) = true ∧ (oL cp).length ≤ 24 ∧ (oL cp).head? = some (dgL [0, 1, 2, 3] cp 0 0) ∧ odOf cp (dgL [0, 1, 2, 3] cp 0 0) = [0, 1, 2, 3] ∧ inI (bShl 1 (cp : Int) - 1) = true := by decide +kernel
theorem digF_dgL {od bz : List Int} : ∀ (k : Nat) (i n : Int), digF (yr0 od bz) k i n = dgL od k i n := by
  intro k
  induction k with
  | zero => intro i n; rfl
  | succ k ih => intro i n; exact ih (i + 1) (10 * n + gt0 od i)
theorem digF_od {Y Y' : iYr} (h : Y.od = Y'.od) : ∀ (k : Nat) (i n : Int), digF Y k i n = digF Y' k i n := by
  intro k
  induction k with
  | zero => intro i n; rfl
  | succ k ih =>
    intro i n
    show digF Y k (i + 1) (10 * n + Y.ord i) = digF Y' k (i + 1) (10 * n + Y'.ord i)
    have : Y.ord i = Y'.ord i := by unfold iYr.ord; rw [h]
    rw [this]; exact ih _ _
theorem prm_in {cp : Nat} {od : List Int} (h : prm cp od = true) : ∀ i : Int, 0 ≤ i → i < 4 → inI (gt0 od i) = true := fun i a b => by
  unfold prm at h
  rw [Bool.and_eq_true, Bool.and_eq_true, List.all_eq_true] at h
  have := h.1.2 i.toNat (List.mem_range.mpr (by omega))
  rw [decide_eq_true_eq] at this
  have : 0 ≤ gt0 od i ∧ gt0 od i < 10 := this
  exact inI_of (by omega) (by omega)
theorem prm_ok {cp : Nat} {od : List Int} (h : prm cp od = true) : od.length = 4 ∧ (∀ i : Int, 0 ≤ i → i < cp → 0 ≤ gt0 od i ∧ gt0 od i < cp) ∧ (∀ i j : Int, 0 ≤ i → i < cp → 0 ≤ j → j < cp → gt0 od i = gt0 od j → i = j) := by
  unfold prm at h
  rw [Bool.and_eq_true, Bool.and_eq_true, decide_eq_true_eq, List.all_eq_true (l := List.range cp)] at h
  refine ⟨h.1.1, fun i a b => ?_, fun i j a b c e z => ?_⟩
  · have := h.2 i.toNat (List.mem_range.mpr (by omega))
    rw [Bool.and_eq_true, decide_eq_true_eq] at this
    exact this.1
  · have := h.2 i.toNat (List.mem_range.mpr (by omega))
    rw [Bool.and_eq_true, List.all_eq_true] at this
    have := this.2 j.toNat (List.mem_range.mpr (by omega))
    rw [Bool.or_eq_true, Bool.not_eq_true', decide_eq_false_iff_not, decide_eq_true_eq] at this
    rcases this with y | y
    · exact absurd z y
    · omega
theorem okS_yrP {X : iVal} (hO : OkV X) {cp : Nat} (hc : (cp : Int) = X.cp) {od bz : List Int} (hp : prm cp od = true) (lb : bz.length = 10) (hb : ∀ i, 0 ≤ i → i < 10 → gt0 bz i = 0 ∨ gt0 bz i = 1) : OkS (X, yr0 od bz) 0 := by
  have k := okS_yr0 hO lb hb
  have p := prm_ok hp
  refine ⟨hO, OkY.mk p.1 lb rfl rfl (fun i a b => ?_) (fun i j a b c e z => ?_) hb k.2.wai k.2.fin k.2.ps k.2.dn k.2.sp k.2.fs⟩
  · have b : i < X.cp := b
    have := p.2.1 i a (by omega)
    show 0 ≤ gt0 od i ∧ gt0 od i < X.cp
    omega
  · have b : i < X.cp := b
    have e : j < X.cp := e
    exact p.2.2 i j a (by omega) c (by omega) z
/-- days till they are wed, all together -/
def twF (S : iXY) : Nat → Int → Int → Int
  | 0, _, t => t
  | k + 1, c, t => twF S k (c + 1) (t + (if S.1.sta c = 1 then S.2.fin c else 61))
theorem twF_b {S : iXY} (h : ∀ c, 0 ≤ c → c < 4 → 0 ≤ S.2.fin c ∧ S.2.fin c ≤ 60) : ∀ (k : Nat) (c t : Int), 0 ≤ c → c + k ≤ 4 → t ≤ twF S k c t ∧ twF S k c t ≤ t + 61 * k := by
  intro k
  induction k with
  | zero => intro c t h0 h1; exact ⟨Int.le_refl _, by show t ≤ t + 61 * ((0 : Nat) : Int); omega⟩
  | succ k ih =>
    intro c t h0 h1
    unfold twF
    have hc := h c h0 (by omega)
    have := ih (c + 1) (t + (if S.1.sta c = 1 then S.2.fin c else 61)) (by omega) (by omega)
    by_cases z : S.1.sta c = 1
    · rw [if_pos z] at this ⊢; omega
    · rw [if_neg z] at this ⊢; omega
/-- in mind, with an order -/
def oD (n : Nat) (X : iVal) (od : List Int) : iXY := daysA n (X, yr0 od z10)
theorem oD_ok {X : iVal} (hO : OkV X) {cp : Nat} (hc : (cp : Int) = X.cp) {n : Nat} (hn : n = 60) {od : List Int} (hp : prm cp od = true) : OkS (oD n X od) 300 ∧ (oD n X od).1.cp = X.cp ∧ (oD n X od).2.od = od ∧ (oD n X od).2.ps = 60 ∧ (∀ c, 0 ≤ c → c < 4 → 0 ≤ (oD n X od).2.fin c ∧ (oD n X od).2.fin c ≤ 60) ∧ (∀ c, 0 ≤ c → c < 4 → (X.sta c = 1 → (oD n X od).1.sta c = 1 ∧ (oD n X od).2.fin c = 0) ∧ (¬ X.sta c = 1 → (oD n X od).1.sta c = 1 → ¬ (oD n X od).2.fin c = 0)) := by
  have k := okS_yrP hO hc hp z10_ok.1 z10_ok.2
  have d := okS_days n _ 0 k
  have s := stp_days n _ 0 k
  have t : ∀ (n : Nat) (S : iXY) (B : Int), OkS S B → (daysA n S).2.od = S.2.od := fun n => by
    induction n with
    | zero => intro S B h; rfl
    | succ n ih =>
      intro S B h
      have hcp := h.1.cp
      have t : sameT (dawn S) (dayA S) := (dayF_ok S.1.cp.toNat 0 (dawn S) (B + 1) (okS_dawn h) (by omega) (by show 0 + (S.1.cp.toNat : Int) = S.1.cp; omega)).2
      exact (ih (dayA S) (B + 5) (okS_day h).1).trans t.2.2.2.2.2.2.2.2.2.1
  have z0 : ∀ c : Int, 0 ≤ c → c < 4 → ((X, yr0 od z10) : iXY).2.fin c = 0 := fun i a b => by
    have : i = 0 ∨ i = 1 ∨ i = 2 ∨ i = 3 := by omega
    rcases this with rfl | rfl | rfl | rfl <;> rfl
  have eps : (oD n X od).2.ps = 60 := by
    have := d.2.1
    have e0 : ((X, yr0 od z10) : iXY).2.ps = 0 := rfl
    show (daysA n (X, yr0 od z10)).2.ps = 60
    rw [this, e0]; omega
  refine ⟨⟨d.1.1, d.1.2.mono (by omega)⟩, d.2.2, t n _ 0 k, eps, fun c a b => ?_, fun c a b => ?_⟩
  · rcases s.2 c a b with x | x
    · have x2 : (oD n X od).2.fin c = 0 := x.2.trans (z0 c a b)
      omega
    · have x3 : ((X, yr0 od z10) : iXY).2.ps + 1 ≤ (oD n X od).2.fin c := x.2.2.1
      have x4 : (oD n X od).2.fin c ≤ (oD n X od).2.ps := x.2.2.2
      have e0 : ((X, yr0 od z10) : iXY).2.ps = 0 := rfl
      omega
  · rcases s.2 c a b with x | x
    · have x1 : (oD n X od).1.sta c = X.sta c := x.1
      have x2 : (oD n X od).2.fin c = 0 := x.2.trans (z0 c a b)
      exact ⟨fun y => ⟨x1.trans y, x2⟩, fun y w => absurd (x1.symm.trans w) y⟩
    · have x1 : X.sta c = 0 := x.1
      have x3 : ((X, yr0 od z10) : iXY).2.ps + 1 ≤ (oD n X od).2.fin c := x.2.2.1
      have e0 : ((X, yr0 od z10) : iXY).2.ps = 0 := rfl
      exact ⟨fun y => by omega, fun _ _ => by omega⟩
/-- one order more: the state, the fewest days, the digits -/
def stO (n : Nat) (X : iVal) (cp : Nat) (t : iXY × Int × Int) (g : Int) : iXY × Int × Int :=
  (oD n X (odOf cp g), if twF (oD n X (odOf cp g)) cp 0 0 < t.2.1 then twF (oD n X (odOf cp g)) cp 0 0 else t.2.1, if twF (oD n X (odOf cp g)) cp 0 0 < t.2.1 then g else t.2.2)
theorem fold_same {n : Nat} {X : iVal} {cp : Nat} : ∀ (l : List Int) (t u : iXY × Int × Int), t.2 = u.2 → (l.foldl (stO n X cp) t).2 = (l.foldl (stO n X cp) u).2 := by
  intro l
  induction l with
  | nil => intro t u h; exact h
  | cons g l ih =>
    intro t u h
    apply ih
    unfold stO
    rw [h]
section OPS
variable {sp : Nat → List iV → iH → Option (Option iV × iH)} {sc : List Int} {d : Nat} {A : iA} {Q : Option iV → iH → Prop} {h : iH} {X : iVal} {e g B : Int} {S T : iXY}
theorem twC_loop (hS : OkS S B) (hB : B ≤ 1000) (hcp : A.now.cp = S.1.cp) : ∀ (k : Nat) (c t : Int), 0 ≤ c → c + k = S.1.cp → 0 ≤ t → t + 1000 * k ≤ 10000 → Q (some (.inl (twF S k c t))) (hp (A.sxy S)) → Run sp sc d mX11_daysTillWed 4 [some (.inr (.inr 2)), some (.inl t), some (.inl c)] [] (hp (A.sxy S)) Q := by
  have c4 := hS.1.cp
  intro k
  induction k with
  | zero =>
    intro c t h0 h1 h2 h3 hq
    refine G_run (B := [4]) 40 _ _ _ _ ?_
    have e1 : S.1.cp ≤ c := by omega
    have en : (A.sxy S).now.cp = S.1.cp := hcp
    simp (disch := first | assumption | rfl | exact inI_of (by omega) (by omega) | omega | decide | (simp only [sv_ext, sv_mc, Nat.le_refl]; done) | with_unfolding_all (refine @id _ ?_; first | exact Eq.refl _ | exact Nat.le_refl _ | assumption)) only [Nat.reduceAdd, Nat.reduceMul, Nat.reduceLeDiff, Nat.reduceLT, Int.reduceAdd, Int.reduceSub, Int.reduceMul, Int.reduceNeg, Int.reduceLE, Int.reduceLT, Int.reduceToNat, Int.reduceEq, reduceCtorEq, ld_z, ld_s, st1_0, st1_1, st1_s, st2_0, st2_1, st2_s, isJ_i, isJ_r, isJ_n, isJ_l, cs_nil, cs_i, cs_r, cs_l, kF, List.getElem?_cons_succ, List.getElem?_cons_zero, List.set_cons_zero, List.set_cons_succ, GC_s, GC_n, GK_nil, GK_no, GK_yes, not_false_eq_true, back_eq, inI_eq, inA_eq, true_and, and_true, and_self, if_true, if_false, bI_0, bI_1, bI_in, bI_T, bI_F, fitF, jmpF, nlF, pjA, iVal.eta, iYr.eta, List.getElem?_toArray, List.length_cons, List.length_nil, true_or, or_true, or_false, false_or, Classical.not_not, Bool.false_eq_true, hp_2, Nat.zero_le, Nat.le_refl, Option.some.injEq, Sum.inl.injEq, Sum.inr.injEq, not_true_eq_false, true_implies, false_implies, implies_true, rd_v, f_num, f_lik, f_dep, f_bnd, f_man, f_wom, f_sta, f_dds, f_who, rd_y, rd_y1, rd_y2, rd_y3, rd_y4, wy, wy1, wy2, wy3, wy4, sxy_mnd, sxy_now, sxy_img, sxy_yr, sxy_xy, sxy_sxy, sv_sxy, f_ord, f_bus, f_wai, f_fin, rd_e, v_now, hasOne_eq, hasTwo_eq, hasCouple_eq, orNone_eq, natureOf_eq, rd_nat, place_eq, rd_v1, rd_v3, rd_v4, rd_v6, rd_v7, rd_v8, rd_v9, rd_v10, isShelf_eq, isSide_eq, isDeed_eq, isKind_eq, isMindSpan_eq, back_sxy, back_sxy1, f_orN, gX11_daysTillWed, en, e1]
    exact hq
  | succ k ih =>
    intro c t h0 h1 h2 h3 hq
    refine G_run (B := [4]) 40 _ _ _ _ ?_
    have e1 : ¬ S.1.cp ≤ c := by omega
    have en : (A.sxy S).now.cp = S.1.cp := hcp
    have s1 := hS.1.sta c h0 (by omega)
    have f1 := hS.2.fin c h0 (by omega)
    unfold twF at hq
    by_cases z : S.1.sta c = 1
    · rw [if_pos z] at hq
      simp (disch := first | assumption | rfl | exact inI_of (by omega) (by omega) | omega | decide | (simp only [sv_ext, sv_mc, Nat.le_refl]; done) | with_unfolding_all (refine @id _ ?_; first | exact Eq.refl _ | exact Nat.le_refl _ | assumption)) only [Nat.reduceAdd, Nat.reduceMul, Nat.reduceLeDiff, Nat.reduceLT, Int.reduceAdd, Int.reduceSub, Int.reduceMul, Int.reduceNeg, Int.reduceLE, Int.reduceLT, Int.reduceToNat, Int.reduceEq, reduceCtorEq, ld_z, ld_s, st1_0, st1_1, st1_s, st2_0, st2_1, st2_s, isJ_i, isJ_r, isJ_n, isJ_l, cs_nil, cs_i, cs_r, cs_l, kF, List.getElem?_cons_succ, List.getElem?_cons_zero, List.set_cons_zero, List.set_cons_succ, GC_s, GC_n, GK_nil, GK_no, GK_yes, not_false_eq_true, back_eq, inI_eq, inA_eq, true_and, and_true, and_self, if_true, if_false, bI_0, bI_1, bI_in, bI_T, bI_F, fitF, jmpF, nlF, pjA, iVal.eta, iYr.eta, List.getElem?_toArray, List.length_cons, List.length_nil, true_or, or_true, or_false, false_or, Classical.not_not, Bool.false_eq_true, hp_2, Nat.zero_le, Nat.le_refl, Option.some.injEq, Sum.inl.injEq, Sum.inr.injEq, not_true_eq_false, true_implies, false_implies, implies_true, rd_v, f_num, f_lik, f_dep, f_bnd, f_man, f_wom, f_sta, f_dds, f_who, rd_y, rd_y1, rd_y2, rd_y3, rd_y4, wy, wy1, wy2, wy3, wy4, sxy_mnd, sxy_now, sxy_img, sxy_yr, sxy_xy, sxy_sxy, sv_sxy, f_ord, f_bus, f_wai, f_fin, rd_e, v_now, hasOne_eq, hasTwo_eq, hasCouple_eq, orNone_eq, natureOf_eq, rd_nat, place_eq, rd_v1, rd_v3, rd_v4, rd_v6, rd_v7, rd_v8, rd_v9, rd_v10, isShelf_eq, isSide_eq, isDeed_eq, isKind_eq, isMindSpan_eq, back_sxy, back_sxy1, f_orN, gX11_daysTillWed, en, e1, hS.1.lsa, hS.2.len, eq_true z]
      exact ih (c + 1) _ (by omega) (by omega) (by omega) (by omega) hq
    · rw [if_neg z] at hq
      simp (disch := first | assumption | rfl | exact inI_of (by omega) (by omega) | omega | decide | (simp only [sv_ext, sv_mc, Nat.le_refl]; done) | with_unfolding_all (refine @id _ ?_; first | exact Eq.refl _ | exact Nat.le_refl _ | assumption)) only [Nat.reduceAdd, Nat.reduceMul, Nat.reduceLeDiff, Nat.reduceLT, Int.reduceAdd, Int.reduceSub, Int.reduceMul, Int.reduceNeg, Int.reduceLE, Int.reduceLT, Int.reduceToNat, Int.reduceEq, reduceCtorEq, ld_z, ld_s, st1_0, st1_1, st1_s, st2_0, st2_1, st2_s, isJ_i, isJ_r, isJ_n, isJ_l, cs_nil, cs_i, cs_r, cs_l, kF, List.getElem?_cons_succ, List.getElem?_cons_zero, List.set_cons_zero, List.set_cons_succ, GC_s, GC_n, GK_nil, GK_no, GK_yes, not_false_eq_true, back_eq, inI_eq, inA_eq, true_and, and_true, and_self, if_true, if_false, bI_0, bI_1, bI_in, bI_T, bI_F, fitF, jmpF, nlF, pjA, iVal.eta, iYr.eta, List.getElem?_toArray, List.length_cons, List.length_nil, true_or, or_true, or_false, false_or, Classical.not_not, Bool.false_eq_true, hp_2, Nat.zero_le, Nat.le_refl, Option.some.injEq, Sum.inl.injEq, Sum.inr.injEq, not_true_eq_false, true_implies, false_implies, implies_true, rd_v, f_num, f_lik, f_dep, f_bnd, f_man, f_wom, f_sta, f_dds, f_who, rd_y, rd_y1, rd_y2, rd_y3, rd_y4, wy, wy1, wy2, wy3, wy4, sxy_mnd, sxy_now, sxy_img, sxy_yr, sxy_xy, sxy_sxy, sv_sxy, f_ord, f_bus, f_wai, f_fin, rd_e, v_now, hasOne_eq, hasTwo_eq, hasCouple_eq, orNone_eq, natureOf_eq, rd_nat, place_eq, rd_v1, rd_v3, rd_v4, rd_v6, rd_v7, rd_v8, rd_v9, rd_v10, isShelf_eq, isSide_eq, isDeed_eq, isKind_eq, isMindSpan_eq, back_sxy, back_sxy1, f_orN, gX11_daysTillWed, en, e1, hS.1.lsa, hS.2.len, z]
      exact ih (c + 1) _ (by omega) (by omega) (by omega) (by omega) hq
theorem twC_eq (hS : OkS S B) (hB : B ≤ 1000) (hcp : A.now.cp = S.1.cp) : Call sp sc d mX11_daysTillWed [.inr (.inr 2)] (hp (A.sxy S)) Q = Q (some (.inl (twF S S.1.cp.toNat 0 0))) (hp (A.sxy S)) := Call_eq (by
  have c4 := hS.1.cp
  apply eX11_daysTillWed 40; simp (disch := first | assumption | rfl | exact inI_of (by omega) (by omega) | omega | decide | (simp only [sv_ext, sv_mc, Nat.le_refl]; done) | with_unfolding_all (refine @id _ ?_; first | exact Eq.refl _ | exact Nat.le_refl _ | assumption)) only [Nat.reduceAdd, Nat.reduceMul, Nat.reduceLeDiff, Nat.reduceLT, Int.reduceAdd, Int.reduceSub, Int.reduceMul, Int.reduceNeg, Int.reduceLE, Int.reduceLT, Int.reduceToNat, Int.reduceEq, reduceCtorEq, ld_z, ld_s, st1_0, st1_1, st1_s, st2_0, st2_1, st2_s, isJ_i, isJ_r, isJ_n, isJ_l, cs_nil, cs_i, cs_r, cs_l, kF, List.getElem?_cons_succ, List.getElem?_cons_zero, List.set_cons_zero, List.set_cons_succ, GC_s, GC_n, GK_nil, GK_no, GK_yes, not_false_eq_true, back_eq, inI_eq, inA_eq, true_and, and_true, and_self, if_true, if_false, bI_0, bI_1, bI_in, bI_T, bI_F, fitF, jmpF, nlF, pjA, iVal.eta, iYr.eta, List.getElem?_toArray, List.length_cons, List.length_nil, true_or, or_true, or_false, false_or, Classical.not_not, Bool.false_eq_true, hp_2, Nat.zero_le, Nat.le_refl, Option.some.injEq, Sum.inl.injEq, Sum.inr.injEq, not_true_eq_false, true_implies, false_implies, implies_true, rd_v, f_num, f_lik, f_dep, f_bnd, f_man, f_wom, f_sta, f_dds, f_who, rd_y, rd_y1, rd_y2, rd_y3, rd_y4, wy, wy1, wy2, wy3, wy4, sxy_mnd, sxy_now, sxy_img, sxy_yr, sxy_xy, sxy_sxy, sv_sxy, f_ord, f_bus, f_wai, f_fin, rd_e, v_now, hasOne_eq, hasTwo_eq, hasCouple_eq, orNone_eq, natureOf_eq, rd_nat, place_eq, rd_v1, rd_v3, rd_v4, rd_v6, rd_v7, rd_v8, rd_v9, rd_v10, isShelf_eq, isSide_eq, isDeed_eq, isKind_eq, isMindSpan_eq, back_sxy, back_sxy1, f_orN, gX11_daysTillWed]
  exact twC_loop hS hB hcp _ 0 0 (by omega) (by omega) (by omega) (by omega) ⟨rfl, rfl⟩)
theorem orC_iter {cp n : Nat} (hc : (cp : Int) = A.now.cp) (c1 : 1 ≤ cp) (c5 : cp < 5) (hO : OkV A.now) (hn : n = 60) {w g i f dg m : Int} {od' : List Int} {o6 : Option iV} (hL : LenV S.1) (hY : LenY S.2) (hod : S.2.od = odOf cp g) (gd : gdO cp g = true) (hx : nxt cp (odOf cp g) = (m, od')) (hm : m = 0 ∨ m = 1) (h0 : 0 ≤ i) (h1 : i < 24) (f0 : -1000 ≤ f) (f1 : f ≤ 1000) (hq : ∀ o6, Run sp sc (d + 7) mX11_orders 43 [some (.inr (.inr 2)), some (.inl w), some (.inl (stO n A.now cp (S, f, dg) g).2.1), some (.inl (stO n A.now cp (S, f, dg) g).2.2), some (.inl m), some (.inl (i + 1)), o6] [] (hp (A.sxy ((oD n A.now (odOf cp g)).1, (iYr.mk (od') ((oD n A.now (odOf cp g)).2).bz ((oD n A.now (odOf cp g)).2).wt ((oD n A.now (odOf cp g)).2).en ((oD n A.now (odOf cp g)).2).ps ((oD n A.now (odOf cp g)).2).dn ((oD n A.now (odOf cp g)).2).sp ((oD n A.now (odOf cp g)).2).fs)))) Q) : Run sp sc (d + 7) mX11_orders 43 [some (.inr (.inr 2)), some (.inl w), some (.inl f), some (.inl dg), some (.inl 1), some (.inl i), o6] [] (hp (A.sxy S)) Q := by
  unfold gdO at gd
  rw [Bool.and_eq_true, Bool.and_eq_true, decide_eq_true_eq, decide_eq_true_eq] at gd
  have D := oD_ok hO hc hn gd.1.2
  have hc2 := hO.cp
  have ag : ∀ Q, Call sp sc (d + 6) mX10_again [.inr (.inr 31), .inr (.inr (vb .now + 2))] (hp (A.sxy S)) Q = Q none (hp (A.sxy (A.now, yr0 (odOf cp g) S.2.bz))) := fun Q => by
    have := @again_eq sp sc (d + 4) (A.sxy S) Q hO hL hY
    rw [← hod]; exact this
  have ps : ∀ Q, Call sp sc (d + 6) mX10_pass [.inr (.inr 31), .inl 60] (hp (A.sxy (A.now, yr0 (odOf cp g) S.2.bz))) Q = Q none (hp (A.sxy (oD n A.now (odOf cp g)))) := fun Q => by
    have := @passC sp sc d A Q 0 _ (okS_yrP hO hc gd.1.2 hY.lbz hY.bus) (by omega) n (by omega)
    have en : ((n : Nat) : Int) = 60 := by omega
    rw [daysA_bz (bz' := z10) (by omega), en] at this
    exact this
  have tw := fun Q => @twC_eq sp sc (d + 6) A Q 300 (oD n A.now (odOf cp g)) D.1 (by omega) D.2.1.symm
  have ec : (oD n A.now (odOf cp g)).1.cp.toNat = cp := by rw [D.2.1, ← hc]; omega
  rw [ec] at tw
  have od := fun Q => @orderDigits_eq sp sc (d + 6) (A.sxy (oD n A.now (odOf cp g))) Q D.1.2.lod D.1.1.cp
  have eg : digF (A.sxy (oD n A.now (odOf cp g))).yr ((A.sxy (oD n A.now (odOf cp g))).v .mnd).cp.toNat 0 0 = g := by
    show digF (oD n A.now (odOf cp g)).2 (oD n A.now (odOf cp g)).1.cp.toNat 0 0 = g
    rw [ec, digF_od (Y' := yr0 (odOf cp g) z10) D.2.2.1, digF_dgL]; exact gd.2
  rw [eg] at od
  have nx := fun Q => @nextOrder_eq sp sc (d + 5) (A.sxy (oD n A.now (odOf cp g))) Q D.1.2.lod (by show 1 ≤ (oD n A.now (odOf cp g)).1.cp ∧ (oD n A.now (odOf cp g)).1.cp ≤ 4; rw [D.2.1]; omega) (fun i a b => by
    show inI (gt0 (oD n A.now (odOf cp g)).2.od i) = true
    rw [D.2.2.1]
    exact prm_in gd.1.2 i a b)
  have ex : nxt ((A.sxy (oD n A.now (odOf cp g))).v .mnd).cp (A.sxy (oD n A.now (odOf cp g))).yr.od = (m, od') := by
    show nxt (oD n A.now (odOf cp g)).1.cp (oD n A.now (odOf cp g)).2.od = _
    rw [D.2.1, D.2.2.1, ← hc]; exact hx
  rw [ex] at nx
  have ef : (A.sxy (oD n A.now (odOf cp g))).sxy ((A.sxy (oD n A.now (odOf cp g))).v .mnd, (iYr.mk (od') ((A.sxy (oD n A.now (odOf cp g))).yr).bz ((A.sxy (oD n A.now (odOf cp g))).yr).wt ((A.sxy (oD n A.now (odOf cp g))).yr).en ((A.sxy (oD n A.now (odOf cp g))).yr).ps ((A.sxy (oD n A.now (odOf cp g))).yr).dn ((A.sxy (oD n A.now (odOf cp g))).yr).sp ((A.sxy (oD n A.now (odOf cp g))).yr).fs)) = A.sxy ((oD n A.now (odOf cp g)).1, (iYr.mk (od') ((oD n A.now (odOf cp g)).2).bz ((oD n A.now (odOf cp g)).2).wt ((oD n A.now (odOf cp g)).2).en ((oD n A.now (odOf cp g)).2).ps ((oD n A.now (odOf cp g)).2).dn ((oD n A.now (odOf cp g)).2).sp ((oD n A.now (odOf cp g)).2).fs)) := rfl
  have nx : ∀ Q, Call sp sc (d + 6) mX10_nextOrder [.inr (.inr 31)] (hp (A.sxy (oD n A.now (odOf cp g)))) Q = Q (some (.inl m)) (hp (A.sxy ((oD n A.now (odOf cp g)).1, (iYr.mk (od') ((oD n A.now (odOf cp g)).2).bz ((oD n A.now (odOf cp g)).2).wt ((oD n A.now (odOf cp g)).2).en ((oD n A.now (odOf cp g)).2).ps ((oD n A.now (odOf cp g)).2).dn ((oD n A.now (odOf cp g)).2).sp ((oD n A.now (odOf cp g)).2).fs)))) := nx
  have vb := twF_b D.2.2.2.2.1 cp 0 0 (by omega) (by omega)
  have e1 : ¬ (24 : Int) ≤ i := by omega
  refine G_run (B := [43]) 60 _ _ _ _ ?_
  unfold stO at hq
  dsimp only at hq
  generalize twF (oD n A.now (odOf cp g)) cp 0 0 = v at *
  by_cases z : v < f
  · rw [if_pos z, if_pos z] at hq
    have z2 : ¬ f ≤ v := by omega
    simp (disch := first | assumption | rfl | exact inI_of (by omega) (by omega) | omega | decide | (simp only [sv_ext, sv_mc, Nat.le_refl]; done) | with_unfolding_all (refine @id _ ?_; first | exact Eq.refl _ | exact Nat.le_refl _ | assumption)) only [Nat.reduceAdd, Nat.reduceMul, Nat.reduceLeDiff, Nat.reduceLT, Int.reduceAdd, Int.reduceSub, Int.reduceMul, Int.reduceNeg, Int.reduceLE, Int.reduceLT, Int.reduceToNat, Int.reduceEq, reduceCtorEq, ld_z, ld_s, st1_0, st1_1, st1_s, st2_0, st2_1, st2_s, isJ_i, isJ_r, isJ_n, isJ_l, cs_nil, cs_i, cs_r, cs_l, kF, List.getElem?_cons_succ, List.getElem?_cons_zero, List.set_cons_zero, List.set_cons_succ, GC_s, GC_n, GK_nil, GK_no, GK_yes, not_false_eq_true, back_eq, inI_eq, inA_eq, true_and, and_true, and_self, if_true, if_false, bI_0, bI_1, bI_in, bI_T, bI_F, fitF, jmpF, nlF, pjA, iVal.eta, iYr.eta, List.getElem?_toArray, List.length_cons, List.length_nil, true_or, or_true, or_false, false_or, Classical.not_not, Bool.false_eq_true, hp_2, Nat.zero_le, Nat.le_refl, Option.some.injEq, Sum.inl.injEq, Sum.inr.injEq, not_true_eq_false, true_implies, false_implies, implies_true, rd_v, f_num, f_lik, f_dep, f_bnd, f_man, f_wom, f_sta, f_dds, f_who, rd_y, rd_y1, rd_y2, rd_y3, rd_y4, wy, wy1, wy2, wy3, wy4, sxy_mnd, sxy_now, sxy_img, sxy_yr, sxy_xy, sxy_sxy, sv_sxy, f_ord, f_bus, f_wai, f_fin, rd_e, v_now, hasOne_eq, hasTwo_eq, hasCouple_eq, orNone_eq, natureOf_eq, rd_nat, place_eq, rd_v1, rd_v3, rd_v4, rd_v6, rd_v7, rd_v8, rd_v9, rd_v10, isShelf_eq, isSide_eq, isDeed_eq, isKind_eq, isMindSpan_eq, back_sxy, back_sxy1, f_orN, gX11_orders, e1, ag, ps, tw, od, nx, z2]
    exact hq _
  · rw [if_neg z, if_neg z] at hq
    have z2 : f ≤ v := by omega
    simp (disch := first | assumption | rfl | exact inI_of (by omega) (by omega) | omega | decide | (simp only [sv_ext, sv_mc, Nat.le_refl]; done) | with_unfolding_all (refine @id _ ?_; first | exact Eq.refl _ | exact Nat.le_refl _ | assumption)) only [Nat.reduceAdd, Nat.reduceMul, Nat.reduceLeDiff, Nat.reduceLT, Int.reduceAdd, Int.reduceSub, Int.reduceMul, Int.reduceNeg, Int.reduceLE, Int.reduceLT, Int.reduceToNat, Int.reduceEq, reduceCtorEq, ld_z, ld_s, st1_0, st1_1, st1_s, st2_0, st2_1, st2_s, isJ_i, isJ_r, isJ_n, isJ_l, cs_nil, cs_i, cs_r, cs_l, kF, List.getElem?_cons_succ, List.getElem?_cons_zero, List.set_cons_zero, List.set_cons_succ, GC_s, GC_n, GK_nil, GK_no, GK_yes, not_false_eq_true, back_eq, inI_eq, inA_eq, true_and, and_true, and_self, if_true, if_false, bI_0, bI_1, bI_in, bI_T, bI_F, fitF, jmpF, nlF, pjA, iVal.eta, iYr.eta, List.getElem?_toArray, List.length_cons, List.length_nil, true_or, or_true, or_false, false_or, Classical.not_not, Bool.false_eq_true, hp_2, Nat.zero_le, Nat.le_refl, Option.some.injEq, Sum.inl.injEq, Sum.inr.injEq, not_true_eq_false, true_implies, false_implies, implies_true, rd_v, f_num, f_lik, f_dep, f_bnd, f_man, f_wom, f_sta, f_dds, f_who, rd_y, rd_y1, rd_y2, rd_y3, rd_y4, wy, wy1, wy2, wy3, wy4, sxy_mnd, sxy_now, sxy_img, sxy_yr, sxy_xy, sxy_sxy, sv_sxy, f_ord, f_bus, f_wai, f_fin, rd_e, v_now, hasOne_eq, hasTwo_eq, hasCouple_eq, orNone_eq, natureOf_eq, rd_nat, place_eq, rd_v1, rd_v3, rd_v4, rd_v6, rd_v7, rd_v8, rd_v9, rd_v10, isShelf_eq, isSide_eq, isDeed_eq, isKind_eq, isMindSpan_eq, back_sxy, back_sxy1, f_orN, gX11_orders, e1, ag, ps, tw, nx, z2]
    exact hq _
theorem orC_end {w f dg i : Int} (iw : inI w = true) {o6 : Option iV} (h0 : 0 ≤ i) (h1 : i ≤ 24) (hq : Q (some (.inl (if w = 0 then dg else f))) (hp A)) : Run sp sc (d + 7) mX11_orders 43 [some (.inr (.inr 2)), some (.inl w), some (.inl f), some (.inl dg), some (.inl 0), some (.inl i), o6] [] (hp A) Q := by
  refine G_run (B := [43]) 60 _ _ _ _ ?_
  by_cases e1 : (24 : Int) ≤ i
  · by_cases z : w = 0
    · rw [if_pos z] at hq
      simp (disch := first | assumption | rfl | exact inI_of (by omega) (by omega) | omega | decide | (simp only [sv_ext, sv_mc, Nat.le_refl]; done) | with_unfolding_all (refine @id _ ?_; first | exact Eq.refl _ | exact Nat.le_refl _ | assumption)) only [Nat.reduceAdd, Nat.reduceMul, Nat.reduceLeDiff, Nat.reduceLT, Int.reduceAdd, Int.reduceSub, Int.reduceMul, Int.reduceNeg, Int.reduceLE, Int.reduceLT, Int.reduceToNat, Int.reduceEq, reduceCtorEq, ld_z, ld_s, st1_0, st1_1, st1_s, st2_0, st2_1, st2_s, isJ_i, isJ_r, isJ_n, isJ_l, cs_nil, cs_i, cs_r, cs_l, kF, List.getElem?_cons_succ, List.getElem?_cons_zero, List.set_cons_zero, List.set_cons_succ, GC_s, GC_n, GK_nil, GK_no, GK_yes, not_false_eq_true, back_eq, inI_eq, inA_eq, true_and, and_true, and_self, if_true, if_false, bI_0, bI_1, bI_in, bI_T, bI_F, fitF, jmpF, nlF, pjA, iVal.eta, iYr.eta, List.getElem?_toArray, List.length_cons, List.length_nil, true_or, or_true, or_false, false_or, Classical.not_not, Bool.false_eq_true, hp_2, Nat.zero_le, Nat.le_refl, Option.some.injEq, Sum.inl.injEq, Sum.inr.injEq, not_true_eq_false, true_implies, false_implies, implies_true, rd_v, f_num, f_lik, f_dep, f_bnd, f_man, f_wom, f_sta, f_dds, f_who, rd_y, rd_y1, rd_y2, rd_y3, rd_y4, wy, wy1, wy2, wy3, wy4, sxy_mnd, sxy_now, sxy_img, sxy_yr, sxy_xy, sxy_sxy, sv_sxy, f_ord, f_bus, f_wai, f_fin, rd_e, v_now, hasOne_eq, hasTwo_eq, hasCouple_eq, orNone_eq, natureOf_eq, rd_nat, place_eq, rd_v1, rd_v3, rd_v4, rd_v6, rd_v7, rd_v8, rd_v9, rd_v10, isShelf_eq, isSide_eq, isDeed_eq, isKind_eq, isMindSpan_eq, back_sxy, back_sxy1, f_orN, gX11_orders, e1, eq_true z]
      exact hq
    · rw [if_neg z] at hq
      simp (disch := first | assumption | rfl | exact inI_of (by omega) (by omega) | omega | decide | (simp only [sv_ext, sv_mc, Nat.le_refl]; done) | with_unfolding_all (refine @id _ ?_; first | exact Eq.refl _ | exact Nat.le_refl _ | assumption)) only [Nat.reduceAdd, Nat.reduceMul, Nat.reduceLeDiff, Nat.reduceLT, Int.reduceAdd, Int.reduceSub, Int.reduceMul, Int.reduceNeg, Int.reduceLE, Int.reduceLT, Int.reduceToNat, Int.reduceEq, reduceCtorEq, ld_z, ld_s, st1_0, st1_1, st1_s, st2_0, st2_1, st2_s, isJ_i, isJ_r, isJ_n, isJ_l, cs_nil, cs_i, cs_r, cs_l, kF, List.getElem?_cons_succ, List.getElem?_cons_zero, List.set_cons_zero, List.set_cons_succ, GC_s, GC_n, GK_nil, GK_no, GK_yes, not_false_eq_true, back_eq, inI_eq, inA_eq, true_and, and_true, and_self, if_true, if_false, bI_0, bI_1, bI_in, bI_T, bI_F, fitF, jmpF, nlF, pjA, iVal.eta, iYr.eta, List.getElem?_toArray, List.length_cons, List.length_nil, true_or, or_true, or_false, false_or, Classical.not_not, Bool.false_eq_true, hp_2, Nat.zero_le, Nat.le_refl, Option.some.injEq, Sum.inl.injEq, Sum.inr.injEq, not_true_eq_false, true_implies, false_implies, implies_true, rd_v, f_num, f_lik, f_dep, f_bnd, f_man, f_wom, f_sta, f_dds, f_who, rd_y, rd_y1, rd_y2, rd_y3, rd_y4, wy, wy1, wy2, wy3, wy4, sxy_mnd, sxy_now, sxy_img, sxy_yr, sxy_xy, sxy_sxy, sv_sxy, f_ord, f_bus, f_wai, f_fin, rd_e, v_now, hasOne_eq, hasTwo_eq, hasCouple_eq, orNone_eq, natureOf_eq, rd_nat, place_eq, rd_v1, rd_v3, rd_v4, rd_v6, rd_v7, rd_v8, rd_v9, rd_v10, isShelf_eq, isSide_eq, isDeed_eq, isKind_eq, isMindSpan_eq, back_sxy, back_sxy1, f_orN, gX11_orders, e1, z, iw]
      exact hq
  · by_cases z : w = 0
    · rw [if_pos z] at hq
      simp (disch := first | assumption | rfl | exact inI_of (by omega) (by omega) | omega | decide | (simp only [sv_ext, sv_mc, Nat.le_refl]; done) | with_unfolding_all (refine @id _ ?_; first | exact Eq.refl _ | exact Nat.le_refl _ | assumption)) only [Nat.reduceAdd, Nat.reduceMul, Nat.reduceLeDiff, Nat.reduceLT, Int.reduceAdd, Int.reduceSub, Int.reduceMul, Int.reduceNeg, Int.reduceLE, Int.reduceLT, Int.reduceToNat, Int.reduceEq, reduceCtorEq, ld_z, ld_s, st1_0, st1_1, st1_s, st2_0, st2_1, st2_s, isJ_i, isJ_r, isJ_n, isJ_l, cs_nil, cs_i, cs_r, cs_l, kF, List.getElem?_cons_succ, List.getElem?_cons_zero, List.set_cons_zero, List.set_cons_succ, GC_s, GC_n, GK_nil, GK_no, GK_yes, not_false_eq_true, back_eq, inI_eq, inA_eq, true_and, and_true, and_self, if_true, if_false, bI_0, bI_1, bI_in, bI_T, bI_F, fitF, jmpF, nlF, pjA, iVal.eta, iYr.eta, List.getElem?_toArray, List.length_cons, List.length_nil, true_or, or_true, or_false, false_or, Classical.not_not, Bool.false_eq_true, hp_2, Nat.zero_le, Nat.le_refl, Option.some.injEq, Sum.inl.injEq, Sum.inr.injEq, not_true_eq_false, true_implies, false_implies, implies_true, rd_v, f_num, f_lik, f_dep, f_bnd, f_man, f_wom, f_sta, f_dds, f_who, rd_y, rd_y1, rd_y2, rd_y3, rd_y4, wy, wy1, wy2, wy3, wy4, sxy_mnd, sxy_now, sxy_img, sxy_yr, sxy_xy, sxy_sxy, sv_sxy, f_ord, f_bus, f_wai, f_fin, rd_e, v_now, hasOne_eq, hasTwo_eq, hasCouple_eq, orNone_eq, natureOf_eq, rd_nat, place_eq, rd_v1, rd_v3, rd_v4, rd_v6, rd_v7, rd_v8, rd_v9, rd_v10, isShelf_eq, isSide_eq, isDeed_eq, isKind_eq, isMindSpan_eq, back_sxy, back_sxy1, f_orN, gX11_orders, e1, eq_true z]
      exact hq
    · rw [if_neg z] at hq
      simp (disch := first | assumption | rfl | exact inI_of (by omega) (by omega) | omega | decide | (simp only [sv_ext, sv_mc, Nat.le_refl]; done) | with_unfolding_all (refine @id _ ?_; first | exact Eq.refl _ | exact Nat.le_refl _ | assumption)) only [Nat.reduceAdd, Nat.reduceMul, Nat.reduceLeDiff, Nat.reduceLT, Int.reduceAdd, Int.reduceSub, Int.reduceMul, Int.reduceNeg, Int.reduceLE, Int.reduceLT, Int.reduceToNat, Int.reduceEq, reduceCtorEq, ld_z, ld_s, st1_0, st1_1, st1_s, st2_0, st2_1, st2_s, isJ_i, isJ_r, isJ_n, isJ_l, cs_nil, cs_i, cs_r, cs_l, kF, List.getElem?_cons_succ, List.getElem?_cons_zero, List.set_cons_zero, List.set_cons_succ, GC_s, GC_n, GK_nil, GK_no, GK_yes, not_false_eq_true, back_eq, inI_eq, inA_eq, true_and, and_true, and_self, if_true, if_false, bI_0, bI_1, bI_in, bI_T, bI_F, fitF, jmpF, nlF, pjA, iVal.eta, iYr.eta, List.getElem?_toArray, List.length_cons, List.length_nil, true_or, or_true, or_false, false_or, Classical.not_not, Bool.false_eq_true, hp_2, Nat.zero_le, Nat.le_refl, Option.some.injEq, Sum.inl.injEq, Sum.inr.injEq, not_true_eq_false, true_implies, false_implies, implies_true, rd_v, f_num, f_lik, f_dep, f_bnd, f_man, f_wom, f_sta, f_dds, f_who, rd_y, rd_y1, rd_y2, rd_y3, rd_y4, wy, wy1, wy2, wy3, wy4, sxy_mnd, sxy_now, sxy_img, sxy_yr, sxy_xy, sxy_sxy, sv_sxy, f_ord, f_bus, f_wai, f_fin, rd_e, v_now, hasOne_eq, hasTwo_eq, hasCouple_eq, orNone_eq, natureOf_eq, rd_nat, place_eq, rd_v1, rd_v3, rd_v4, rd_v6, rd_v7, rd_v8, rd_v9, rd_v10, isShelf_eq, isSide_eq, isDeed_eq, isKind_eq, isMindSpan_eq, back_sxy, back_sxy1, f_orN, gX11_orders, e1, z, iw]
      exact hq
theorem stO_b {n : Nat} {X : iVal} {cp : Nat} {t : iXY × Int × Int} {g : Int} (hO : OkV X) (hc : (cp : Int) = X.cp) (c5 : cp < 5) (hn : n = 60) (gd : gdO cp g = true) : (t.2.1 ≤ 1000 → -1000 ≤ t.2.1 → -1000 ≤ (stO n X cp t g).2.1 ∧ (stO n X cp t g).2.1 ≤ 1000) := fun a b => by
  unfold gdO at gd
  rw [Bool.and_eq_true, Bool.and_eq_true, decide_eq_true_eq, decide_eq_true_eq] at gd
  have D := oD_ok hO hc hn gd.1.2
  have vb := twF_b D.2.2.2.2.1 cp 0 0 (by omega) (by omega)
  unfold stO
  dsimp only
  split <;> omega
theorem orC_loop {cp n : Nat} (hc : (cp : Int) = A.now.cp) (c1 : 1 ≤ cp) (c5 : cp < 5) (hO : OkV A.now) (hn : n = 60) {w : Int} (iw : inI w = true) : ∀ (r : List Int) (g i f dg : Int) (S : iXY) (o6 : Option iV), LenV S.1 → LenY S.2 → S.2.od = odOf cp g → (∀ x ∈ g :: r, gdO cp x = true) → chnO cp (g :: r) = true → 0 ≤ i → i + (r.length + 1 : Nat) ≤ 24 → -1000 ≤ f → f ≤ 1000 → Q (some (.inl (if w = 0 then ((g :: r).foldl (stO n A.now cp) (S, f, dg)).2.2 else ((g :: r).foldl (stO n A.now cp) (S, f, dg)).2.1))) (hp (A.sxy ((g :: r).foldl (stO n A.now cp) (S, f, dg)).1)) → Run sp sc (d + 7) mX11_orders 43 [some (.inr (.inr 2)), some (.inl w), some (.inl f), some (.inl dg), some (.inl 1), some (.inl i), o6] [] (hp (A.sxy S)) Q := by
  intro r
  induction r with
  | nil =>
    intro g i f dg S o6 hL hY hod hg hch h0 h1 f0 f1 hq
    have gd := hg g (List.mem_cons_self ..)
    have hch : nxt cp (odOf cp g) = (0, odOf cp g) := of_decide_eq_true hch
    refine orC_iter hc c1 c5 hO hn hL hY hod gd hch (Or.inl rfl) h0 (by have : ([] : List Int).length = 0 := rfl; omega) f0 f1 (fun o6 => orC_end iw (by omega) (by have : ([] : List Int).length = 0 := rfl; omega) ?_)
    unfold gdO at gd
    rw [Bool.and_eq_true, Bool.and_eq_true, decide_eq_true_eq, decide_eq_true_eq] at gd
    have D := oD_ok hO hc hn gd.1.2
    have e : ∀ Z : iXY, Z.2.od = odOf cp g → ((Z.1, (iYr.mk (odOf cp g) Z.2.bz Z.2.wt Z.2.en Z.2.ps Z.2.dn Z.2.sp Z.2.fs)) : iXY) = Z := fun Z h => by rw [← h]; rfl
    rw [e _ D.2.2.1]
    exact hq
  | cons g2 r ih =>
    intro g i f dg S o6 hL hY hod hg hch h0 h1 f0 f1 hq
    have gd := hg g (List.mem_cons_self ..)
    have hch : (decide (nxt cp (odOf cp g) = (1, odOf cp g2)) && chnO cp (g2 :: r)) = true := hch
    rw [Bool.and_eq_true, decide_eq_true_eq] at hch
    have l2 : (g2 :: r).length = r.length + 1 := rfl
    have sb := stO_b (n := n) (t := (S, f, dg)) hO hc c5 hn gd f1 f0
    refine orC_iter hc c1 c5 hO hn hL hY hod gd hch.1 (Or.inr rfl) h0 (by omega) f0 f1 (fun o6 => ?_)
    have gd2 := gd
    unfold gdO at gd2
    rw [Bool.and_eq_true, Bool.and_eq_true, decide_eq_true_eq, decide_eq_true_eq] at gd2
    have D := oD_ok hO hc hn gd2.1.2
    have g2d := hg g2 (List.mem_cons_of_mem _ (List.mem_cons_self ..))
    unfold gdO at g2d
    rw [Bool.and_eq_true, Bool.and_eq_true, decide_eq_true_eq, decide_eq_true_eq] at g2d
    have p2 := prm_ok g2d.1.2
    exact ih g2 (i + 1) (stO n A.now cp (S, f, dg) g).2.1 (stO n A.now cp (S, f, dg) g).2.2 _ o6 D.1.1.len (LenY.mk p2.1 D.1.2.lbz D.1.2.lwt D.1.2.len D.1.2.bus) rfl (fun x hx => hg x (List.mem_cons_of_mem _ hx)) hch.2 (by omega) (by omega) sb.1 sb.2 hq
end OPS
