set_option maxRecDepth 16384
/-! ===== deputies: the class ===== -/
def iVal.dS (X : iVal) (m w u v : Int) : iVal := (iVal.mk X.on X.na ((X.de.set (0 + m).toNat u).set (5 + w).toNat v) X.bo X.li X.cp X.me X.wo X.sa X.dd X.wh X.sl X.dy)
theorem dS_sdp {X : iVal} {m w u v : Int} (hu : ¬ u = m) (hv : ¬ v = w) : X.dS m w u v = (X.sdp 0 m (if u = -1 then m else u)).sdp 1 w (if v = -1 then w else v) := by
  have e1 : (if (if u = -1 then m else u) = m then (-1 : Int) else (if u = -1 then m else u)) = u := by
    by_cases z : u = -1
    · rw [if_pos z, if_pos rfl]; exact z.symm
    · rw [if_neg z, if_neg hu]
  have e2 : (if (if v = -1 then w else v) = w then (-1 : Int) else (if v = -1 then w else v)) = v := by
    by_cases z : v = -1
    · rw [if_pos z, if_pos rfl]; exact z.symm
    · rw [if_neg z, if_neg hv]
  unfold iVal.dS iVal.sdp
  simp only [pjA]
  rw [e1, e2]
  have i1 : (0 * 5 + m : Int) = 0 + m := by omega
  have i2 : (1 * 5 + w : Int) = 5 + w := by omega
  rw [i1, i2]
theorem okV_dS {X : iVal} (hO : OkV X) {m w u v : Int} (h0 : 0 ≤ m) (h1 : m < X.num 0) (h2 : 0 ≤ w) (h3 : w < X.num 1) (hu : ¬ u = m) (hv : ¬ v = w) (u0 : -1 ≤ u) (u1 : u < X.num 0) (v0 : -1 ≤ v) (v1 : v < X.num 1) : OkV (X.dS m w u v) := by
  rw [dS_sdp hu hv]
  have a1 : 0 ≤ (if u = -1 then m else u) ∧ (if u = -1 then m else u) < X.num 0 := by split <;> omega
  have a2 : 0 ≤ (if v = -1 then w else v) ∧ (if v = -1 then w else v) < X.num 1 := by split <;> omega
  have k := okV_sdp hO (s := 0) (k := m) (by omega) (by omega) h0 h1 a1.1 a1.2
  exact okV_sdp k (s := 1) (k := w) (by omega) (by omega) h2 h3 a2.1 a2.2
def dwF (c : Int) : Nat → iXY → iXY
  | 0, S => S
  | k + 1, S => if S.1.sta c = 0 then dwF c k (dayA S) else S
theorem dwF_ok {c : Int} : ∀ (k : Nat) (S : iXY) (B : Int), OkS S B → OkS (dwF c k S) (B + 5 * k) := by
  intro k
  induction k with
  | zero => intro S B h; exact ⟨h.1, h.2.mono (by omega)⟩
  | succ k ih =>
    intro S B h
    unfold dwF
    split
    · have := ih (dayA S) (B + 5) (okS_day h).1
      exact ⟨this.1, this.2.mono (by omega)⟩
    · exact ⟨h.1, h.2.mono (by omega)⟩
theorem dwF_days {c : Int} (h0 : 0 ≤ c) (h1 : c < 4) : ∀ (k : Nat) (S : iXY) (B : Int), OkS S B → (dwF c k S).1.sta c = (daysA k S).1.sta c ∧ (dwF c k S).2.fin c = (daysA k S).2.fin c := by
  intro k
  induction k with
  | zero => intro S B h; exact ⟨rfl, rfl⟩
  | succ k ih =>
    intro S B h
    unfold dwF
    by_cases z : S.1.sta c = 0
    · rw [if_pos z]
      exact ih (dayA S) (B + 5) (okS_day h).1
    · rw [if_neg z]
      rcases (stp_days (k + 1) S B h).2 c h0 h1 with x | x
      · exact ⟨x.1.symm, x.2.symm⟩
      · exact absurd x.1 z
/-- the day on which a couple is wed with these deputies -/
def vD (n : Nat) (X : iVal) (c m w u v : Int) : Int := if (daysA n (X.dS m w u v, yr0 [0, 1, 2, 3] z10)).1.sta c = 1 then (daysA n (X.dS m w u v, yr0 [0, 1, 2, 3] z10)).2.fin c else 61
def dpI (n : Nat) (X : iVal) (c m w u : Int) : Nat → Int → Int × Int → Int × Int
  | 0, _, t => t
  | k + 1, v, t => dpI n X c m w u k (v + 1) (if (¬ u = m ∧ ¬ v = w) ∧ vD n X c m w u v < t.1 then (vD n X c m w u v, 10 * (u + 1) + v + 1) else t)
def dpO (n : Nat) (X : iVal) (c m w : Int) (k1 : Nat) : Nat → Int → Int × Int → Int × Int
  | 0, _, t => t
  | k + 1, u, t => dpO n X c m w k1 k (u + 1) (dpI n X c m w u k1 (-1) t)
/-- what may be in mind -/
def goodS (S : iXY) : Prop := (OkV S.1 ∧ LenY S.2) ∨ False
theorem goodS.of {S : iXY} {B : Int} (h : OkS S B) : goodS S := Or.inl ⟨h.1, h.2.len'⟩
def tD (t : Int × Int) : Prop := (t.2 = -4 ∧ t.1 = 61) ∨ (0 ≤ t.2 ∧ t.2 ≤ 1000 ∧ 1 ≤ t.1 ∧ t.1 ≤ 60)
section OPS
variable {sp : Nat → List iV → iH → Option (Option iV × iH)} {sc : List Int} {d : Nat} {A : iA} {Q : Option iV → iH → Prop} {h : iH} {X : iVal} {e g B : Int} {S T : iXY}
theorem rel_good (hR : Rel A) (hS : goodS S) : Rel (A.sxy S) := by
  have h := hS.elim id False.elim
  exact (Rel.mk hR.now hR.img (h.1.len) (h.1) (h.2) hR.ndy hR.idy hR.row hR.imd hR.him hR.imr hR.lim hR.lm hR.lwas hR.lwt hR.len hR.lod hR.lnu hR.lhe hR.lbh hR.lak hR.lfi hR.lth hR.lke hR.lkk hR.lkf hR.lso hR.lsz hR.lel hR.lwv hR.lhb hR.lfm hR.lmk hR.lpt hR.lout hR.shs hR.inj)
theorem okS_dS (hO : OkV X) {m w u v : Int} (h0 : 0 ≤ m) (h1 : m < X.num 0) (h2 : 0 ≤ w) (h3 : w < X.num 1) (hu : ¬ u = m) (hv : ¬ v = w) (u0 : -1 ≤ u) (u1 : u < X.num 0) (v0 : -1 ≤ v) (v1 : v < X.num 1) {bz : List Int} (lb : bz.length = 10) (hb : ∀ i, 0 ≤ i → i < 10 → gt0 bz i = 0 ∨ gt0 bz i = 1) : OkS (X.dS m w u v, yr0 [0, 1, 2, 3] bz) 0 := okS_yr0 (okV_dS hO h0 h1 h2 h3 hu hv u0 u1 v0 v1) lb hb
theorem vD_b (hO : OkV X) {n : Nat} (hn : n = 60) {c m w u v : Int} (c0 : 0 ≤ c) (c1 : c < 4) (hs : X.sta c = 0) (h0 : 0 ≤ m) (h1 : m < X.num 0) (h2 : 0 ≤ w) (h3 : w < X.num 1) (hu : ¬ u = m) (hv : ¬ v = w) (u0 : -1 ≤ u) (u1 : u < X.num 0) (v0 : -1 ≤ v) (v1 : v < X.num 1) : (1 ≤ vD n X c m w u v ∧ vD n X c m w u v ≤ 61) ∧ ((daysA n (X.dS m w u v, yr0 [0, 1, 2, 3] z10)).1.sta c = 1 → vD n X c m w u v = (daysA n (X.dS m w u v, yr0 [0, 1, 2, 3] z10)).2.fin c ∧ vD n X c m w u v ≤ 60) ∧ (¬ (daysA n (X.dS m w u v, yr0 [0, 1, 2, 3] z10)).1.sta c = 1 → vD n X c m w u v = 61) := by
  have k := okS_dS hO h0 h1 h2 h3 hu hv u0 u1 v0 v1 z10_ok.1 z10_ok.2
  have s := (stp_days n _ 0 k).2 c c0 c1
  have ep := (okS_days n _ 0 k).2.1
  have e0 : ((X.dS m w u v, yr0 [0, 1, 2, 3] z10) : iXY).2.ps = 0 := rfl
  have e1 : ((X.dS m w u v, yr0 [0, 1, 2, 3] z10) : iXY).1.sta c = 0 := hs
  rw [e0] at s ep
  rw [e1] at s
  unfold vD
  generalize daysA n (X.dS m w u v, yr0 [0, 1, 2, 3] z10) = D at *
  by_cases z : D.1.sta c = 1
  · rw [if_pos z]
    have : 1 ≤ D.2.fin c ∧ D.2.fin c ≤ 60 := by
      rcases s with x | x
      · omega
      · omega
    exact ⟨by omega, fun _ => ⟨rfl, this.2⟩, fun y => absurd z y⟩
  · rw [if_neg z]
    exact ⟨by omega, fun y => absurd y z, fun _ => rfl⟩
theorem dwC_loop {c u v : Int} (c0 : 0 ≤ c) (c1 : c < 4) : ∀ (k : Nat) (y : Int) (S : iXY) (B : Int), OkS S B → B + 5 * k ≤ 1000 → 1 ≤ y → y + k = 61 → Q (some (.inl (if (dwF c k S).1.sta c = 1 then (dwF c k S).2.fin c else 61))) (hp (A.sxy (dwF c k S))) → Run sp sc (d + 7) mX11_dayWedWith 59 [some (.inr (.inr 2)), some (.inl c), some (.inl u), some (.inl v), some (.inr (.inr (vb .mnd + 2))), some (.inl y)] [] (hp (A.sxy S)) Q := by
  have fin : ∀ (y : Int) (S : iXY) (B : Int), OkS S B → B ≤ 1000 → inI y = true → (60 < y ∨ ¬ S.1.sta c = 0) → Q (some (.inl (if S.1.sta c = 1 then S.2.fin c else 61))) (hp (A.sxy S)) → Run sp sc (d + 7) mX11_dayWedWith 59 [some (.inr (.inr 2)), some (.inl c), some (.inl u), some (.inl v), some (.inr (.inr (vb .mnd + 2))), some (.inl y)] [] (hp (A.sxy S)) Q := by
    intro y S B hS hB iy hc hq
    refine G_run (B := [59]) 40 _ _ _ _ ?_
    have hS1 : OkV ((A.sxy S).v .mnd) := hS.1
    have s1 := hS.1.sta c c0 c1
    have f1 := hS.2.fin c c0 c1
    have go := fun Q => @goesOn_eq sp sc (d + 6) (A.sxy S) .mnd Q hS1 c c0 c1
    have eg : ((A.sxy S).v .mnd).sta c = S.1.sta c := rfl
    rw [eg] at go
    by_cases e1 : 60 < y
    · by_cases z : S.1.sta c = 1
      · rw [if_pos z] at hq
        simp (disch := first | assumption | rfl | exact inI_of (by omega) (by omega) | omega | decide | (simp only [sv_ext, sv_mc, Nat.le_refl]; done) | with_unfolding_all (refine @id _ ?_; first | exact Eq.refl _ | exact Nat.le_refl _ | assumption)) only [Nat.reduceAdd, Nat.reduceMul, Nat.reduceLeDiff, Nat.reduceLT, Int.reduceAdd, Int.reduceSub, Int.reduceMul, Int.reduceNeg, Int.reduceLE, Int.reduceLT, Int.reduceToNat, Int.reduceEq, reduceCtorEq, ld_z, ld_s, st1_0, st1_1, st1_s, st2_0, st2_1, st2_s, isJ_i, isJ_r, isJ_n, isJ_l, cs_nil, cs_i, cs_r, cs_l, kF, List.getElem?_cons_succ, List.getElem?_cons_zero, List.set_cons_zero, List.set_cons_succ, GC_s, GC_n, GK_nil, GK_no, GK_yes, not_false_eq_true, back_eq, inI_eq, inA_eq, true_and, and_true, and_self, if_true, if_false, bI_0, bI_1, bI_in, bI_T, bI_F, fitF, jmpF, nlF, pjA, iVal.eta, iYr.eta, List.getElem?_toArray, List.length_cons, List.length_nil, true_or, or_true, or_false, false_or, Classical.not_not, Bool.false_eq_true, hp_2, Nat.zero_le, Nat.le_refl, Option.some.injEq, Sum.inl.injEq, Sum.inr.injEq, not_true_eq_false, true_implies, false_implies, implies_true, Int.le_refl, rd_v, f_num, f_lik, f_dep, f_bnd, f_man, f_wom, f_sta, f_dds, f_who, rd_y, rd_y1, rd_y2, rd_y3, rd_y4, wy, wy1, wy2, wy3, wy4, sxy_mnd, sxy_now, sxy_img, sxy_yr, sxy_xy, sxy_sxy, sv_sxy, f_ord, f_bus, f_wai, f_fin, rd_e, v_now, hasOne_eq, hasTwo_eq, hasCouple_eq, orNone_eq, natureOf_eq, rd_nat, place_eq, rd_v1, rd_v3, rd_v4, rd_v6, rd_v7, rd_v8, rd_v9, rd_v10, isShelf_eq, isSide_eq, isDeed_eq, isKind_eq, isMindSpan_eq, back_sxy, back_sxy1, f_orN, gX11_dayWedWith, iy, e1, hS.1.lsa, hS.2.len, eq_true z]
        exact hq
      · rw [if_neg z] at hq
        simp (disch := first | assumption | rfl | exact inI_of (by omega) (by omega) | omega | decide | (simp only [sv_ext, sv_mc, Nat.le_refl]; done) | with_unfolding_all (refine @id _ ?_; first | exact Eq.refl _ | exact Nat.le_refl _ | assumption)) only [Nat.reduceAdd, Nat.reduceMul, Nat.reduceLeDiff, Nat.reduceLT, Int.reduceAdd, Int.reduceSub, Int.reduceMul, Int.reduceNeg, Int.reduceLE, Int.reduceLT, Int.reduceToNat, Int.reduceEq, reduceCtorEq, ld_z, ld_s, st1_0, st1_1, st1_s, st2_0, st2_1, st2_s, isJ_i, isJ_r, isJ_n, isJ_l, cs_nil, cs_i, cs_r, cs_l, kF, List.getElem?_cons_succ, List.getElem?_cons_zero, List.set_cons_zero, List.set_cons_succ, GC_s, GC_n, GK_nil, GK_no, GK_yes, not_false_eq_true, back_eq, inI_eq, inA_eq, true_and, and_true, and_self, if_true, if_false, bI_0, bI_1, bI_in, bI_T, bI_F, fitF, jmpF, nlF, pjA, iVal.eta, iYr.eta, List.getElem?_toArray, List.length_cons, List.length_nil, true_or, or_true, or_false, false_or, Classical.not_not, Bool.false_eq_true, hp_2, Nat.zero_le, Nat.le_refl, Option.some.injEq, Sum.inl.injEq, Sum.inr.injEq, not_true_eq_false, true_implies, false_implies, implies_true, Int.le_refl, rd_v, f_num, f_lik, f_dep, f_bnd, f_man, f_wom, f_sta, f_dds, f_who, rd_y, rd_y1, rd_y2, rd_y3, rd_y4, wy, wy1, wy2, wy3, wy4, sxy_mnd, sxy_now, sxy_img, sxy_yr, sxy_xy, sxy_sxy, sv_sxy, f_ord, f_bus, f_wai, f_fin, rd_e, v_now, hasOne_eq, hasTwo_eq, hasCouple_eq, orNone_eq, natureOf_eq, rd_nat, place_eq, rd_v1, rd_v3, rd_v4, rd_v6, rd_v7, rd_v8, rd_v9, rd_v10, isShelf_eq, isSide_eq, isDeed_eq, isKind_eq, isMindSpan_eq, back_sxy, back_sxy1, f_orN, gX11_dayWedWith, iy, e1, hS.1.lsa, hS.2.len, z]
        exact hq
    · have z0 : ¬ S.1.sta c = 0 := by omega
      by_cases z : S.1.sta c = 1
      · rw [if_pos z] at hq
        have go2 : ∀ Q, Call sp sc (d + 6) mX8_goesOn [.inr (.inr (vb .mnd + 2)), .inl c] (hp (A.sxy S)) Q = Q (some (.inl 0)) (hp (A.sxy S)) := fun Q => by rw [go, bI_f z0]
        simp (disch := first | assumption | rfl | exact inI_of (by omega) (by omega) | omega | decide | (simp only [sv_ext, sv_mc, Nat.le_refl]; done) | with_unfolding_all (refine @id _ ?_; first | exact Eq.refl _ | exact Nat.le_refl _ | assumption)) only [Nat.reduceAdd, Nat.reduceMul, Nat.reduceLeDiff, Nat.reduceLT, Int.reduceAdd, Int.reduceSub, Int.reduceMul, Int.reduceNeg, Int.reduceLE, Int.reduceLT, Int.reduceToNat, Int.reduceEq, reduceCtorEq, ld_z, ld_s, st1_0, st1_1, st1_s, st2_0, st2_1, st2_s, isJ_i, isJ_r, isJ_n, isJ_l, cs_nil, cs_i, cs_r, cs_l, kF, List.getElem?_cons_succ, List.getElem?_cons_zero, List.set_cons_zero, List.set_cons_succ, GC_s, GC_n, GK_nil, GK_no, GK_yes, not_false_eq_true, back_eq, inI_eq, inA_eq, true_and, and_true, and_self, if_true, if_false, bI_0, bI_1, bI_in, bI_T, bI_F, fitF, jmpF, nlF, pjA, iVal.eta, iYr.eta, List.getElem?_toArray, List.length_cons, List.length_nil, true_or, or_true, or_false, false_or, Classical.not_not, Bool.false_eq_true, hp_2, Nat.zero_le, Nat.le_refl, Option.some.injEq, Sum.inl.injEq, Sum.inr.injEq, not_true_eq_false, true_implies, false_implies, implies_true, Int.le_refl, rd_v, f_num, f_lik, f_dep, f_bnd, f_man, f_wom, f_sta, f_dds, f_who, rd_y, rd_y1, rd_y2, rd_y3, rd_y4, wy, wy1, wy2, wy3, wy4, sxy_mnd, sxy_now, sxy_img, sxy_yr, sxy_xy, sxy_sxy, sv_sxy, f_ord, f_bus, f_wai, f_fin, rd_e, v_now, hasOne_eq, hasTwo_eq, hasCouple_eq, orNone_eq, natureOf_eq, rd_nat, place_eq, rd_v1, rd_v3, rd_v4, rd_v6, rd_v7, rd_v8, rd_v9, rd_v10, isShelf_eq, isSide_eq, isDeed_eq, isKind_eq, isMindSpan_eq, back_sxy, back_sxy1, f_orN, gX11_dayWedWith, iy, e1, go2, hS.1.lsa, hS.2.len, eq_true z]
        exact hq
      · rw [if_neg z] at hq
        have go2 : ∀ Q, Call sp sc (d + 6) mX8_goesOn [.inr (.inr (vb .mnd + 2)), .inl c] (hp (A.sxy S)) Q = Q (some (.inl 0)) (hp (A.sxy S)) := fun Q => by rw [go, bI_f z0]
        simp (disch := first | assumption | rfl | exact inI_of (by omega) (by omega) | omega | decide | (simp only [sv_ext, sv_mc, Nat.le_refl]; done) | with_unfolding_all (refine @id _ ?_; first | exact Eq.refl _ | exact Nat.le_refl _ | assumption)) only [Nat.reduceAdd, Nat.reduceMul, Nat.reduceLeDiff, Nat.reduceLT, Int.reduceAdd, Int.reduceSub, Int.reduceMul, Int.reduceNeg, Int.reduceLE, Int.reduceLT, Int.reduceToNat, Int.reduceEq, reduceCtorEq, ld_z, ld_s, st1_0, st1_1, st1_s, st2_0, st2_1, st2_s, isJ_i, isJ_r, isJ_n, isJ_l, cs_nil, cs_i, cs_r, cs_l, kF, List.getElem?_cons_succ, List.getElem?_cons_zero, List.set_cons_zero, List.set_cons_succ, GC_s, GC_n, GK_nil, GK_no, GK_yes, not_false_eq_true, back_eq, inI_eq, inA_eq, true_and, and_true, and_self, if_true, if_false, bI_0, bI_1, bI_in, bI_T, bI_F, fitF, jmpF, nlF, pjA, iVal.eta, iYr.eta, List.getElem?_toArray, List.length_cons, List.length_nil, true_or, or_true, or_false, false_or, Classical.not_not, Bool.false_eq_true, hp_2, Nat.zero_le, Nat.le_refl, Option.some.injEq, Sum.inl.injEq, Sum.inr.injEq, not_true_eq_false, true_implies, false_implies, implies_true, Int.le_refl, rd_v, f_num, f_lik, f_dep, f_bnd, f_man, f_wom, f_sta, f_dds, f_who, rd_y, rd_y1, rd_y2, rd_y3, rd_y4, wy, wy1, wy2, wy3, wy4, sxy_mnd, sxy_now, sxy_img, sxy_yr, sxy_xy, sxy_sxy, sv_sxy, f_ord, f_bus, f_wai, f_fin, rd_e, v_now, hasOne_eq, hasTwo_eq, hasCouple_eq, orNone_eq, natureOf_eq, rd_nat, place_eq, rd_v1, rd_v3, rd_v4, rd_v6, rd_v7, rd_v8, rd_v9, rd_v10, isShelf_eq, isSide_eq, isDeed_eq, isKind_eq, isMindSpan_eq, back_sxy, back_sxy1, f_orN, gX11_dayWedWith, iy, e1, go2, hS.1.lsa, hS.2.len, z]
        exact hq
  intro k
  induction k with
  | zero => intro y S B hS hB h0 h1 hq; exact fin y S B hS (by omega) (inI_of (by omega) (by omega)) (by omega) hq
  | succ k ih =>
    intro y S B hS hB h0 h1 hq
    unfold dwF at hq
    by_cases z : S.1.sta c = 0
    · rw [if_pos z] at hq
      refine G_run (B := [59]) 40 _ _ _ _ ?_
      have hS1 : OkV ((A.sxy S).v .mnd) := hS.1
      have go := fun Q => @goesOn_eq sp sc (d + 6) (A.sxy S) .mnd Q hS1 c c0 c1
      have eg : ((A.sxy S).v .mnd).sta c = S.1.sta c := rfl
      rw [eg] at go
      have go2 : ∀ Q, Call sp sc (d + 6) mX8_goesOn [.inr (.inr (vb .mnd + 2)), .inl c] (hp (A.sxy S)) Q = Q (some (.inl 1)) (hp (A.sxy S)) := fun Q => by rw [go, bI_t z]
      have hp1 : ∀ Q, Call sp sc (d + 6) mX10_pass [.inr (.inr 31), .inl 1] (hp (A.sxy S)) Q = Q none (hp (A.sxy (dayA S))) := fun Q => passC (n := 1) hS (by omega) (by omega)
      have e1 : ¬ 60 < y := by omega
      simp (disch := first | assumption | rfl | exact inI_of (by omega) (by omega) | omega | decide | (simp only [sv_ext, sv_mc, Nat.le_refl]; done) | with_unfolding_all (refine @id _ ?_; first | exact Eq.refl _ | exact Nat.le_refl _ | assumption)) only [Nat.reduceAdd, Nat.reduceMul, Nat.reduceLeDiff, Nat.reduceLT, Int.reduceAdd, Int.reduceSub, Int.reduceMul, Int.reduceNeg, Int.reduceLE, Int.reduceLT, Int.reduceToNat, Int.reduceEq, reduceCtorEq, ld_z, ld_s, st1_0, st1_1, st1_s, st2_0, st2_1, st2_s, isJ_i, isJ_r, isJ_n, isJ_l, cs_nil, cs_i, cs_r, cs_l, kF, List.getElem?_cons_succ, List.getElem?_cons_zero, List.set_cons_zero, List.set_cons_succ, GC_s, GC_n, GK_nil, GK_no, GK_yes, not_false_eq_true, back_eq, inI_eq, inA_eq, true_and, and_true, and_self, if_true, if_false, bI_0, bI_1, bI_in, bI_T, bI_F, fitF, jmpF, nlF, pjA, iVal.eta, iYr.eta, List.getElem?_toArray, List.length_cons, List.length_nil, true_or, or_true, or_false, false_or, Classical.not_not, Bool.false_eq_true, hp_2, Nat.zero_le, Nat.le_refl, Option.some.injEq, Sum.inl.injEq, Sum.inr.injEq, not_true_eq_false, true_implies, false_implies, implies_true, Int.le_refl, rd_v, f_num, f_lik, f_dep, f_bnd, f_man, f_wom, f_sta, f_dds, f_who, rd_y, rd_y1, rd_y2, rd_y3, rd_y4, wy, wy1, wy2, wy3, wy4, sxy_mnd, sxy_now, sxy_img, sxy_yr, sxy_xy, sxy_sxy, sv_sxy, f_ord, f_bus, f_wai, f_fin, rd_e, v_now, hasOne_eq, hasTwo_eq, hasCouple_eq, orNone_eq, natureOf_eq, rd_nat, place_eq, rd_v1, rd_v3, rd_v4, rd_v6, rd_v7, rd_v8, rd_v9, rd_v10, isShelf_eq, isSide_eq, isDeed_eq, isKind_eq, isMindSpan_eq, back_sxy, back_sxy1, f_orN, gX11_dayWedWith, e1, go2, hp1]
      exact ih (y + 1) (dayA S) (B + 5) (okS_day hS).1 (by omega) (by omega) (by omega) hq
    · rw [if_neg z] at hq
      exact fin y S B hS (by omega) (inI_of (by omega) (by omega)) (Or.inr z) hq
theorem dwC_eq (hO : OkV A.now) {n : Nat} (hn : n = 60) {c u v : Int} (c0 : 0 ≤ c) (c1 : c < A.now.cp) (hu : ¬ u = A.now.man c) (hv : ¬ v = A.now.wom c) (u0 : -1 ≤ u) (u1 : u < A.now.num 0) (v0 : -1 ≤ v) (v1 : v < A.now.num 1) (hS : goodS S) : ∃ T : iXY, goodS T ∧ ∀ Q, Call sp sc (d + 7) mX11_dayWedWith [.inr (.inr 2), .inl c, .inl u, .inl v] (hp (A.sxy S)) Q = Q (some (.inl (vD n A.now c (A.now.man c) (A.now.wom c) u v))) (hp (A.sxy T)) := by
  have g := hS.elim id False.elim
  have hcp := hO.cp
  have hm := hO.man c c0 c1
  have hw := hO.wom c c0 c1
  have n0 := hO.n0
  have n1 := hO.n1
  have k := okS_dS hO hm.1 hm.2 hw.1 hw.2 hu hv u0 u1 v0 v1 g.2.lbz g.2.bus
  refine ⟨dwF c n (A.now.dS (A.now.man c) (A.now.wom c) u v, yr0 [0, 1, 2, 3] S.2.bz), goodS.of (dwF_ok n _ 0 k), fun Q => Call_eq ?_⟩
  have ev : vD n A.now c (A.now.man c) (A.now.wom c) u v = if (dwF c n (A.now.dS (A.now.man c) (A.now.wom c) u v, yr0 [0, 1, 2, 3] S.2.bz)).1.sta c = 1 then (dwF c n (A.now.dS (A.now.man c) (A.now.wom c) u v, yr0 [0, 1, 2, 3] S.2.bz)).2.fin c else 61 := by
    have e := dwF_days c0 (by omega) n _ 0 k
    rw [e.1, e.2, daysA_bz (bz' := z10) (by omega)]; rfl
  rw [ev]
  have beg : ∀ Q, Call sp sc (d + 6) mX10_begin [.inr (.inr 31), .inr (.inr (vb .now + 2))] (hp (A.sxy S)) Q = Q none (hp (A.sxy (A.now, yr0 [0, 1, 2, 3] S.2.bz))) := fun Q => begin_eq (d := d + 3) (A := A.sxy S) hO g.1.len g.2
  have ew : iVal.mk A.now.on A.now.na ((A.now.de.set (0 + A.now.man c).toNat u).set (5 + A.now.wom c).toNat v) A.now.bo A.now.li A.now.cp A.now.me A.now.wo A.now.sa A.now.dd A.now.wh A.now.sl A.now.dy = A.now.dS (A.now.man c) (A.now.wom c) u v := rfl
  have lde := hO.lde
  have lme := hO.lme
  have lwo := hO.lwo
  apply eX11_dayWedWith 60
  simp (disch := first | assumption | rfl | exact inI_of (by omega) (by omega) | omega | decide | (simp only [sv_ext, sv_mc, Nat.le_refl]; done) | with_unfolding_all (refine @id _ ?_; first | exact Eq.refl _ | exact Nat.le_refl _ | assumption)) only [Nat.reduceAdd, Nat.reduceMul, Nat.reduceLeDiff, Nat.reduceLT, Int.reduceAdd, Int.reduceSub, Int.reduceMul, Int.reduceNeg, Int.reduceLE, Int.reduceLT, Int.reduceToNat, Int.reduceEq, reduceCtorEq, ld_z, ld_s, st1_0, st1_1, st1_s, st2_0, st2_1, st2_s, isJ_i, isJ_r, isJ_n, isJ_l, cs_nil, cs_i, cs_r, cs_l, kF, List.getElem?_cons_succ, List.getElem?_cons_zero, List.set_cons_zero, List.set_cons_succ, GC_s, GC_n, GK_nil, GK_no, GK_yes, not_false_eq_true, back_eq, inI_eq, inA_eq, true_and, and_true, and_self, if_true, if_false, bI_0, bI_1, bI_in, bI_T, bI_F, fitF, jmpF, nlF, pjA, iVal.eta, iYr.eta, List.getElem?_toArray, List.length_cons, List.length_nil, true_or, or_true, or_false, false_or, Classical.not_not, Bool.false_eq_true, hp_2, Nat.zero_le, Nat.le_refl, Option.some.injEq, Sum.inl.injEq, Sum.inr.injEq, not_true_eq_false, true_implies, false_implies, implies_true, Int.le_refl, rd_v, f_num, f_lik, f_dep, f_bnd, f_man, f_wom, f_sta, f_dds, f_who, rd_y, rd_y1, rd_y2, rd_y3, rd_y4, wy, wy1, wy2, wy3, wy4, sxy_mnd, sxy_now, sxy_img, sxy_yr, sxy_xy, sxy_sxy, sv_sxy, f_ord, f_bus, f_wai, f_fin, rd_e, v_now, hasOne_eq, hasTwo_eq, hasCouple_eq, orNone_eq, natureOf_eq, rd_nat, place_eq, rd_v1, rd_v3, rd_v4, rd_v6, rd_v7, rd_v8, rd_v9, rd_v10, isShelf_eq, isSide_eq, isDeed_eq, isKind_eq, isMindSpan_eq, back_sxy, back_sxy1, f_orN, gX11_dayWedWith, beg, lde, lme, lwo, List.length_set, wr_v3, ew]
  exact dwC_loop c0 (by omega) n 1 _ 0 k (by omega) (by omega) (by omega) ⟨rfl, rfl⟩
theorem dpC_in (hO : OkV A.now) {n : Nat} (hn : n = 60) {c w0 u : Int} (c0 : 0 ≤ c) (c1 : c < A.now.cp) (hs : A.now.sta c = 0) (u0 : -1 ≤ u) (u1 : u < A.now.num 0) : ∀ (k : Nat) (v : Int) (S : iXY) (t : Int × Int), goodS S → tD t → -1 ≤ v → v + k = A.now.num 1 → ∃ T : iXY, goodS T ∧ tD (dpI n A.now c (A.now.man c) (A.now.wom c) u k v t) ∧ ∀ (o9 : Option iV) Q, (∀ o8 o9, Run sp sc (d + 8) mX11_deputies 68 [some (.inr (.inr 2)), some (.inl c), some (.inl w0), some (.inl (A.now.man c)), some (.inl (A.now.wom c)), some (.inl (dpI n A.now c (A.now.man c) (A.now.wom c) u k v t).1), some (.inl (dpI n A.now c (A.now.man c) (A.now.wom c) u k v t).2), some (.inl (u + 1)), o8, o9] [] (hp (A.sxy T)) Q) → Run sp sc (d + 8) mX11_deputies 85 [some (.inr (.inr 2)), some (.inl c), some (.inl w0), some (.inl (A.now.man c)), some (.inl (A.now.wom c)), some (.inl t.1), some (.inl t.2), some (.inl u), some (.inl v), o9] [] (hp (A.sxy S)) Q := by
  have hcp := hO.cp
  have hm := hO.man c c0 c1
  have hw := hO.wom c c0 c1
  have n0 := hO.n0
  have n1 := hO.n1
  have lo := hO.lon
  have im : inI (A.now.man c) = true := inI_of (by omega) (by omega)
  have iw : inI (A.now.wom c) = true := inI_of (by omega) (by omega)
  have iu : inI u = true := inI_of (by omega) (by omega)
  intro k
  induction k with
  | zero =>
    intro v S t hS ht h0 h1
    refine ⟨S, hS, ht, fun o9 Q hq => ?_⟩
    refine G_run (B := [68, 85]) 60 _ _ _ _ ?_
    have e1 : A.now.num 1 ≤ v := by omega
    have en : (A.sxy S).now = A.now := rfl
    simp (disch := first | assumption | rfl | exact inI_of (by omega) (by omega) | omega | decide | (simp only [sv_ext, sv_mc, Nat.le_refl]; done) | with_unfolding_all (refine @id _ ?_; first | exact Eq.refl _ | exact Nat.le_refl _ | assumption)) only [Nat.reduceAdd, Nat.reduceMul, Nat.reduceLeDiff, Nat.reduceLT, Int.reduceAdd, Int.reduceSub, Int.reduceMul, Int.reduceNeg, Int.reduceLE, Int.reduceLT, Int.reduceToNat, Int.reduceEq, reduceCtorEq, ld_z, ld_s, st1_0, st1_1, st1_s, st2_0, st2_1, st2_s, isJ_i, isJ_r, isJ_n, isJ_l, cs_nil, cs_i, cs_r, cs_l, kF, List.getElem?_cons_succ, List.getElem?_cons_zero, List.set_cons_zero, List.set_cons_succ, GC_s, GC_n, GK_nil, GK_no, GK_yes, not_false_eq_true, back_eq, inI_eq, inA_eq, true_and, and_true, and_self, if_true, if_false, bI_0, bI_1, bI_in, bI_T, bI_F, fitF, jmpF, nlF, pjA, iVal.eta, iYr.eta, List.getElem?_toArray, List.length_cons, List.length_nil, true_or, or_true, or_false, false_or, Classical.not_not, Bool.false_eq_true, hp_2, Nat.zero_le, Nat.le_refl, Option.some.injEq, Sum.inl.injEq, Sum.inr.injEq, not_true_eq_false, true_implies, false_implies, implies_true, Int.le_refl, rd_v, f_num, f_lik, f_dep, f_bnd, f_man, f_wom, f_sta, f_dds, f_who, rd_y, rd_y1, rd_y2, rd_y3, rd_y4, wy, wy1, wy2, wy3, wy4, sxy_mnd, sxy_now, sxy_img, sxy_yr, sxy_xy, sxy_sxy, sv_sxy, f_ord, f_bus, f_wai, f_fin, rd_e, v_now, hasOne_eq, hasTwo_eq, hasCouple_eq, orNone_eq, natureOf_eq, rd_nat, place_eq, rd_v1, rd_v3, rd_v4, rd_v6, rd_v7, rd_v8, rd_v9, rd_v10, isShelf_eq, isSide_eq, isDeed_eq, isKind_eq, isMindSpan_eq, back_sxy, back_sxy1, f_orN, gX11_deputies, en, lo, f_n1, e1]
    exact hq _ _
  | succ k ih =>
    intro v S t hS ht h0 h1
    have e1 : ¬ A.now.num 1 ≤ v := by omega
    have iv : inI v = true := inI_of (by omega) (by omega)
    have en : (A.sxy S).now = A.now := rfl
    unfold dpI
    by_cases z1 : u = A.now.man c
    · obtain ⟨T, hT, hD, hr⟩ := ih (v + 1) S t hS ht (by omega) (by omega)
      rw [if_neg (fun y => y.1.1 z1)]
      refine ⟨T, hT, hD, fun o9 Q hq => ?_⟩
      refine G_run (B := [68, 85]) 60 _ _ _ _ ?_
      simp (disch := first | assumption | rfl | exact inI_of (by omega) (by omega) | omega | decide | (simp only [sv_ext, sv_mc, Nat.le_refl]; done) | with_unfolding_all (refine @id _ ?_; first | exact Eq.refl _ | exact Nat.le_refl _ | assumption)) only [Nat.reduceAdd, Nat.reduceMul, Nat.reduceLeDiff, Nat.reduceLT, Int.reduceAdd, Int.reduceSub, Int.reduceMul, Int.reduceNeg, Int.reduceLE, Int.reduceLT, Int.reduceToNat, Int.reduceEq, reduceCtorEq, ld_z, ld_s, st1_0, st1_1, st1_s, st2_0, st2_1, st2_s, isJ_i, isJ_r, isJ_n, isJ_l, cs_nil, cs_i, cs_r, cs_l, kF, List.getElem?_cons_succ, List.getElem?_cons_zero, List.set_cons_zero, List.set_cons_succ, GC_s, GC_n, GK_nil, GK_no, GK_yes, not_false_eq_true, back_eq, inI_eq, inA_eq, true_and, and_true, and_self, if_true, if_false, bI_0, bI_1, bI_in, bI_T, bI_F, fitF, jmpF, nlF, pjA, iVal.eta, iYr.eta, List.getElem?_toArray, List.length_cons, List.length_nil, true_or, or_true, or_false, false_or, Classical.not_not, Bool.false_eq_true, hp_2, Nat.zero_le, Nat.le_refl, Option.some.injEq, Sum.inl.injEq, Sum.inr.injEq, not_true_eq_false, true_implies, false_implies, implies_true, Int.le_refl, rd_v, f_num, f_lik, f_dep, f_bnd, f_man, f_wom, f_sta, f_dds, f_who, rd_y, rd_y1, rd_y2, rd_y3, rd_y4, wy, wy1, wy2, wy3, wy4, sxy_mnd, sxy_now, sxy_img, sxy_yr, sxy_xy, sxy_sxy, sv_sxy, f_ord, f_bus, f_wai, f_fin, rd_e, v_now, hasOne_eq, hasTwo_eq, hasCouple_eq, orNone_eq, natureOf_eq, rd_nat, place_eq, rd_v1, rd_v3, rd_v4, rd_v6, rd_v7, rd_v8, rd_v9, rd_v10, isShelf_eq, isSide_eq, isDeed_eq, isKind_eq, isMindSpan_eq, back_sxy, back_sxy1, f_orN, gX11_deputies, en, lo, f_n1, e1, eq_true z1]
      exact hr _ Q hq
    · by_cases z2 : v = A.now.wom c
      · obtain ⟨T, hT, hD, hr⟩ := ih (v + 1) S t hS ht (by omega) (by omega)
        rw [if_neg (fun y => y.1.2 z2)]
        refine ⟨T, hT, hD, fun o9 Q hq => ?_⟩
        refine G_run (B := [68, 85]) 60 _ _ _ _ ?_
        simp (disch := first | assumption | rfl | exact inI_of (by omega) (by omega) | omega | decide | (simp only [sv_ext, sv_mc, Nat.le_refl]; done) | with_unfolding_all (refine @id _ ?_; first | exact Eq.refl _ | exact Nat.le_refl _ | assumption)) only [Nat.reduceAdd, Nat.reduceMul, Nat.reduceLeDiff, Nat.reduceLT, Int.reduceAdd, Int.reduceSub, Int.reduceMul, Int.reduceNeg, Int.reduceLE, Int.reduceLT, Int.reduceToNat, Int.reduceEq, reduceCtorEq, ld_z, ld_s, st1_0, st1_1, st1_s, st2_0, st2_1, st2_s, isJ_i, isJ_r, isJ_n, isJ_l, cs_nil, cs_i, cs_r, cs_l, kF, List.getElem?_cons_succ, List.getElem?_cons_zero, List.set_cons_zero, List.set_cons_succ, GC_s, GC_n, GK_nil, GK_no, GK_yes, not_false_eq_true, back_eq, inI_eq, inA_eq, true_and, and_true, and_self, if_true, if_false, bI_0, bI_1, bI_in, bI_T, bI_F, fitF, jmpF, nlF, pjA, iVal.eta, iYr.eta, List.getElem?_toArray, List.length_cons, List.length_nil, true_or, or_true, or_false, false_or, Classical.not_not, Bool.false_eq_true, hp_2, Nat.zero_le, Nat.le_refl, Option.some.injEq, Sum.inl.injEq, Sum.inr.injEq, not_true_eq_false, true_implies, false_implies, implies_true, Int.le_refl, rd_v, f_num, f_lik, f_dep, f_bnd, f_man, f_wom, f_sta, f_dds, f_who, rd_y, rd_y1, rd_y2, rd_y3, rd_y4, wy, wy1, wy2, wy3, wy4, sxy_mnd, sxy_now, sxy_img, sxy_yr, sxy_xy, sxy_sxy, sv_sxy, f_ord, f_bus, f_wai, f_fin, rd_e, v_now, hasOne_eq, hasTwo_eq, hasCouple_eq, orNone_eq, natureOf_eq, rd_nat, place_eq, rd_v1, rd_v3, rd_v4, rd_v6, rd_v7, rd_v8, rd_v9, rd_v10, isShelf_eq, isSide_eq, isDeed_eq, isKind_eq, isMindSpan_eq, back_sxy, back_sxy1, f_orN, gX11_deputies, en, lo, f_n1, e1, z1, eq_true z2]
        exact hr _ Q hq
      · obtain ⟨S1, hS1, dw⟩ := @dwC_eq sp sc d A S hO n hn c u v c0 c1 z1 z2 u0 u1 (by omega) (by omega) hS
        have vb := (vD_b hO hn c0 (by omega) hs hm.1 hm.2 hw.1 hw.2 z1 z2 u0 u1 (v := v) (by omega) (by omega)).1
        have bk : ∀ (L : List (Option iV)) (rest : List iV), back (hp (A.sxy S)) (hp (A.sxy S1)) L rest = True := fun L rest => back_sxy
        generalize vD n A.now c (A.now.man c) (A.now.wom c) u v = x at *
        have tb : 1 ≤ t.1 ∧ t.1 ≤ 61 := by rcases ht with y | y <;> omega
        by_cases z3 : x < t.1
        · rw [if_pos ⟨⟨z1, z2⟩, z3⟩]
          obtain ⟨T, hT, hD, hr⟩ := ih (v + 1) S1 (x, 10 * (u + 1) + v + 1) hS1 (Or.inr ⟨by omega, by omega, by omega, by omega⟩) (by omega) (by omega)
          refine ⟨T, hT, hD, fun o9 Q hq => ?_⟩
          refine G_run (B := [68, 85]) 60 _ _ _ _ ?_
          have z4 : ¬ t.1 ≤ x := by omega
          simp (disch := first | assumption | rfl | exact inI_of (by omega) (by omega) | omega | decide | (simp only [sv_ext, sv_mc, Nat.le_refl]; done) | with_unfolding_all (refine @id _ ?_; first | exact Eq.refl _ | exact Nat.le_refl _ | assumption)) only [Nat.reduceAdd, Nat.reduceMul, Nat.reduceLeDiff, Nat.reduceLT, Int.reduceAdd, Int.reduceSub, Int.reduceMul, Int.reduceNeg, Int.reduceLE, Int.reduceLT, Int.reduceToNat, Int.reduceEq, reduceCtorEq, ld_z, ld_s, st1_0, st1_1, st1_s, st2_0, st2_1, st2_s, isJ_i, isJ_r, isJ_n, isJ_l, cs_nil, cs_i, cs_r, cs_l, kF, List.getElem?_cons_succ, List.getElem?_cons_zero, List.set_cons_zero, List.set_cons_succ, GC_s, GC_n, GK_nil, GK_no, GK_yes, not_false_eq_true, back_eq, inI_eq, inA_eq, true_and, and_true, and_self, if_true, if_false, bI_0, bI_1, bI_in, bI_T, bI_F, fitF, jmpF, nlF, pjA, iVal.eta, iYr.eta, List.getElem?_toArray, List.length_cons, List.length_nil, true_or, or_true, or_false, false_or, Classical.not_not, Bool.false_eq_true, hp_2, Nat.zero_le, Nat.le_refl, Option.some.injEq, Sum.inl.injEq, Sum.inr.injEq, not_true_eq_false, true_implies, false_implies, implies_true, Int.le_refl, rd_v, f_num, f_lik, f_dep, f_bnd, f_man, f_wom, f_sta, f_dds, f_who, rd_y, rd_y1, rd_y2, rd_y3, rd_y4, wy, wy1, wy2, wy3, wy4, sxy_mnd, sxy_now, sxy_img, sxy_yr, sxy_xy, sxy_sxy, sv_sxy, f_ord, f_bus, f_wai, f_fin, rd_e, v_now, hasOne_eq, hasTwo_eq, hasCouple_eq, orNone_eq, natureOf_eq, rd_nat, place_eq, rd_v1, rd_v3, rd_v4, rd_v6, rd_v7, rd_v8, rd_v9, rd_v10, isShelf_eq, isSide_eq, isDeed_eq, isKind_eq, isMindSpan_eq, back_sxy, back_sxy1, f_orN, gX11_deputies, en, lo, f_n1, e1, z1, z2, dw, bk, z4]
          exact hr _ Q hq
        · rw [if_neg (fun y => z3 y.2)]
          obtain ⟨T, hT, hD, hr⟩ := ih (v + 1) S1 t hS1 ht (by omega) (by omega)
          refine ⟨T, hT, hD, fun o9 Q hq => ?_⟩
          refine G_run (B := [68, 85]) 60 _ _ _ _ ?_
          have z4 : t.1 ≤ x := by omega
          simp (disch := first | assumption | rfl | exact inI_of (by omega) (by omega) | omega | decide | (simp only [sv_ext, sv_mc, Nat.le_refl]; done) | with_unfolding_all (refine @id _ ?_; first | exact Eq.refl _ | exact Nat.le_refl _ | assumption)) only [Nat.reduceAdd, Nat.reduceMul, Nat.reduceLeDiff, Nat.reduceLT, Int.reduceAdd, Int.reduceSub, Int.reduceMul, Int.reduceNeg, Int.reduceLE, Int.reduceLT, Int.reduceToNat, Int.reduceEq, reduceCtorEq, ld_z, ld_s, st1_0, st1_1, st1_s, st2_0, st2_1, st2_s, isJ_i, isJ_r, isJ_n, isJ_l, cs_nil, cs_i, cs_r, cs_l, kF, List.getElem?_cons_succ, List.getElem?_cons_zero, List.set_cons_zero, List.set_cons_succ, GC_s, GC_n, GK_nil, GK_no, GK_yes, not_false_eq_true, back_eq, inI_eq, inA_eq, true_and, and_true, and_self, if_true, if_false, bI_0, bI_1, bI_in, bI_T, bI_F, fitF, jmpF, nlF, pjA, iVal.eta, iYr.eta, List.getElem?_toArray, List.length_cons, List.length_nil, true_or, or_true, or_false, false_or, Classical.not_not, Bool.false_eq_true, hp_2, Nat.zero_le, Nat.le_refl, Option.some.injEq, Sum.inl.injEq, Sum.inr.injEq, not_true_eq_false, true_implies, false_implies, implies_true, Int.le_refl, rd_v, f_num, f_lik, f_dep, f_bnd, f_man, f_wom, f_sta, f_dds, f_who, rd_y, rd_y1, rd_y2, rd_y3, rd_y4, wy, wy1, wy2, wy3, wy4, sxy_mnd, sxy_now, sxy_img, sxy_yr, sxy_xy, sxy_sxy, sv_sxy, f_ord, f_bus, f_wai, f_fin, rd_e, v_now, hasOne_eq, hasTwo_eq, hasCouple_eq, orNone_eq, natureOf_eq, rd_nat, place_eq, rd_v1, rd_v3, rd_v4, rd_v6, rd_v7, rd_v8, rd_v9, rd_v10, isShelf_eq, isSide_eq, isDeed_eq, isKind_eq, isMindSpan_eq, back_sxy, back_sxy1, f_orN, gX11_deputies, en, lo, f_n1, e1, z1, z2, dw, bk, z4]
          exact hr _ Q hq
theorem dpC_out (hO : OkV A.now) {n : Nat} (hn : n = 60) {c w0 : Int} (iw0 : inI w0 = true) (c0 : 0 ≤ c) (c1 : c < A.now.cp) (hs : A.now.sta c = 0) {k1 : Nat} (hk : -1 + (k1 : Int) = A.now.num 1) : ∀ (k : Nat) (u : Int) (S : iXY) (t : Int × Int), goodS S → tD t → -1 ≤ u → u + k = A.now.num 0 → ∃ T : iXY, goodS T ∧ tD (dpO n A.now c (A.now.man c) (A.now.wom c) k1 k u t) ∧ ∀ (o8 o9 : Option iV) Q, (Q (some (.inl (if w0 = 0 ∨ (dpO n A.now c (A.now.man c) (A.now.wom c) k1 k u t).2 = -4 then (dpO n A.now c (A.now.man c) (A.now.wom c) k1 k u t).2 else (dpO n A.now c (A.now.man c) (A.now.wom c) k1 k u t).1))) (hp (A.sxy T))) → Run sp sc (d + 8) mX11_deputies 68 [some (.inr (.inr 2)), some (.inl c), some (.inl w0), some (.inl (A.now.man c)), some (.inl (A.now.wom c)), some (.inl t.1), some (.inl t.2), some (.inl u), o8, o9] [] (hp (A.sxy S)) Q := by
  have n0 := hO.n0
  have n1 := hO.n1
  have lo := hO.lon
  intro k
  induction k with
  | zero =>
    intro u S t hS ht h0 h1
    refine ⟨S, hS, ht, fun o8 o9 Q hq => ?_⟩
    refine G_run (B := [68, 85]) 60 _ _ _ _ ?_
    have e1 : A.now.num 0 ≤ u := by omega
    have en : (A.sxy S).now = A.now := rfl
    have it : inI t.2 = true := by rcases ht with y | y <;> exact inI_of (by omega) (by omega)
    unfold dpO at hq
    by_cases y : w0 = 0
    · rw [if_pos (Or.inl y)] at hq
      simp (disch := first | assumption | rfl | exact inI_of (by omega) (by omega) | omega | decide | (simp only [sv_ext, sv_mc, Nat.le_refl]; done) | with_unfolding_all (refine @id _ ?_; first | exact Eq.refl _ | exact Nat.le_refl _ | assumption)) only [Nat.reduceAdd, Nat.reduceMul, Nat.reduceLeDiff, Nat.reduceLT, Int.reduceAdd, Int.reduceSub, Int.reduceMul, Int.reduceNeg, Int.reduceLE, Int.reduceLT, Int.reduceToNat, Int.reduceEq, reduceCtorEq, ld_z, ld_s, st1_0, st1_1, st1_s, st2_0, st2_1, st2_s, isJ_i, isJ_r, isJ_n, isJ_l, cs_nil, cs_i, cs_r, cs_l, kF, List.getElem?_cons_succ, List.getElem?_cons_zero, List.set_cons_zero, List.set_cons_succ, GC_s, GC_n, GK_nil, GK_no, GK_yes, not_false_eq_true, back_eq, inI_eq, inA_eq, true_and, and_true, and_self, if_true, if_false, bI_0, bI_1, bI_in, bI_T, bI_F, fitF, jmpF, nlF, pjA, iVal.eta, iYr.eta, List.getElem?_toArray, List.length_cons, List.length_nil, true_or, or_true, or_false, false_or, Classical.not_not, Bool.false_eq_true, hp_2, Nat.zero_le, Nat.le_refl, Option.some.injEq, Sum.inl.injEq, Sum.inr.injEq, not_true_eq_false, true_implies, false_implies, implies_true, Int.le_refl, rd_v, f_num, f_lik, f_dep, f_bnd, f_man, f_wom, f_sta, f_dds, f_who, rd_y, rd_y1, rd_y2, rd_y3, rd_y4, wy, wy1, wy2, wy3, wy4, sxy_mnd, sxy_now, sxy_img, sxy_yr, sxy_xy, sxy_sxy, sv_sxy, f_ord, f_bus, f_wai, f_fin, rd_e, v_now, hasOne_eq, hasTwo_eq, hasCouple_eq, orNone_eq, natureOf_eq, rd_nat, place_eq, rd_v1, rd_v3, rd_v4, rd_v6, rd_v7, rd_v8, rd_v9, rd_v10, isShelf_eq, isSide_eq, isDeed_eq, isKind_eq, isMindSpan_eq, back_sxy, back_sxy1, f_orN, gX11_deputies, en, lo, f_n0, e1, eq_true y]
      exact hq
    · by_cases z : t.2 = -4
      · rw [if_pos (Or.inr z)] at hq
        simp (disch := first | assumption | rfl | exact inI_of (by omega) (by omega) | omega | decide | (simp only [sv_ext, sv_mc, Nat.le_refl]; done) | with_unfolding_all (refine @id _ ?_; first | exact Eq.refl _ | exact Nat.le_refl _ | assumption)) only [Nat.reduceAdd, Nat.reduceMul, Nat.reduceLeDiff, Nat.reduceLT, Int.reduceAdd, Int.reduceSub, Int.reduceMul, Int.reduceNeg, Int.reduceLE, Int.reduceLT, Int.reduceToNat, Int.reduceEq, reduceCtorEq, ld_z, ld_s, st1_0, st1_1, st1_s, st2_0, st2_1, st2_s, isJ_i, isJ_r, isJ_n, isJ_l, cs_nil, cs_i, cs_r, cs_l, kF, List.getElem?_cons_succ, List.getElem?_cons_zero, List.set_cons_zero, List.set_cons_succ, GC_s, GC_n, GK_nil, GK_no, GK_yes, not_false_eq_true, back_eq, inI_eq, inA_eq, true_and, and_true, and_self, if_true, if_false, bI_0, bI_1, bI_in, bI_T, bI_F, fitF, jmpF, nlF, pjA, iVal.eta, iYr.eta, List.getElem?_toArray, List.length_cons, List.length_nil, true_or, or_true, or_false, false_or, Classical.not_not, Bool.false_eq_true, hp_2, Nat.zero_le, Nat.le_refl, Option.some.injEq, Sum.inl.injEq, Sum.inr.injEq, not_true_eq_false, true_implies, false_implies, implies_true, Int.le_refl, rd_v, f_num, f_lik, f_dep, f_bnd, f_man, f_wom, f_sta, f_dds, f_who, rd_y, rd_y1, rd_y2, rd_y3, rd_y4, wy, wy1, wy2, wy3, wy4, sxy_mnd, sxy_now, sxy_img, sxy_yr, sxy_xy, sxy_sxy, sv_sxy, f_ord, f_bus, f_wai, f_fin, rd_e, v_now, hasOne_eq, hasTwo_eq, hasCouple_eq, orNone_eq, natureOf_eq, rd_nat, place_eq, rd_v1, rd_v3, rd_v4, rd_v6, rd_v7, rd_v8, rd_v9, rd_v10, isShelf_eq, isSide_eq, isDeed_eq, isKind_eq, isMindSpan_eq, back_sxy, back_sxy1, f_orN, gX11_deputies, en, lo, f_n0, e1, y, iw0, eq_true z, it]
        exact hq
      · rw [if_neg (fun u => u.elim y z)] at hq
        simp (disch := first | assumption | rfl | exact inI_of (by omega) (by omega) | omega | decide | (simp only [sv_ext, sv_mc, Nat.le_refl]; done) | with_unfolding_all (refine @id _ ?_; first | exact Eq.refl _ | exact Nat.le_refl _ | assumption)) only [Nat.reduceAdd, Nat.reduceMul, Nat.reduceLeDiff, Nat.reduceLT, Int.reduceAdd, Int.reduceSub, Int.reduceMul, Int.reduceNeg, Int.reduceLE, Int.reduceLT, Int.reduceToNat, Int.reduceEq, reduceCtorEq, ld_z, ld_s, st1_0, st1_1, st1_s, st2_0, st2_1, st2_s, isJ_i, isJ_r, isJ_n, isJ_l, cs_nil, cs_i, cs_r, cs_l, kF, List.getElem?_cons_succ, List.getElem?_cons_zero, List.set_cons_zero, List.set_cons_succ, GC_s, GC_n, GK_nil, GK_no, GK_yes, not_false_eq_true, back_eq, inI_eq, inA_eq, true_and, and_true, and_self, if_true, if_false, bI_0, bI_1, bI_in, bI_T, bI_F, fitF, jmpF, nlF, pjA, iVal.eta, iYr.eta, List.getElem?_toArray, List.length_cons, List.length_nil, true_or, or_true, or_false, false_or, Classical.not_not, Bool.false_eq_true, hp_2, Nat.zero_le, Nat.le_refl, Option.some.injEq, Sum.inl.injEq, Sum.inr.injEq, not_true_eq_false, true_implies, false_implies, implies_true, Int.le_refl, rd_v, f_num, f_lik, f_dep, f_bnd, f_man, f_wom, f_sta, f_dds, f_who, rd_y, rd_y1, rd_y2, rd_y3, rd_y4, wy, wy1, wy2, wy3, wy4, sxy_mnd, sxy_now, sxy_img, sxy_yr, sxy_xy, sxy_sxy, sv_sxy, f_ord, f_bus, f_wai, f_fin, rd_e, v_now, hasOne_eq, hasTwo_eq, hasCouple_eq, orNone_eq, natureOf_eq, rd_nat, place_eq, rd_v1, rd_v3, rd_v4, rd_v6, rd_v7, rd_v8, rd_v9, rd_v10, isShelf_eq, isSide_eq, isDeed_eq, isKind_eq, isMindSpan_eq, back_sxy, back_sxy1, f_orN, gX11_deputies, en, lo, f_n0, e1, y, iw0, z, it]
        exact hq
  | succ k ih =>
    intro u S t hS ht h0 h1
    have e1 : ¬ A.now.num 0 ≤ u := by omega
    have en : (A.sxy S).now = A.now := rfl
    obtain ⟨S1, hS1, ht1, hr1⟩ := @dpC_in sp sc d A hO n hn c w0 u c0 c1 hs h0 (by omega) k1 (-1) S t hS ht (by omega) hk
    obtain ⟨T, hT, hD, hr⟩ := ih (u + 1) S1 (dpI n A.now c (A.now.man c) (A.now.wom c) u k1 (-1) t) hS1 ht1 (by omega) (by omega)
    refine ⟨T, hT, hD, fun o8 o9 Q hq => ?_⟩
    refine G_run (B := [68, 85]) 60 _ _ _ _ ?_
    simp (disch := first | assumption | rfl | exact inI_of (by omega) (by omega) | omega | decide | (simp only [sv_ext, sv_mc, Nat.le_refl]; done) | with_unfolding_all (refine @id _ ?_; first | exact Eq.refl _ | exact Nat.le_refl _ | assumption)) only [Nat.reduceAdd, Nat.reduceMul, Nat.reduceLeDiff, Nat.reduceLT, Int.reduceAdd, Int.reduceSub, Int.reduceMul, Int.reduceNeg, Int.reduceLE, Int.reduceLT, Int.reduceToNat, Int.reduceEq, reduceCtorEq, ld_z, ld_s, st1_0, st1_1, st1_s, st2_0, st2_1, st2_s, isJ_i, isJ_r, isJ_n, isJ_l, cs_nil, cs_i, cs_r, cs_l, kF, List.getElem?_cons_succ, List.getElem?_cons_zero, List.set_cons_zero, List.set_cons_succ, GC_s, GC_n, GK_nil, GK_no, GK_yes, not_false_eq_true, back_eq, inI_eq, inA_eq, true_and, and_true, and_self, if_true, if_false, bI_0, bI_1, bI_in, bI_T, bI_F, fitF, jmpF, nlF, pjA, iVal.eta, iYr.eta, List.getElem?_toArray, List.length_cons, List.length_nil, true_or, or_true, or_false, false_or, Classical.not_not, Bool.false_eq_true, hp_2, Nat.zero_le, Nat.le_refl, Option.some.injEq, Sum.inl.injEq, Sum.inr.injEq, not_true_eq_false, true_implies, false_implies, implies_true, Int.le_refl, rd_v, f_num, f_lik, f_dep, f_bnd, f_man, f_wom, f_sta, f_dds, f_who, rd_y, rd_y1, rd_y2, rd_y3, rd_y4, wy, wy1, wy2, wy3, wy4, sxy_mnd, sxy_now, sxy_img, sxy_yr, sxy_xy, sxy_sxy, sv_sxy, f_ord, f_bus, f_wai, f_fin, rd_e, v_now, hasOne_eq, hasTwo_eq, hasCouple_eq, orNone_eq, natureOf_eq, rd_nat, place_eq, rd_v1, rd_v3, rd_v4, rd_v6, rd_v7, rd_v8, rd_v9, rd_v10, isShelf_eq, isSide_eq, isDeed_eq, isKind_eq, isMindSpan_eq, back_sxy, back_sxy1, f_orN, gX11_deputies, en, lo, f_n0, e1]
    exact hr1 _ Q (fun o8 o9 => hr o8 o9 Q hq)
end OPS
