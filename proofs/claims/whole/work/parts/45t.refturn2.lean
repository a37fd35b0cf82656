set_option maxRecDepth 16384
section RT
variable {sp : Nat → List iV → iH → Option (Option iV × iH)} {sc : List Int} {d : Nat} {A : iA} {r : iR} {R : iRy} {h : iH} {Q : Option iV → iH → Prop} {X : iVal} {e g B : Int} {S : iXY}
section TS
variable {c n a b man wom : Int} {o4 o5 o6 o9 : Option iV} {l l' : List Int} {R' : iRy}
theorem turn_109 (hm : ∀ Q, Call sp sc (d + 3) mX12_meet [.inr (.inr (rb r + 2)), .inl a, .inl b] (hp (A.sro r l R)) Q = Q none (hp (A.sro r l' R))) (k : Run sp sc (d + 4) mX12_turn 117 [some (.inr (.inr 140)), some (.inr (.inr (rb r + 2))), some (.inl c), some (.inl n), some (.inl man), some (.inl wom), o6, some (.inl a), some (.inl b), o9] [] (hp (A.sro r l' R)) Q) : Run sp sc (d + 4) mX12_turn 109 [some (.inr (.inr 140)), some (.inr (.inr (rb r + 2))), some (.inl c), some (.inl n), some (.inl man), some (.inl wom), o6, some (.inl a), some (.inl b), o9] [] (hp (A.sro r l R)) Q := by
  refine G_run (B := [109, 117, 143, 175, 216, 260]) 60 _ _ _ _ ?_
  simp (disch := first | assumption | rfl | exact inI_of (by omega) (by omega) | omega | decide | (simp only [sv_ext, sv_mc, Nat.le_refl]; done) | with_unfolding_all (refine @id _ ?_; first | exact Eq.refl _ | exact Nat.le_refl _ | assumption)) only [Nat.reduceAdd, Nat.reduceMul, Nat.reduceLeDiff, Nat.reduceLT, Int.reduceAdd, Int.reduceSub, Int.reduceMul, Int.reduceNeg, Int.reduceLE, Int.reduceLT, Int.reduceToNat, Int.reduceEq, reduceCtorEq, ld_z, ld_s, st1_0, st1_1, st1_s, st2_0, st2_1, st2_s, isJ_i, isJ_r, isJ_n, isJ_l, cs_nil, cs_i, cs_r, cs_l, kF, List.getElem?_cons_succ, List.getElem?_cons_zero, List.set_cons_zero, List.set_cons_succ, GC_s, GC_n, GK_nil, GK_no, GK_yes, not_false_eq_true, back_eq, inI_eq, inA_eq, true_and, and_true, and_self, if_true, if_false, bI_0, bI_1, bI_in, bI_T, bI_F, fitF, jmpF, nlF, pjA, iVal.eta, iYr.eta, List.getElem?_toArray, List.length_cons, List.length_nil, true_or, or_true, or_false, false_or, Classical.not_not, Bool.false_eq_true, hp_2, Nat.zero_le, Nat.le_refl, Option.some.injEq, Sum.inl.injEq, Sum.inr.injEq, not_true_eq_false, true_implies, false_implies, implies_true, iRy.pj, back_sro, back_sro1, rd_r, rd_o, rd_o_wt, rd_o_en, rd_o_od, sro_rr, sro_srr, sro_sro, sro_wt, sro_en, sro_od, sro_dn, sro_sm, sro_sf, sro_go, wro_wt, wro_en, wro_od, wro_r, wro_o, row_len, inA_one, inA_lik, inA_cpl, gX12_turn_m, hm]
  exact k
theorem turn_0 (hO : OkV X) (h0 : 0 ≤ c) (h1 : c < X.cp) (hs : X.sta c = 0) (ea : X.doer 0 c = a) (eb : X.doer 1 c = b) (lw : R.wt.length = 4) (kW : (0 ≤ X.bnd 0 a ∨ 0 ≤ X.bnd 1 b ∨ bAnd (bShr n a) 1 = 1 ∨ bAnd (bShr n (5 + b)) 1 = 1) → Q (some (.inl n)) (hp (A.sro r (rowOf X e) (iRy.mk (R.wt.set c.toNat (R.wt.getD c.toNat 0 + 1)) R.en R.od R.dn R.sm R.sf R.go)))) (k : ¬ (0 ≤ X.bnd 0 a ∨ 0 ≤ X.bnd 1 b ∨ bAnd (bShr n a) 1 = 1 ∨ bAnd (bShr n (5 + b)) 1 = 1) → ∀ o6 o9, Run sp sc (d + 4) mX12_turn 109 [some (.inr (.inr 140)), some (.inr (.inr (rb r + 2))), some (.inl c), some (.inl n), some (.inl (X.man c)), some (.inl (X.wom c)), o6, some (.inl a), some (.inl b), o9] [] (hp (A.sro r (rowOf X e) R)) Q) : Run sp sc (d + 4) mX12_turn 0 [some (.inr (.inr 140)), some (.inr (.inr (rb r + 2))), some (.inl c), some (.inl n), none, none, none, none, none, none] [] (hp (A.sro r (rowOf X e) R)) Q := by
  have hcp := hO.cp
  have n0 := hO.n0
  have n1 := hO.n1
  have em := hO.man c h0 h1
  have ew := hO.wom c h0 h1
  have ed := hO.dds c h0 (by omega)
  have eg := hO.ddg c h0 (by omega) hs
  have ewh := hO.who (X.dds c) (by omega) (by omega)
  have da := doer_b hO (s := 0) (c := c) (by omega) (by omega) h0 h1
  have db := doer_b hO (s := 1) (c := c) (by omega) (by omega) h0 h1
  have fa : X.stepF 0 (X.who (X.dds c)).toNat (X.man c) = X.doer 0 c := rfl
  have fb' : X.stepF 1 (X.who (X.dds c)).toNat (X.wom c) = X.doer 1 c := rfl
  rw [ea] at da fa
  rw [eb] at db fb'
  have b0 := bnd_ge hO (s := 0) (k := a) (by omega) (by omega) da.1 (by omega)
  have b1 := bnd_ge hO (s := 1) (k := b) (by omega) (by omega) db.1 (by omega)
  clear ea eb
  refine G_run (B := [109, 117, 143, 175, 216, 260]) 90 _ _ _ _ ?_
  simp (disch := first | assumption | rfl | exact inI_of (by omega) (by omega) | omega | decide | (simp only [sv_ext, sv_mc, Nat.le_refl]; done) | with_unfolding_all (refine @id _ ?_; first | exact Eq.refl _ | exact Nat.le_refl _ | assumption)) only [Nat.reduceAdd, Nat.reduceMul, Nat.reduceLeDiff, Nat.reduceLT, Int.reduceAdd, Int.reduceSub, Int.reduceMul, Int.reduceNeg, Int.reduceLE, Int.reduceLT, Int.reduceToNat, Int.reduceEq, reduceCtorEq, ld_z, ld_s, st1_0, st1_1, st1_s, st2_0, st2_1, st2_s, isJ_i, isJ_r, isJ_n, isJ_l, cs_nil, cs_i, cs_r, cs_l, kF, List.getElem?_cons_succ, List.getElem?_cons_zero, List.set_cons_zero, List.set_cons_succ, GC_s, GC_n, GK_nil, GK_no, GK_yes, not_false_eq_true, back_eq, inI_eq, inA_eq, true_and, and_true, and_self, if_true, if_false, bI_0, bI_1, bI_in, bI_T, bI_F, fitF, jmpF, nlF, pjA, iVal.eta, iYr.eta, List.getElem?_toArray, List.length_cons, List.length_nil, true_or, or_true, or_false, false_or, Classical.not_not, Bool.false_eq_true, hp_2, Nat.zero_le, Nat.le_refl, Option.some.injEq, Sum.inl.injEq, Sum.inr.injEq, not_true_eq_false, true_implies, false_implies, implies_true, iRy.pj, back_sro, back_sro1, rd_r, rd_o, rd_o_wt, rd_o_en, rd_o_od, sro_rr, sro_srr, sro_sro, sro_wt, sro_en, sro_od, sro_dn, sro_sm, sro_sf, sro_go, wro_wt, wro_en, wro_od, wro_r, wro_o, row_len, inA_one, inA_lik, inA_cpl, gX12_turn_m, atCouple_eq, q_man, q_wom, q_dds, r_who, doerR_eq, fa, fb', atOne_eq, q_bnd, has_eq, lw]
  refine ⟨fun z => kW (Or.inl z), fun z1 => ⟨fun z => kW (Or.inr (Or.inl z)), fun z2 => ⟨fun z => kW ?_, fun z3 => ⟨fun z => k ?_ _ _, fun z => kW ?_⟩⟩⟩⟩
  · omega
  · omega
  · omega
end TS
/-- behind the meeting: a slip, or the deed -/
def afterA (T : iXY) (c a b : Int) : iXY := if ¬ (a = T.1.man c ∧ b = T.1.wom c) ∧ T.1.sl < T.1.lik 0 a b ∧ T.1.sl < T.1.lik 1 b a then slipA T c a b else deedA T c
theorem after_run {a b n : Int} {o6 o9 : Option iV} {T : iXY} (hT : OkS T B) (hB : B ≤ 100000) (hg : T.2.ps = g + 1) (hg0 : 0 ≤ g) {c : Int} (h0 : 0 ≤ c) (h1 : c < T.1.cp) (hs : T.1.sta c = 0) (ha : 0 ≤ a) (ha2 : a < T.1.num 0) (hb : 0 ≤ b) (hb2 : b < T.1.num 1) (hq : Q (some (.inl (bOr (bOr n (bShl 1 a)) (bShl 1 (5 + b))))) (hp (A.sro r (rowOf (afterA T c a b).1 e) (ryOf (afterA T c a b).2 g)))) : Run sp sc (d + 4) mX12_turn 117 [some (.inr (.inr 140)), some (.inr (.inr (rb r + 2))), some (.inl c), some (.inl n), some (.inl (T.1.man c)), some (.inl (T.1.wom c)), o6, some (.inl a), some (.inl b), o9] [] (hp (A.sro r (rowOf T.1 e) (ryOf T.2 g))) Q := by
  have hO := hT.1
  have hY := hT.2
  have hcp := hO.cp
  have n0 := hO.n0
  have n1 := hO.n1
  have em := hO.man c h0 h1
  have ew := hO.wom c h0 h1
  have eg := hO.ddg c h0 (by omega) hs
  have ed := hO.dds c h0 (by omega)
  have hsp := hY.sp
  have hfs := hY.fs
  have hdn := hY.dn
  have hdeed : ¬ (¬ (a = T.1.man c ∧ b = T.1.wom c) ∧ T.1.sl < T.1.lik 0 a b ∧ T.1.sl < T.1.lik 1 b a) → ∀ o9, Run sp sc (d + 4) mX12_turn 216 [some (.inr (.inr 140)), some (.inr (.inr (rb r + 2))), some (.inl c), some (.inl n), some (.inl (T.1.man c)), some (.inl (T.1.wom c)), o6, some (.inl a), some (.inl b), o9] [] (hp (A.sro r (rowOf T.1 e) (ryOf T.2 g))) Q := fun z o9 => by
    unfold afterA at hq
    rw [if_neg z] at hq
    unfold deedA at hq
    by_cases z6 : T.1.dds c + 1 < 6
    · rw [if_pos z6] at hq
      exact turn_deed1 hO.ldd h0 (by omega) (inI_of (by omega) (by omega)) (by omega) hq
    · rw [if_neg z6] at hq
      have e1 : OkV ((T.1.inc c).sst c 1) := okV_inc6 hO h0 h1 (by omega)
      have e2 : OkV (((T.1.inc c).sst c 1).bind (T.1.man c) (T.1.wom c)) := okV_bind e1 em.1 em.2 ew.1 ew.2
      have e0 : OkS (T.1, (iYr.mk T.2.od T.2.bz T.2.wt T.2.en T.2.ps (T.2.dn + 1) T.2.sp T.2.fs)) (B + 1) := ⟨hO, (OkY.mk (hY.mono (by omega : B ≤ B + 1)).lod (hY.mono (by omega : B ≤ B + 1)).lbz (hY.mono (by omega : B ≤ B + 1)).lwt (hY.mono (by omega : B ≤ B + 1)).len (hY.mono (by omega : B ≤ B + 1)).ord (hY.mono (by omega : B ≤ B + 1)).inj (hY.mono (by omega : B ≤ B + 1)).bus (hY.mono (by omega : B ≤ B + 1)).wai (hY.mono (by omega : B ≤ B + 1)).fin (hY.mono (by omega : B ≤ B + 1)).ps (by show 0 ≤ T.2.dn + 1 ∧ T.2.dn + 1 ≤ B + 1; omega) (hY.mono (by omega : B ≤ B + 1)).sp (hY.mono (by omega : B ≤ B + 1)).fs)⟩
      have e3 := okS_end e0 h0 h1 (by omega : (1 : Int) ≤ 1) (by omega)
      have hE : OkS (endA ((T.1.inc c).bind (T.1.man c) (T.1.wom c), (iYr.mk T.2.od T.2.bz T.2.wt T.2.en T.2.ps (T.2.dn + 1) T.2.sp T.2.fs)) c 1) (B + 1) := ⟨e2, e3.2.cpc rfl⟩
      have bR := fun Q => @bindR_eq sp sc d A r Q e g (B + 1) (T.1.inc c, (iYr.mk T.2.od T.2.bz T.2.wt T.2.en T.2.ps (T.2.dn + 1) T.2.sp T.2.fs)) c 1 (T.1.man c) (T.1.wom c) hE hg hg0 h0 h1 em.1 em.2 ew.1 ew.2
      exact turn_deed2 (R := ryOf T.2 g) hO.ldd h0 (by omega) (by omega) bR hq
  refine turn_117 (inI_of (by omega) (by omega)) (inI_of (by omega) (by omega)) (inI_of (by omega) (by omega)) (inI_of (by omega) (by omega)) (fun z o9 => ?_) (fun z o9 => hdeed (fun y => y.1 z) o9)
  refine turn_143 ha ha2 hb hb2 n0.2 n1.2 hO.sl (hO.lik 0 a b (by omega) (by omega) ha (by omega) hb (by omega)) (hO.lik 1 b a (by omega) (by omega) hb (by omega) ha (by omega)) (fun y => ?_) (fun y => hdeed (fun x => y x.2) o9)
  have hE := okS_end (S := (T.1.bind a b, T.2)) ⟨okV_bind hO ha ha2 hb hb2, hY.cpc rfl⟩ h0 h1 (by omega : (1 : Int) ≤ 2) (by omega)
  have sb := (okS_bind hT h0 h1 (by omega : (1 : Int) ≤ 2) (by omega) ha ha2 hb hb2).2
  have s1 : (bindA T c 2 a b).2.sp = T.2.sp := by rw [sb.2]; rfl
  have s2 : (bindA T c 2 a b).2.fs = T.2.fs := by rw [sb.2]; rfl
  have s3 : (bindA T c 2 a b).2.ps = T.2.ps := by rw [sb.2]; rfl
  have s4 := slipR (g := g) (Y := (bindA T c 2 a b).2) (by omega) (by omega) (by omega)
  have bR := fun Q => @bindR_eq sp sc d A r Q e g B T c 2 a b hE hg hg0 h0 h1 ha ha2 hb hb2
  have es : slipA T c a b = ((bindA T c 2 a b).1, slipY (bindA T c 2 a b).2) := slip_bind
  unfold afterA at hq
  rw [if_pos ⟨z, y⟩, es] at hq
  dsimp only at hq
  rw [← s4] at hq
  refine turn_slip (R' := ryOf (bindA T c 2 a b).2 g) bR ?_ hq
  show inI (sfR (bindA T c 2 a b).2) = true
  unfold sfR
  split <;> exact inI_of (by omega) (by omega)
theorem turnR_eq (hS : OkS S B) (hB : B ≤ 100000) (hg : S.2.ps = g + 1) (hg0 : 0 ≤ g) {n : Nat} (hn : n < 1024) (hb : S.2.bz = bitsL n) {c : Int} (h0 : 0 ≤ c) (h1 : c < S.1.cp) (hs : S.1.sta c = 0) : Call sp sc (d + 4) mX12_turn [.inr (.inr 140), .inr (.inr (rb r + 2)), .inl c, .inl (n : Int)] (hp (A.sro r (rowOf S.1 e) (ryOf S.2 g))) Q = Q (some (.inl (busN S c n))) (hp (A.sro r (rowOf (turnA S c).1 e) (ryOf (turnA S c).2 g))) := Call_eq (by
  have hO := hS.1
  have hY := hS.2
  have hcp := hO.cp
  have n0 := hO.n0
  have n1 := hO.n1
  have da := doer_b hO (s := 0) (c := c) (by omega) (by omega) h0 h1
  have db := doer_b hO (s := 1) (c := c) (by omega) (by omega) h0 h1
  have b0 := bnd_ge hO (s := 0) (k := S.1.doer 0 c) (by omega) (by omega) da.1 (by omega)
  have b1 := bnd_ge hO (s := 1) (k := S.1.doer 1 c) (by omega) (by omega) db.1 (by omega)
  have hb0 := has_bus hn hb (k := S.1.doer 0 c) da.1 (by omega)
  have hb1 := has_bus hn hb (k := 5 + S.1.doer 1 c) (by omega) (by omega)
  have m0 : metA S c ↔ ¬ ((¬ S.1.bnd 0 (S.1.doer 0 c) = -1 ∨ S.2.bus (S.1.doer 0 c) = 1) ∨ (¬ S.1.bnd 1 (S.1.doer 1 c) = -1 ∨ S.2.bus (5 + S.1.doer 1 c) = 1)) := by
    unfold metA isTak
    rw [Int.zero_mul, Int.zero_add, Int.one_mul]
  have m1 : metA S c ↔ ¬ (0 ≤ S.1.bnd 0 (S.1.doer 0 c) ∨ 0 ≤ S.1.bnd 1 (S.1.doer 1 c) ∨ bAnd (bShr (n : Int) (S.1.doer 0 c)) 1 = 1 ∨ bAnd (bShr (n : Int) (5 + S.1.doer 1 c)) 1 = 1) := by
    rw [m0, hb0, hb1]; omega
  refine call_of (by decide) rfl rfl rfl ?_
  refine turn_0 (X := S.1) (R := ryOf S.2 g) (a := S.1.doer 0 c) (b := S.1.doer 1 c) (n := n) (e := e) (A := A) (r := r) hO h0 h1 hs rfl rfl hY.lwt (fun z => ?_) (fun z o6 o9 => ?_)
  · have m : ¬ metA S c := fun y => m1.mp y z
    have et : turnA S c = (S.1, waitY S.2 c) := by unfold turnA; rw [if_neg m]
    have eb : busN S c n = n := by unfold busN; rw [if_neg m]
    rw [et, eb]
    exact ⟨rfl, rfl⟩
  · have m : metA S c := m1.mpr z
    have eb : busN S c n = bOr (bOr n (bShl 1 (S.1.doer 0 c))) (bShl 1 (5 + S.1.doer 1 c)) := by unfold busN; rw [if_pos m]
    have hM := okV_meet hO da.1 da.2 db.1 db.2
    have hK := (okV_sulk hM (a := S.1.doer 0 c) (b := S.1.doer 1 c)).1
    have hT : OkS ((S.1.meet (S.1.doer 0 c) (S.1.doer 1 c)).sulk (S.1.doer 0 c) (S.1.doer 1 c), busyY S.2 (S.1.doer 0 c) (S.1.doer 1 c)) B :=
      ⟨hK, (okY_busy hY da.1 (by omega) db.1 (by omega)).cpc (by rw [sk_at] <;> rfl)⟩
    have et : turnA S c = afterA ((S.1.meet (S.1.doer 0 c) (S.1.doer 1 c)).sulk (S.1.doer 0 c) (S.1.doer 1 c), busyY S.2 (S.1.doer 0 c) (S.1.doer 1 c)) c (S.1.doer 0 c) (S.1.doer 1 c) := by
      unfold turnA afterA; rw [if_pos m]
      dsimp only
      rw [sk_man, sk_wom]
    have mR := fun Q => @meetR_eq sp sc d A r (ryOf S.2 g) Q S.1 e hO _ _ da.1 da.2 db.1 db.2
    rw [et, eb]
    refine turn_109 mR ?_
    have k := @after_run sp sc d A r (fun x y => x = some (.inl (bOr (bOr (n : Int) (bShl 1 (S.1.doer 0 c))) (bShl 1 (5 + S.1.doer 1 c)))) ∧ y = hp (A.sro r (rowOf (afterA ((S.1.meet (S.1.doer 0 c) (S.1.doer 1 c)).sulk (S.1.doer 0 c) (S.1.doer 1 c), busyY S.2 (S.1.doer 0 c) (S.1.doer 1 c)) c (S.1.doer 0 c) (S.1.doer 1 c)).1 e) (ryOf (afterA ((S.1.meet (S.1.doer 0 c) (S.1.doer 1 c)).sulk (S.1.doer 0 c) (S.1.doer 1 c), busyY S.2 (S.1.doer 0 c) (S.1.doer 1 c)) c (S.1.doer 0 c) (S.1.doer 1 c)).2 g))) e g B (S.1.doer 0 c) (S.1.doer 1 c) n o6 o9 _ hT hB hg hg0 c h0 (by show c < ((S.1.meet (S.1.doer 0 c) (S.1.doer 1 c)).sulk (S.1.doer 0 c) (S.1.doer 1 c)).cp; rw [sk_at]; exact h1) (by show ((S.1.meet (S.1.doer 0 c) (S.1.doer 1 c)).sulk (S.1.doer 0 c) (S.1.doer 1 c)).sta c = 0; rw [sk_at]; exact hs) da.1 (by show S.1.doer 0 c < ((S.1.meet (S.1.doer 0 c) (S.1.doer 1 c)).sulk (S.1.doer 0 c) (S.1.doer 1 c)).num 0; rw [sk_at]; exact da.2) db.1 (by show S.1.doer 1 c < ((S.1.meet (S.1.doer 0 c) (S.1.doer 1 c)).sulk (S.1.doer 0 c) (S.1.doer 1 c)).num 1; rw [sk_at]; exact db.2) ⟨rfl, rfl⟩
    dsimp only at k
    rw [sk_man, sk_wom] at k
    exact k)
end RT
