set_option maxRecDepth 16384
/-! ===== valley: a statement, both sides ===== -/
def lenR (R : iRy) : Prop := R.wt.length = 4 ∧ R.en.length = 4 ∧ R.od.length = 4
def dyOK (S : iXY) : Prop := 0 ≤ S.1.dy ∧ S.1.dy ≤ 999
def Both (sp : Nat → List iV → iH → Option (Option iV × iH)) (sc : List Int) (A : iA) (S : iXY) (D : Nat) (l : List Int) (z p B : Int) : Prop :=
  ∃ (r : Int) (T : iXY), (r = 0 ∨ r = 1) ∧ OkS T (B + 300) ∧ T.2.od = [0, 1, 2, 3] ∧ dyOK T ∧
    (∀ Q, Call sp sc 18 mX11_doStatement [.inr (.inr 2), .inr (.inr (107 + 2 * D + 2)), .inl p] (hp (A.sxy S)) Q = Q (some (.inl r)) (hp (A.sxy T))) ∧
    (∀ (A2 : iA) (R : iRy), lenR R → A2.mo.nu.length = 4 → nuOK l z p A2.mo.nu → ∃ R', lenR R' ∧ ∀ Q, Call sp sc 18 mX12_isDone [.inr (.inr 140), .inl (bFc l z p)] (hp (A2.sro .s (rowOf S.1 S.1.dy) R)) Q = Q (some (.inl r)) (hp (A2.sro .s (rowOf T.1 T.1.dy) R')))
section OPS
variable {sp : Nat → List iV → iH → Option (Option iV × iH)} {sc : List Int} {d : Nat} {A A' : iA} {Q : Option iV → iH → Prop} {h : iH} {X : iVal} {D : Nat} {l nu nu2 : List Int} {z i x p p2 B e : Int} {w : iW} {S T : iXY} {c a b t : Int} {R : iRy}
theorem okS_mono (hS : OkS S B) {B' : Int} (hB : B ≤ B') : OkS S B' := ⟨hS.1, hS.2.mono hB⟩
theorem okS_od (hS : OkS S B) (ho : S.2.od = [0, 1, 2, 3]) (hX : OkV X) : OkS (X, S.2) B := by
  have hcp := hX.cp
  have h2 := hS.2
  have c4 : ∀ i : Int, 0 ≤ i → i < 4 → i = 0 ∨ i = 1 ∨ i = 2 ∨ i = 3 := fun i a b => by omega
  have h4 : ∀ i : Int, 0 ≤ i → i < 4 → S.2.ord i = i := fun i a b => by
    show S.2.od.getD i.toNat 0 = i
    rw [ho]
    rcases c4 i a b with rfl | rfl | rfl | rfl <;> rfl
  refine ⟨hX, OkY.mk h2.lod h2.lbz h2.lwt h2.len (fun i a b => ?_) (fun i j a b c e z => ?_) h2.bus h2.wai h2.fin h2.ps h2.dn h2.sp h2.fs⟩
  · have b : i < X.cp := b
    show 0 ≤ S.2.ord i ∧ S.2.ord i < X.cp
    rw [h4 i a (by omega)]; exact ⟨a, b⟩
  · have b : i < X.cp := b
    have e : j < X.cp := e
    have z : S.2.ord i = S.2.ord j := z
    rw [h4 i a (by omega), h4 j c (by omega)] at z; exact z
theorem od_days : ∀ (n : Nat) (S : iXY) (B : Int), OkS S B → (daysA n S).2.od = S.2.od := by
  intro n
  induction n with
  | zero => intro S B h; rfl
  | succ n ih =>
    intro S B h
    have k := okS_day h
    have hcp := h.1.cp
    have t : sameT (dawn S) (dayA S) := (dayF_ok S.1.cp.toNat 0 (dawn S) (B + 1) (okS_dawn h) (by omega) (by show 0 + (S.1.cp.toNat : Int) = S.1.cp; omega)).2
    have t2 : (dayA S).2.od = S.2.od := t.2.2.2.2.2.2.2.2.2.1
    show (daysA n (dayA S)).2.od = _
    rw [ih (dayA S) (B + 5) k.1, t2]
theorem sro_sS {l l2 : List Int} : (A.sro .s l R).sS l2 = A.sro .s l2 R := rfl
theorem both_no (hS : OkS S B) (ho : S.2.od = [0, 1, 2, 3]) (hy : dyOK S) (k1 : ∀ Q, Call sp sc 18 mX11_doStatement [.inr (.inr 2), .inr (.inr (107 + 2 * D + 2)), .inl p] (hp (A.sxy S)) Q = Q (some (.inl 0)) (hp (A.sxy S))) (k2 : ∀ (A1 : iA), A1.mo.s = rowOf S.1 S.1.dy → A1.mo.nu.length = 4 → nuOK l z p A1.mo.nu → ∀ Q, Call sp sc 18 mX12_isDone [.inr (.inr 140), .inl (bFc l z p)] (hp A1) Q = Q (some (.inl 0)) (hp A1)) : Both sp sc A S D l z p B :=
  ⟨0, S, Or.inl rfl, okS_mono hS (by omega), ho, hy, k1, fun A2 R hR ln hn => ⟨R, hR, k2 (A2.sro .s (rowOf S.1 S.1.dy) R) sro_ss ln hn⟩⟩
theorem both_yes (hS : OkS S B) (ho : S.2.od = [0, 1, 2, 3]) (hy : dyOK S) (X' : iVal) (hX : OkV X') (ey : X'.dy = S.1.dy) (k1 : ∀ Q, Call sp sc 18 mX11_doStatement [.inr (.inr 2), .inr (.inr (107 + 2 * D + 2)), .inl p] (hp (A.sxy S)) Q = Q (some (.inl 1)) (hp (A.sxy (X', S.2)))) (k2 : ∀ (A1 : iA), A1.mo.s = rowOf S.1 S.1.dy → A1.mo.nu.length = 4 → nuOK l z p A1.mo.nu → ∀ Q, Call sp sc 18 mX12_isDone [.inr (.inr 140), .inl (bFc l z p)] (hp A1) Q = Q (some (.inl 1)) (hp (A1.sS (rowOf X' S.1.dy)))) : Both sp sc A S D l z p B := by
  refine ⟨1, (X', S.2), Or.inr rfl, okS_od (okS_mono hS (by omega)) ho hX, ho, ?_, k1, fun A2 R hR ln hn => ⟨R, hR, fun Q => ?_⟩⟩
  · show 0 ≤ X'.dy ∧ X'.dy ≤ 999
    rw [ey]; exact hy
  · have k := k2 (A2.sro .s (rowOf S.1 S.1.dy) R) sro_ss ln hn Q
    rw [sro_sS] at k
    show _ = Q (some (.inl 1)) (hp (A2.sro .s (rowOf X' X'.dy) R))
    rw [ey]; exact k
theorem both_day (hd : D < 8) (hT : okT A D l z) (hS : OkS S B) (hB : B ≤ 80000) (ho : S.2.od = [0, 1, 2, 3]) (hy : dyOK S) (h0 : 0 ≤ p) (h1 : p ≤ 150) (es : stmF l z p = -1) (y : bFc l z p = 121) : Both sp sc A S D l z p B := by
  have hR := RdS_of (sp := sp) (sc := sc) (S := S) hT h0 h1
  have hk : dbF (bFc l z p) = 2 := by rw [y]; rfl
  have g := (stm_dig hk es h0).2
  have g1 := g 1 (by omega) (by omega)
  have g2 := g 2 (by omega) (by omega)
  rw [y] at hR
  obtain ⟨n, hn⟩ : ∃ n : Nat, 10 * (bFc l z (p + 1) - 48) + (bFc l z (p + 2) - 48) = (n : Int) := ⟨(10 * (bFc l z (p + 1) - 48) + (bFc l z (p + 2) - 48)).toNat, by omega⟩
  by_cases k : 1 ≤ n ∧ n ≤ 60 ∧ S.1.dy + n ≤ 999
  · have od := okS_days n S B hS
    have ed := days_dy n S B hS
    have h00 := okS_yr0 hS.1 hS.2.lbz hS.2.bus
    have od2 := okS_days n (S.1, yr0 [0, 1, 2, 3] S.2.bz) 0 h00
    have sd := sd_days n S (S.1, yr0 [0, 1, 2, 3] S.2.bz) rfl ho
    refine ⟨1, daysA n S, Or.inr rfl, okS_mono od.1 (by omega), by rw [od_days n S B hS]; exact ho, ?_, fun Q => (dsY_eq hd hS (by omega) hR hn hy (by omega)).1 k, fun A2 R hR2 ln hu => ⟨ryOf (daysA n (S.1, yr0 [0, 1, 2, 3] S.2.bz)).2 n, ⟨od2.1.2.lwt, ?_, od2.1.2.lod⟩, fun Q => ?_⟩⟩
    · have := hy.1
      show 0 ≤ (daysA n S).1.dy ∧ (daysA n S).1.dy ≤ 999
      omega
    · show (enR (daysA n (S.1, yr0 [0, 1, 2, 3] S.2.bz)).2.en).length = 4
      rw [enR_len]; exact od2.1.2.len
    · have n0 : A2.mo.nu.getD 0 0 = (n : Int) := (hu.2.1 (Or.inr y)).trans hn
      have q := drY_ok (sp := sp) (sc := sc) (A := A2) (Q := Q) (R := R) hS.1 hy hR2.1 hR2.2.1 hR2.2.2 hS.2.lbz hS.2.bus k.1 k.2.1 k.2.2 ln n0
      rw [y, ed, sd.1]
      exact q
  · refine both_no hS ho hy (fun Q => (dsY_eq hd hS (by omega) hR hn hy (by omega)).2 k) (fun A1 hr ln hu Q => ?_)
    rw [y]
    exact drY_no hr hy (by omega) k ln ((hu.2.1 (Or.inr y)).trans hn)
theorem both_two (hd : D < 8) (hT : okT A D l z) (hS : OkS S B) (ho : S.2.od = [0, 1, 2, 3]) (hy : dyOK S) (h0 : 0 ≤ p) (h1 : p ≤ 150) (es : stmF l z p = -1) (y : bFc l z p = 97 ∨ bFc l z p = 99 ∨ bFc l z p = 109 ∨ bFc l z p = 119) : Both sp sc A S D l z p B := by
  have hR := RdS_of (sp := sp) (sc := sc) (S := S) hT h0 h1
  have hk : dbF (bFc l z p) = 2 := by rcases y with y | y | y | y <;> rw [y] <;> rfl
  have g := (stm_dig hk es h0).2
  have g1 := g 1 (by omega) (by omega)
  have g2 := g 2 (by omega) (by omega)
  have hO := hS.1
  rcases y with y | y | y | y
  · rw [y] at hR
    by_cases k : bFc l z (p + 1) - 48 < 6 ∧ bFc l z (p + 2) - 48 ≤ 2
    · refine both_yes hS ho hy (S.1.swh (bFc l z (p + 1) - 48) (bFc l z (p + 2) - 48)) (okV_swh hO g1.1 k.1 g2.1 k.2) rfl (fun Q => (dsA_eq hd hS hR g1 g2).1 k) (fun A1 hr ln hu Q => ?_)
      have n := hu.1 (Or.inl y)
      rw [y]
      exact (drA_eq hO hr ln n.1 n.2 g1 g2).1 k
    · refine both_no hS ho hy (fun Q => (dsA_eq hd hS hR g1 g2).2 k) (fun A1 hr ln hu Q => ?_)
      have n := hu.1 (Or.inl y)
      rw [y]
      exact (drA_eq hO hr ln n.1 n.2 g1 g2).2 k
  · rw [y] at hR
    by_cases k : S.1.can (bFc l z (p + 1) - 48) (bFc l z (p + 2) - 48)
    · refine both_yes hS ho hy (S.1.addC (bFc l z (p + 1) - 48) (bFc l z (p + 2) - 48)) (okV_addC hO k.2.2.2.2.2 k.1.1 k.1.2 k.2.1.1 k.2.1.2) rfl (fun Q => dsC_ok hd hS hR k) (fun A1 hr ln hu Q => ?_)
      have n := hu.1 (Or.inr (Or.inl y))
      rw [y]
      exact drC_ok hO hr ln n.1 n.2 k
    · refine both_no hS ho hy (fun Q => dsC_no hd hS hR g1 g2 k) (fun A1 hr ln hu Q => ?_)
      have n := hu.1 (Or.inr (Or.inl y))
      rw [y]
      exact drC_no hO hr ln n.1 n.2 g1 g2 k
  · rw [y] at hR
    by_cases k : bFc l z (p + 1) - 48 < 6 ∧ S.1.num 0 < 5
    · have hn := (nNat_ok (k := bFc l z (p + 1) - 48) (f := bFc l z (p + 2) - 48) g1.1 k.1 g2.1 (by omega)).1
      refine both_yes hS ho hy (S.1.addO 0 (nNat (bFc l z (p + 1) - 48) (bFc l z (p + 2) - 48))) (okV_addO hO (by omega) (by omega) k.2 hn) rfl (fun Q => dsO_ok hd hS (Or.inl ⟨rfl, rfl⟩) hR g1 g2 k) (fun A1 hr ln hu Q => ?_)
      have n := hu.1 (Or.inr (Or.inr (Or.inl y)))
      rw [y]
      exact (drO_eq hO hr ln n.1 n.2 (Or.inl ⟨rfl, rfl⟩) g1 g2).1 k
    · refine both_no hS ho hy (fun Q => dsO_no hd hS (Or.inl ⟨rfl, rfl⟩) hR g1 g2 k) (fun A1 hr ln hu Q => ?_)
      have n := hu.1 (Or.inr (Or.inr (Or.inl y)))
      rw [y]
      exact (drO_eq hO hr ln n.1 n.2 (Or.inl ⟨rfl, rfl⟩) g1 g2).2 k
  · rw [y] at hR
    by_cases k : bFc l z (p + 1) - 48 < 6 ∧ S.1.num 1 < 5
    · have hn := (nNat_ok (k := bFc l z (p + 1) - 48) (f := bFc l z (p + 2) - 48) g1.1 k.1 g2.1 (by omega)).1
      refine both_yes hS ho hy (S.1.addO 1 (nNat (bFc l z (p + 1) - 48) (bFc l z (p + 2) - 48))) (okV_addO hO (by omega) (by omega) k.2 hn) rfl (fun Q => dsO_ok hd hS (Or.inr ⟨rfl, rfl⟩) hR g1 g2 k) (fun A1 hr ln hu Q => ?_)
      have n := hu.1 (Or.inr (Or.inr (Or.inr y)))
      rw [y]
      exact (drO_eq hO hr ln n.1 n.2 (Or.inr ⟨rfl, rfl⟩) g1 g2).1 k
    · refine both_no hS ho hy (fun Q => dsO_no hd hS (Or.inr ⟨rfl, rfl⟩) hR g1 g2 k) (fun A1 hr ln hu Q => ?_)
      have n := hu.1 (Or.inr (Or.inr (Or.inr y)))
      rw [y]
      exact (drO_eq hO hr ln n.1 n.2 (Or.inr ⟨rfl, rfl⟩) g1 g2).2 k
theorem both_all (hd : D < 8) (hT : okT A D l z) (hS : OkS S B) (hB : B ≤ 80000) (ho : S.2.od = [0, 1, 2, 3]) (hy : dyOK S) (h0 : 0 ≤ p) (h1 : p ≤ 150) (es : stmF l z p = -1) : Both sp sc A S D l z p B := by
  have hR := RdS_of (sp := sp) (sc := sc) (S := S) hT h0 h1
  have c : ¬ dbF (bFc l z p) = -1 := fun u => by
    have := stm_no (l := l) (z := z) u (by omega)
    omega
  have hO := hS.1
  rcases dbF_let c with y | y | y | y
  · have hk : dbF (bFc l z p) = 5 := by rw [y]; rfl
    have g := (stm_dig hk es h0).2
    have g1 := g 1 (by omega) (by omega)
    have g2 := g 2 (by omega) (by omega)
    have g3 := g 3 (by omega) (by omega)
    have g4 := g 4 (by omega) (by omega)
    have g5 := g 5 (by omega) (by omega)
    have q4 := (hT sp sc 15 (p + 4) S (inI_of (by omega) (by omega))).2
    have q5 := (hT sp sc 15 (p + 5) S (inI_of (by omega) (by omega))).2
    rw [y] at hR
    by_cases k : ((0 ≤ bFc l z (p + 1) - 48 ∧ bFc l z (p + 1) - 48 < 2) ∧ 0 ≤ bFc l z (p + 2) - 48 ∧ bFc l z (p + 2) - 48 < S.1.num (bFc l z (p + 1) - 48)) ∧ 0 ≤ bFc l z (p + 3) - 48 ∧ bFc l z (p + 3) - 48 < S.1.num (1 - (bFc l z (p + 1) - 48))
    · refine both_yes hS ho hy (S.1.slk (bFc l z (p + 1) - 48) (bFc l z (p + 2) - 48) (bFc l z (p + 3) - 48) (10 * (bFc l z (p + 4) - 48) + (bFc l z (p + 5) - 48))) (okV_slk hO k.1.1.1 k.1.1.2 k.1.2.1 k.1.2.2 k.2.1 k.2.2) rfl (fun Q => (dsL_eq hd hS hR g1 g2 g3 g4 g5 q4 q5).1 k) (fun A1 hr ln hu Q => ?_)
      have n := hu.2.2.2 y
      rw [y]
      exact (drL_eq hO hr ln n.1 n.2.1 n.2.2.1 n.2.2.2 (by omega) g1 g2 g3).1 k
    · refine both_no hS ho hy (fun Q => (dsL_eq hd hS hR g1 g2 g3 g4 g5 q4 q5).2 k) (fun A1 hr ln hu Q => ?_)
      have n := hu.2.2.2 y
      rw [y]
      exact (drL_eq hO hr ln n.1 n.2.1 n.2.2.1 n.2.2.2 (by omega) g1 g2 g3).2 k
  · have hk : dbF (bFc l z p) = 3 := by rw [y]; rfl
    have g := (stm_dig hk es h0).2
    have g1 := g 1 (by omega) (by omega)
    have g2 := g 2 (by omega) (by omega)
    have g3 := g 3 (by omega) (by omega)
    rw [y] at hR
    by_cases k : ((0 ≤ bFc l z (p + 1) - 48 ∧ bFc l z (p + 1) - 48 < 2) ∧ 0 ≤ bFc l z (p + 2) - 48 ∧ bFc l z (p + 2) - 48 < S.1.num (bFc l z (p + 1) - 48)) ∧ ((0 ≤ bFc l z (p + 1) - 48 ∧ bFc l z (p + 1) - 48 < 2) ∧ 0 ≤ bFc l z (p + 3) - 48 ∧ bFc l z (p + 3) - 48 < S.1.num (bFc l z (p + 1) - 48))
    · refine both_yes hS ho hy (S.1.sdp (bFc l z (p + 1) - 48) (bFc l z (p + 2) - 48) (bFc l z (p + 3) - 48)) (okV_sdp hO k.1.1.1 k.1.1.2 k.1.2.1 k.1.2.2 k.2.2.1 k.2.2.2) rfl (fun Q => (dsD_eq hd hS hR g1 g2 g3).1 k) (fun A1 hr ln hu Q => ?_)
      have n := hu.2.2.1 y
      rw [y]
      exact (drD_eq hO hr ln n.1 n.2.1 n.2.2 g1 g2 g3).1 k
    · refine both_no hS ho hy (fun Q => (dsD_eq hd hS hR g1 g2 g3).2 k) (fun A1 hr ln hu Q => ?_)
      have n := hu.2.2.1 y
      rw [y]
      exact (drD_eq hO hr ln n.1 n.2.1 n.2.2 g1 g2 g3).2 k
  · exact both_two hd hT hS ho hy h0 h1 es y
  · rcases y with y | y
    · have hk : dbF (bFc l z p) = 2 := by rw [y]; rfl
      have g := (stm_dig hk es h0).2
      have g1 := g 1 (by omega) (by omega)
      have g2 := g 2 (by omega) (by omega)
      rw [y] at hR
      refine both_yes hS ho hy (S.1.ssl (10 * (bFc l z (p + 1) - 48) + (bFc l z (p + 2) - 48))) (okV_ssl hO (by omega) (by omega)) rfl (fun Q => dsS_eq hd hS hR) (fun A1 hr ln hu Q => ?_)
      have n := hu.2.1 (Or.inl y)
      rw [y]
      exact drS_eq hr ln n
    · exact both_day hd hT hS hB ho hy h0 h1 es y
end OPS
