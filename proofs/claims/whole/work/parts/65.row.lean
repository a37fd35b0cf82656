set_option maxRecDepth 16384
/-! ===== calls: a shelf gets a row ===== -/
theorem rel_kev {A : iA} (hR : Rel A) : ∀ a : Int, 0 ≤ a → a < 8 → A.mo.ke.getD a.toNat 0 = 0 ∨ A.mo.ke.getD a.toNat 0 = 1 ∨ A.mo.ke.getD a.toNat 0 = 2 := fun a h0 h1 => by
  have := hR.shs a.toNat (by omega)
  rw [this.ho]; exact this.hv
def zf (n : Nat) (l : List Int) : List Int := List.replicate n 0 ++ l.drop n
theorem zf_0 {l : List Int} : zf 0 l = l := rfl
theorem zf_len {n : Nat} {l : List Int} (h : n ≤ l.length) : (zf n l).length = l.length := by
  unfold zf
  rw [List.length_append, List.length_replicate, List.length_drop]; omega
theorem zf_set {n : Nat} {l : List Int} (h : n < l.length) : (zf n l).set n 0 = zf (n + 1) l := by
  unfold zf
  rw [List.set_append_right _ _ (by rw [List.length_replicate]; exact Nat.le_refl _), List.length_replicate, Nat.sub_self, List.drop_eq_getElem_cons h, List.set_cons_zero, List.replicate_succ', List.append_assoc]; rfl
theorem zf_get {n i : Nat} {l : List Int} (h : i < n) : (zf n l).getD i 0 = 0 := by
  unfold zf
  rw [List.getD_eq_getElem?_getD, List.getElem?_append_left (by rw [List.length_replicate]; exact h), List.getElem?_replicate, if_pos h]; rfl
/-- the reference's elements of a shelf, so many of them zero -/
def zE (b : Int) : Nat → List Int → List Int
  | 0, l => l
  | k + 1, l => (zE b k l).set (100 * b + (k : Int)).toNat 0
theorem zE_len {b : Int} {l : List Int} : ∀ k : Nat, (zE b k l).length = l.length := by
  intro k
  induction k with
  | zero => rfl
  | succ k ih => show ((zE b k l).set _ 0).length = _; rw [List.length_set, ih]
theorem zE_get {b c i : Int} {l : List Int} (h0 : 0 ≤ b) (h1 : b < 8) (h2 : 0 ≤ c) (h3 : c < 8) (h4 : 0 ≤ i) (h5 : i < 100) (hl : l.length = 800) : ∀ k : Nat, k ≤ 100 → (zE b k l).getD (100 * c + i).toNat 0 = if b = c ∧ i < (k : Int) then 0 else l.getD (100 * c + i).toNat 0 := by
  intro k
  induction k with
  | zero => intro _; rw [if_neg (by omega)]; rfl
  | succ k ih =>
    intro hk
    have ih := ih (by omega)
    show ((zE b k l).set (100 * b + (k : Int)).toNat 0).getD (100 * c + i).toNat 0 = _
    by_cases z : b = c ∧ i = (k : Int)
    · have : (100 * b + (k : Int)).toNat = (100 * c + i).toNat := by omega
      rw [this, if_pos (by omega), List.getD_eq_getElem?_getD, List.getElem?_set_self (by rw [zE_len]; omega)]; rfl
    · rw [gsd (by omega), ih]
      by_cases y : b = c ∧ i < (k : Int)
      · rw [if_pos y, if_pos (by omega)]
      · rw [if_neg y, if_neg (by omega)]
def iA.sX (A : iA) (k : Nat) (l : List Int) : iA := (iA.mk A.now A.img A.mnd A.imd A.yr A.mt A.sh A.pt A.mo A.out (A.ext.set k l) A.mc)
def iA.pu (A : iA) (l : List Int) : iA := (iA.mk A.now A.img A.mnd A.imd A.yr A.mt A.sh A.pt A.mo A.out (A.ext ++ [l]) (A.mc + 1))
def iA.rw (A : iA) (D : Nat) (s : iSh) (ex : List (List Int)) (m : Nat) (ke so sz el : List Int) : iA := (iA.mk A.now A.img A.mnd A.imd A.yr A.mt (fun e => if e = D then s else A.sh e) A.pt ((iMo.mk A.mo.s A.mo.m A.mo.im A.mo.was A.mo.hi A.mo.wt A.mo.en A.mo.od A.mo.dn A.mo.sm A.mo.sf A.mo.go A.mo.at_ A.mo.ra A.mo.re A.mo.nu A.mo.bd A.mo.bg A.mo.he A.mo.bh A.mo.ak A.mo.st A.mo.ml A.mo.fi A.mo.th A.mo.se (ke) A.mo.kk A.mo.kf (so) (sz) (el) A.mo.tn)) A.out (ex) (m))
def celC (A : iA) (D : Nat) : Prop := (A.sh D).ca = 108 + 2 * D ∨ (159 ≤ (A.sh D).ca ∧ (A.sh D).ca < 159 + A.ext.length)
def inX (A : iA) (D : Nat) : Prop := 159 ≤ (A.sh D).ca ∧ (A.sh D).ca < 159 + A.ext.length
section OPS
variable {sp : Nat → List iV → iH → Option (Option iV × iH)} {sc : List Int} {d : Nat} {A A' : iA} {Q : Option iV → iH → Prop} {h : iH} {X : iVal} {e : Nat} {D : Nat}
theorem celC_of (h : RelS A D) : celC A D := by
  rcases h.ca with z | z
  · exact Or.inl z
  · exact Or.inr ⟨z.1, z.2.1⟩
theorem inX_of (hd : D < 8) (h : RelS A D) (hl : 0 < (A.cel D).length) : inX A D := by
  rcases h.ca with z | z
  · exfalso
    unfold iA.cel at hl
    rw [if_pos (by omega)] at hl
    exact absurd hl (by decide)
  · exact ⟨z.1, z.2.1⟩
theorem cel_x (hx : inX A D) : A.cel D = A.ext.getD ((A.sh D).ca - 159) [] := by
  unfold iA.cel; rw [if_neg (by have := hx.1; omega)]
theorem rd_cx (hx : inX A D) : (hp A).1[(A.sh D).ca]? = some (.inr (.inl (1, A.cel D))) := by
  have e1 : (A.sh D).ca = 159 + ((A.sh D).ca - 159) := by have := hx.1; omega
  rw [cel_x hx]
  have := @rd_x A ((A.sh D).ca - 159) (by have := hx.2; omega)
  rw [← e1] at this
  exact this
theorem rd_c (hd : D < 8) (hc : celC A D) : (hp A).1[(A.sh D).ca]? = some (.inr (.inl (1, A.cel D))) := by
  rcases hc with z | z
  · have : A.cel D = [] := by unfold iA.cel; rw [if_pos (by omega)]
    rw [this, z]; exact rd_s0 hd
  · exact rd_cx z
theorem wr_cx (hx : inX A D) {l : List Int} : ((hp A).1.set (A.sh D).ca (.inr (.inl (1, l))), A.mc) = hp (A.sX ((A.sh D).ca - 159) l) := by
  have e1 : (A.sh D).ca = 159 + ((A.sh D).ca - 159) := by have := hx.1; omega
  have := @wr_x A ((A.sh D).ca - 159) l
  rw [← e1] at this
  exact this
theorem sX_sh {k : Nat} {l : List Int} : (A.sX k l).sh = A.sh := rfl
theorem sX_mc {k : Nat} {l : List Int} : (A.sX k l).mc = A.mc := rfl
theorem sX_sX {k : Nat} {l m : List Int} : (A.sX k l).sX k m = A.sX k m := by
  unfold iA.sX; simp only [pjA, List.set_set]
theorem sX_in {k : Nat} {l : List Int} (hx : inX A D) : inX (A.sX k l) D := by
  refine ⟨hx.1, ?_⟩
  show _ < 159 + (A.ext.set k l).length
  rw [List.length_set]; exact hx.2
theorem sX_cel {l : List Int} (hx : inX A D) : (A.sX ((A.sh D).ca - 159) l).cel D = l := by
  rw [cel_x (sX_in hx)]
  show (A.ext.set ((A.sh D).ca - 159) l).getD ((A.sh D).ca - 159) [] = l
  rw [List.getD_eq_getElem?_getD, List.getElem?_set_self (by have := hx.1; have := hx.2; omega)]; rfl
theorem sX_self (hx : inX A D) : A.sX ((A.sh D).ca - 159) (A.cel D) = A := by
  have : A.ext.set ((A.sh D).ca - 159) (A.cel D) = A.ext := by
    rw [cel_x hx]
    apply List.ext_getElem
    · rw [List.length_set]
    · intro i a b
      rw [List.getElem_set]
      split
      · rename_i c; subst c; rw [List.getD_eq_getElem?_getD, List.getElem?_eq_getElem b]; rfl
      · rfl
  unfold iA.sX
  rw [this]
  exact iA.eta A
theorem back_sX {k : Nat} {l : List Int} {L : List (Option iV)} {rest : List iV} : back (hp A) (hp (A.sX k l)) L rest = True := back_hp (List.length_set ..) (Nat.le_refl _)
theorem rd_sX (hx : inX A D) {l : List Int} : (hp (A.sX ((A.sh D).ca - 159) l)).1[(A.sh D).ca]? = some (.inr (.inl (1, l))) := by
  have := @rd_cx (A.sX ((A.sh D).ca - 159) l) D (sX_in hx)
  rw [sX_cel hx] at this
  exact this
theorem wr_sX (hx : inX A D) {l m : List Int} : ((hp (A.sX ((A.sh D).ca - 159) l)).1.set (A.sh D).ca (.inr (.inl (1, m))), A.mc) = hp (A.sX ((A.sh D).ca - 159) m) := by
  have := @wr_cx (A.sX ((A.sh D).ca - 159) l) D (sX_in hx) m
  rw [← sX_sX (l := l) (m := m)]
  exact this
theorem hr_loop (hd : D < 8) {s n : Int} (hx : inX A D) {l : List Int} (hn : n ≤ (l.length : Int)) (hl : l.length ≤ 1000) : ∀ (k : Nat) (i : Int), 0 ≤ i → i + k = n → Q none (hp (A.sX ((A.sh D).ca - 159) (zf n.toNat l))) → Run sp sc d mX5_holdRow 34 [some (.inr (.inr (107 + 2 * D + 2))), some (.inl s), some (.inl n), some (.inl i)] [] (hp (A.sX ((A.sh D).ca - 159) (zf i.toNat l))) Q := by
  intro k
  induction k with
  | zero =>
    intro i h0 h1 hq
    refine G_run (B := [34]) 40 _ _ _ _ ?_
    have e1 : n ≤ i := by omega
    have e2 : i = n := by omega
    subst e2
    simp (disch := first | assumption | rfl | exact inI_of (by omega) (by omega) | omega | decide | (simp only [sv_ext, sv_mc, Nat.le_refl]; done) | with_unfolding_all (refine @id _ ?_; first | exact Eq.refl _ | exact Nat.le_refl _ | assumption)) only [Nat.reduceAdd, Nat.reduceMul, Nat.reduceLeDiff, Nat.reduceLT, Int.reduceAdd, Int.reduceSub, Int.reduceMul, Int.reduceNeg, Int.reduceLE, Int.reduceLT, Int.reduceToNat, Int.reduceEq, reduceCtorEq, ld_z, ld_s, st1_0, st1_1, st1_s, st2_0, st2_1, st2_s, isJ_i, isJ_r, isJ_n, isJ_l, cs_nil, cs_i, cs_r, cs_l, kF, List.getElem?_cons_succ, List.getElem?_cons_zero, List.set_cons_zero, List.set_cons_succ, GC_s, GC_n, GK_nil, GK_no, GK_yes, not_false_eq_true, back_eq, back_hp, inI_eq, inA_eq, true_and, and_true, and_self, if_true, if_false, bI_0, bI_1, bI_in, bI_T, bI_F, fitF, jmpF, nlF, pjA, iVal.eta, iYr.eta, List.getElem?_toArray, List.length_cons, List.length_nil, true_or, or_true, or_false, false_or, Classical.not_not, Bool.false_eq_true, hp_2, Nat.zero_le, Nat.le_refl, Option.some.injEq, Sum.inl.injEq, Sum.inr.injEq, not_true_eq_false, true_implies, false_implies, implies_true, gX5_holdRow, e1]
    exact hq
  | succ k ih =>
    intro i h0 h1 hq
    have ih := ih (i + 1) (by omega) (by omega) hq
    refine G_run (B := [34]) 40 _ _ _ _ ?_
    have e1 : ¬ n ≤ i := by omega
    have lz : (zf i.toNat l).length = l.length := zf_len (by omega)
    have sz : (zf i.toNat l).set i.toNat 0 = zf (i + 1).toNat l := by
      have : (i + 1).toNat = i.toNat + 1 := by omega
      rw [this]; exact zf_set (by omega)
    have rdd := fun l => @rd_s (A.sX ((A.sh D).ca - 159) l) D hd
    have z0 : (((0 : Fin 2).val : Nat) : Int) = 0 := rfl
    simp (disch := first | assumption | rfl | exact inI_of (by omega) (by omega) | omega | decide | (simp only [sv_ext, sv_mc, Nat.le_refl]; done) | with_unfolding_all (refine @id _ ?_; first | exact Eq.refl _ | exact Nat.le_refl _ | assumption)) only [Nat.reduceAdd, Nat.reduceMul, Nat.reduceLeDiff, Nat.reduceLT, Int.reduceAdd, Int.reduceSub, Int.reduceMul, Int.reduceNeg, Int.reduceLE, Int.reduceLT, Int.reduceToNat, Int.reduceEq, reduceCtorEq, ld_z, ld_s, st1_0, st1_1, st1_s, st2_0, st2_1, st2_s, isJ_i, isJ_r, isJ_n, isJ_l, cs_nil, cs_i, cs_r, cs_l, kF, List.getElem?_cons_succ, List.getElem?_cons_zero, List.set_cons_zero, List.set_cons_succ, GC_s, GC_n, GK_nil, GK_no, GK_yes, not_false_eq_true, back_eq, back_hp, inI_eq, inA_eq, true_and, and_true, and_self, if_true, if_false, bI_0, bI_1, bI_in, bI_T, bI_F, fitF, jmpF, nlF, pjA, iVal.eta, iYr.eta, List.getElem?_toArray, List.length_cons, List.length_nil, true_or, or_true, or_false, false_or, Classical.not_not, Bool.false_eq_true, hp_2, Nat.zero_le, Nat.le_refl, Option.some.injEq, Sum.inl.injEq, Sum.inr.injEq, not_true_eq_false, true_implies, false_implies, implies_true, gX5_holdRow, e1, rdd, sX_sh, sX_mc, rd_sX hx, lz, z0, sz, wr_sX hx]
    exact ih
theorem gX5_holdRow12 (n d : Nat) (L : List (Option iV)) (r : List iV) (h : iH) (Q : Option iV → iH → Prop) : G sp sc [34] d mX5_holdRow (n + 1) 12 L (.inl 100 :: r) h Q = (good h L r ∧ G sp sc [34] d mX5_holdRow n 14 L (.inr (.inr (h.1.length + 2)) :: r) (h.1 ++ [.inr (.inl (1, List.replicate 100 0))], h.2 + 1) Q) := G_newJ (by decide +kernel : fetch mX5_holdRow 12 = some (.newarray .long)) (by omega) (by omega)
theorem wr_pu {l : List Int} : ((hp A).1 ++ [.inr (.inl (1, l))], A.mc + 1) = hp (A.pu l) := by
  have : (hp A).1 ++ [.inr (.inl (1, l))] = (hp (A.pu l)).1 := by
    show (lay1 A ++ (lay2 A ++ (layM A.mo ++ (cL A.out :: A.ext.map cL)))) ++ [cL l] = lay1 A ++ (lay2 A ++ (layM A.mo ++ (cL A.out :: (A.ext ++ [l]).map cL)))
    simp only [List.append_assoc, List.cons_append, List.map_append, List.map_cons, List.map_nil]
  rw [this]; rfl
theorem pu_sh {l : List Int} : (A.pu l).sh = A.sh := rfl
theorem pu_mc {l : List Int} : (A.pu l).mc = A.mc + 1 := rfl
theorem pu_ext {l : List Int} : (A.pu l).ext = A.ext ++ [l] := rfl
theorem sSh_ext {s : iSh} : (A.sSh D s).ext = A.ext := rfl
theorem nat_ok {X : iVal} (hO : OkV X) {n : Nat} (hn : 159 ≤ n) : (X.na.all fun r => decide (r < n + 2)) = true := by
  rw [List.all_eq_true]
  intro x hx
  obtain ⟨i, hi, rfl⟩ := List.mem_iff_getElem.mp hx
  have hl := hO.lna
  have e := hO.nat ((i / 5 : Nat) : Int) ((i % 5 : Nat) : Int) (by omega) (by omega) (by omega) (by omega)
  have e2 : X.nr ((i / 5 : Nat) : Int) ((i % 5 : Nat) : Int) = X.na[i] := by
    have : ((((i / 5 : Nat) : Int) * 5 + ((i % 5 : Nat) : Int))).toNat = i := by omega
    unfold iVal.nr
    rw [this, List.getD_eq_getElem?_getD, List.getElem?_eq_getElem hi, Option.getD_some]
  rw [e2] at e
  have e3 := e.2
  unfold NatOK at e3
  rw [decide_eq_true_eq]
  omega
theorem vO_o {n c : Nat} {l : List iV} : vO n (.inl (c, l)) = l.all (vV n) := rfl
theorem vO_i {n t : Nat} {l : List Int} : vO n (.inr (.inl (t, l))) = true := rfl
theorem vO_r {n t : Nat} {l : List Nat} : vO n (.inr (.inr (t, l))) = l.all (fun r => decide (r < n + 2)) := rfl
theorem vV_i {n : Nat} {z : Int} : vV n (.inl z) = true := rfl
theorem vV_r {n r : Nat} : vV n (.inr (.inr r)) = decide (r < n + 2) := rfl
theorem cV_ok {b n : Nat} {X : iVal} (hO : OkV X) (hb : b ≤ 30) (hn : 159 ≤ n) : (cV b X).all (vO n) = true := by
  have := nat_ok hO hn
  simp only [cV, cI, List.all_cons, List.all_nil, vO_o, vO_i, vO_r, vV_i, vV_r, this, Bool.and_true, Bool.true_and, Bool.and_eq_true, decide_eq_true_eq]
  omega
theorem cNs_ok {n : Nat} {f : Int} : (cNs f).all (vO n) = true := rfl
theorem hp_good (hR : Rel A) : (hp A).1.all (vO (hp A).1.length) = true := by
  rw [hp_len]
  generalize hk : 159 + A.ext.length = n
  have hn : 159 ≤ n := by omega
  have a1 := cV_ok (b := 2) hR.now (by omega) hn
  have a2 := cV_ok (b := 18) hR.img (by omega) hn
  have a3 := cV_ok (b := 30) hR.mok (by omega) hn
  have a4 : (rNs.all fun r => decide (r < n + 2)) = true := by
    have : ∀ r ∈ rNs, r < 108 := by decide +kernel
    rw [List.all_eq_true]
    intro x hx
    have := this x hx
    rw [decide_eq_true_eq]; omega
  have a5 : ∀ D, D < 8 → vO n (cS (A.sh D)) = true := fun D hD => by
    have hS := hR.shs D hD
    have h1 := hS.na
    unfold NatOK at h1
    have h2 := hS.ca
    simp only [cS, List.all_cons, List.all_nil, vO_o, vV_i, vV_r, Bool.and_true, Bool.true_and, Bool.and_eq_true, decide_eq_true_eq]
    omega
  have a6 : (A.ext.map cL).all (vO n) = true := by
    rw [List.all_eq_true]
    intro x hx
    obtain ⟨l, -, rfl⟩ := List.mem_map.mp hx
    rfl
  show (lay A).all (vO n) = true
  simp only [lay, lay1, lay2, layM, List.all_append, List.all_cons, List.all_nil, a1, a2, a3, a4, a5, a6, cNs_ok, cN, cI, cL, cZ, vO_o, vO_i, vO_r, vV_i, vV_r, Bool.and_true, Bool.true_and, Bool.and_eq_true, decide_eq_true_eq, vb, show 0 < 8 from by decide, show 1 < 8 from by decide, show 2 < 8 from by decide, show 3 < 8 from by decide, show 4 < 8 from by decide, show 5 < 8 from by decide, show 6 < 8 from by decide, show 7 < 8 from by decide]
  omega
theorem holdRow_old (hd : D < 8) {s n : Int} (hx : inX A D) (h0 : 0 ≤ n) (hn : n ≤ ((A.cel D).length : Int)) (hl : (A.cel D).length ≤ 1000) : Call sp sc d mX5_holdRow [.inr (.inr (107 + 2 * D + 2)), .inl s, .inl n] (hp A) Q = Q none (hp ((A.sSh D ((iSh.mk (2) ((A.sh D).na) (s) (n) ((A.sh D).ca)))).sX ((A.sh D).ca - 159) (zf n.toNat (A.cel D)))) := Call_eq (by
  apply eX5_holdRow 60
  have lt1 : (1 : Nat) < 6 := by decide
  simp (disch := first | assumption | rfl | exact inI_of (by omega) (by omega) | omega | decide | (simp only [sv_ext, sv_mc, Nat.le_refl]; done) | with_unfolding_all (refine @id _ ?_; first | exact Eq.refl _ | exact Nat.le_refl _ | assumption)) only [Nat.reduceAdd, Nat.reduceMul, Nat.reduceLeDiff, Nat.reduceLT, Int.reduceAdd, Int.reduceSub, Int.reduceMul, Int.reduceNeg, Int.reduceLE, Int.reduceLT, Int.reduceToNat, Int.reduceEq, reduceCtorEq, ld_z, ld_s, st1_0, st1_1, st1_s, st2_0, st2_1, st2_s, isJ_i, isJ_r, isJ_n, isJ_l, cs_nil, cs_i, cs_r, cs_l, kF, List.getElem?_cons_succ, List.getElem?_cons_zero, List.set_cons_zero, List.set_cons_succ, GC_s, GC_n, GK_nil, GK_no, GK_yes, not_false_eq_true, back_eq, back_hp, inI_eq, inA_eq, true_and, and_true, and_self, if_true, if_false, bI_0, bI_1, bI_in, bI_T, bI_F, fitF, jmpF, nlF, pjA, iVal.eta, iYr.eta, List.getElem?_toArray, List.length_cons, List.length_nil, true_or, or_true, or_false, false_or, Classical.not_not, Bool.false_eq_true, hp_2, Nat.zero_le, Nat.le_refl, Option.some.injEq, Sum.inl.injEq, Sum.inr.injEq, not_true_eq_false, true_implies, false_implies, implies_true, gX5_holdRow, rd_s, rd_cx hx, hn, lt1, wr_sSh, sSh_sh, sSh_sSh]
  have hx2 : inX (A.sSh D ((iSh.mk (2) ((A.sh D).na) (s) (n) ((A.sh D).ca)))) D := by
    refine ⟨?_, ?_⟩ <;> rw [sSh_sh]
    · exact hx.1
    · exact hx.2
  have eca : ((A.sSh D ((iSh.mk (2) ((A.sh D).na) (s) (n) ((A.sh D).ca)))).sh D).ca = (A.sh D).ca := by rw [sSh_sh]; rfl
  have ecl : (A.sSh D ((iSh.mk (2) ((A.sh D).na) (s) (n) ((A.sh D).ca)))).cel D = A.cel D := by
    rw [cel_x hx2, cel_x hx, eca]; rfl
  have k := @hr_loop sp sc d (A.sSh D ((iSh.mk (2) ((A.sh D).na) (s) (n) ((A.sh D).ca)))) (fun a b => a = none ∧ b = hp ((A.sSh D ((iSh.mk (2) ((A.sh D).na) (s) (n) ((A.sh D).ca)))).sX ((A.sh D).ca - 159) (zf n.toNat (A.cel D)))) D hd s n hx2 (A.cel D) hn hl n.toNat 0 (by omega) (by omega) (by rw [eca]; exact ⟨rfl, rfl⟩)
  have es : (A.sSh D ((iSh.mk (2) ((A.sh D).na) (s) (n) ((A.sh D).ca)))).sX ((A.sh D).ca - 159) (zf 0 (A.cel D)) = A.sSh D ((iSh.mk (2) ((A.sh D).na) (s) (n) ((A.sh D).ca))) := by
    have := sX_self hx2
    rw [eca, ecl] at this
    exact this
  rw [eca, Int.toNat_zero, es] at k
  exact k)
theorem holdRow_0 (hd : D < 8) {s : Int} (hc : celC A D) (hl : (A.cel D).length ≤ 1000) : Call sp sc d mX5_holdRow [.inr (.inr (107 + 2 * D + 2)), .inl s, .inl 0] (hp A) Q = Q none (hp (A.sSh D ((iSh.mk (2) ((A.sh D).na) (s) (0) ((A.sh D).ca))))) := Call_eq (by
  apply eX5_holdRow 60
  have lt1 : (1 : Nat) < 6 := by decide
  have n0 : ¬ ((A.cel D).length : Int) < 0 := by omega
  have n1 : (0 : Int) ≤ ((A.cel D).length : Int) := by omega
  simp (disch := first | assumption | rfl | exact inI_of (by omega) (by omega) | omega | decide | (simp only [sv_ext, sv_mc, Nat.le_refl]; done) | with_unfolding_all (refine @id _ ?_; first | exact Eq.refl _ | exact Nat.le_refl _ | assumption)) only [Nat.reduceAdd, Nat.reduceMul, Nat.reduceLeDiff, Nat.reduceLT, Int.reduceAdd, Int.reduceSub, Int.reduceMul, Int.reduceNeg, Int.reduceLE, Int.reduceLT, Int.reduceToNat, Int.reduceEq, reduceCtorEq, ld_z, ld_s, st1_0, st1_1, st1_s, st2_0, st2_1, st2_s, isJ_i, isJ_r, isJ_n, isJ_l, cs_nil, cs_i, cs_r, cs_l, kF, List.getElem?_cons_succ, List.getElem?_cons_zero, List.set_cons_zero, List.set_cons_succ, GC_s, GC_n, GK_nil, GK_no, GK_yes, not_false_eq_true, back_eq, back_hp, inI_eq, inA_eq, true_and, and_true, and_self, if_true, if_false, bI_0, bI_1, bI_in, bI_T, bI_F, fitF, jmpF, nlF, pjA, iVal.eta, iYr.eta, List.getElem?_toArray, List.length_cons, List.length_nil, true_or, or_true, or_false, false_or, Classical.not_not, Bool.false_eq_true, hp_2, Nat.zero_le, Nat.le_refl, Option.some.injEq, Sum.inl.injEq, Sum.inr.injEq, not_true_eq_false, true_implies, false_implies, implies_true, gX5_holdRow, rd_s, rd_c hd hc, n1, lt1, wr_sSh, sSh_sh, sSh_sSh]
  refine G_run (B := [34]) 40 _ _ _ _ ?_
  simp (disch := first | assumption | rfl | exact inI_of (by omega) (by omega) | omega | decide | (simp only [sv_ext, sv_mc, Nat.le_refl]; done) | with_unfolding_all (refine @id _ ?_; first | exact Eq.refl _ | exact Nat.le_refl _ | assumption)) only [Nat.reduceAdd, Nat.reduceMul, Nat.reduceLeDiff, Nat.reduceLT, Int.reduceAdd, Int.reduceSub, Int.reduceMul, Int.reduceNeg, Int.reduceLE, Int.reduceLT, Int.reduceToNat, Int.reduceEq, reduceCtorEq, ld_z, ld_s, st1_0, st1_1, st1_s, st2_0, st2_1, st2_s, isJ_i, isJ_r, isJ_n, isJ_l, cs_nil, cs_i, cs_r, cs_l, kF, List.getElem?_cons_succ, List.getElem?_cons_zero, List.set_cons_zero, List.set_cons_succ, GC_s, GC_n, GK_nil, GK_no, GK_yes, not_false_eq_true, back_eq, back_hp, inI_eq, inA_eq, true_and, and_true, and_self, if_true, if_false, bI_0, bI_1, bI_in, bI_T, bI_F, fitF, jmpF, nlF, pjA, iVal.eta, iYr.eta, List.getElem?_toArray, List.length_cons, List.length_nil, true_or, or_true, or_false, false_or, Classical.not_not, Bool.false_eq_true, hp_2, Nat.zero_le, Nat.le_refl, Option.some.injEq, Sum.inl.injEq, Sum.inr.injEq, not_true_eq_false, true_implies, false_implies, implies_true, gX5_holdRow])
theorem holdRow_new (hR : Rel A) (hd : D < 8) {s n : Int} (hn : ((A.cel D).length : Int) < n) (h1 : n ≤ 100) : Call sp sc d mX5_holdRow [.inr (.inr (107 + 2 * D + 2)), .inl s, .inl n] (hp A) Q = Q none (hp ((A.pu (List.replicate 100 0)).sSh D ((iSh.mk (2) ((A.sh D).na) (s) (n) (159 + A.ext.length))))) := Call_eq (by
  apply eX5_holdRow 60
  have hc := celC_of (hR.shs D hd)
  have lt1 : (1 : Nat) < 6 := by decide
  have n1 : ¬ n ≤ ((A.cel D).length : Int) := by omega
  have gd : good (hp A) [some (.inr (.inr (107 + 2 * D + 2))), some (.inl s), some (.inl n), none] [.inr (.inr (107 + 2 * D + 2))] := by
    unfold good
    rw [hp_good hR, hp_len]
    simp only [vL, List.all_cons, List.all_nil, vV_i, vV_r, Bool.and_true, Bool.true_and, Bool.and_self, decide_eq_true_eq]
    omega
  have rds := @rd_s (A.pu (List.replicate 100 0)) D hd
  rw [pu_sh] at rds
  simp (disch := first | assumption | rfl | exact inI_of (by omega) (by omega) | omega | decide | (simp only [sv_ext, sv_mc, Nat.le_refl]; done) | with_unfolding_all (refine @id _ ?_; first | exact Eq.refl _ | exact Nat.le_refl _ | assumption)) only [Nat.reduceAdd, Nat.reduceMul, Nat.reduceLeDiff, Nat.reduceLT, Int.reduceAdd, Int.reduceSub, Int.reduceMul, Int.reduceNeg, Int.reduceLE, Int.reduceLT, Int.reduceToNat, Int.reduceEq, reduceCtorEq, ld_z, ld_s, st1_0, st1_1, st1_s, st2_0, st2_1, st2_s, isJ_i, isJ_r, isJ_n, isJ_l, cs_nil, cs_i, cs_r, cs_l, kF, List.getElem?_cons_succ, List.getElem?_cons_zero, List.set_cons_zero, List.set_cons_succ, GC_s, GC_n, GK_nil, GK_no, GK_yes, not_false_eq_true, back_eq, back_hp, inI_eq, inA_eq, true_and, and_true, and_self, if_true, if_false, bI_0, bI_1, bI_in, bI_T, bI_F, fitF, jmpF, nlF, pjA, iVal.eta, iYr.eta, List.getElem?_toArray, List.length_cons, List.length_nil, true_or, or_true, or_false, false_or, Classical.not_not, Bool.false_eq_true, hp_2, Nat.zero_le, Nat.le_refl, Option.some.injEq, Sum.inl.injEq, Sum.inr.injEq, not_true_eq_false, true_implies, false_implies, implies_true, gX5_holdRow, gX5_holdRow12, rd_s, rd_c hd hc, n1, lt1, gd, hp_2, wr_pu, rds, hp_len, wr_sSh, sSh_sh, sSh_sSh, pu_sh]
  generalize hA : (A.pu (List.replicate 100 0)).sSh D ((iSh.mk (2) ((A.sh D).na) (s) (n) (159 + A.ext.length))) = A1
  have es : A1.sh D = (iSh.mk (2) ((A.sh D).na) (s) (n) (159 + A.ext.length)) := by rw [← hA]; exact sSh_sh
  have ex : A1.ext = A.ext ++ [List.replicate 100 0] := by rw [← hA]; rfl
  have hx2 : inX A1 D := by
    unfold inX
    rw [es, ex, List.length_append]
    show 159 ≤ 159 + A.ext.length ∧ 159 + A.ext.length < 159 + (A.ext.length + 1)
    omega
  have ecl : A1.cel D = List.replicate 100 0 := by
    rw [cel_x hx2, es, ex]
    show (A.ext ++ [List.replicate 100 0]).getD (159 + A.ext.length - 159) [] = _
    have : 159 + A.ext.length - 159 = A.ext.length := by omega
    rw [this, List.getD_eq_getElem?_getD, List.getElem?_append_right (Nat.le_refl _), Nat.sub_self]; rfl
  have ez : zf n.toNat (List.replicate 100 0) = A1.cel D := by
    rw [ecl]
    unfold zf
    rw [List.drop_replicate, List.replicate_append_replicate]
    congr 1; omega
  have ez0 : zf 0 (List.replicate 100 0) = A1.cel D := by rw [ecl]; rfl
  have k := @hr_loop sp sc d A1 (fun a b => a = none ∧ b = hp A1) D hd s n hx2 (List.replicate 100 0) (by rw [List.length_replicate]; omega) (by rw [List.length_replicate]; omega) n.toNat 0 (by omega) (by omega) (by rw [ez, sX_self hx2]; exact ⟨rfl, rfl⟩)
  rw [Int.toNat_zero, ez0, sX_self hx2] at k
  exact k)
end OPS
