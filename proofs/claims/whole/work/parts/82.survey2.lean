set_option maxRecDepth 16384
/-! ===== all matchings: the reference ===== -/
def hR (wv : List Int) : List Int := wv.map fun x => if x = -1 then -4 else x
theorem hR_len {l : List Int} : (hR l).length = l.length := List.length_map ..
theorem hR_gt {l : List Int} {i : Int} (h0 : 0 ≤ i) (h1 : i < (l.length : Int)) : gt0 (hR l) i = if gt0 l i = -1 then -4 else gt0 l i := by
  unfold gt0 hR
  rw [List.getD_eq_getElem?_getD, List.getElem?_map, List.getD_eq_getElem?_getD, List.getElem?_eq_getElem (show i.toNat < l.length by omega)]
  rfl
theorem hR_set {l : List Int} {i : Nat} {v : Int} (h : ¬ v = -1) : (hR l).set i v = hR (l.set i v) := by
  unfold hR
  rw [List.map_set, if_neg h]
theorem hR_none {l : List Int} {i v : Int} (h0 : 0 ≤ i) (h1 : i < (l.length : Int)) (hv : gt0 l i = -1) : ((hR l).set i.toNat v).set i.toNat (-4) = hR l := by
  rw [List.set_set]
  apply List.ext_getElem
  · rw [List.length_set]
  · intro j a b
    rw [List.getElem_set]
    split
    · rename_i c
      have := hR_gt (l := l) h0 h1
      rw [if_pos hv] at this
      rw [← this]
      unfold gt0
      rw [List.getD_eq_getElem?_getD, c, List.getElem?_eq_getElem b]; rfl
    · rfl
def mtN (X : iVal) (t : iTm) (l : iLf) : iTm := (t.1 + (if X.fl l.2.1 l.2.2 = -4 then 1 else 0), if t.2.1 < l.1 then l.1 else t.2.1, if t.2.1 < l.1 then hR l.2.1 else t.2.2)
theorem mtN_ok {X : iVal} {t : iTm} {l : iLf} (ht : tOK t) (hl : lOK l) : tOK (mtN X t l) := by
  unfold tOK lOK mtN at *
  dsimp only
  by_cases c : t.2.1 < l.1
  · rw [if_pos c, if_pos c]; exact ⟨⟨by omega, hl.1.2⟩, by rw [hR_len]; exact hl.2⟩
  · rw [if_neg c, if_neg c]; exact ht
theorem foldN_ok {X : iVal} : ∀ (L : List iLf) (t : iTm), tOK t → (∀ l ∈ L, lOK l) → tOK (L.foldl (mtN X) t) := by
  intro L
  induction L with
  | nil => intro t h _; exact h
  | cons l L ih => intro t h hl; exact ih _ (mtN_ok h (hl l (List.mem_cons_self ..))) (fun x hx => hl x (List.mem_cons_of_mem _ hx))
theorem foldNM {X : iVal} : ∀ (L : List iLf) (t u : iTm), u.1 = t.1 → u.2.1 = t.2.1 → u.2.2 = hR t.2.2 → (L.foldl (mtN X) u).1 = (L.foldl (mtM X) t).1 ∧ (L.foldl (mtN X) u).2.1 = (L.foldl (mtM X) t).2.1 ∧ (L.foldl (mtN X) u).2.2 = hR (L.foldl (mtM X) t).2.2 := by
  intro L
  induction L with
  | nil => intro t u a b c; exact ⟨a, b, c⟩
  | cons l L ih =>
    intro t u a b c
    refine ih (mtM X t l) (mtN X u l) ?_ ?_ ?_
    · unfold mtN mtM; dsimp only; rw [a]
    · unfold mtN mtM; dsimp only; rw [b]
    · unfold mtN mtM; dsimp only; rw [b]
      by_cases z : t.2.1 < l.1
      · rw [if_pos z, if_pos z]
      · rw [if_neg z, if_neg z]; exact c
/-- from below all of them: the first one sets both -/
theorem foldNM1 {X : iVal} {L : List iLf} (hne : L ≠ []) (hl : ∀ l ∈ L, lOK l) (fm bh : List Int) : (L.foldl (mtN X) (0, -1, bh)).1 = (L.foldl (mtM X) (0, -1, fm)).1 ∧ (L.foldl (mtN X) (0, -1, bh)).2.1 = (L.foldl (mtM X) (0, -1, fm)).2.1 ∧ (L.foldl (mtN X) (0, -1, bh)).2.2 = hR (L.foldl (mtM X) (0, -1, fm)).2.2 := by
  cases L with
  | nil => exact absurd rfl hne
  | cons l L =>
    have h0 := (hl l (List.mem_cons_self ..)).1.1
    refine foldNM L (mtM X (0, -1, fm) l) (mtN X (0, -1, bh) l) rfl rfl ?_
    unfold mtN mtM
    dsimp only
    rw [if_pos (by omega), if_pos (by omega)]
theorem foldM_un {X : iVal} : ∀ (L : List iLf) (t : iTm), t.1 ≤ (L.foldl (mtM X) t).1 ∧ (L.foldl (mtM X) t).1 ≤ t.1 + (L.length : Int) := by
  intro L
  induction L with
  | nil => intro t; exact ⟨Int.le_refl _, by show t.1 ≤ t.1 + ((0 : Nat) : Int); omega⟩
  | cons l L ih =>
    intro t
    have := ih (mtM X t l)
    have e : (mtM X t l).1 = t.1 + (if X.fl l.2.1 l.2.2 = -4 then 1 else 0) := rfl
    have e2 : ((l :: L).length : Int) = (L.length : Int) + 1 := by rw [List.length_cons]; omega
    show t.1 ≤ (L.foldl (mtM X) (mtM X t l)).1 ∧ (L.foldl (mtM X) (mtM X t l)).1 ≤ t.1 + ((l :: L).length : Int)
    rw [e2]
    by_cases z : X.fl l.2.1 l.2.2 = -4
    · rw [if_pos z] at e; omega
    · rw [if_neg z] at e; omega
theorem fm_len {f : Nat → List iLf} {B : Nat} : ∀ (n c : Nat), (∀ w, (f w).length ≤ B) → ((List.range' c n).flatMap f).length ≤ n * B := by
  intro n
  induction n with
  | zero => intro c h; exact Nat.zero_le _
  | succ n ih =>
    intro c h
    rw [List.range'_succ, List.flatMap_cons, List.length_append, Nat.succ_mul]
    have := ih (c + 1) h
    have := h c
    omega
theorem lvM_len {X : iVal} (hO : OkV X) : ∀ (k : Nat) (m s tog : Int) (wv hb : List Int), (lvM X k m s tog wv hb).length ≤ 6 ^ k := by
  have n1 := hO.n1
  intro k
  induction k with
  | zero => intro m s tog wv hb; exact Nat.le_refl _
  | succ k ih =>
    intro m s tog wv hb
    unfold lvM
    rw [List.length_append]
    have a := @fm_len (fun (w : Nat) => if gt0 hb (w : Int) = -1 then lvM X k (m + 1) s (tog + (X.lik 0 m (w : Int) + X.lik 1 (w : Int) m)) (wv.set m.toNat (w : Int)) (hb.set ((w : Int)).toNat m) else []) (6 ^ k) (X.num 1).toNat 0 (fun w => by
      split
      · exact ih _ _ _ _ _
      · exact Nat.zero_le _)
    have b : (if 0 < s then lvM X k (m + 1) (s - 1) tog wv hb else []).length ≤ 6 ^ k := by
      split
      · exact ih _ _ _ _ _
      · exact Nat.zero_le _
    have c : (X.num 1).toNat * 6 ^ k ≤ 5 * 6 ^ k := Nat.mul_le_mul_right _ (by omega)
    rw [Nat.pow_succ]
    omega
/-- women who are there and have nobody -/
def frT (X : iVal) (hb : List Int) (w : Int) : Int := if w < X.num 1 ∧ gt0 hb w = -1 then 1 else 0
def frW (X : iVal) (hb : List Int) : Int := frT X hb 0 + frT X hb 1 + frT X hb 2 + frT X hb 3 + frT X hb 4
theorem frT_b {X : iVal} {hb : List Int} {w : Int} : 0 ≤ frT X hb w ∧ frT X hb w ≤ 1 := by unfold frT; split <;> omega
theorem frW_set {X : iVal} {hb : List Int} (lh : hb.length = 5) {w m : Int} (h0 : 0 ≤ w) (h1 : w < 5) (hw : w < X.num 1) (hf : gt0 hb w = -1) (hm : 0 ≤ m) : frW X (hb.set w.toNat m) = frW X hb - 1 ∧ 1 ≤ frW X hb := by
  have t : ∀ v, 0 ≤ v → v < 5 → frT X (hb.set w.toNat m) v = if w = v then 0 else frT X hb v := fun v a b => by
    unfold frT
    rw [gt_set h0 a (by omega)]
    by_cases c : w = v
    · rw [if_pos c, if_pos c, if_neg (fun y => by omega)]
    · rw [if_neg c, if_neg c]
  have s : frT X hb w = 1 := if_pos ⟨hw, hf⟩
  have b0 := @frT_b X hb 0
  have b1 := @frT_b X hb 1
  have b2 := @frT_b X hb 2
  have b3 := @frT_b X hb 3
  have b4 := @frT_b X hb 4
  unfold frW
  rw [t 0 (by omega) (by omega), t 1 (by omega) (by omega), t 2 (by omega) (by omega), t 3 (by omega) (by omega), t 4 (by omega) (by omega)]
  have : w = 0 ∨ w = 1 ∨ w = 2 ∨ w = 3 ∨ w = 4 := by omega
  rcases this with rfl | rfl | rfl | rfl | rfl
  · rw [if_pos rfl, if_neg (by decide), if_neg (by decide), if_neg (by decide), if_neg (by decide)]; omega
  · rw [if_neg (by decide), if_pos rfl, if_neg (by decide), if_neg (by decide), if_neg (by decide)]; omega
  · rw [if_neg (by decide), if_neg (by decide), if_pos rfl, if_neg (by decide), if_neg (by decide)]; omega
  · rw [if_neg (by decide), if_neg (by decide), if_neg (by decide), if_pos rfl, if_neg (by decide)]; omega
  · rw [if_neg (by decide), if_neg (by decide), if_neg (by decide), if_neg (by decide), if_pos rfl]; omega
theorem frW_some {X : iVal} {hb : List Int} (h : 1 ≤ frW X hb) : ∃ w : Nat, (w : Int) < X.num 1 ∧ gt0 hb (w : Int) = -1 := by
  have f : ∀ w : Nat, 1 ≤ frT X hb (w : Int) → (w : Int) < X.num 1 ∧ gt0 hb (w : Int) = -1 := fun w a => by
    unfold frT at a
    by_cases c : (w : Int) < X.num 1 ∧ gt0 hb (w : Int) = -1
    · exact c
    · rw [if_neg c] at a; omega
  have b0 := @frT_b X hb 0
  have b1 := @frT_b X hb 1
  have b2 := @frT_b X hb 2
  have b3 := @frT_b X hb 3
  have b4 := @frT_b X hb 4
  unfold frW at h
  by_cases c0 : 1 ≤ frT X hb 0
  · exact ⟨0, f 0 c0⟩
  by_cases c1 : 1 ≤ frT X hb 1
  · exact ⟨1, f 1 c1⟩
  by_cases c2 : 1 ≤ frT X hb 2
  · exact ⟨2, f 2 c2⟩
  by_cases c3 : 1 ≤ frT X hb 3
  · exact ⟨3, f 3 c3⟩
  by_cases c4 : 1 ≤ frT X hb 4
  · exact ⟨4, f 4 c4⟩
  omega
/-- so many twos still to be, so many who may stay alone -/
def twoOK (X : iVal) (k : Nat) (s twos : Int) (hb : List Int) : Prop := (frW X hb = twos ∨ s = 0) ∧ 0 ≤ twos ∧ 0 ≤ s ∧ (k : Int) = twos + s ∧ twos ≤ frW X hb
theorem twoOK_join {X : iVal} {k : Nat} {s twos m w : Int} {hb : List Int} (h : twoOK X (k + 1) s twos hb) (lh : hb.length = 5) (h0 : 0 ≤ w) (h1 : w < 5) (hw : w < X.num 1) (hf : gt0 hb w = -1) (hm : 0 ≤ m) : twoOK X k s (twos - 1) (hb.set w.toNat m) := by
  have f := frW_set (X := X) lh h0 h1 hw hf hm
  unfold twoOK at *
  omega
theorem twoOK_alone {X : iVal} {k : Nat} {s twos : Int} {hb : List Int} (h : twoOK X (k + 1) s twos hb) (hs : 0 < s) : twoOK X k (s - 1) twos hb := by
  unfold twoOK at *
  omega
theorem lvM_ne {X : iVal} (hO : OkV X) : ∀ (k : Nat) (m s tog twos : Int) (wv hb : List Int), twoOK X k s twos hb → hb.length = 5 → 0 ≤ m → lvM X k m s tog wv hb ≠ [] := by
  have n1 := hO.n1
  intro k
  induction k with
  | zero => intro m s tog twos wv hb h lh hm y; cases y
  | succ k ih =>
    intro m s tog twos wv hb h lh hm y
    unfold lvM at y
    rw [List.append_eq_nil_iff] at y
    by_cases c : 0 < s
    · rw [if_pos c] at y
      exact ih _ _ _ _ _ _ (twoOK_alone h c) lh (by omega) y.2
    · have h1 : 1 ≤ frW X hb := by unfold twoOK at h; omega
      obtain ⟨w, w1, w2⟩ := frW_some h1
      have z := y.1
      rw [List.flatMap_eq_nil_iff] at z
      have z := z w (List.mem_range'_1.mpr ⟨Nat.zero_le _, by omega⟩)
      rw [if_pos w2] at z
      exact ih _ _ _ _ _ _ (twoOK_join h lh (by omega) (by omega) w1 w2 hm) (by rw [List.length_set]; exact lh) (by omega) z
/-- likes of all the twos -/
def ttF (X : iVal) (wv : List Int) : Nat → Int → Int → Int
  | 0, _, v => v
  | k + 1, m, v => ttF X wv k (m + 1) (v + (if gt0 wv m = -1 then 0 else X.lik 0 m (gt0 wv m) + X.lik 1 (gt0 wv m) m))
theorem ttF_none {X : iVal} {wv : List Int} : ∀ (k : Nat) (m v : Int), (∀ j, m ≤ j → j < m + k → gt0 wv j = -1) → ttF X wv k m v = v := by
  intro k
  induction k with
  | zero => intro m v _; rfl
  | succ k ih =>
    intro m v h
    unfold ttF
    rw [if_pos (h m (Int.le_refl _) (by omega)), ih _ _ (fun j a b => h j (by omega) (by omega))]
    omega
theorem ttF_set {X : iVal} {wv : List Int} (lw : wv.length = 5) {a x : Int} (ha : 0 ≤ a) (ha5 : a < 5) (hx : ¬ x = -1) : ∀ (k : Nat) (m v : Int), 0 ≤ m → m ≤ a → a = m + k → gt0 wv a = -1 → ∀ q : Nat, (∀ j, a < j → j < a + 1 + q → gt0 wv j = -1) → ttF X (wv.set a.toNat x) (k + 1 + q) m v = ttF X wv (k + 1 + q) m v + (X.lik 0 a x + X.lik 1 x a) := by
  intro k
  induction k with
  | zero =>
    intro m v h0 h1 h2 h3 q hq
    have e : a = m := by omega
    subst e
    have e2 : 0 + 1 + q = q + 1 := by omega
    rw [e2]
    unfold ttF
    rw [gt_set ha ha (by omega), if_pos rfl, if_neg hx, if_pos h3, ttF_none q (a + 1) _ (fun j b c => by rw [gt_set ha (by omega) (by omega), if_neg (by omega)]; exact hq j (by omega) (by omega)), ttF_none q (a + 1) _ (fun j b c => hq j (by omega) (by omega))]
    omega
  | succ k ih =>
    intro m v h0 h1 h2 h3 q hq
    have e2 : k + 1 + 1 + q = (k + 1 + q) + 1 := by omega
    rw [e2]
    unfold ttF
    have e1 : gt0 (wv.set a.toNat x) m = gt0 wv m := by rw [gt_set ha h0 (by omega), if_neg (by omega)]
    rw [e1]
    exact ih (m + 1) _ (by omega) (by omega) (by omega) h3 q hq
def iA.sW (A : iA) (he : List Int) (t : iTm) : iA := (iA.mk A.now A.img A.mnd A.imd A.yr A.mt A.sh A.pt ((iMo.mk A.mo.s A.mo.m A.mo.im A.mo.was A.mo.hi A.mo.wt A.mo.en A.mo.od A.mo.dn A.mo.sm A.mo.sf A.mo.go A.mo.at_ A.mo.ra A.mo.re A.mo.nu A.mo.bd A.mo.bg (he) (t.2.2) A.mo.ak (t.1) (t.2.1) A.mo.fi A.mo.th A.mo.se A.mo.ke A.mo.kk A.mo.kf A.mo.so A.mo.sz A.mo.el A.mo.tn)) A.out A.ext A.mc)
section OPS
variable {sp : Nat → List iV → iH → Option (Option iV × iH)} {sc : List Int} {d : Nat} {A : iA} {Q : Option iV → iH → Prop} {h : iH} {X : iVal} {e g B : Int} {wv hb he : List Int} {t : iTm}
theorem sW_he : (A.sW he t).mo.he = he := rfl
theorem sW_bh : (A.sW he t).mo.bh = t.2.2 := rfl
theorem sW_st : (A.sW he t).mo.st = t.1 := rfl
theorem sW_ml : (A.sW he t).mo.ml = t.2.1 := rfl
theorem wr_Whe {l : List Int} : ((hp (A.sW he t)).1.set 147 (.inr (.inl (0, l))), (A.sW he t).mc) = hp (A.sW l t) := wr_o_he
theorem wr_Wbh {l : List Int} : ((hp (A.sW he t)).1.set 148 (.inr (.inl (0, l))), (A.sW he t).mc) = hp (A.sW he (t.1, t.2.1, l)) := wr_o_bh
theorem wr_WO {x y : Int} : ((hp (A.sW he t)).1.set 138 (.inl (12, [.inr (.inr 141), .inr (.inr 142), .inr (.inr 143), .inr (.inr 144), .inl (A.sW he t).mo.hi, .inr (.inr 145), .inr (.inr 146), .inr (.inr 147), .inl (A.sW he t).mo.dn, .inl (A.sW he t).mo.sm, .inl (A.sW he t).mo.sf, .inl (A.sW he t).mo.go, .inl (A.sW he t).mo.at_, .inl (A.sW he t).mo.ra, .inl (A.sW he t).mo.re, .inr (.inr 148), .inl (A.sW he t).mo.bd, .inl (A.sW he t).mo.bg, .inr (.inr 149), .inr (.inr 150), .inr (.inr 151), .inl x, .inl y, .inr (.inr 152), .inr (.inr 153), .inl (A.sW he t).mo.se, .inr (.inr 154), .inr (.inr 155), .inr (.inr 156), .inr (.inr 157), .inr (.inr 158), .inr (.inr 159), .inl (A.sW he t).mo.tn])), (A.sW he t).mc) = hp (A.sW he (x, y, t.2.2)) := wr_o
theorem back_sW {a b : List Int} {t t' : iTm} {L : List (Option iV)} {rest : List iV} : back (hp (A.sW a t)) (hp (A.sW b t')) L rest = True := back_hp rfl (Nat.le_refl _)
theorem sameH_hR (hO : OkV X) (hM : OkM X wv hb) : sameH X wv (hR wv) := by
  have n0 := hO.n0
  have lw := hM.lw
  refine ⟨by rw [hR_len]; exact lw, fun m a b => ?_⟩
  rw [hR_gt a (by omega)]
  have := hM.wi m a (by omega)
  by_cases c : gt0 wv m = -1
  · rw [if_pos c]; left; exact ⟨c, by decide, by decide⟩
  · rw [if_neg c]; right; omega
theorem ltR_loop (hO : OkV X) (hr : A.mo.s = rowOf X e) (hM : OkM X wv hb) : ∀ (k : Nat) (m v : Int), 0 ≤ m → m + k = X.num 0 → 0 ≤ v → v ≤ 200 * m → Run sp sc (d + 1) mX12_looksAtMatching 25 [some (.inr (.inr 140)), some (.inl (ttF X wv k m v)), some (.inl (X.num 0))] [] (hp (A.sW (hR wv) t)) Q → Run sp sc (d + 1) mX12_looksAtMatching 25 [some (.inr (.inr 140)), some (.inl v), some (.inl m)] [] (hp (A.sW (hR wv) t)) Q := by
  have n0 := hO.n0
  have n1 := hO.n1
  have lw := hM.lw
  intro k
  induction k with
  | zero =>
    intro m v h0 h1 h2 h3 hq
    have : m = X.num 0 := by omega
    rw [this]; exact hq
  | succ k ih =>
    intro m v h0 h1 h2 h3 hq
    have e1 : ¬ X.num 0 ≤ m := by omega
    have hr : (A.sW (hR wv) t).mo.s = rowOf X e := hr
    have lh : (hR wv).length = 5 := by rw [hR_len]; exact lw
    have hg := hR_gt (l := wv) h0 (by omega)
    have wi := hM.wi m h0 (by omega)
    unfold ttF at hq
    by_cases c : gt0 wv m = -1
    · rw [if_pos c] at hq hg
      have hg' : (hR wv).getD m.toNat 0 = -4 := hg
      refine G_run (B := [25, 106]) 60 _ _ _ _ ?_
      simp (disch := first | assumption | rfl | exact inI_of (by omega) (by omega) | omega | decide | (simp only [sv_ext, sv_mc, Nat.le_refl]; done) | with_unfolding_all (refine @id _ ?_; first | exact Eq.refl _ | exact Nat.le_refl _ | assumption)) only [Nat.reduceAdd, Nat.reduceMul, Nat.reduceLeDiff, Nat.reduceLT, Int.reduceAdd, Int.reduceSub, Int.reduceMul, Int.reduceNeg, Int.reduceLE, Int.reduceLT, Int.reduceToNat, Int.reduceEq, reduceCtorEq, ld_z, ld_s, st1_0, st1_1, st1_s, st2_0, st2_1, st2_s, isJ_i, isJ_r, isJ_n, isJ_l, cs_nil, cs_i, cs_r, cs_l, kF, List.getElem?_cons_succ, List.getElem?_cons_zero, List.set_cons_zero, List.set_cons_succ, GC_s, GC_n, GK_nil, GK_no, GK_yes, not_false_eq_true, back_eq, back_hp, inI_eq, inA_eq, true_and, and_true, and_self, if_true, if_false, bI_0, bI_1, bI_in, bI_T, bI_F, fitF, jmpF, nlF, pjA, iVal.eta, iYr.eta, List.getElem?_toArray, List.length_cons, List.length_nil, true_or, or_true, or_false, false_or, Classical.not_not, Bool.false_eq_true, hp_2, Nat.zero_le, Nat.le_refl, Option.some.injEq, Sum.inl.injEq, Sum.inr.injEq, not_true_eq_false, true_implies, false_implies, implies_true, Int.le_refl, rd_o, rd_o_s, hr, row_len, inA_one, inA_lik, inA_cpl, isOne_eq hO hr, isCouple_eq hO hr, isIn_eq, atOne_eq, atLike_eq, atCouple_eq, r_num, q_n0, q_n1, r_cp, r_dy, r_sl, r_who, q_kind, q_fig, q_dep, q_bnd, q_lik, q_man, q_wom, q_sta, q_dds, orNoneR_eq, Int.zero_add, gX12_looksAtMatching, e1, rd_o_he, sW_he, lh, hg']
      exact ih (m + 1) _ (by omega) (by omega) (by omega) (by omega) hq
    · rw [if_neg c] at hq hg
      have wi := wi.resolve_left c
      have g1 : 0 ≤ gt0 wv m := wi.1
      have g2 : ¬ gt0 wv m < 0 := by omega
      have ig : inI (gt0 wv m) = true := inI_of (by omega) (by omega)
      have l1 := hO.lik 0 m (gt0 wv m) (by omega) (by omega) h0 (by omega) wi.1 (by omega)
      have l2 := hO.lik 1 (gt0 wv m) m (by omega) (by omega) wi.1 (by omega) h0 (by omega)
      have hg' : (hR wv).getD m.toNat 0 = gt0 wv m := hg
      generalize gt0 wv m = x at *
      refine G_run (B := [25, 106]) 60 _ _ _ _ ?_
      simp (disch := first | assumption | rfl | exact inI_of (by omega) (by omega) | omega | decide | (simp only [sv_ext, sv_mc, Nat.le_refl]; done) | with_unfolding_all (refine @id _ ?_; first | exact Eq.refl _ | exact Nat.le_refl _ | assumption)) only [Nat.reduceAdd, Nat.reduceMul, Nat.reduceLeDiff, Nat.reduceLT, Int.reduceAdd, Int.reduceSub, Int.reduceMul, Int.reduceNeg, Int.reduceLE, Int.reduceLT, Int.reduceToNat, Int.reduceEq, reduceCtorEq, ld_z, ld_s, st1_0, st1_1, st1_s, st2_0, st2_1, st2_s, isJ_i, isJ_r, isJ_n, isJ_l, cs_nil, cs_i, cs_r, cs_l, kF, List.getElem?_cons_succ, List.getElem?_cons_zero, List.set_cons_zero, List.set_cons_succ, GC_s, GC_n, GK_nil, GK_no, GK_yes, not_false_eq_true, back_eq, back_hp, inI_eq, inA_eq, true_and, and_true, and_self, if_true, if_false, bI_0, bI_1, bI_in, bI_T, bI_F, fitF, jmpF, nlF, pjA, iVal.eta, iYr.eta, List.getElem?_toArray, List.length_cons, List.length_nil, true_or, or_true, or_false, false_or, Classical.not_not, Bool.false_eq_true, hp_2, Nat.zero_le, Nat.le_refl, Option.some.injEq, Sum.inl.injEq, Sum.inr.injEq, not_true_eq_false, true_implies, false_implies, implies_true, Int.le_refl, rd_o, rd_o_s, hr, row_len, inA_one, inA_lik, inA_cpl, isOne_eq hO hr, isCouple_eq hO hr, isIn_eq, atOne_eq, atLike_eq, atCouple_eq, r_num, q_n0, q_n1, r_cp, r_dy, r_sl, r_who, q_kind, q_fig, q_dep, q_bnd, q_lik, q_man, q_wom, q_sta, q_dds, orNoneR_eq, Int.zero_add, gX12_looksAtMatching, e1, rd_o_he, sW_he, lh, hg', g1, g2, ig]
      exact ih (m + 1) _ (by omega) (by omega) (by omega) (by omega) hq
theorem cpR_it {v i : Int} {l : List Int} (h0 : 0 ≤ i) (h1 : i < 5) (lh : he.length = 5) (lb : t.2.2.length = 5) (hq : Run sp sc (d + 1) mX12_looksAtMatching 106 [some (.inr (.inr 140)), some (.inl v), some (.inl (i + 1))] [] (hp (A.sW he (t.1, t.2.1, t.2.2.set i.toNat (gt0 he i)))) Q) : Run sp sc (d + 1) mX12_looksAtMatching 106 [some (.inr (.inr 140)), some (.inl v), some (.inl i)] [] (hp (A.sW he t)) Q := by
  refine G_run (B := [25, 106]) 60 _ _ _ _ ?_
  have e1 : ¬ 5 ≤ i := by omega
  simp (disch := first | assumption | rfl | exact inI_of (by omega) (by omega) | omega | decide | (simp only [sv_ext, sv_mc, Nat.le_refl]; done) | with_unfolding_all (refine @id _ ?_; first | exact Eq.refl _ | exact Nat.le_refl _ | assumption)) only [Nat.reduceAdd, Nat.reduceMul, Nat.reduceLeDiff, Nat.reduceLT, Int.reduceAdd, Int.reduceSub, Int.reduceMul, Int.reduceNeg, Int.reduceLE, Int.reduceLT, Int.reduceToNat, Int.reduceEq, reduceCtorEq, ld_z, ld_s, st1_0, st1_1, st1_s, st2_0, st2_1, st2_s, isJ_i, isJ_r, isJ_n, isJ_l, cs_nil, cs_i, cs_r, cs_l, kF, List.getElem?_cons_succ, List.getElem?_cons_zero, List.set_cons_zero, List.set_cons_succ, GC_s, GC_n, GK_nil, GK_no, GK_yes, not_false_eq_true, back_eq, back_hp, inI_eq, inA_eq, true_and, and_true, and_self, if_true, if_false, bI_0, bI_1, bI_in, bI_T, bI_F, fitF, jmpF, nlF, pjA, iVal.eta, iYr.eta, List.getElem?_toArray, List.length_cons, List.length_nil, true_or, or_true, or_false, false_or, Classical.not_not, Bool.false_eq_true, hp_2, Nat.zero_le, Nat.le_refl, Option.some.injEq, Sum.inl.injEq, Sum.inr.injEq, not_true_eq_false, true_implies, false_implies, implies_true, Int.le_refl, gX12_looksAtMatching, e1, rd_o, rd_o_he, rd_o_bh, sW_he, sW_bh, lh, lb, f_gt0, wr_Wbh]
  exact hq
theorem cp5 {l k : List Int} (h : l.length = 5) (h2 : k.length = 5) : ((((l.set 0 (gt0 k 0)).set 1 (gt0 k 1)).set 2 (gt0 k 2)).set 3 (gt0 k 3)).set 4 (gt0 k 4) = k := by
  match l, h, k, h2 with
  | [a, b, c, x, y], _, [a', b', c', x', y'], _ => rfl
theorem looks_eq (hO : OkV X) (hr : A.mo.s = rowOf X e) (hM : OkM X wv hb) (ht : tOK t) {tog : Int} (htog : ttF X wv (X.num 0).toNat 0 0 = tog) (h0 : 0 ≤ tog) (h1 : tog ≤ 2000) : Call sp sc (d + 4) mX12_looksAtMatching [.inr (.inr 140)] (hp (A.sW (hR wv) t)) Q = Q none (hp (A.sW (hR wv) (mtN X t (tog, wv, hb)))) := Call_eq (by
  have n0 := hO.n0
  have hr2 : (A.sW (hR wv) t).mo.s = rowOf X e := hr
  have lw := hM.lw
  have fb : -4 ≤ X.fl wv hb ∧ X.fl wv hb < 100 := flO_b hO _ 0 (by omega) (by omega)
  have fp : X.fl wv hb = -4 ∨ 0 ≤ X.fl wv hb := by
    have : ∀ (k : Nat) (m : Int), 0 ≤ m → X.flO wv hb k m = -4 ∨ 0 ≤ X.flO wv hb k m := fun k => by
      induction k with
      | zero => intro m _; left; rfl
      | succ k ih =>
        intro m hm
        unfold iVal.flO
        split
        · exact ih _ (by omega)
        · rcases flI_b (X := X) (wv := wv) (hb := hb) hm (X.num 1).toNat 0 (by omega) with z | z
          · contradiction
          · right; omega
    exact this _ 0 (by omega)
  have lv := fun Q => @leaving_eq sp sc d (A.sW (hR wv) t) Q X e wv hb hO hr2 hM (sameH_hR hO hM)
  have lh : (hR wv).length = 5 := by rw [hR_len]; exact lw
  have mb := ht.1
  have it : inI t.2.1 = true := inI_of (by omega) (by omega)
  have io : inI tog = true := inI_of (by omega) (by omega)
  have i1 : inI (X.fl wv hb) = true := inI_of (by omega) (by omega)
  apply eX12_looksAtMatching 60
  have main : ∀ (u : Int), Run sp sc (d + 4) mX12_looksAtMatching 25 [some (.inr (.inr 140)), some (.inl 0), some (.inl 0)] [] (hp (A.sW (hR wv) (u, t.2.1, t.2.2))) (fun a b => a = none ∧ b = hp (A.sW (hR wv) (u, if t.2.1 < tog then tog else t.2.1, if t.2.1 < tog then hR wv else t.2.2))) := fun u => by
    refine ltR_loop (d := d + 3) hO hr hM (X.num 0).toNat 0 0 (by omega) (by omega) (by omega) (by omega) ?_
    rw [htog]
    have hr : (A.sW (hR wv) (u, t.2.1, t.2.2)).mo.s = rowOf X e := hr
    refine G_run (B := [25, 106]) 60 _ _ _ _ ?_
    by_cases y : t.2.1 < tog
    · rw [if_pos y, if_pos y]
      simp (disch := first | assumption | rfl | exact inI_of (by omega) (by omega) | omega | decide | (simp only [sv_ext, sv_mc, Nat.le_refl]; done) | with_unfolding_all (refine @id _ ?_; first | exact Eq.refl _ | exact Nat.le_refl _ | assumption)) only [Nat.reduceAdd, Nat.reduceMul, Nat.reduceLeDiff, Nat.reduceLT, Int.reduceAdd, Int.reduceSub, Int.reduceMul, Int.reduceNeg, Int.reduceLE, Int.reduceLT, Int.reduceToNat, Int.reduceEq, reduceCtorEq, ld_z, ld_s, st1_0, st1_1, st1_s, st2_0, st2_1, st2_s, isJ_i, isJ_r, isJ_n, isJ_l, cs_nil, cs_i, cs_r, cs_l, kF, List.getElem?_cons_succ, List.getElem?_cons_zero, List.set_cons_zero, List.set_cons_succ, GC_s, GC_n, GK_nil, GK_no, GK_yes, not_false_eq_true, back_eq, back_hp, inI_eq, inA_eq, true_and, and_true, and_self, if_true, if_false, bI_0, bI_1, bI_in, bI_T, bI_F, fitF, jmpF, nlF, pjA, iVal.eta, iYr.eta, List.getElem?_toArray, List.length_cons, List.length_nil, true_or, or_true, or_false, false_or, Classical.not_not, Bool.false_eq_true, hp_2, Nat.zero_le, Nat.le_refl, Option.some.injEq, Sum.inl.injEq, Sum.inr.injEq, not_true_eq_false, true_implies, false_implies, implies_true, Int.le_refl, rd_o, rd_o_s, hr, row_len, inA_one, inA_lik, inA_cpl, isOne_eq hO hr, isCouple_eq hO hr, isIn_eq, atOne_eq, atLike_eq, atCouple_eq, r_num, q_n0, q_n1, r_cp, r_dy, r_sl, r_who, q_kind, q_fig, q_dep, q_bnd, q_lik, q_man, q_wom, q_sta, q_dds, orNoneR_eq, Int.zero_add, gX12_looksAtMatching, sW_ml, sW_st, y, io, it, wr_WO]
      have lb := ht.2
      have L := fun (l : List Int) (v : Int) (i : Nat) (h : l.length = 5) => (show (l.set i v).length = 5 from by rw [List.length_set]; exact h)
      refine cpR_it (l := []) (by omega) (by omega) lh lb ?_
      refine cpR_it (l := []) (by omega) (by omega) lh (L _ _ _ lb) ?_
      refine cpR_it (l := []) (by omega) (by omega) lh (L _ _ _ (L _ _ _ lb)) ?_
      refine cpR_it (l := []) (by omega) (by omega) lh (L _ _ _ (L _ _ _ (L _ _ _ lb))) ?_
      refine cpR_it (l := []) (by omega) (by omega) lh (L _ _ _ (L _ _ _ (L _ _ _ (L _ _ _ lb)))) ?_
      refine G_run (B := [25, 106]) 40 _ _ _ _ ?_
      have cc := cp5 lb lh
      simp (disch := first | assumption | rfl | exact inI_of (by omega) (by omega) | omega | decide | (simp only [sv_ext, sv_mc, Nat.le_refl]; done) | with_unfolding_all (refine @id _ ?_; first | exact Eq.refl _ | exact Nat.le_refl _ | assumption)) only [Nat.reduceAdd, Nat.reduceMul, Nat.reduceLeDiff, Nat.reduceLT, Int.reduceAdd, Int.reduceSub, Int.reduceMul, Int.reduceNeg, Int.reduceLE, Int.reduceLT, Int.reduceToNat, Int.reduceEq, reduceCtorEq, ld_z, ld_s, st1_0, st1_1, st1_s, st2_0, st2_1, st2_s, isJ_i, isJ_r, isJ_n, isJ_l, cs_nil, cs_i, cs_r, cs_l, kF, List.getElem?_cons_succ, List.getElem?_cons_zero, List.set_cons_zero, List.set_cons_succ, GC_s, GC_n, GK_nil, GK_no, GK_yes, not_false_eq_true, back_eq, back_hp, inI_eq, inA_eq, true_and, and_true, and_self, if_true, if_false, bI_0, bI_1, bI_in, bI_T, bI_F, fitF, jmpF, nlF, pjA, iVal.eta, iYr.eta, List.getElem?_toArray, List.length_cons, List.length_nil, true_or, or_true, or_false, false_or, Classical.not_not, Bool.false_eq_true, hp_2, Nat.zero_le, Nat.le_refl, Option.some.injEq, Sum.inl.injEq, Sum.inr.injEq, not_true_eq_false, true_implies, false_implies, implies_true, Int.le_refl, gX12_looksAtMatching]
      exact congrArg (fun l => hp (A.sW (hR wv) (u, tog, l))) cc
    · rw [if_neg y, if_neg y]
      simp (disch := first | assumption | rfl | exact inI_of (by omega) (by omega) | omega | decide | (simp only [sv_ext, sv_mc, Nat.le_refl]; done) | with_unfolding_all (refine @id _ ?_; first | exact Eq.refl _ | exact Nat.le_refl _ | assumption)) only [Nat.reduceAdd, Nat.reduceMul, Nat.reduceLeDiff, Nat.reduceLT, Int.reduceAdd, Int.reduceSub, Int.reduceMul, Int.reduceNeg, Int.reduceLE, Int.reduceLT, Int.reduceToNat, Int.reduceEq, reduceCtorEq, ld_z, ld_s, st1_0, st1_1, st1_s, st2_0, st2_1, st2_s, isJ_i, isJ_r, isJ_n, isJ_l, cs_nil, cs_i, cs_r, cs_l, kF, List.getElem?_cons_succ, List.getElem?_cons_zero, List.set_cons_zero, List.set_cons_succ, GC_s, GC_n, GK_nil, GK_no, GK_yes, not_false_eq_true, back_eq, back_hp, inI_eq, inA_eq, true_and, and_true, and_self, if_true, if_false, bI_0, bI_1, bI_in, bI_T, bI_F, fitF, jmpF, nlF, pjA, iVal.eta, iYr.eta, List.getElem?_toArray, List.length_cons, List.length_nil, true_or, or_true, or_false, false_or, Classical.not_not, Bool.false_eq_true, hp_2, Nat.zero_le, Nat.le_refl, Option.some.injEq, Sum.inl.injEq, Sum.inr.injEq, not_true_eq_false, true_implies, false_implies, implies_true, Int.le_refl, rd_o, rd_o_s, hr, row_len, inA_one, inA_lik, inA_cpl, isOne_eq hO hr, isCouple_eq hO hr, isIn_eq, atOne_eq, atLike_eq, atCouple_eq, r_num, q_n0, q_n1, r_cp, r_dy, r_sl, r_who, q_kind, q_fig, q_dep, q_bnd, q_lik, q_man, q_wom, q_sta, q_dds, orNoneR_eq, Int.zero_add, gX12_looksAtMatching, sW_ml, sW_st, y, io, it]
  unfold mtN
  dsimp only
  by_cases z : X.fl wv hb = -4
  · rw [if_pos z]
    rw [z] at lv
    simp (disch := first | assumption | rfl | exact inI_of (by omega) (by omega) | omega | decide | (simp only [sv_ext, sv_mc, Nat.le_refl]; done) | with_unfolding_all (refine @id _ ?_; first | exact Eq.refl _ | exact Nat.le_refl _ | assumption)) only [Nat.reduceAdd, Nat.reduceMul, Nat.reduceLeDiff, Nat.reduceLT, Int.reduceAdd, Int.reduceSub, Int.reduceMul, Int.reduceNeg, Int.reduceLE, Int.reduceLT, Int.reduceToNat, Int.reduceEq, reduceCtorEq, ld_z, ld_s, st1_0, st1_1, st1_s, st2_0, st2_1, st2_s, isJ_i, isJ_r, isJ_n, isJ_l, cs_nil, cs_i, cs_r, cs_l, kF, List.getElem?_cons_succ, List.getElem?_cons_zero, List.set_cons_zero, List.set_cons_succ, GC_s, GC_n, GK_nil, GK_no, GK_yes, not_false_eq_true, back_eq, back_hp, inI_eq, inA_eq, true_and, and_true, and_self, if_true, if_false, bI_0, bI_1, bI_in, bI_T, bI_F, fitF, jmpF, nlF, pjA, iVal.eta, iYr.eta, List.getElem?_toArray, List.length_cons, List.length_nil, true_or, or_true, or_false, false_or, Classical.not_not, Bool.false_eq_true, hp_2, Nat.zero_le, Nat.le_refl, Option.some.injEq, Sum.inl.injEq, Sum.inr.injEq, not_true_eq_false, true_implies, false_implies, implies_true, Int.le_refl, gX12_looksAtMatching, rd_o, lv, sW_ml, sW_st, wr_WO]
    exact main (t.1 + 1)
  · rw [if_neg z]
    have z2 : 0 ≤ X.fl wv hb := by omega
    have z3 : ¬ X.fl wv hb < 0 := by omega
    simp (disch := first | assumption | rfl | exact inI_of (by omega) (by omega) | omega | decide | (simp only [sv_ext, sv_mc, Nat.le_refl]; done) | with_unfolding_all (refine @id _ ?_; first | exact Eq.refl _ | exact Nat.le_refl _ | assumption)) only [Nat.reduceAdd, Nat.reduceMul, Nat.reduceLeDiff, Nat.reduceLT, Int.reduceAdd, Int.reduceSub, Int.reduceMul, Int.reduceNeg, Int.reduceLE, Int.reduceLT, Int.reduceToNat, Int.reduceEq, reduceCtorEq, ld_z, ld_s, st1_0, st1_1, st1_s, st2_0, st2_1, st2_s, isJ_i, isJ_r, isJ_n, isJ_l, cs_nil, cs_i, cs_r, cs_l, kF, List.getElem?_cons_succ, List.getElem?_cons_zero, List.set_cons_zero, List.set_cons_succ, GC_s, GC_n, GK_nil, GK_no, GK_yes, not_false_eq_true, back_eq, back_hp, inI_eq, inA_eq, true_and, and_true, and_self, if_true, if_false, bI_0, bI_1, bI_in, bI_T, bI_F, fitF, jmpF, nlF, pjA, iVal.eta, iYr.eta, List.getElem?_toArray, List.length_cons, List.length_nil, true_or, or_true, or_false, false_or, Classical.not_not, Bool.false_eq_true, hp_2, Nat.zero_le, Nat.le_refl, Option.some.injEq, Sum.inl.injEq, Sum.inr.injEq, not_true_eq_false, true_implies, false_implies, implies_true, Int.le_refl, gX12_looksAtMatching, rd_o, lv, sW_ml, sW_st, wr_WO, z2, z3, i1]
    exact main (t.1 + 0)
    )
theorem each_eq (hO : OkV X) (hr : A.mo.s = rowOf X e) : ∀ (k : Nat) (m s tog twos : Int) (n : Nat) (wv hb : List Int) (t : iTm) (Q : Option iV → iH → Prop), OkM X wv hb → (∀ j, m ≤ j → j < 5 → gt0 wv j = -1) → seenOK hb n → tOK t → twoOK X k s twos hb → 0 ≤ m → m + k = X.num 0 → 0 ≤ tog → tog ≤ 200 * m → ttF X wv (X.num 0).toNat 0 0 = tog → s ≤ 5 → Call sp sc (d + 5 + k) mX12_eachMatching [.inr (.inr 140), .inl m, .inl (n : Int), .inl twos] (hp (A.sW (hR wv) t)) Q = Q none (hp (A.sW (hR wv) ((lvM X k m s tog wv hb).foldl (mtN X) t))) := by
  have n0 := hO.n0
  have n1 := hO.n1
  intro k
  induction k with
  | zero =>
    intro m s tog twos n wv hb t Q hM hw hn ht h2 h0 h1 h3 h4 h5 h6
    refine Call_eq ?_
    have lk := fun Q => @looks_eq sp sc d A Q X e wv hb t hO hr hM ht tog h5 h3 (by omega)
    have hr : (A.sW (hR wv) t).mo.s = rowOf X e := hr
    have t0 : twos = 0 := by unfold twoOK at h2; omega
    subst t0
    apply eX12_eachMatching 40
    have e1 : m = X.num 0 := by omega
    simp (disch := first | assumption | rfl | exact inI_of (by omega) (by omega) | omega | decide | (simp only [sv_ext, sv_mc, Nat.le_refl]; done) | with_unfolding_all (refine @id _ ?_; first | exact Eq.refl _ | exact Nat.le_refl _ | assumption)) only [Nat.reduceAdd, Nat.reduceMul, Nat.reduceLeDiff, Nat.reduceLT, Int.reduceAdd, Int.reduceSub, Int.reduceMul, Int.reduceNeg, Int.reduceLE, Int.reduceLT, Int.reduceToNat, Int.reduceEq, reduceCtorEq, ld_z, ld_s, st1_0, st1_1, st1_s, st2_0, st2_1, st2_s, isJ_i, isJ_r, isJ_n, isJ_l, cs_nil, cs_i, cs_r, cs_l, kF, List.getElem?_cons_succ, List.getElem?_cons_zero, List.set_cons_zero, List.set_cons_succ, GC_s, GC_n, GK_nil, GK_no, GK_yes, not_false_eq_true, back_eq, back_hp, inI_eq, inA_eq, true_and, and_true, and_self, if_true, if_false, bI_0, bI_1, bI_in, bI_T, bI_F, fitF, jmpF, nlF, pjA, iVal.eta, iYr.eta, List.getElem?_toArray, List.length_cons, List.length_nil, true_or, or_true, or_false, false_or, Classical.not_not, Bool.false_eq_true, hp_2, Nat.zero_le, Nat.le_refl, Option.some.injEq, Sum.inl.injEq, Sum.inr.injEq, not_true_eq_false, true_implies, false_implies, implies_true, Int.le_refl, rd_o, rd_o_s, hr, row_len, inA_one, inA_lik, inA_cpl, isOne_eq hO hr, isCouple_eq hO hr, isIn_eq, atOne_eq, atLike_eq, atCouple_eq, r_num, q_n0, q_n1, r_cp, r_dy, r_sl, r_who, q_kind, q_fig, q_dep, q_bnd, q_lik, q_man, q_wom, q_sta, q_dds, orNoneR_eq, Int.zero_add, gX12_eachMatching, eq_true e1, lk, back_sW]
    rfl
  | succ k ih =>
    intro m s tog twos n wv hb t Q hM hw hn ht h2 h0 h1 h3 h4 h5 h6
    refine Call_eq ?_
    have h2' := h2
    unfold twoOK at h2'
    have e1 : ¬ m = X.num 0 := by omega
    have hr0 : ∀ he t, (A.sW he t).mo.s = rowOf X e := fun _ _ => hr
    have it : inI twos = true := inI_of (by omega) (by omega)
    have im : inI m = true := inI_of (by omega) (by omega)
    have lw := hM.lw
    have lh := hM.lh
    have wm := hw m (Int.le_refl _) (by omega)
    have lhr : (hR wv).length = 5 := by rw [hR_len]; exact lw
    have lv : lvM X (k + 1) m s tog wv hb = ((List.range' 0 (X.num 1).toNat).flatMap fun (w : Nat) => if gt0 hb (w : Int) = -1 then lvM X k (m + 1) s (tog + (X.lik 0 m (w : Int) + X.lik 1 (w : Int) m)) (wv.set m.toNat (w : Int)) (hb.set ((w : Int)).toNat m) else []) ++ (if 0 < s then lvM X k (m + 1) (s - 1) tog wv hb else []) := rfl
    rw [lv, List.foldl_append]
    have e0 : hR wv = (hR wv).set m.toNat (-4) := by
      have := hR_none (l := wv) (v := -4) h0 (by omega) wm
      rw [List.set_set] at this
      exact this.symm
    apply eX12_eachMatching 40
    have hr := hr0 (hR wv) t
    simp (disch := first | assumption | rfl | exact inI_of (by omega) (by omega) | omega | decide | (simp only [sv_ext, sv_mc, Nat.le_refl]; done) | with_unfolding_all (refine @id _ ?_; first | exact Eq.refl _ | exact Nat.le_refl _ | assumption)) only [Nat.reduceAdd, Nat.reduceMul, Nat.reduceLeDiff, Nat.reduceLT, Int.reduceAdd, Int.reduceSub, Int.reduceMul, Int.reduceNeg, Int.reduceLE, Int.reduceLT, Int.reduceToNat, Int.reduceEq, reduceCtorEq, ld_z, ld_s, st1_0, st1_1, st1_s, st2_0, st2_1, st2_s, isJ_i, isJ_r, isJ_n, isJ_l, cs_nil, cs_i, cs_r, cs_l, kF, List.getElem?_cons_succ, List.getElem?_cons_zero, List.set_cons_zero, List.set_cons_succ, GC_s, GC_n, GK_nil, GK_no, GK_yes, not_false_eq_true, back_eq, back_hp, inI_eq, inA_eq, true_and, and_true, and_self, if_true, if_false, bI_0, bI_1, bI_in, bI_T, bI_F, fitF, jmpF, nlF, pjA, iVal.eta, iYr.eta, List.getElem?_toArray, List.length_cons, List.length_nil, true_or, or_true, or_false, false_or, Classical.not_not, Bool.false_eq_true, hp_2, Nat.zero_le, Nat.le_refl, Option.some.injEq, Sum.inl.injEq, Sum.inr.injEq, not_true_eq_false, true_implies, false_implies, implies_true, Int.le_refl, rd_o, rd_o_s, hr, row_len, inA_one, inA_lik, inA_cpl, isOne_eq hO hr, isCouple_eq hO hr, isIn_eq, atOne_eq, atLike_eq, atCouple_eq, r_num, q_n0, q_n1, r_cp, r_dy, r_sl, r_who, q_kind, q_fig, q_dep, q_bnd, q_lik, q_man, q_wom, q_sta, q_dds, orNoneR_eq, Int.zero_add, gX12_eachMatching, e1]
    have single : ∀ (x : Int) (t : iTm), tOK t → ∀ Q : Option iV → iH → Prop, Q none (hp (A.sW (hR wv) ((if 0 < s then lvM X k (m + 1) (s - 1) tog wv hb else []).foldl (mtN X) t))) → Run sp sc (d + 5 + k + 1) mX12_eachMatching 22 [some (.inr (.inr 140)), some (.inl m), some (.inl (n : Int)), some (.inl twos), some (.inl (X.num 1))] [] (hp (A.sW ((hR wv).set m.toNat x) t)) Q := fun x t ht Q hq => by
      have hr := hr0 ((hR wv).set m.toNat x) t
      have hr2 := hr0 (hR wv) t
      have en := hR_none (l := wv) (v := x) h0 (by omega) wm
      have lx : ((hR wv).set m.toNat x).length = 5 := by rw [List.length_set]; exact lhr
      refine G_run (B := [22]) 60 _ _ _ _ ?_
      by_cases c : 0 < s
      · rw [if_pos c] at hq
        have c2 : ¬ X.num 0 - m ≤ twos := by omega
        have rcc := fun Q => ih (m + 1) (s - 1) tog twos n wv hb t Q hM (fun j a b => hw j (by omega) b) hn ht (twoOK_alone h2 c) (by omega) (by omega) h3 (by omega) h5 (by omega)
        simp (disch := first | assumption | rfl | exact inI_of (by omega) (by omega) | omega | decide | (simp only [sv_ext, sv_mc, Nat.le_refl]; done) | with_unfolding_all (refine @id _ ?_; first | exact Eq.refl _ | exact Nat.le_refl _ | assumption)) only [Nat.reduceAdd, Nat.reduceMul, Nat.reduceLeDiff, Nat.reduceLT, Int.reduceAdd, Int.reduceSub, Int.reduceMul, Int.reduceNeg, Int.reduceLE, Int.reduceLT, Int.reduceToNat, Int.reduceEq, reduceCtorEq, ld_z, ld_s, st1_0, st1_1, st1_s, st2_0, st2_1, st2_s, isJ_i, isJ_r, isJ_n, isJ_l, cs_nil, cs_i, cs_r, cs_l, kF, List.getElem?_cons_succ, List.getElem?_cons_zero, List.set_cons_zero, List.set_cons_succ, GC_s, GC_n, GK_nil, GK_no, GK_yes, not_false_eq_true, back_eq, back_hp, inI_eq, inA_eq, true_and, and_true, and_self, if_true, if_false, bI_0, bI_1, bI_in, bI_T, bI_F, fitF, jmpF, nlF, pjA, iVal.eta, iYr.eta, List.getElem?_toArray, List.length_cons, List.length_nil, true_or, or_true, or_false, false_or, Classical.not_not, Bool.false_eq_true, hp_2, Nat.zero_le, Nat.le_refl, Option.some.injEq, Sum.inl.injEq, Sum.inr.injEq, not_true_eq_false, true_implies, false_implies, implies_true, Int.le_refl, rd_o, rd_o_s, hr, row_len, inA_one, inA_lik, inA_cpl, isOne_eq hO hr, isCouple_eq hO hr, isIn_eq, atOne_eq, atLike_eq, atCouple_eq, r_num, q_n0, q_n1, r_cp, r_dy, r_sl, r_who, q_kind, q_fig, q_dep, q_bnd, q_lik, q_man, q_wom, q_sta, q_dds, orNoneR_eq, Int.zero_add, gX12_eachMatching, rd_o_he, sW_he, lx, wr_Whe, en, hr2, c2, rcc, back_sW]
        exact hq
      · rw [if_neg c] at hq
        have c2 : X.num 0 - m ≤ twos := by omega
        simp (disch := first | assumption | rfl | exact inI_of (by omega) (by omega) | omega | decide | (simp only [sv_ext, sv_mc, Nat.le_refl]; done) | with_unfolding_all (refine @id _ ?_; first | exact Eq.refl _ | exact Nat.le_refl _ | assumption)) only [Nat.reduceAdd, Nat.reduceMul, Nat.reduceLeDiff, Nat.reduceLT, Int.reduceAdd, Int.reduceSub, Int.reduceMul, Int.reduceNeg, Int.reduceLE, Int.reduceLT, Int.reduceToNat, Int.reduceEq, reduceCtorEq, ld_z, ld_s, st1_0, st1_1, st1_s, st2_0, st2_1, st2_s, isJ_i, isJ_r, isJ_n, isJ_l, cs_nil, cs_i, cs_r, cs_l, kF, List.getElem?_cons_succ, List.getElem?_cons_zero, List.set_cons_zero, List.set_cons_succ, GC_s, GC_n, GK_nil, GK_no, GK_yes, not_false_eq_true, back_eq, back_hp, inI_eq, inA_eq, true_and, and_true, and_self, if_true, if_false, bI_0, bI_1, bI_in, bI_T, bI_F, fitF, jmpF, nlF, pjA, iVal.eta, iYr.eta, List.getElem?_toArray, List.length_cons, List.length_nil, true_or, or_true, or_false, false_or, Classical.not_not, Bool.false_eq_true, hp_2, Nat.zero_le, Nat.le_refl, Option.some.injEq, Sum.inl.injEq, Sum.inr.injEq, not_true_eq_false, true_implies, false_implies, implies_true, Int.le_refl, rd_o, rd_o_s, hr, row_len, inA_one, inA_lik, inA_cpl, isOne_eq hO hr, isCouple_eq hO hr, isIn_eq, atOne_eq, atLike_eq, atCouple_eq, r_num, q_n0, q_n1, r_cp, r_dy, r_sl, r_who, q_kind, q_fig, q_dep, q_bnd, q_lik, q_man, q_wom, q_sta, q_dds, orNoneR_eq, Int.zero_add, gX12_eachMatching, rd_o_he, sW_he, lx, wr_Whe, en, hr2, c2]
        exact hq
    have L : ∀ (q c : Nat) (x : Int) (t : iTm), ((c : Int) + (q : Int) = X.num 1) → tOK t → ∀ Q : Option iV → iH → Prop, Q none (hp (A.sW (hR wv) ((if 0 < s then lvM X k (m + 1) (s - 1) tog wv hb else []).foldl (mtN X) (((List.range' c q).flatMap fun (w : Nat) => if gt0 hb (w : Int) = -1 then lvM X k (m + 1) s (tog + (X.lik 0 m (w : Int) + X.lik 1 (w : Int) m)) (wv.set m.toNat (w : Int)) (hb.set ((w : Int)).toNat m) else []).foldl (mtN X) t)))) → Run sp sc (d + 5 + k + 1) mX12_eachMatching 22 [some (.inr (.inr 140)), some (.inl m), some (.inl (n : Int)), some (.inl twos), some (.inl (c : Int))] [] (hp (A.sW ((hR wv).set m.toNat x) t)) Q := by
      intro q
      induction q with
      | zero =>
        intro c x t hc ht Q hq
        have : (c : Int) = X.num 1 := by omega
        rw [this]
        exact single x t ht Q hq
      | succ q ihq =>
        intro c x t hc ht Q hq
        have c0 : (0 : Int) ≤ (c : Int) := by omega
        have c1 : (c : Int) < X.num 1 := by omega
        have e4 : ¬ X.num 1 ≤ (c : Int) := by omega
        have e5 : (c : Int) + 1 = ((c + 1 : Nat) : Int) := by omega
        rw [List.range'_succ, List.flatMap_cons, List.foldl_append] at hq
        have hr := hr0 ((hR wv).set m.toNat x) t
        have lx : ((hR wv).set m.toNat x).length = 5 := by rw [List.length_set]; exact lhr
        have sn := hn.2 (c : Int) c0 (by omega)
        refine G_run (B := [22]) 60 _ _ _ _ ?_
        by_cases f : gt0 hb (c : Int) = -1
        · rw [if_pos f] at hq
          have nf : ¬ bAnd (bShr (n : Int) (c : Int)) 1 = 1 := fun y => (sn.mp y) f
          have l1 := hO.lik 0 m (c : Int) (by omega) (by omega) h0 (by omega) c0 (by omega)
          have l2 := hO.lik 1 (c : Int) m (by omega) (by omega) c0 (by omega) h0 (by omega)
          have hM2 := okM_join hM h0 (by omega) (by omega) c0 c1 (by omega) wm f
          obtain ⟨n', en', hn'⟩ := seen_add hn c0 (by omega) h0 lh
          have tt : ttF X (wv.set m.toNat (c : Int)) (X.num 0).toNat 0 0 = tog + (X.lik 0 m (c : Int) + X.lik 1 (c : Int) m) := by
            have := ttF_set (X := X) lw (a := m) (x := (c : Int)) h0 (by omega) (by omega) m.toNat 0 0 (by omega) h0 (by omega) wm (X.num 0 - m - 1).toNat (fun j a b => hw j (by omega) (by omega))
            have ek : m.toNat + 1 + (X.num 0 - m - 1).toNat = (X.num 0).toNat := by omega
            rw [ek, h5] at this
            exact this
          have rcc := fun Q => ih (m + 1) s (tog + (X.lik 0 m (c : Int) + X.lik 1 (c : Int) m)) (twos - 1) n' (wv.set m.toNat (c : Int)) (hb.set ((c : Int)).toNat m) t Q hM2 (fun j a b => by rw [gt_set h0 (by omega) (by omega), if_neg (by omega)]; exact hw j (by omega) b) hn' ht (twoOK_join h2 lh c0 (by omega) c1 f h0) (by omega) (by omega) (by omega) (by omega) tt h6
          have lk := lvM_ok hO k (m + 1) s (tog + (X.lik 0 m (c : Int) + X.lik 1 (c : Int) m)) (wv.set m.toNat (c : Int)) (hb.set ((c : Int)).toNat m) (by omega) (by omega) (by omega) (by omega) (by rw [List.length_set]; exact lw)
          have ht2 := foldN_ok (X := X) _ t ht lk
          have es : (((hR wv).set m.toNat x).set m.toNat (c : Int)) = hR (wv.set m.toNat (c : Int)) := by rw [List.set_set, hR_set (by omega)]
          have es2 : hR (wv.set m.toNat (c : Int)) = (hR wv).set m.toNat (c : Int) := (hR_set (by omega)).symm
          generalize (lvM X k (m + 1) s (tog + (X.lik 0 m (c : Int) + X.lik 1 (c : Int) m)) (wv.set m.toNat (c : Int)) (hb.set ((c : Int)).toNat m)).foldl (mtN X) t = t2 at *
          simp (disch := first | assumption | rfl | exact inI_of (by omega) (by omega) | omega | decide | (simp only [sv_ext, sv_mc, Nat.le_refl]; done) | with_unfolding_all (refine @id _ ?_; first | exact Eq.refl _ | exact Nat.le_refl _ | assumption)) only [Nat.reduceAdd, Nat.reduceMul, Nat.reduceLeDiff, Nat.reduceLT, Int.reduceAdd, Int.reduceSub, Int.reduceMul, Int.reduceNeg, Int.reduceLE, Int.reduceLT, Int.reduceToNat, Int.reduceEq, reduceCtorEq, ld_z, ld_s, st1_0, st1_1, st1_s, st2_0, st2_1, st2_s, isJ_i, isJ_r, isJ_n, isJ_l, cs_nil, cs_i, cs_r, cs_l, kF, List.getElem?_cons_succ, List.getElem?_cons_zero, List.set_cons_zero, List.set_cons_succ, GC_s, GC_n, GK_nil, GK_no, GK_yes, not_false_eq_true, back_eq, back_hp, inI_eq, inA_eq, true_and, and_true, and_self, if_true, if_false, bI_0, bI_1, bI_in, bI_T, bI_F, fitF, jmpF, nlF, pjA, iVal.eta, iYr.eta, List.getElem?_toArray, List.length_cons, List.length_nil, true_or, or_true, or_false, false_or, Classical.not_not, Bool.false_eq_true, hp_2, Nat.zero_le, Nat.le_refl, Option.some.injEq, Sum.inl.injEq, Sum.inr.injEq, not_true_eq_false, true_implies, false_implies, implies_true, Int.le_refl, rd_o, rd_o_s, hr, row_len, inA_one, inA_lik, inA_cpl, isOne_eq hO hr, isCouple_eq hO hr, isIn_eq, atOne_eq, atLike_eq, atCouple_eq, r_num, q_n0, q_n1, r_cp, r_dy, r_sl, r_who, q_kind, q_fig, q_dep, q_bnd, q_lik, q_man, q_wom, q_sta, q_dds, orNoneR_eq, Int.zero_add, gX12_eachMatching, e4, has_eq, nf, rd_o_he, sW_he, lx, wr_Whe, es, en', rcc, back_sW, e5]
          rw [es2]
          exact ihq (c + 1) (c : Int) t2 (by omega) ht2 Q hq
        · rw [if_neg f] at hq
          have nf : bAnd (bShr (n : Int) (c : Int)) 1 = 1 := sn.mpr f
          simp (disch := first | assumption | rfl | exact inI_of (by omega) (by omega) | omega | decide | (simp only [sv_ext, sv_mc, Nat.le_refl]; done) | with_unfolding_all (refine @id _ ?_; first | exact Eq.refl _ | exact Nat.le_refl _ | assumption)) only [Nat.reduceAdd, Nat.reduceMul, Nat.reduceLeDiff, Nat.reduceLT, Int.reduceAdd, Int.reduceSub, Int.reduceMul, Int.reduceNeg, Int.reduceLE, Int.reduceLT, Int.reduceToNat, Int.reduceEq, reduceCtorEq, ld_z, ld_s, st1_0, st1_1, st1_s, st2_0, st2_1, st2_s, isJ_i, isJ_r, isJ_n, isJ_l, cs_nil, cs_i, cs_r, cs_l, kF, List.getElem?_cons_succ, List.getElem?_cons_zero, List.set_cons_zero, List.set_cons_succ, GC_s, GC_n, GK_nil, GK_no, GK_yes, not_false_eq_true, back_eq, back_hp, inI_eq, inA_eq, true_and, and_true, and_self, if_true, if_false, bI_0, bI_1, bI_in, bI_T, bI_F, fitF, jmpF, nlF, pjA, iVal.eta, iYr.eta, List.getElem?_toArray, List.length_cons, List.length_nil, true_or, or_true, or_false, false_or, Classical.not_not, Bool.false_eq_true, hp_2, Nat.zero_le, Nat.le_refl, Option.some.injEq, Sum.inl.injEq, Sum.inr.injEq, not_true_eq_false, true_implies, false_implies, implies_true, Int.le_refl, rd_o, rd_o_s, hr, row_len, inA_one, inA_lik, inA_cpl, isOne_eq hO hr, isCouple_eq hO hr, isIn_eq, atOne_eq, atLike_eq, atCouple_eq, r_num, q_n0, q_n1, r_cp, r_dy, r_sl, r_who, q_kind, q_fig, q_dep, q_bnd, q_lik, q_man, q_wom, q_sta, q_dds, orNoneR_eq, Int.zero_add, gX12_eachMatching, e4, has_eq, eq_true nf, e5]
          exact ihq (c + 1) x t (by omega) ht Q hq
    rw [e0]
    refine L (X.num 1).toNat 0 (-4) t (by omega) ht _ ?_
    rw [← e0]
    exact ⟨rfl, rfl⟩
theorem heI_it {i : Int} (h0 : 0 ≤ i) (h1 : i < 5) (lh : he.length = 5) (hq : Run sp sc d mX12_allMatchings 2 [some (.inr (.inr 140)), some (.inl (i + 1))] [] (hp (A.sW (he.set i.toNat (-4)) t)) Q) : Run sp sc d mX12_allMatchings 2 [some (.inr (.inr 140)), some (.inl i)] [] (hp (A.sW he t)) Q := by
  refine G_run (B := [2]) 40 _ _ _ _ ?_
  have e1 : ¬ 5 ≤ i := by omega
  simp (disch := first | assumption | rfl | exact inI_of (by omega) (by omega) | omega | decide | (simp only [sv_ext, sv_mc, Nat.le_refl]; done) | with_unfolding_all (refine @id _ ?_; first | exact Eq.refl _ | exact Nat.le_refl _ | assumption)) only [Nat.reduceAdd, Nat.reduceMul, Nat.reduceLeDiff, Nat.reduceLT, Int.reduceAdd, Int.reduceSub, Int.reduceMul, Int.reduceNeg, Int.reduceLE, Int.reduceLT, Int.reduceToNat, Int.reduceEq, reduceCtorEq, ld_z, ld_s, st1_0, st1_1, st1_s, st2_0, st2_1, st2_s, isJ_i, isJ_r, isJ_n, isJ_l, cs_nil, cs_i, cs_r, cs_l, kF, List.getElem?_cons_succ, List.getElem?_cons_zero, List.set_cons_zero, List.set_cons_succ, GC_s, GC_n, GK_nil, GK_no, GK_yes, not_false_eq_true, back_eq, back_hp, inI_eq, inA_eq, true_and, and_true, and_self, if_true, if_false, bI_0, bI_1, bI_in, bI_T, bI_F, fitF, jmpF, nlF, pjA, iVal.eta, iYr.eta, List.getElem?_toArray, List.length_cons, List.length_nil, true_or, or_true, or_false, false_or, Classical.not_not, Bool.false_eq_true, hp_2, Nat.zero_le, Nat.le_refl, Option.some.injEq, Sum.inl.injEq, Sum.inr.injEq, not_true_eq_false, true_implies, false_implies, implies_true, Int.le_refl, gX12_allMatchings, e1, rd_o, rd_o_he, sW_he, lh, wr_Whe]
  exact hq
def svN (X : iVal) (bh : List Int) : iTm := (lvM X (X.num 0).toNat 0 (if 0 < X.num 0 - X.num 1 then X.num 0 - X.num 1 else 0) 0 m5 m5).foldl (mtN X) (0, -1, bh)
theorem hR_m5 : hR m5 = f5 := rfl
theorem fr_m5 {X : iVal} (hO : OkV X) : frW X m5 = X.num 1 := by
  have n1 := hO.n1
  have t : ∀ w, 0 ≤ w → w < 5 → frT X m5 w = if w < X.num 1 then 1 else 0 := fun w a b => by
    unfold frT
    by_cases c : w < X.num 1
    · rw [if_pos c, if_pos ⟨c, gt_m5 a b⟩]
    · rw [if_neg c, if_neg (fun y => c y.1)]
  unfold frW
  rw [t 0 (by omega) (by omega), t 1 (by omega) (by omega), t 2 (by omega) (by omega), t 3 (by omega) (by omega), t 4 (by omega) (by omega)]
  have : X.num 1 = 0 ∨ X.num 1 = 1 ∨ X.num 1 = 2 ∨ X.num 1 = 3 ∨ X.num 1 = 4 ∨ X.num 1 = 5 := by omega
  rcases this with z | z | z | z | z | z <;> rw [z] <;> decide
theorem two_0 {X : iVal} (hO : OkV X) : twoOK X (X.num 0).toNat (if 0 < X.num 0 - X.num 1 then X.num 0 - X.num 1 else 0) (if X.num 0 < X.num 1 then X.num 0 else X.num 1) m5 := by
  have n0 := hO.n0
  have n1 := hO.n1
  unfold twoOK
  rw [fr_m5 hO]
  by_cases c : 0 < X.num 0 - X.num 1
  · rw [if_pos c, if_neg (by omega)]; omega
  · rw [if_neg c]
    by_cases c2 : X.num 0 < X.num 1
    · rw [if_pos c2]; omega
    · rw [if_neg c2]; omega
theorem allM_eq (hO : OkV X) (hr : A.mo.s = rowOf X e) (lh : A.mo.he.length = 5) (lb : A.mo.bh.length = 5) : Call sp sc 18 mX12_allMatchings [.inr (.inr 140)] (hp A) Q = Q none (hp (A.sW f5 (svN X A.mo.bh))) := Call_eq (by
  have n0 := hO.n0
  have n1 := hO.n1
  have eA : A = A.sW A.mo.he (A.mo.st, A.mo.ml, A.mo.bh) := rfl
  have L := fun (l : List Int) (v : Int) (i : Nat) (h : l.length = 5) => (show (l.set i v).length = 5 from by rw [List.length_set]; exact h)
  obtain ⟨d, hd⟩ : ∃ d : Nat, d + 5 + (X.num 0).toNat = 17 := ⟨12 - (X.num 0).toNat, by omega⟩
  have tt0 : ttF X m5 (X.num 0).toNat 0 0 = 0 := ttF_none _ _ _ (fun j a b => gt_m5 a (by omega))
  have em := fun Q => @each_eq sp sc d A X e hO hr (X.num 0).toNat 0 (if 0 < X.num 0 - X.num 1 then X.num 0 - X.num 1 else 0) 0 (if X.num 0 < X.num 1 then X.num 0 else X.num 1) 0 m5 m5 (0, -1, A.mo.bh) Q okM_m5 (fun j a b => gt_m5 a b) seen_0 ⟨⟨Int.le_refl _, show (-1 : Int) ≤ 2000 by omega⟩, lb⟩ (two_0 hO) (by omega) (by omega) (by omega) (by omega) tt0 (by split <;> omega)
  rw [hd, hR_m5] at em
  have c0 : ((0 : Nat) : Int) = 0 := rfl
  rw [c0] at em
  have le := fun Q h => @least_eq sp sc 17 h Q (X.num 0) (X.num 1) (inI_of (by omega) (by omega)) (inI_of (by omega) (by omega))
  apply eX12_allMatchings 40; simp (disch := first | assumption | rfl | exact inI_of (by omega) (by omega) | omega | decide | (simp only [sv_ext, sv_mc, Nat.le_refl]; done) | with_unfolding_all (refine @id _ ?_; first | exact Eq.refl _ | exact Nat.le_refl _ | assumption)) only [Nat.reduceAdd, Nat.reduceMul, Nat.reduceLeDiff, Nat.reduceLT, Int.reduceAdd, Int.reduceSub, Int.reduceMul, Int.reduceNeg, Int.reduceLE, Int.reduceLT, Int.reduceToNat, Int.reduceEq, reduceCtorEq, ld_z, ld_s, st1_0, st1_1, st1_s, st2_0, st2_1, st2_s, isJ_i, isJ_r, isJ_n, isJ_l, cs_nil, cs_i, cs_r, cs_l, kF, List.getElem?_cons_succ, List.getElem?_cons_zero, List.set_cons_zero, List.set_cons_succ, GC_s, GC_n, GK_nil, GK_no, GK_yes, not_false_eq_true, back_eq, back_hp, inI_eq, inA_eq, true_and, and_true, and_self, if_true, if_false, bI_0, bI_1, bI_in, bI_T, bI_F, fitF, jmpF, nlF, pjA, iVal.eta, iYr.eta, List.getElem?_toArray, List.length_cons, List.length_nil, true_or, or_true, or_false, false_or, Classical.not_not, Bool.false_eq_true, hp_2, Nat.zero_le, Nat.le_refl, Option.some.injEq, Sum.inl.injEq, Sum.inr.injEq, not_true_eq_false, true_implies, false_implies, implies_true, Int.le_refl, gX12_allMatchings]
  rw [eA]
  refine heI_it (by omega) (by omega) lh ?_
  refine heI_it (by omega) (by omega) (L _ _ _ lh) ?_
  refine heI_it (by omega) (by omega) (L _ _ _ (L _ _ _ lh)) ?_
  refine heI_it (by omega) (by omega) (L _ _ _ (L _ _ _ (L _ _ _ lh))) ?_
  refine heI_it (by omega) (by omega) (L _ _ _ (L _ _ _ (L _ _ _ (L _ _ _ lh)))) ?_
  have s5 : ((((A.mo.he.set (0 : Int).toNat (-4)).set (0 + 1 : Int).toNat (-4)).set (0 + 1 + 1 : Int).toNat (-4)).set (0 + 1 + 1 + 1 : Int).toNat (-4)).set (0 + 1 + 1 + 1 + 1 : Int).toNat (-4) = f5 := set5 lh
  rw [s5]
  refine G_run (B := [2]) 40 _ _ _ _ ?_
  have hrr : ∀ t, (A.sW f5 t).mo.s = rowOf X e := fun _ => hr
  simp (disch := first | assumption | rfl | exact inI_of (by omega) (by omega) | omega | decide | (simp only [sv_ext, sv_mc, Nat.le_refl]; done) | with_unfolding_all (refine @id _ ?_; first | exact Eq.refl _ | exact Nat.le_refl _ | assumption)) only [Nat.reduceAdd, Nat.reduceMul, Nat.reduceLeDiff, Nat.reduceLT, Int.reduceAdd, Int.reduceSub, Int.reduceMul, Int.reduceNeg, Int.reduceLE, Int.reduceLT, Int.reduceToNat, Int.reduceEq, reduceCtorEq, ld_z, ld_s, st1_0, st1_1, st1_s, st2_0, st2_1, st2_s, isJ_i, isJ_r, isJ_n, isJ_l, cs_nil, cs_i, cs_r, cs_l, kF, List.getElem?_cons_succ, List.getElem?_cons_zero, List.set_cons_zero, List.set_cons_succ, GC_s, GC_n, GK_nil, GK_no, GK_yes, not_false_eq_true, back_eq, back_hp, inI_eq, inA_eq, true_and, and_true, and_self, if_true, if_false, bI_0, bI_1, bI_in, bI_T, bI_F, fitF, jmpF, nlF, pjA, iVal.eta, iYr.eta, List.getElem?_toArray, List.length_cons, List.length_nil, true_or, or_true, or_false, false_or, Classical.not_not, Bool.false_eq_true, hp_2, Nat.zero_le, Nat.le_refl, Option.some.injEq, Sum.inl.injEq, Sum.inr.injEq, not_true_eq_false, true_implies, false_implies, implies_true, Int.le_refl, gX12_allMatchings, rd_o, rd_o_s, row_len, q_n0, q_n1, Int.zero_add, sW_st, sW_ml, wr_WO, hrr, le, em, back_sW]
  rfl)
def bK (l : List Int) : Prop := ∀ m, 0 ≤ m → m < 5 → -1 ≤ gt0 l m ∧ gt0 l m ≤ 5
theorem bK_set {l : List Int} (hl : l.length = 5) (h : bK l) {i v : Int} (h0 : 0 ≤ i) (h1 : i < 5) (v0 : -1 ≤ v) (v1 : v ≤ 5) : bK (l.set i.toNat v) := fun m a b => by
  rw [gt_set h0 a (by omega)]
  by_cases c : i = m
  · rw [if_pos c]; exact ⟨v0, v1⟩
  · rw [if_neg c]; exact h m a b
theorem lvM_b (hO : OkV X) : ∀ (k : Nat) (m s tog : Int) (wv hb : List Int), 0 ≤ m → m + k = X.num 0 → wv.length = 5 → bK wv → ∀ l ∈ lvM X k m s tog wv hb, bK l.2.1 := by
  have n0 := hO.n0
  have n1 := hO.n1
  intro k
  induction k with
  | zero =>
    intro m s tog wv hb h0 h1 lw hb' l hl
    rw [List.mem_singleton.mp hl]; exact hb'
  | succ k ih =>
    intro m s tog wv hb h0 h1 lw hb' l hl
    unfold lvM at hl
    rw [List.mem_append, List.mem_flatMap] at hl
    rcases hl with ⟨w, hw, hl⟩ | hl
    · have wb := List.mem_range'_1.mp hw
      by_cases c : gt0 hb (w : Int) = -1
      · rw [if_pos c] at hl
        exact ih _ _ _ _ _ (by omega) (by omega) (by rw [List.length_set]; exact lw) (bK_set lw hb' h0 (by omega) (by omega) (by omega)) l hl
      · rw [if_neg c] at hl; exact absurd hl (List.not_mem_nil)
    · by_cases c : 0 < s
      · rw [if_pos c] at hl
        exact ih _ _ _ _ _ (by omega) (by omega) lw hb' l hl
      · rw [if_neg c] at hl; exact absurd hl (List.not_mem_nil)
theorem foldM_b : ∀ (L : List iLf) (t : iTm), bK t.2.2 → (∀ l ∈ L, bK l.2.1) → bK (L.foldl (mtM X) t).2.2 := by
  intro L
  induction L with
  | nil => intro t h _; exact h
  | cons l L ih =>
    intro t h hl
    refine ih _ ?_ (fun x hx => hl x (List.mem_cons_of_mem _ hx))
    unfold mtM
    dsimp only
    by_cases c : t.2.1 < l.1
    · rw [if_pos c]; exact hl l (List.mem_cons_self ..)
    · rw [if_neg c]; exact h
theorem foldM_b1 {L : List iLf} (hne : L ≠ []) (hl : ∀ l ∈ L, lOK l) (hb : ∀ l ∈ L, bK l.2.1) (fm : List Int) : bK (L.foldl (mtM X) (0, -1, fm)).2.2 := by
  cases L with
  | nil => exact absurd rfl hne
  | cons l L =>
    have h0 := (hl l (List.mem_cons_self ..)).1.1
    refine foldM_b L _ ?_ (fun x hx => hb x (List.mem_cons_of_mem _ hx))
    unfold mtM
    dsimp only
    rw [if_pos (by omega)]
    exact hb l (List.mem_cons_self ..)
theorem ag_sv (hA : Rel A) : ∃ t u : iTm, (∀ Q, Call sp sc 18 mX4_survey [.inr (.inr 15)] (hp A) Q = Q none (hp (A.sV m5 m5 t))) ∧ (∀ Q, Call sp sc 18 mX12_allMatchings [.inr (.inr 140)] (hp (A.sV m5 m5 t)) Q = Q none (hp ((A.sV m5 m5 t).sW f5 u))) ∧ Rel ((A.sV m5 m5 t).sW f5 u) ∧ u.1 = t.1 ∧ u.2.1 = t.2.1 ∧ u.2.2 = hR t.2.2 ∧ (0 ≤ t.1 ∧ t.1 ≤ 7776) ∧ (-1 ≤ t.2.1 ∧ t.2.1 ≤ 2000) ∧ t.2.2.length = 5 ∧ bK t.2.2 := by
  have hO := hA.now
  have n0 := hO.n0
  have n1 := hO.n1
  have s1 := fun Q => @survey_eq sp sc A Q hO hA.lwv hA.lhb hA.lfm
  have hr : (A.sV m5 m5 (svF A.now A.mt.fm)).mo.s = rowOf A.now A.now.dy := hA.row
  have s2 := fun Q => @allM_eq sp sc (A.sV m5 m5 (svF A.now A.mt.fm)) Q A.now A.now.dy hO hr hA.lhe hA.lbh
  have ne := lvM_ne hO (A.now.num 0).toNat 0 (if 0 < A.now.num 0 - A.now.num 1 then A.now.num 0 - A.now.num 1 else 0) 0 _ m5 m5 (two_0 hO) rfl (by omega)
  have lo := lvM_ok hO (A.now.num 0).toNat 0 (if 0 < A.now.num 0 - A.now.num 1 then A.now.num 0 - A.now.num 1 else 0) 0 m5 m5 (by omega) (by omega) (by omega) (by omega) rfl
  have lb := lvM_b hO (A.now.num 0).toNat 0 (if 0 < A.now.num 0 - A.now.num 1 then A.now.num 0 - A.now.num 1 else 0) 0 m5 m5 (by omega) (by omega) rfl (fun m a b => by rw [gt_m5 a b]; omega)
  have ll := lvM_len hO (A.now.num 0).toNat 0 (if 0 < A.now.num 0 - A.now.num 1 then A.now.num 0 - A.now.num 1 else 0) 0 m5 m5
  have nm := foldNM1 (X := A.now) ne lo A.mt.fm A.mo.bh
  have ok := foldM_ok (X := A.now) _ (0, -1, A.mt.fm) ⟨⟨Int.le_refl _, show (-1 : Int) ≤ 2000 by omega⟩, hA.lfm⟩ lo
  have b1 := foldM_b1 (X := A.now) ne lo lb A.mt.fm
  have un := foldM_un (X := A.now) (lvM A.now (A.now.num 0).toNat 0 (if 0 < A.now.num 0 - A.now.num 1 then A.now.num 0 - A.now.num 1 else 0) 0 m5 m5) (0, -1, A.mt.fm)
  have p6 : 6 ^ (A.now.num 0).toNat ≤ 7776 := by
    have : (A.now.num 0).toNat = 0 ∨ (A.now.num 0).toNat = 1 ∨ (A.now.num 0).toNat = 2 ∨ (A.now.num 0).toNat = 3 ∨ (A.now.num 0).toNat = 4 ∨ (A.now.num 0).toNat = 5 := by omega
    rcases this with z | z | z | z | z | z <;> rw [z] <;> decide
  have u0 : ((0, -1, A.mt.fm) : iTm).1 = 0 := rfl
  have eb : (A.sV m5 m5 (svF A.now A.mt.fm)).mo.bh = A.mo.bh := rfl
  rw [eb] at s2
  refine ⟨svF A.now A.mt.fm, svN A.now A.mo.bh, s1, s2, ?_, nm.1, nm.2.1, nm.2.2, ?_, ok.1, ok.2, b1⟩
  · have lbh : (svN A.now A.mo.bh).2.2.length = 5 := by
      have : (svN A.now A.mo.bh).2.2 = hR (svF A.now A.mt.fm).2.2 := nm.2.2
      rw [this, hR_len]; exact ok.2
    exact (Rel.mk hA.now hA.img hA.mnd hA.mok hA.yr hA.ndy hA.idy hA.row hA.imd hA.him hA.imr hA.lim hA.lm hA.lwas hA.lwt hA.len hA.lod hA.lnu (rfl) (lbh) hA.lak hA.lfi hA.lth hA.lke hA.lkk hA.lkf hA.lso hA.lsz hA.lel (rfl) (rfl) (ok.2) hA.lmk hA.lpt hA.lout hA.shs hA.inj)
  · show 0 ≤ (svF A.now A.mt.fm).1 ∧ (svF A.now A.mt.fm).1 ≤ 7776
    unfold svF
    omega
theorem ag_allStable (hA : Rel A) : Agree sp sc mX11_allStable mX12_allStable [] A := by
  obtain ⟨t, u, s1, s2, hr, e1, e2, e3, b1, b2, b3, b4⟩ := @ag_sv sp sc A hA
  have bk : ∀ (L : List (Option iV)) (rest : List iV), back (hp A) (hp (A.sV m5 m5 t)) L rest = True := fun L rest => back_hp rfl (Nat.le_refl _)
  have bk2 : ∀ (L : List (Option iV)) (rest : List iV), back (hp (A.sV m5 m5 t)) (hp ((A.sV m5 m5 t).sW f5 u)) L rest = True := fun L rest => back_hp rfl (Nat.le_refl _)
  refine Agree.of t.1 (A.sV m5 m5 t) ((A.sV m5 m5 t).sW f5 u) (inI_of (by omega) (by omega)) (fun Q => Call_eq ?_) (fun Q => Call_eq ?_) rfl rfl hr
  · apply eX11_allStable 40; simp (disch := first | assumption | rfl | exact inI_of (by omega) (by omega) | omega | decide | (simp only [sv_ext, sv_mc, Nat.le_refl]; done) | with_unfolding_all (refine @id _ ?_; first | exact Eq.refl _ | exact Nat.le_refl _ | assumption)) only [Nat.reduceAdd, Nat.reduceMul, Nat.reduceLeDiff, Nat.reduceLT, Int.reduceAdd, Int.reduceSub, Int.reduceMul, Int.reduceNeg, Int.reduceLE, Int.reduceLT, Int.reduceToNat, Int.reduceEq, reduceCtorEq, ld_z, ld_s, st1_0, st1_1, st1_s, st2_0, st2_1, st2_s, isJ_i, isJ_r, isJ_n, isJ_l, cs_nil, cs_i, cs_r, cs_l, kF, List.getElem?_cons_succ, List.getElem?_cons_zero, List.set_cons_zero, List.set_cons_succ, GC_s, GC_n, GK_nil, GK_no, GK_yes, not_false_eq_true, back_eq, back_hp, inI_eq, inA_eq, true_and, and_true, and_self, if_true, if_false, bI_0, bI_1, bI_in, bI_T, bI_F, fitF, jmpF, nlF, pjA, iVal.eta, iYr.eta, List.getElem?_toArray, List.length_cons, List.length_nil, true_or, or_true, or_false, false_or, Classical.not_not, Bool.false_eq_true, hp_2, Nat.zero_le, Nat.le_refl, Option.some.injEq, Sum.inl.injEq, Sum.inr.injEq, not_true_eq_false, true_implies, false_implies, implies_true, Int.le_refl, rd_v, f_num, f_lik, f_dep, f_bnd, f_man, f_wom, f_sta, f_dds, f_who, rd_e, v_now, hasOne_eq, hasTwo_eq, hasCouple_eq, orNone_eq, natureOf_eq, rd_nat, place_eq, rd_v1, rd_v3, rd_v4, rd_v6, rd_v7, rd_v8, rd_v9, rd_v10, isShelf_eq, isSide_eq, isDeed_eq, isKind_eq, isMindSpan_eq, gX11_allStable, rd_m, s1, bk, sV_un]
  · apply eX12_allStable 40; simp (disch := first | assumption | rfl | exact inI_of (by omega) (by omega) | omega | decide | (simp only [sv_ext, sv_mc, Nat.le_refl]; done) | with_unfolding_all (refine @id _ ?_; first | exact Eq.refl _ | exact Nat.le_refl _ | assumption)) only [Nat.reduceAdd, Nat.reduceMul, Nat.reduceLeDiff, Nat.reduceLT, Int.reduceAdd, Int.reduceSub, Int.reduceMul, Int.reduceNeg, Int.reduceLE, Int.reduceLT, Int.reduceToNat, Int.reduceEq, reduceCtorEq, ld_z, ld_s, st1_0, st1_1, st1_s, st2_0, st2_1, st2_s, isJ_i, isJ_r, isJ_n, isJ_l, cs_nil, cs_i, cs_r, cs_l, kF, List.getElem?_cons_succ, List.getElem?_cons_zero, List.set_cons_zero, List.set_cons_succ, GC_s, GC_n, GK_nil, GK_no, GK_yes, not_false_eq_true, back_eq, back_hp, inI_eq, inA_eq, true_and, and_true, and_self, if_true, if_false, bI_0, bI_1, bI_in, bI_T, bI_F, fitF, jmpF, nlF, pjA, iVal.eta, iYr.eta, List.getElem?_toArray, List.length_cons, List.length_nil, true_or, or_true, or_false, false_or, Classical.not_not, Bool.false_eq_true, hp_2, Nat.zero_le, Nat.le_refl, Option.some.injEq, Sum.inl.injEq, Sum.inr.injEq, not_true_eq_false, true_implies, false_implies, implies_true, Int.le_refl, gX12_allStable, rd_o, s2, bk2, sW_st, e1]
theorem ag_most (hA : Rel A) : Agree sp sc mX11_most mX12_most [] A := by
  obtain ⟨t, u, s1, s2, hr, e1, e2, e3, b1, b2, b3, b4⟩ := @ag_sv sp sc A hA
  have bk : ∀ (L : List (Option iV)) (rest : List iV), back (hp A) (hp (A.sV m5 m5 t)) L rest = True := fun L rest => back_hp rfl (Nat.le_refl _)
  have bk2 : ∀ (L : List (Option iV)) (rest : List iV), back (hp (A.sV m5 m5 t)) (hp ((A.sV m5 m5 t).sW f5 u)) L rest = True := fun L rest => back_hp rfl (Nat.le_refl _)
  refine Agree.of t.2.1 (A.sV m5 m5 t) ((A.sV m5 m5 t).sW f5 u) (inI_of (by omega) (by omega)) (fun Q => Call_eq ?_) (fun Q => Call_eq ?_) rfl rfl hr
  · apply eX11_most 40; simp (disch := first | assumption | rfl | exact inI_of (by omega) (by omega) | omega | decide | (simp only [sv_ext, sv_mc, Nat.le_refl]; done) | with_unfolding_all (refine @id _ ?_; first | exact Eq.refl _ | exact Nat.le_refl _ | assumption)) only [Nat.reduceAdd, Nat.reduceMul, Nat.reduceLeDiff, Nat.reduceLT, Int.reduceAdd, Int.reduceSub, Int.reduceMul, Int.reduceNeg, Int.reduceLE, Int.reduceLT, Int.reduceToNat, Int.reduceEq, reduceCtorEq, ld_z, ld_s, st1_0, st1_1, st1_s, st2_0, st2_1, st2_s, isJ_i, isJ_r, isJ_n, isJ_l, cs_nil, cs_i, cs_r, cs_l, kF, List.getElem?_cons_succ, List.getElem?_cons_zero, List.set_cons_zero, List.set_cons_succ, GC_s, GC_n, GK_nil, GK_no, GK_yes, not_false_eq_true, back_eq, back_hp, inI_eq, inA_eq, true_and, and_true, and_self, if_true, if_false, bI_0, bI_1, bI_in, bI_T, bI_F, fitF, jmpF, nlF, pjA, iVal.eta, iYr.eta, List.getElem?_toArray, List.length_cons, List.length_nil, true_or, or_true, or_false, false_or, Classical.not_not, Bool.false_eq_true, hp_2, Nat.zero_le, Nat.le_refl, Option.some.injEq, Sum.inl.injEq, Sum.inr.injEq, not_true_eq_false, true_implies, false_implies, implies_true, Int.le_refl, rd_v, f_num, f_lik, f_dep, f_bnd, f_man, f_wom, f_sta, f_dds, f_who, rd_e, v_now, hasOne_eq, hasTwo_eq, hasCouple_eq, orNone_eq, natureOf_eq, rd_nat, place_eq, rd_v1, rd_v3, rd_v4, rd_v6, rd_v7, rd_v8, rd_v9, rd_v10, isShelf_eq, isSide_eq, isDeed_eq, isKind_eq, isMindSpan_eq, gX11_most, rd_m, s1, bk, sV_ml]
  · apply eX12_most 40; simp (disch := first | assumption | rfl | exact inI_of (by omega) (by omega) | omega | decide | (simp only [sv_ext, sv_mc, Nat.le_refl]; done) | with_unfolding_all (refine @id _ ?_; first | exact Eq.refl _ | exact Nat.le_refl _ | assumption)) only [Nat.reduceAdd, Nat.reduceMul, Nat.reduceLeDiff, Nat.reduceLT, Int.reduceAdd, Int.reduceSub, Int.reduceMul, Int.reduceNeg, Int.reduceLE, Int.reduceLT, Int.reduceToNat, Int.reduceEq, reduceCtorEq, ld_z, ld_s, st1_0, st1_1, st1_s, st2_0, st2_1, st2_s, isJ_i, isJ_r, isJ_n, isJ_l, cs_nil, cs_i, cs_r, cs_l, kF, List.getElem?_cons_succ, List.getElem?_cons_zero, List.set_cons_zero, List.set_cons_succ, GC_s, GC_n, GK_nil, GK_no, GK_yes, not_false_eq_true, back_eq, back_hp, inI_eq, inA_eq, true_and, and_true, and_self, if_true, if_false, bI_0, bI_1, bI_in, bI_T, bI_F, fitF, jmpF, nlF, pjA, iVal.eta, iYr.eta, List.getElem?_toArray, List.length_cons, List.length_nil, true_or, or_true, or_false, false_or, Classical.not_not, Bool.false_eq_true, hp_2, Nat.zero_le, Nat.le_refl, Option.some.injEq, Sum.inl.injEq, Sum.inr.injEq, not_true_eq_false, true_implies, false_implies, implies_true, Int.le_refl, gX12_most, rd_o, s2, bk2, sW_ml, e2]
theorem ag_mostOf (hA : Rel A) {m : Int} (im : inI m = true) : Agree sp sc mX11_mostOf mX12_mostOf [.inl m] A := by
  have hO := hA.now
  have hr0 := hA.row
  have n0 := hO.n0
  by_cases c : 0 ≤ m ∧ m < A.now.num 0
  · obtain ⟨t, u, s1, s2, hr, e1, e2, e3, b1, b2, b3, b4⟩ := @ag_sv sp sc A hA
    have bk : ∀ (L : List (Option iV)) (rest : List iV), back (hp A) (hp (A.sV m5 m5 t)) L rest = True := fun L rest => back_hp rfl (Nat.le_refl _)
    have bk2 : ∀ (L : List (Option iV)) (rest : List iV), back (hp (A.sV m5 m5 t)) (hp ((A.sV m5 m5 t).sW f5 u)) L rest = True := fun L rest => back_hp rfl (Nat.le_refl _)
    have eb := b4 m c.1 (by omega)
    have ie : inI (gt0 t.2.2 m) = true := inI_of (by omega) (by omega)
    have hg := hR_gt (l := t.2.2) c.1 (by omega)
    have lh : (hR t.2.2).length = 5 := by rw [hR_len]; exact b3
    have hr : (A.sV m5 m5 t).mo.s = rowOf A.now A.now.dy := hr0
    refine Agree.of (if gt0 t.2.2 m = -1 then -4 else gt0 t.2.2 m) (A.sV m5 m5 t) ((A.sV m5 m5 t).sW f5 u) (by split <;> exact inI_of (by omega) (by omega)) (fun Q => Call_eq ?_) (fun Q => Call_eq ?_) rfl rfl (by assumption)
    · apply eX11_mostOf 40; simp (disch := first | assumption | rfl | exact inI_of (by omega) (by omega) | omega | decide | (simp only [sv_ext, sv_mc, Nat.le_refl]; done) | with_unfolding_all (refine @id _ ?_; first | exact Eq.refl _ | exact Nat.le_refl _ | assumption)) only [Nat.reduceAdd, Nat.reduceMul, Nat.reduceLeDiff, Nat.reduceLT, Int.reduceAdd, Int.reduceSub, Int.reduceMul, Int.reduceNeg, Int.reduceLE, Int.reduceLT, Int.reduceToNat, Int.reduceEq, reduceCtorEq, ld_z, ld_s, st1_0, st1_1, st1_s, st2_0, st2_1, st2_s, isJ_i, isJ_r, isJ_n, isJ_l, cs_nil, cs_i, cs_r, cs_l, kF, List.getElem?_cons_succ, List.getElem?_cons_zero, List.set_cons_zero, List.set_cons_succ, GC_s, GC_n, GK_nil, GK_no, GK_yes, not_false_eq_true, back_eq, back_hp, inI_eq, inA_eq, true_and, and_true, and_self, if_true, if_false, bI_0, bI_1, bI_in, bI_T, bI_F, fitF, jmpF, nlF, pjA, iVal.eta, iYr.eta, List.getElem?_toArray, List.length_cons, List.length_nil, true_or, or_true, or_false, false_or, Classical.not_not, Bool.false_eq_true, hp_2, Nat.zero_le, Nat.le_refl, Option.some.injEq, Sum.inl.injEq, Sum.inr.injEq, not_true_eq_false, true_implies, false_implies, implies_true, Int.le_refl, rd_v, f_num, f_lik, f_dep, f_bnd, f_man, f_wom, f_sta, f_dds, f_who, rd_e, v_now, hasOne_eq, hasTwo_eq, hasCouple_eq, orNone_eq, natureOf_eq, rd_nat, place_eq, rd_v1, rd_v3, rd_v4, rd_v6, rd_v7, rd_v8, rd_v9, rd_v10, isShelf_eq, isSide_eq, isDeed_eq, isKind_eq, isMindSpan_eq, gX11_mostOf, c, rd_m, s1, bk, rd_m3, sV_fm, b3, f_gt0, ie]
    · apply eX12_mostOf 40; simp (disch := first | assumption | rfl | exact inI_of (by omega) (by omega) | omega | decide | (simp only [sv_ext, sv_mc, Nat.le_refl]; done) | with_unfolding_all (refine @id _ ?_; first | exact Eq.refl _ | exact Nat.le_refl _ | assumption)) only [Nat.reduceAdd, Nat.reduceMul, Nat.reduceLeDiff, Nat.reduceLT, Int.reduceAdd, Int.reduceSub, Int.reduceMul, Int.reduceNeg, Int.reduceLE, Int.reduceLT, Int.reduceToNat, Int.reduceEq, reduceCtorEq, ld_z, ld_s, st1_0, st1_1, st1_s, st2_0, st2_1, st2_s, isJ_i, isJ_r, isJ_n, isJ_l, cs_nil, cs_i, cs_r, cs_l, kF, List.getElem?_cons_succ, List.getElem?_cons_zero, List.set_cons_zero, List.set_cons_succ, GC_s, GC_n, GK_nil, GK_no, GK_yes, not_false_eq_true, back_eq, back_hp, inI_eq, inA_eq, true_and, and_true, and_self, if_true, if_false, bI_0, bI_1, bI_in, bI_T, bI_F, fitF, jmpF, nlF, pjA, iVal.eta, iYr.eta, List.getElem?_toArray, List.length_cons, List.length_nil, true_or, or_true, or_false, false_or, Classical.not_not, Bool.false_eq_true, hp_2, Nat.zero_le, Nat.le_refl, Option.some.injEq, Sum.inl.injEq, Sum.inr.injEq, not_true_eq_false, true_implies, false_implies, implies_true, Int.le_refl, rd_o, rd_o_s, hr, row_len, inA_one, inA_lik, inA_cpl, isOne_eq hO hr, isCouple_eq hO hr, isIn_eq, atOne_eq, atLike_eq, atCouple_eq, r_num, q_n0, q_n1, r_cp, r_dy, r_sl, r_who, q_kind, q_fig, q_dep, q_bnd, q_lik, q_man, q_wom, q_sta, q_dds, orNoneR_eq, Int.zero_add, gX12_mostOf, c, s2, bk2, rd_o_bh, sW_bh, e3, lh, f_gt0, hg]
  · have hr := hr0
    refine Agree.of (-1) A A rfl (fun Q => Call_eq ?_) (fun Q => Call_eq ?_) rfl rfl hA
    · apply eX11_mostOf 40; simp (disch := first | assumption | rfl | exact inI_of (by omega) (by omega) | omega | decide | (simp only [sv_ext, sv_mc, Nat.le_refl]; done) | with_unfolding_all (refine @id _ ?_; first | exact Eq.refl _ | exact Nat.le_refl _ | assumption)) only [Nat.reduceAdd, Nat.reduceMul, Nat.reduceLeDiff, Nat.reduceLT, Int.reduceAdd, Int.reduceSub, Int.reduceMul, Int.reduceNeg, Int.reduceLE, Int.reduceLT, Int.reduceToNat, Int.reduceEq, reduceCtorEq, ld_z, ld_s, st1_0, st1_1, st1_s, st2_0, st2_1, st2_s, isJ_i, isJ_r, isJ_n, isJ_l, cs_nil, cs_i, cs_r, cs_l, kF, List.getElem?_cons_succ, List.getElem?_cons_zero, List.set_cons_zero, List.set_cons_succ, GC_s, GC_n, GK_nil, GK_no, GK_yes, not_false_eq_true, back_eq, back_hp, inI_eq, inA_eq, true_and, and_true, and_self, if_true, if_false, bI_0, bI_1, bI_in, bI_T, bI_F, fitF, jmpF, nlF, pjA, iVal.eta, iYr.eta, List.getElem?_toArray, List.length_cons, List.length_nil, true_or, or_true, or_false, false_or, Classical.not_not, Bool.false_eq_true, hp_2, Nat.zero_le, Nat.le_refl, Option.some.injEq, Sum.inl.injEq, Sum.inr.injEq, not_true_eq_false, true_implies, false_implies, implies_true, Int.le_refl, rd_v, f_num, f_lik, f_dep, f_bnd, f_man, f_wom, f_sta, f_dds, f_who, rd_e, v_now, hasOne_eq, hasTwo_eq, hasCouple_eq, orNone_eq, natureOf_eq, rd_nat, place_eq, rd_v1, rd_v3, rd_v4, rd_v6, rd_v7, rd_v8, rd_v9, rd_v10, isShelf_eq, isSide_eq, isDeed_eq, isKind_eq, isMindSpan_eq, gX11_mostOf, c]
    · apply eX12_mostOf 40; simp (disch := first | assumption | rfl | exact inI_of (by omega) (by omega) | omega | decide | (simp only [sv_ext, sv_mc, Nat.le_refl]; done) | with_unfolding_all (refine @id _ ?_; first | exact Eq.refl _ | exact Nat.le_refl _ | assumption)) only [Nat.reduceAdd, Nat.reduceMul, Nat.reduceLeDiff, Nat.reduceLT, Int.reduceAdd, Int.reduceSub, Int.reduceMul, Int.reduceNeg, Int.reduceLE, Int.reduceLT, Int.reduceToNat, Int.reduceEq, reduceCtorEq, ld_z, ld_s, st1_0, st1_1, st1_s, st2_0, st2_1, st2_s, isJ_i, isJ_r, isJ_n, isJ_l, cs_nil, cs_i, cs_r, cs_l, kF, List.getElem?_cons_succ, List.getElem?_cons_zero, List.set_cons_zero, List.set_cons_succ, GC_s, GC_n, GK_nil, GK_no, GK_yes, not_false_eq_true, back_eq, back_hp, inI_eq, inA_eq, true_and, and_true, and_self, if_true, if_false, bI_0, bI_1, bI_in, bI_T, bI_F, fitF, jmpF, nlF, pjA, iVal.eta, iYr.eta, List.getElem?_toArray, List.length_cons, List.length_nil, true_or, or_true, or_false, false_or, Classical.not_not, Bool.false_eq_true, hp_2, Nat.zero_le, Nat.le_refl, Option.some.injEq, Sum.inl.injEq, Sum.inr.injEq, not_true_eq_false, true_implies, false_implies, implies_true, Int.le_refl, rd_o, rd_o_s, hr, row_len, inA_one, inA_lik, inA_cpl, isOne_eq hO hr, isCouple_eq hO hr, isIn_eq, atOne_eq, atLike_eq, atCouple_eq, r_num, q_n0, q_n1, r_cp, r_dy, r_sl, r_who, q_kind, q_fig, q_dep, q_bnd, q_lik, q_man, q_wom, q_sta, q_dds, orNoneR_eq, Int.zero_add, gX12_mostOf, c]
end OPS
