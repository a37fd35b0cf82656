set_option maxRecDepth 16384
/-! ===== the reference's row: further writes ===== -/
section ROWW
variable {X : iVal} {e : Int}
theorem sdp_num {s k j t : Int} : (X.sdp s k j).num t = X.num t := rfl
theorem w_dep (hO : OkV X) {s a j : Int} (h0 : 0 ≤ s) (h1 : s < 2) (h2 : 0 ≤ a) (h3 : a < X.num s) : (rowOf X e).set (aOne s a 2).toNat (if j = a then -1 else j) = rowOf (X.sdp s a j) e := by
  have h4 := (hO.num h0 h1).2
  unfold aOne
  refine row_set (by omega) ?_ ?_
  · rw [ro_one (by omega) (by omega)]
    have es : ((((11 + 4 * (5 * s + a) + 2).toNat - 11) / 20 : Nat) : Int) = s := by omega
    have ea : ((((11 + 4 * (5 * s + a) + 2).toNat - 11) / 4 % 5 : Nat) : Int) = a := by omega
    rw [es, ea, sdp_num, if_pos h3, if_neg (by omega), if_neg (by omega), if_pos (by omega), dep_sdp hO h0 h1 h2 (by omega) h0 h1 h2 (by omega), if_pos ⟨rfl, rfl⟩]
  · intro i hi ne
    by_cases r1 : i < 11
    · rw [ro_lo r1, ro_lo r1]; rfl
    by_cases r2 : i < 51
    · rw [ro_one (by omega) r2, ro_one (by omega) r2, sdp_num]
      by_cases u : (((i - 11) / 4 % 5 : Nat) : Int) < X.num (((i - 11) / 20 : Nat) : Int)
      · rw [if_pos u, if_pos u]
        by_cases q : (i - 11) % 4 = 2
        · rw [dep_sdp hO h0 h1 h2 (by omega) (by omega) (by omega) (by omega) (by omega), if_neg (by omega : ¬ (s = (((i - 11) / 20 : Nat) : Int) ∧ a = (((i - 11) / 4 % 5 : Nat) : Int)))]; rfl
        · have : (i - 11) % 4 = 0 ∨ (i - 11) % 4 = 1 ∨ (i - 11) % 4 = 3 := by omega
          rcases this with q | q | q
          · rw [if_pos q, if_pos q]; rfl
          · rw [if_neg (by omega), if_pos q, if_neg (by omega), if_pos q]; rfl
          · rw [if_neg (by omega), if_neg (by omega), if_neg (by omega), if_neg (by omega), if_neg (by omega), if_neg (by omega)]; rfl
      · rw [if_neg u, if_neg u]
    by_cases r3 : i < 101
    · rw [ro_lik (by omega) r3, ro_lik (by omega) r3]; rfl
    · rw [ro_cpl (by omega), ro_cpl (by omega)]; rfl
def iVal.swh (X : iVal) (i v : Int) : iVal := (iVal.mk X.on X.na X.de X.bo X.li X.cp X.me X.wo X.sa X.dd (X.wh.set i.toNat v) X.sl X.dy)
def iVal.ssl (X : iVal) (v : Int) : iVal := (iVal.mk X.on X.na X.de X.bo X.li X.cp X.me X.wo X.sa X.dd X.wh (v) X.dy)
theorem who_swh (hl : X.wh.length = 6) {i v j : Int} (h0 : 0 ≤ i) (h1 : i < 6) (g0 : 0 ≤ j) : (X.swh i v).who j = if i = j then v else X.who j := by
  show (X.wh.set i.toNat v).getD j.toNat 0 = _
  rw [gs h0 g0 (by omega)]; rfl
theorem w_who (hl : X.wh.length = 6) {j v : Int} (h0 : 0 ≤ j) (h1 : j < 6) : (rowOf X e).set (5 + j).toNat v = rowOf (X.swh j v) e := by
  refine row_set (by omega) ?_ ?_
  · rw [ro_lo (by omega), if_neg (by omega), if_neg (by omega), if_neg (by omega), if_neg (by omega), who_swh hl h0 h1 (by omega), if_pos (by omega)]
  · intro i hi ne
    by_cases r1 : i < 11
    · rw [ro_lo r1, ro_lo r1]
      by_cases a1 : i < 2
      · rw [if_pos a1, if_pos a1]; rfl
      by_cases a2 : i = 2
      · rw [if_neg a1, if_pos a2, if_neg a1, if_pos a2]; rfl
      by_cases a3 : i = 3
      · rw [if_neg a1, if_neg a2, if_pos a3, if_neg a1, if_neg a2, if_pos a3]
      by_cases a4 : i = 4
      · rw [if_neg a1, if_neg a2, if_neg a3, if_pos a4, if_neg a1, if_neg a2, if_neg a3, if_pos a4]; rfl
      · rw [if_neg a1, if_neg a2, if_neg a3, if_neg a4, if_neg a1, if_neg a2, if_neg a3, if_neg a4, who_swh hl h0 h1 (by omega), if_neg (by omega)]
    by_cases r2 : i < 51
    · rw [ro_one (by omega) r2, ro_one (by omega) r2]; rfl
    by_cases r3 : i < 101
    · rw [ro_lik (by omega) r3, ro_lik (by omega) r3]; rfl
    · rw [ro_cpl (by omega), ro_cpl (by omega)]; rfl
theorem w_sl {v : Int} : (rowOf X e).set 4 v = rowOf (X.ssl v) e := by
  refine row_set (by omega) rfl ?_
  intro i hi ne
  by_cases r1 : i < 11
  · rw [ro_lo r1, ro_lo r1, if_neg ne, if_neg ne]; rfl
  by_cases r2 : i < 51
  · rw [ro_one (by omega) r2, ro_one (by omega) r2]; rfl
  by_cases r3 : i < 101
  · rw [ro_lik (by omega) r3, ro_lik (by omega) r3]; rfl
  · rw [ro_cpl (by omega), ro_cpl (by omega)]; rfl
theorem okV_swh (hO : OkV X) {i v : Int} (h0 : 0 ≤ i) (h1 : i < 6) (h2 : 0 ≤ v) (h3 : v ≤ 2) : OkV (X.swh i v) := (OkV.mk hO.lon hO.lna hO.lde hO.lbo hO.lli hO.lme hO.lwo hO.lsa hO.ldd (by show (X.wh.set _ _).length = 6; rw [List.length_set]; exact hO.lwh) hO.n0 hO.n1 hO.cp hO.sl hO.nat hO.man hO.wom hO.sta hO.dds hO.ddg (fun c g0 g1 => by
      rw [who_swh hO.lwh h0 h1 g0]
      split
      · exact ⟨h2, h3⟩
      · exact hO.who _ g0 g1) hO.lik hO.dep hO.bnd hO.unat hO.udep hO.ubnd hO.ulik hO.ucpl)
theorem okV_ssl (hO : OkV X) {v : Int} (h2 : 0 ≤ v) (h3 : v ≤ 99) : OkV (X.ssl v) := (OkV.mk hO.lon hO.lna hO.lde hO.lbo hO.lli hO.lme hO.lwo hO.lsa hO.ldd hO.lwh hO.n0 hO.n1 hO.cp (⟨h2, h3⟩) hO.nat hO.man hO.wom hO.sta hO.dds hO.ddg hO.who hO.lik hO.dep hO.bnd hO.unat hO.udep hO.ubnd hO.ulik hO.ucpl)
/-- a couple more -/
def iVal.addC (X : iVal) (m w : Int) : iVal := (iVal.mk X.on X.na X.de X.bo X.li (X.cp + 1) (X.me.set X.cp.toNat m) (X.wo.set X.cp.toNat w) X.sa X.dd X.wh X.sl X.dy)
theorem man_addC (hO : OkV X) {m w c : Int} (h : X.cp < 4) (g0 : 0 ≤ c) : (X.addC m w).man c = if X.cp = c then m else X.man c := by
  have := hO.cp
  show (X.me.set X.cp.toNat m).getD c.toNat 0 = _
  rw [gs this.1 g0 (by rw [hO.lme]; omega)]; rfl
theorem wom_addC (hO : OkV X) {m w c : Int} (h : X.cp < 4) (g0 : 0 ≤ c) : (X.addC m w).wom c = if X.cp = c then w else X.wom c := by
  have := hO.cp
  show (X.wo.set X.cp.toNat w).getD c.toNat 0 = _
  rw [gs this.1 g0 (by rw [hO.lwo]; omega)]; rfl
theorem okV_addC (hO : OkV X) {m w : Int} (h : X.cp < 4) (h0 : 0 ≤ m) (h1 : m < X.num 0) (h2 : 0 ≤ w) (h3 : w < X.num 1) : OkV (X.addC m w) := by
  have hcp := hO.cp
  exact (OkV.mk hO.lon hO.lna hO.lde hO.lbo hO.lli (by show (X.me.set _ _).length = 4; rw [List.length_set]; exact hO.lme) (by show (X.wo.set _ _).length = 4; rw [List.length_set]; exact hO.lwo) hO.lsa hO.ldd hO.lwh hO.n0 hO.n1 (by show 0 ≤ X.cp + 1 ∧ X.cp + 1 ≤ 4; omega) hO.sl hO.nat (fun c g0 g1 => by
      have g1 : c < X.cp + 1 := g1
      rw [man_addC hO h g0]
      split
      · exact ⟨h0, h1⟩
      · exact hO.man _ g0 (by omega)) (fun c g0 g1 => by
      have g1 : c < X.cp + 1 := g1
      rw [wom_addC hO h g0]
      split
      · exact ⟨h2, h3⟩
      · exact hO.wom _ g0 (by omega)) hO.sta hO.dds hO.ddg hO.who hO.lik hO.dep hO.bnd hO.unat hO.udep hO.ubnd hO.ulik (fun c g0 g1 => by
      have g0 : X.cp + 1 ≤ c := g0
      rw [man_addC hO h (by omega), wom_addC hO h (by omega), if_neg (by omega), if_neg (by omega)]
      exact hO.ucpl _ (by omega) g1))
theorem w_addC (hO : OkV X) {m w : Int} (h : X.cp < 4) : (((((rowOf X e).set (aCpl X.cp 0).toNat m).set (aCpl X.cp 1).toNat w).set (aCpl X.cp 2).toNat 0).set (aCpl X.cp 3).toNat 0).set 2 (X.cp + 1) = rowOf (X.addC m w) e := by
  have hcp := hO.cp
  have u := hO.ucpl X.cp (Int.le_refl _) h
  apply row_ext
  · simp only [List.length_set, row_len]
  · intro i hi
    have G : ∀ (l : List Int) (j : Nat) (v : Int), j < l.length → (l.set j v).getD i 0 = if j = i then v else l.getD i 0 := fun l j v hj => by
      rw [List.getD_eq_getElem?_getD, List.getElem?_set]
      by_cases c : j = i
      · rw [if_pos c, if_pos c, if_pos (by omega), Option.getD_some]
      · rw [if_neg c, if_neg c, List.getD_eq_getElem?_getD]
    have rl := @row_len X e
    unfold aCpl
    rw [G _ _ _ (by simp only [List.length_set]; omega), G _ _ _ (by simp only [List.length_set]; omega), G _ _ _ (by simp only [List.length_set]; omega), G _ _ _ (by simp only [List.length_set]; omega), G _ _ _ (by omega), row_get hi]
    by_cases r1 : i < 11
    · rw [ro_lo r1, ro_lo r1]
      by_cases a1 : i < 2
      · rw [if_neg (by omega), if_neg (by omega), if_neg (by omega), if_neg (by omega), if_neg (by omega), if_pos a1, if_pos a1]; rfl
      by_cases a2 : i = 2
      · rw [if_pos a2.symm, if_neg a1, if_pos a2]; rfl
      rw [if_neg (by omega), if_neg (by omega), if_neg (by omega), if_neg (by omega), if_neg (by omega), if_neg a1, if_neg a2, if_neg a1, if_neg a2]; rfl
    by_cases r2 : i < 51
    · rw [if_neg (by omega), if_neg (by omega), if_neg (by omega), if_neg (by omega), if_neg (by omega), ro_one (by omega) r2, ro_one (by omega) r2]; rfl
    by_cases r3 : i < 101
    · rw [if_neg (by omega), if_neg (by omega), if_neg (by omega), if_neg (by omega), if_neg (by omega), ro_lik (by omega) r3, ro_lik (by omega) r3]; rfl
    · rw [if_neg (by omega : ¬ 2 = i), ro_cpl (by omega), ro_cpl (by omega)]
      by_cases ec : (((i - 101) / 4 : Nat) : Int) = X.cp
      · rw [ec, man_addC hO h hcp.1, wom_addC hO h hcp.1, if_pos rfl, if_pos rfl]
        have : (i - 101) % 4 = 0 ∨ (i - 101) % 4 = 1 ∨ (i - 101) % 4 = 2 ∨ (i - 101) % 4 = 3 := by omega
        rcases this with q | q | q | q
        · rw [if_neg (by omega), if_neg (by omega), if_neg (by omega), if_pos (by omega), if_pos q]
        · rw [if_neg (by omega), if_neg (by omega), if_pos (by omega), if_neg (by omega), if_pos q]
        · rw [if_neg (by omega), if_pos (by omega), if_neg (by omega), if_neg (by omega), if_pos q]; exact u.2.2.1.symm
        · rw [if_pos (by omega), if_neg (by omega), if_neg (by omega), if_neg (by omega)]; exact u.2.2.2.symm
      · rw [if_neg (by omega), if_neg (by omega), if_neg (by omega), if_neg (by omega), man_addC hO h (by omega), wom_addC hO h (by omega), if_neg (fun z => ec z.symm : ¬ X.cp = (((i - 101) / 4 : Nat) : Int)), if_neg (fun z => ec z.symm : ¬ X.cp = (((i - 101) / 4 : Nat) : Int))]; rfl
end ROWW
