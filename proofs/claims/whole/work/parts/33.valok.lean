set_option maxRecDepth 16384
/-! ===== a valley: what stays so ===== -/
theorem gs {l : List Int} {i j v : Int} (hi : 0 ≤ i) (hj : 0 ≤ j) (hl : i < l.length) : (l.set i.toNat v).getD j.toNat 0 = if i = j then v else l.getD j.toNat 0 := by
  rw [List.getD_eq_getElem?_getD, List.getElem?_set]
  by_cases c : i = j
  · subst c
    rw [if_pos rfl, if_pos rfl, if_pos (by omega), Option.getD_some]
  · rw [if_neg (by omega), if_neg c, ← List.getD_eq_getElem?_getD]
section OKV
variable {X : iVal}
theorem lik_slk (hO : OkV X) {s a b v s' a' b' : Int} (h0 : 0 ≤ s) (h1 : s < 2) (h2 : 0 ≤ a) (h3 : a < 5) (h4 : 0 ≤ b) (h5 : b < 5) (g0 : 0 ≤ s') (g1 : s' < 2) (g2 : 0 ≤ a') (g3 : a' < 5) (g4 : 0 ≤ b') (g5 : b' < 5) : (X.slk s a b v).lik s' a' b' = if s = s' ∧ a = a' ∧ b = b' then clamp v else X.lik s' a' b' := by
  have := hO.lli
  show (X.li.set ((s * 5 + a) * 5 + b).toNat (clamp v)).getD ((s' * 5 + a') * 5 + b').toNat 0 = _
  rw [gs (by omega) (by omega) (by omega)]
  by_cases c : s = s' ∧ a = a' ∧ b = b'
  · rw [if_pos c, if_pos (by omega)]
  · rw [if_neg c, if_neg (by omega)]; rfl
theorem okV_slk (hO : OkV X) {s a b v : Int} (h0 : 0 ≤ s) (h1 : s < 2) (h2 : 0 ≤ a) (h3 : a < X.num s) (h4 : 0 ≤ b) (h5 : b < X.num (1 - s)) : OkV (X.slk s a b v) := by
  have n1 := hO.num h0 h1
  have n2 := hO.num (s := 1 - s) (by omega) (by omega)
  exact (OkV.mk hO.lon hO.lna hO.lde hO.lbo (by show (X.li.set _ _).length = 50; rw [List.length_set]; exact hO.lli) hO.lme hO.lwo hO.lsa hO.ldd hO.lwh hO.n0 hO.n1 hO.cp hO.sl hO.nat hO.man hO.wom hO.sta hO.dds hO.ddg hO.who (fun s' a' b' g0 g1 g2 g3 g4 g5 => by
      rw [lik_slk hO h0 h1 h2 (by omega) h4 (by omega) g0 g1 g2 g3 g4 g5]
      split
      · exact clamp_b v
      · exact hO.lik _ _ _ g0 g1 g2 g3 g4 g5) hO.dep hO.bnd hO.unat hO.udep hO.ubnd (fun s' a' b' g0 g1 g2 g3 g4 g5 g6 => by
      rw [lik_slk hO h0 h1 h2 (by omega) h4 (by omega) g0 g1 g2 g3 g4 g5]
      rw [if_neg]
      · exact hO.ulik _ _ _ g0 g1 g2 g3 g4 g5 g6
      · rintro ⟨rfl, rfl, rfl⟩
        have g6 : X.num s ≤ a ∨ X.num (1 - s) ≤ b := g6
        omega) hO.ucpl)
theorem okV_alk (hO : OkV X) {s a b v : Int} (h0 : 0 ≤ s) (h1 : s < 2) (h2 : 0 ≤ a) (h3 : a < X.num s) (h4 : 0 ≤ b) (h5 : b < X.num (1 - s)) : OkV (X.alk s a b v) := okV_slk hO h0 h1 h2 h3 h4 h5
theorem dep_sdp (hO : OkV X) {s k j s' k' : Int} (h0 : 0 ≤ s) (h1 : s < 2) (h2 : 0 ≤ k) (h3 : k < 5) (g0 : 0 ≤ s') (g1 : s' < 2) (g2 : 0 ≤ k') (g3 : k' < 5) : (X.sdp s k j).dep s' k' = if s = s' ∧ k = k' then (if j = k then -1 else j) else X.dep s' k' := by
  have := hO.lde
  show (X.de.set (s * 5 + k).toNat _).getD (s' * 5 + k').toNat 0 = _
  rw [gs (by omega) (by omega) (by omega)]
  by_cases c : s = s' ∧ k = k'
  · rw [if_pos c, if_pos (by omega)]
  · rw [if_neg c, if_neg (by omega)]; rfl
theorem okV_sdp (hO : OkV X) {s k j : Int} (h0 : 0 ≤ s) (h1 : s < 2) (h2 : 0 ≤ k) (h3 : k < X.num s) (h4 : 0 ≤ j) (h5 : j < X.num s) : OkV (X.sdp s k j) := by
  have n1 := hO.num h0 h1
  exact (OkV.mk hO.lon hO.lna (by show (X.de.set _ _).length = 10; rw [List.length_set]; exact hO.lde) hO.lbo hO.lli hO.lme hO.lwo hO.lsa hO.ldd hO.lwh hO.n0 hO.n1 hO.cp hO.sl hO.nat hO.man hO.wom hO.sta hO.dds hO.ddg hO.who hO.lik (fun s' a' g0 g1 g2 g3 => by
      rw [dep_sdp hO h0 h1 h2 (by omega) g0 g1 g2 g3]
      split
      · rename_i c
        obtain ⟨rfl, rfl⟩ := c
        split
        · left; rfl
        · right; exact ⟨h4, h5⟩
      · exact hO.dep _ _ g0 g1 g2 g3) hO.bnd hO.unat (fun s' a' g0 g1 g2 g3 => by
      rw [dep_sdp hO h0 h1 h2 (by omega) g0 g1 (by have := hO.num g0 g1; have g2 : X.num s' ≤ a' := g2; omega) g3]
      rw [if_neg]
      · exact hO.udep _ _ g0 g1 g2 g3
      · rintro ⟨rfl, rfl⟩
        have g2 : X.num s ≤ k := g2
        omega) hO.ubnd hO.ulik hO.ucpl)
theorem bnd_bind (hO : OkV X) {a b s' k' : Int} (h0 : 0 ≤ a) (h1 : a < 5) (h2 : 0 ≤ b) (h3 : b < 5) (g0 : 0 ≤ s') (g1 : s' < 2) (g2 : 0 ≤ k') (g3 : k' < 5) : (X.bind a b).bnd s' k' = if s' = 0 ∧ k' = a then b else if s' = 1 ∧ k' = b then a else X.bnd s' k' := by
  have e := hO.lbo
  show ((X.bo.set a.toNat b).set (5 + b).toNat a).getD (s' * 5 + k').toNat 0 = _
  rw [gs (by omega) (by omega) (by rw [List.length_set]; omega), gs (by omega) (by omega) (by omega)]
  by_cases c : s' = 0 ∧ k' = a
  · rw [if_pos c, if_neg (by omega), if_pos (by omega)]
  · rw [if_neg c]
    by_cases c2 : s' = 1 ∧ k' = b
    · rw [if_pos c2, if_pos (by omega)]
    · rw [if_neg c2, if_neg (by omega), if_neg (by omega)]; rfl
theorem okV_bind (hO : OkV X) {a b : Int} (h0 : 0 ≤ a) (h1 : a < X.num 0) (h2 : 0 ≤ b) (h3 : b < X.num 1) : OkV (X.bind a b) := by
  have n0 := hO.n0
  have n1 := hO.n1
  exact (OkV.mk hO.lon hO.lna hO.lde (by show ((X.bo.set _ _).set _ _).length = 10; rw [List.length_set, List.length_set]; exact hO.lbo) hO.lli hO.lme hO.lwo hO.lsa hO.ldd hO.lwh hO.n0 hO.n1 hO.cp hO.sl hO.nat hO.man hO.wom hO.sta hO.dds hO.ddg hO.who hO.lik hO.dep (fun s' a' g0 g1 g2 g3 => by
      rw [bnd_bind hO h0 (by omega) h2 (by omega) g0 g1 g2 g3]
      split
      · rename_i c
        obtain ⟨rfl, rfl⟩ := c
        right; exact ⟨h2, h3⟩
      · split
        · rename_i c
          obtain ⟨rfl, rfl⟩ := c
          right; exact ⟨h0, h1⟩
        · exact hO.bnd _ _ g0 g1 g2 g3) hO.unat hO.udep (fun s' a' g0 g1 g2 g3 => by
      have e := hO.num g0 g1
      have g2 : X.num s' ≤ a' := g2
      rw [bnd_bind hO h0 (by omega) h2 (by omega) g0 g1 (by omega) g3]
      rw [if_neg (by rintro ⟨rfl, rfl⟩; omega), if_neg (by rintro ⟨rfl, rfl⟩; omega)]
      exact hO.ubnd _ _ g0 g1 g2 g3) hO.ulik hO.ucpl)
def iVal.sst (X : iVal) (c v : Int) : iVal := (iVal.mk X.on X.na X.de X.bo X.li X.cp X.me X.wo (X.sa.set c.toNat v) X.dd X.wh X.sl X.dy)
def iVal.inc (X : iVal) (c : Int) : iVal := (iVal.mk X.on X.na X.de X.bo X.li X.cp X.me X.wo X.sa (X.dd.set c.toNat (X.dds c + 1)) X.wh X.sl X.dy)
theorem sta_sst (hl : X.sa.length = 4) {c v c' : Int} (h0 : 0 ≤ c) (h1 : c < 4) (g0 : 0 ≤ c') : (X.sst c v).sta c' = if c = c' then v else X.sta c' := by
  show (X.sa.set c.toNat v).getD c'.toNat 0 = _
  rw [gs h0 g0 (by omega)]; rfl
theorem dds_inc (hl : X.dd.length = 4) {c c' : Int} (h0 : 0 ≤ c) (h1 : c < 4) (g0 : 0 ≤ c') : (X.inc c).dds c' = if c = c' then X.dds c + 1 else X.dds c' := by
  show (X.dd.set c.toNat _).getD c'.toNat 0 = _
  rw [gs h0 g0 (by omega)]; rfl
theorem okV_sst (hO : OkV X) {c v : Int} (h0 : 0 ≤ c) (h1 : c < X.cp) (h2 : 1 ≤ v) (h3 : v ≤ 2) : OkV (X.sst c v) := by
  have := hO.cp
  exact (OkV.mk hO.lon hO.lna hO.lde hO.lbo hO.lli hO.lme hO.lwo (by show (X.sa.set _ _).length = 4; rw [List.length_set]; exact hO.lsa) hO.ldd hO.lwh hO.n0 hO.n1 hO.cp hO.sl hO.nat hO.man hO.wom (fun c' g0 g1 => by
      rw [sta_sst hO.lsa h0 (by omega) g0]
      split
      · omega
      · exact hO.sta _ g0 g1) hO.dds (fun c' g0 g1 g2 => by
      rw [sta_sst hO.lsa h0 (by omega) g0] at g2
      split at g2
      · omega
      · exact hO.ddg _ g0 g1 g2) hO.who hO.lik hO.dep hO.bnd hO.unat hO.udep hO.ubnd hO.ulik (fun c' g0 g1 => by
      have g0 : X.cp ≤ c' := g0
      rw [sta_sst hO.lsa h0 (by omega) (by omega), if_neg (by omega)]
      exact hO.ucpl _ g0 g1))
/-- a deed more, not the last -/
theorem okV_inc (hO : OkV X) {c : Int} (h0 : 0 ≤ c) (h1 : c < X.cp) (h2 : X.dds c + 1 < 6) : OkV (X.inc c) := by
  have := hO.cp
  have e := hO.dds c h0 (by omega)
  exact (OkV.mk hO.lon hO.lna hO.lde hO.lbo hO.lli hO.lme hO.lwo hO.lsa (by show (X.dd.set _ _).length = 4; rw [List.length_set]; exact hO.ldd) hO.lwh hO.n0 hO.n1 hO.cp hO.sl hO.nat hO.man hO.wom hO.sta (fun c' g0 g1 => by
      rw [dds_inc hO.ldd h0 (by omega) g0]
      split
      · omega
      · exact hO.dds _ g0 g1) (fun c' g0 g1 g2 => by
      rw [dds_inc hO.ldd h0 (by omega) g0]
      split
      · omega
      · exact hO.ddg _ g0 g1 g2) hO.who hO.lik hO.dep hO.bnd hO.unat hO.udep hO.ubnd hO.ulik (fun c' g0 g1 => by
      have g0 : X.cp ≤ c' := g0
      rw [dds_inc hO.ldd h0 (by omega) (by omega), if_neg (by omega)]
      exact hO.ucpl _ g0 g1))
/-- the last deed: the couple is wed -/
theorem okV_inc6 (hO : OkV X) {c : Int} (h0 : 0 ≤ c) (h1 : c < X.cp) (h2 : X.dds c + 1 ≤ 6) : OkV ((X.inc c).sst c 1) := by
  have := hO.cp
  have e := hO.dds c h0 (by omega)
  exact (OkV.mk hO.lon hO.lna hO.lde hO.lbo hO.lli hO.lme hO.lwo (by show (X.sa.set _ _).length = 4; rw [List.length_set]; exact hO.lsa) (by show (X.dd.set _ _).length = 4; rw [List.length_set]; exact hO.ldd) hO.lwh hO.n0 hO.n1 hO.cp hO.sl hO.nat hO.man hO.wom (fun c' g0 g1 => by
      rw [sta_sst (X := X.inc c) hO.lsa h0 (by omega) g0]
      split
      · omega
      · exact hO.sta _ g0 g1) (fun c' g0 g1 => by
      show 0 ≤ (X.inc c).dds c' ∧ (X.inc c).dds c' ≤ 6
      rw [dds_inc hO.ldd h0 (by omega) g0]
      split
      · omega
      · exact hO.dds _ g0 g1) (fun c' g0 g1 g2 => by
      rw [sta_sst (X := X.inc c) hO.lsa h0 (by omega) g0] at g2
      show (X.inc c).dds c' ≤ 5
      rw [dds_inc hO.ldd h0 (by omega) g0]
      split at g2
      · omega
      · rename_i c1
        rw [if_neg c1]
        exact hO.ddg _ g0 g1 g2) hO.who hO.lik hO.dep hO.bnd hO.unat hO.udep hO.ubnd hO.ulik (fun c' g0 g1 => by
      have g0 : X.cp ≤ c' := g0
      rw [sta_sst (X := X.inc c) hO.lsa h0 (by omega) (by omega), if_neg (by omega)]
      show _ ∧ _ ∧ _ ∧ (X.inc c).dds c' = 0
      rw [dds_inc hO.ldd h0 (by omega) (by omega), if_neg (by omega)]
      exact hO.ucpl _ g0 g1))
end OKV
