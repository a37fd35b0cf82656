/-! ===== the cells as a whole: what both sides hold ===== -/
/-- a valley of the class: how many ones, natures, deputies, bounds, likes, couples (men, women, states, deeds), whos, slip, day -/
structure iVal where
  on : List Int
  na : List Nat
  de : List Int
  bo : List Int
  li : List Int
  cp : Int
  me : List Int
  wo : List Int
  sa : List Int
  dd : List Int
  wh : List Int
  sl : Int
  dy : Int
/-- a year: order, busy, waited, ended, passed, done, slipped, first slip -/
structure iYr where
  od : List Int
  bz : List Int
  wt : List Int
  en : List Int
  ps : Int
  dn : Int
  sp : Int
  fs : Int
structure iMt where
  wv : List Int
  hb : List Int
  fm : List Int
  ak : List Int
  un : Int
  ml : Int
/-- a shelf: what it holds, the nature, the sort, the size, where its cells are -/
structure iSh where
  ho : Int
  na : Nat
  so : Int
  sz : Int
  ca : Nat
/-- the reference's object -/
structure iMo where
  s : List Int
  m : List Int
  im : List Int
  was : List Int
  hi : Int
  wt : List Int
  en : List Int
  od : List Int
  dn : Int
  sm : Int
  sf : Int
  go : Int
  at_ : Int
  ra : Int
  re : Int
  nu : List Int
  bd : Int
  bg : Int
  he : List Int
  bh : List Int
  ak : List Int
  st : Int
  ml : Int
  fi : List Int
  th : List Int
  se : Int
  ke : List Int
  kk : List Int
  kf : List Int
  so : List Int
  sz : List Int
  el : List Int
  tn : Int
structure iA where
  now : iVal
  img : iVal
  mnd : iVal
  imd : Int
  yr : iYr
  mt : iMt
  sh : Nat → iSh
  pt : Nat → List Int
  mo : iMo
  out : List Int
  ext : List (List Int)
  mc : Nat
def cI (l : List Int) : iO := .inr (.inl (0, l))
def cL (l : List Int) : iO := .inr (.inl (1, l))
def cZ (l : List Int) : iO := .inr (.inl (2, l))
def cV (b : Nat) (x : iVal) : List iO := [.inl (8, [.inr (.inr (b + 1 + 2)), .inr (.inr (b + 2 + 2)), .inr (.inr (b + 3 + 2)), .inr (.inr (b + 4 + 2)), .inr (.inr (b + 5 + 2)), .inl x.cp, .inr (.inr (b + 6 + 2)), .inr (.inr (b + 7 + 2)), .inr (.inr (b + 8 + 2)), .inr (.inr (b + 9 + 2)), .inr (.inr (b + 10 + 2)), .inl x.sl, .inl x.dy]),
  cI x.on, .inr (.inr (3, x.na)), cI x.de, cI x.bo, cI x.li, cI x.me, cI x.wo, cI x.sa, cI x.dd, cI x.wh]
def cN (c : Nat) (f : Int) : iO := .inl (c, [.inl f])
def cNs (f : Int) : List iO := [cN 6 f, cN 9 f, cN 0 f, cN 3 f, cN 7 f, cN 1 f]
def cS (x : iSh) : iO := .inl (5, [.inl x.ho, .inr (.inr (x.na + 2)), .inl x.so, .inl x.sz, .inr (.inr (x.ca + 2))])
inductive iW where
  | now
  | img
  | mnd
def vb : iW → Nat
  | .now => 2
  | .img => 18
  | .mnd => 30
def iA.v (A : iA) : iW → iVal
  | .now => A.now
  | .img => A.img
  | .mnd => A.mnd
def iA.sv (A : iA) (w : iW) (x : iVal) : iA := match w with
  | .now => { A with now := x }
  | .img => { A with img := x }
  | .mnd => { A with mnd := x }
def rNs : List Nat := (List.range 60).map fun i => 48 + 6 * (i % 10) + i / 10
def lay1 (A : iA) : List iO :=
  .inl (11, [.inr (.inr 47), .inr (.inr 108), .inr (.inr (vb .now + 2)), .inr (.inr (vb .img + 2)), .inl A.imd, .inr (.inr 31), .inr (.inr 15), .inr (.inr 125)]) :: cN 6 0 ::
  (cV 2 A.now ++ (.inl (4, [.inr (.inr (vb .now + 2)), .inr (.inr 16), .inr (.inr 17), .inr (.inr 18), .inr (.inr 19), .inl A.mt.un, .inl A.mt.ml]) :: cI A.mt.wv :: cI A.mt.hb :: cI A.mt.fm :: cZ A.mt.ak ::
  (cV 18 A.img ++ (.inl (10, [.inr (.inr (vb .mnd + 2)), .inr (.inr 43), .inr (.inr 44), .inr (.inr 45), .inr (.inr 46), .inl A.yr.ps, .inl A.yr.dn, .inl A.yr.sp, .inl A.yr.fs]) ::
  (cV 30 A.mnd ++ (cI A.yr.od :: cZ A.yr.bz :: cI A.yr.wt :: cI A.yr.en :: .inr (.inr (3, rNs)) ::
  (cNs 0 ++ (cNs 1 ++ (cNs 2 ++ (cNs 3 ++ (cNs 4 ++ (cNs 5 ++ (cNs 6 ++ (cNs 7 ++ (cNs 8 ++ cNs 9)))))))))))))))
def lay2 (A : iA) : List iO :=
  .inr (.inr (4, [109, 111, 113, 115, 117, 119, 121, 123])) :: cS (A.sh 0) :: cL [] :: cS (A.sh 1) :: cL [] :: cS (A.sh 2) :: cL [] :: cS (A.sh 3) :: cL [] :: cS (A.sh 4) :: cL [] :: cS (A.sh 5) :: cL [] :: cS (A.sh 6) :: cL [] :: cS (A.sh 7) :: cL [] ::
  .inr (.inr (5, [126, 128, 130, 132, 134, 136, 138])) :: .inl (2, [.inr (.inr 127)]) :: cL (A.pt 0) :: .inl (2, [.inr (.inr 129)]) :: cL (A.pt 1) :: .inl (2, [.inr (.inr 131)]) :: cL (A.pt 2) :: .inl (2, [.inr (.inr 133)]) :: cL (A.pt 3) :: .inl (2, [.inr (.inr 135)]) :: cL (A.pt 4) :: .inl (2, [.inr (.inr 137)]) :: cL (A.pt 5) :: .inl (2, [.inr (.inr 139)]) :: cL (A.pt 6) :: []
def layM (M : iMo) : List iO :=
  [.inl (12, [.inr (.inr 141), .inr (.inr 142), .inr (.inr 143), .inr (.inr 144), .inl M.hi, .inr (.inr 145), .inr (.inr 146), .inr (.inr 147), .inl M.dn, .inl M.sm, .inl M.sf, .inl M.go, .inl M.at_, .inl M.ra, .inl M.re, .inr (.inr 148), .inl M.bd, .inl M.bg, .inr (.inr 149), .inr (.inr 150), .inr (.inr 151), .inl M.st, .inl M.ml, .inr (.inr 152), .inr (.inr 153), .inl M.se, .inr (.inr 154), .inr (.inr 155), .inr (.inr 156), .inr (.inr 157), .inr (.inr 158), .inr (.inr 159), .inl M.tn]),
    cI M.s, cI M.m, cI M.im, cI M.was, cI M.wt, cI M.en, cI M.od, cI M.nu, cI M.he, cI M.bh, cI M.ak, cI M.fi, cI M.th, cI M.ke, cI M.kk, cI M.kf, cI M.so, cI M.sz, cI M.el]
def lay (A : iA) : List iO := lay1 A ++ (lay2 A ++ (layM A.mo ++ (cL A.out :: A.ext.map cL)))
def hp (A : iA) : iH := (lay A, A.mc)
def val0 : iVal := ⟨[0, 0], List.replicate 10 3, List.replicate 10 (-1), List.replicate 10 (-1), List.replicate 50 10, 0, List.replicate 4 0, List.replicate 4 0, List.replicate 4 0, List.replicate 4 0, [1, 1, 1, 1, 1, 0], 60, 0⟩
def A0 : iA := ⟨val0, val0, val0, 0, ⟨List.replicate 4 0, List.replicate 10 0, List.replicate 4 0, List.replicate 4 0, 0, 0, 0, 0⟩, ⟨List.replicate 5 0, List.replicate 5 0, List.replicate 5 0, List.replicate 25 0, 0, 0⟩,
  fun d => ⟨0, 1, 0, 0, 108 + 2 * d⟩, fun _ => List.replicate 8 0,
  ⟨(List.replicate 117 0).set 4 60 |>.set 5 1 |>.set 6 1 |>.set 7 1 |>.set 8 1 |>.set 9 1, List.replicate 117 0, List.replicate 117 0, List.replicate 117 0, 0, List.replicate 4 0, List.replicate 4 0, List.replicate 4 0, 0, 0, 0, 0, 0, 0, 0, List.replicate 4 0, 0, 0, List.replicate 5 0, List.replicate 5 0, List.replicate 5 0, 0, 0, List.replicate 448 0, List.replicate 448 0, 0, List.replicate 8 0, List.replicate 8 0, List.replicate 8 0, List.replicate 8 0, List.replicate 8 0, List.replicate 800 0, 0⟩, [0], [], 159⟩
section RD
variable {A : iA} {w : iW}
theorem hp_2 : (hp A).2 = A.mc := rfl
theorem v_now : A.v .now = A.now := rfl
theorem v_img : A.v .img = A.img := rfl
theorem v_mnd : A.v .mnd = A.mnd := rfl
theorem sv_now {x : iVal} : A.sv .now x = { A with now := x } := rfl
theorem sv_img {x : iVal} : A.sv .img x = { A with img := x } := rfl
theorem sv_mnd {x : iVal} : A.sv .mnd x = { A with mnd := x } := rfl
theorem sv_v {x : iVal} : (A.sv w x).v w = x := by cases w <;> rfl
theorem sv_sv {x y : iVal} : (A.sv w x).sv w y = A.sv w y := by cases w <;> rfl
theorem sv_self : A.sv w (A.v w) = A := by cases w <;> rfl
theorem sv_ext {x : iVal} : (A.sv w x).ext = A.ext := by cases w <;> rfl
theorem sv_mc {x : iVal} : (A.sv w x).mc = A.mc := by cases w <;> rfl
theorem rd_e : (hp A).1[0]? = some (.inl (11, [.inr (.inr (45 + 2)), .inr (.inr (106 + 2)), .inr (.inr (vb .now + 2)), .inr (.inr (vb .img + 2)), .inl A.imd, .inr (.inr (29 + 2)), .inr (.inr (13 + 2)), .inr (.inr (123 + 2))])) := rfl
theorem wr_e {z : Int} : ((hp A).1.set (0) (.inl (11, [.inr (.inr (45 + 2)), .inr (.inr (106 + 2)), .inr (.inr (vb .now + 2)), .inr (.inr (vb .img + 2)), .inl z, .inr (.inr (29 + 2)), .inr (.inr (13 + 2)), .inr (.inr (123 + 2))])), A.mc) = hp ({ A with imd := z }) := rfl
theorem rd_v : (hp A).1[vb w]? = some (.inl (8, [.inr (.inr (vb w + 1 + 2)), .inr (.inr (vb w + 2 + 2)), .inr (.inr (vb w + 3 + 2)), .inr (.inr (vb w + 4 + 2)), .inr (.inr (vb w + 5 + 2)), .inl (A.v w).cp, .inr (.inr (vb w + 6 + 2)), .inr (.inr (vb w + 7 + 2)), .inr (.inr (vb w + 8 + 2)), .inr (.inr (vb w + 9 + 2)), .inr (.inr (vb w + 10 + 2)), .inl (A.v w).sl, .inl (A.v w).dy])) := by cases w <;> rfl
theorem wr_v {c s y : Int} : ((hp A).1.set (vb w) (.inl (8, [.inr (.inr (vb w + 1 + 2)), .inr (.inr (vb w + 2 + 2)), .inr (.inr (vb w + 3 + 2)), .inr (.inr (vb w + 4 + 2)), .inr (.inr (vb w + 5 + 2)), .inl c, .inr (.inr (vb w + 6 + 2)), .inr (.inr (vb w + 7 + 2)), .inr (.inr (vb w + 8 + 2)), .inr (.inr (vb w + 9 + 2)), .inr (.inr (vb w + 10 + 2)), .inl s, .inl y])), A.mc) = hp (A.sv w { A.v w with cp := c, sl := s, dy := y }) := by cases w <;> rfl
theorem rd_v1 : (hp A).1[vb w + 1]? = some (.inr (.inl (0, (A.v w).on))) := by cases w <;> rfl
theorem wr_v1 {l : List Int} : ((hp A).1.set (vb w + 1) (.inr (.inl (0, l))), A.mc) = hp (A.sv w { A.v w with on := l }) := by cases w <;> rfl
theorem rd_v2 : (hp A).1[vb w + 2]? = some (.inr (.inr (3, (A.v w).na))) := by cases w <;> rfl
theorem wr_v2 {l : List Nat} : ((hp A).1.set (vb w + 2) (.inr (.inr (3, l))), A.mc) = hp (A.sv w { A.v w with na := l }) := by cases w <;> rfl
theorem rd_v3 : (hp A).1[vb w + 3]? = some (.inr (.inl (0, (A.v w).de))) := by cases w <;> rfl
theorem wr_v3 {l : List Int} : ((hp A).1.set (vb w + 3) (.inr (.inl (0, l))), A.mc) = hp (A.sv w { A.v w with de := l }) := by cases w <;> rfl
theorem rd_v4 : (hp A).1[vb w + 4]? = some (.inr (.inl (0, (A.v w).bo))) := by cases w <;> rfl
theorem wr_v4 {l : List Int} : ((hp A).1.set (vb w + 4) (.inr (.inl (0, l))), A.mc) = hp (A.sv w { A.v w with bo := l }) := by cases w <;> rfl
theorem rd_v5 : (hp A).1[vb w + 5]? = some (.inr (.inl (0, (A.v w).li))) := by cases w <;> rfl
theorem wr_v5 {l : List Int} : ((hp A).1.set (vb w + 5) (.inr (.inl (0, l))), A.mc) = hp (A.sv w { A.v w with li := l }) := by cases w <;> rfl
theorem rd_v6 : (hp A).1[vb w + 6]? = some (.inr (.inl (0, (A.v w).me))) := by cases w <;> rfl
theorem wr_v6 {l : List Int} : ((hp A).1.set (vb w + 6) (.inr (.inl (0, l))), A.mc) = hp (A.sv w { A.v w with me := l }) := by cases w <;> rfl
theorem rd_v7 : (hp A).1[vb w + 7]? = some (.inr (.inl (0, (A.v w).wo))) := by cases w <;> rfl
theorem wr_v7 {l : List Int} : ((hp A).1.set (vb w + 7) (.inr (.inl (0, l))), A.mc) = hp (A.sv w { A.v w with wo := l }) := by cases w <;> rfl
theorem rd_v8 : (hp A).1[vb w + 8]? = some (.inr (.inl (0, (A.v w).sa))) := by cases w <;> rfl
theorem wr_v8 {l : List Int} : ((hp A).1.set (vb w + 8) (.inr (.inl (0, l))), A.mc) = hp (A.sv w { A.v w with sa := l }) := by cases w <;> rfl
theorem rd_v9 : (hp A).1[vb w + 9]? = some (.inr (.inl (0, (A.v w).dd))) := by cases w <;> rfl
theorem wr_v9 {l : List Int} : ((hp A).1.set (vb w + 9) (.inr (.inl (0, l))), A.mc) = hp (A.sv w { A.v w with dd := l }) := by cases w <;> rfl
theorem rd_v10 : (hp A).1[vb w + 10]? = some (.inr (.inl (0, (A.v w).wh))) := by cases w <;> rfl
theorem wr_v10 {l : List Int} : ((hp A).1.set (vb w + 10) (.inr (.inl (0, l))), A.mc) = hp (A.sv w { A.v w with wh := l }) := by cases w <;> rfl
theorem rd_m : (hp A).1[13]? = some (.inl (4, [.inr (.inr (vb .now + 2)), .inr (.inr (14 + 2)), .inr (.inr (15 + 2)), .inr (.inr (16 + 2)), .inr (.inr (17 + 2)), .inl A.mt.un, .inl A.mt.ml])) := rfl
theorem wr_m {a b : Int} : ((hp A).1.set (13) (.inl (4, [.inr (.inr (vb .now + 2)), .inr (.inr (14 + 2)), .inr (.inr (15 + 2)), .inr (.inr (16 + 2)), .inr (.inr (17 + 2)), .inl a, .inl b])), A.mc) = hp ({ A with mt := { A.mt with un := a, ml := b } }) := rfl
theorem rd_m1 : (hp A).1[14]? = some (.inr (.inl (0, A.mt.wv))) := rfl
theorem wr_m1 {l : List Int} : ((hp A).1.set (14) (.inr (.inl (0, l))), A.mc) = hp ({ A with mt := { A.mt with wv := l } }) := rfl
theorem rd_m2 : (hp A).1[15]? = some (.inr (.inl (0, A.mt.hb))) := rfl
theorem wr_m2 {l : List Int} : ((hp A).1.set (15) (.inr (.inl (0, l))), A.mc) = hp ({ A with mt := { A.mt with hb := l } }) := rfl
theorem rd_m3 : (hp A).1[16]? = some (.inr (.inl (0, A.mt.fm))) := rfl
theorem wr_m3 {l : List Int} : ((hp A).1.set (16) (.inr (.inl (0, l))), A.mc) = hp ({ A with mt := { A.mt with fm := l } }) := rfl
theorem rd_m4 : (hp A).1[17]? = some (.inr (.inl (2, A.mt.ak))) := rfl
theorem wr_m4 {l : List Int} : ((hp A).1.set (17) (.inr (.inl (2, l))), A.mc) = hp ({ A with mt := { A.mt with ak := l } }) := rfl
theorem rd_y : (hp A).1[29]? = some (.inl (10, [.inr (.inr (vb .mnd + 2)), .inr (.inr (41 + 2)), .inr (.inr (42 + 2)), .inr (.inr (43 + 2)), .inr (.inr (44 + 2)), .inl A.yr.ps, .inl A.yr.dn, .inl A.yr.sp, .inl A.yr.fs])) := rfl
theorem wr_y {a b c d : Int} : ((hp A).1.set (29) (.inl (10, [.inr (.inr (vb .mnd + 2)), .inr (.inr (41 + 2)), .inr (.inr (42 + 2)), .inr (.inr (43 + 2)), .inr (.inr (44 + 2)), .inl a, .inl b, .inl c, .inl d])), A.mc) = hp ({ A with yr := { A.yr with ps := a, dn := b, sp := c, fs := d } }) := rfl
theorem rd_y1 : (hp A).1[41]? = some (.inr (.inl (0, A.yr.od))) := rfl
theorem wr_y1 {l : List Int} : ((hp A).1.set (41) (.inr (.inl (0, l))), A.mc) = hp ({ A with yr := { A.yr with od := l } }) := rfl
theorem rd_y2 : (hp A).1[42]? = some (.inr (.inl (2, A.yr.bz))) := rfl
theorem wr_y2 {l : List Int} : ((hp A).1.set (42) (.inr (.inl (2, l))), A.mc) = hp ({ A with yr := { A.yr with bz := l } }) := rfl
theorem rd_y3 : (hp A).1[43]? = some (.inr (.inl (0, A.yr.wt))) := rfl
theorem wr_y3 {l : List Int} : ((hp A).1.set (43) (.inr (.inl (0, l))), A.mc) = hp ({ A with yr := { A.yr with wt := l } }) := rfl
theorem rd_y4 : (hp A).1[44]? = some (.inr (.inl (0, A.yr.en))) := rfl
theorem wr_y4 {l : List Int} : ((hp A).1.set (44) (.inr (.inl (0, l))), A.mc) = hp ({ A with yr := { A.yr with en := l } }) := rfl
theorem rd_ns : (hp A).1[45]? = some (.inr (.inr (3, rNs))) := rfl
theorem rd_ss : (hp A).1[106]? = some (.inr (.inr (4, [109, 111, 113, 115, 117, 119, 121, 123]))) := rfl
theorem rd_ps : (hp A).1[123]? = some (.inr (.inr (5, [126, 128, 130, 132, 134, 136, 138]))) := rfl
theorem rd_n0 : (hp A).1[1]? = some (.inl (6, [.inl 0])) := rfl
theorem rd_s {d : Nat} (hd : d < 8) : (hp A).1[107 + 2 * d]? = some (.inl (5, [.inl (A.sh d).ho, .inr (.inr ((A.sh d).na + 2)), .inl (A.sh d).so, .inl (A.sh d).sz, .inr (.inr ((A.sh d).ca + 2))])) := (by match d, hd with | 0, _ => rfl | 1, _ => rfl | 2, _ => rfl | 3, _ => rfl | 4, _ => rfl | 5, _ => rfl | 6, _ => rfl | 7, _ => rfl)
theorem rd_s0 {d : Nat} (hd : d < 8) : (hp A).1[108 + 2 * d]? = some (.inr (.inl (1, []))) := (by match d, hd with | 0, _ => rfl | 1, _ => rfl | 2, _ => rfl | 3, _ => rfl | 4, _ => rfl | 5, _ => rfl | 6, _ => rfl | 7, _ => rfl)
theorem wr_s {d : Nat} (hd : d < 8) {a b c : Int} {x y : Nat} : ((hp A).1.set (107 + 2 * d) (.inl (5, [.inl a, .inr (.inr (x + 2)), .inl b, .inl c, .inr (.inr (y + 2))])), A.mc) = hp { A with sh := fun e => if e = d then ⟨a, x, b, c, y⟩ else A.sh e } := (by match d, hd with | 0, _ => rfl | 1, _ => rfl | 2, _ => rfl | 3, _ => rfl | 4, _ => rfl | 5, _ => rfl | 6, _ => rfl | 7, _ => rfl)
theorem rd_p {d : Nat} (hd : d < 7) : (hp A).1[124 + 2 * d]? = some (.inl (2, [.inr (.inr (125 + 2 * d + 2))])) := (by match d, hd with | 0, _ => rfl | 1, _ => rfl | 2, _ => rfl | 3, _ => rfl | 4, _ => rfl | 5, _ => rfl | 6, _ => rfl)
theorem rd_p1 {d : Nat} (hd : d < 7) : (hp A).1[125 + 2 * d]? = some (.inr (.inl (1, A.pt d))) := (by match d, hd with | 0, _ => rfl | 1, _ => rfl | 2, _ => rfl | 3, _ => rfl | 4, _ => rfl | 5, _ => rfl | 6, _ => rfl)
theorem wr_p1 {d : Nat} (hd : d < 7) {l : List Int} : ((hp A).1.set (125 + 2 * d) (.inr (.inl (1, l))), A.mc) = hp { A with pt := fun e => if e = d then l else A.pt e } := (by match d, hd with | 0, _ => rfl | 1, _ => rfl | 2, _ => rfl | 3, _ => rfl | 4, _ => rfl | 5, _ => rfl | 6, _ => rfl)
theorem rd_o : (hp A).1[138]? = some (.inl (12, [.inr (.inr (139 + 2)), .inr (.inr (140 + 2)), .inr (.inr (141 + 2)), .inr (.inr (142 + 2)), .inl A.mo.hi, .inr (.inr (143 + 2)), .inr (.inr (144 + 2)), .inr (.inr (145 + 2)), .inl A.mo.dn, .inl A.mo.sm, .inl A.mo.sf, .inl A.mo.go, .inl A.mo.at_, .inl A.mo.ra, .inl A.mo.re, .inr (.inr (146 + 2)), .inl A.mo.bd, .inl A.mo.bg, .inr (.inr (147 + 2)), .inr (.inr (148 + 2)), .inr (.inr (149 + 2)), .inl A.mo.st, .inl A.mo.ml, .inr (.inr (150 + 2)), .inr (.inr (151 + 2)), .inl A.mo.se, .inr (.inr (152 + 2)), .inr (.inr (153 + 2)), .inr (.inr (154 + 2)), .inr (.inr (155 + 2)), .inr (.inr (156 + 2)), .inr (.inr (157 + 2)), .inl A.mo.tn])) := rfl
theorem wr_o {z_hi z_dn z_sm z_sf z_go z_at_ z_ra z_re z_bd z_bg z_st z_ml z_se z_tn : Int} : ((hp A).1.set (138) (.inl (12, [.inr (.inr (139 + 2)), .inr (.inr (140 + 2)), .inr (.inr (141 + 2)), .inr (.inr (142 + 2)), .inl z_hi, .inr (.inr (143 + 2)), .inr (.inr (144 + 2)), .inr (.inr (145 + 2)), .inl z_dn, .inl z_sm, .inl z_sf, .inl z_go, .inl z_at_, .inl z_ra, .inl z_re, .inr (.inr (146 + 2)), .inl z_bd, .inl z_bg, .inr (.inr (147 + 2)), .inr (.inr (148 + 2)), .inr (.inr (149 + 2)), .inl z_st, .inl z_ml, .inr (.inr (150 + 2)), .inr (.inr (151 + 2)), .inl z_se, .inr (.inr (152 + 2)), .inr (.inr (153 + 2)), .inr (.inr (154 + 2)), .inr (.inr (155 + 2)), .inr (.inr (156 + 2)), .inr (.inr (157 + 2)), .inl z_tn])), A.mc) = hp ({ A with mo := { A.mo with hi := z_hi, dn := z_dn, sm := z_sm, sf := z_sf, go := z_go, at_ := z_at_, ra := z_ra, re := z_re, bd := z_bd, bg := z_bg, st := z_st, ml := z_ml, se := z_se, tn := z_tn } }) := rfl
theorem rd_o_s : (hp A).1[139]? = some (.inr (.inl (0, A.mo.s))) := rfl
theorem wr_o_s {l : List Int} : ((hp A).1.set (139) (.inr (.inl (0, l))), A.mc) = hp ({ A with mo := { A.mo with s := l } }) := rfl
theorem rd_o_m : (hp A).1[140]? = some (.inr (.inl (0, A.mo.m))) := rfl
theorem wr_o_m {l : List Int} : ((hp A).1.set (140) (.inr (.inl (0, l))), A.mc) = hp ({ A with mo := { A.mo with m := l } }) := rfl
theorem rd_o_im : (hp A).1[141]? = some (.inr (.inl (0, A.mo.im))) := rfl
theorem wr_o_im {l : List Int} : ((hp A).1.set (141) (.inr (.inl (0, l))), A.mc) = hp ({ A with mo := { A.mo with im := l } }) := rfl
theorem rd_o_was : (hp A).1[142]? = some (.inr (.inl (0, A.mo.was))) := rfl
theorem wr_o_was {l : List Int} : ((hp A).1.set (142) (.inr (.inl (0, l))), A.mc) = hp ({ A with mo := { A.mo with was := l } }) := rfl
theorem rd_o_wt : (hp A).1[143]? = some (.inr (.inl (0, A.mo.wt))) := rfl
theorem wr_o_wt {l : List Int} : ((hp A).1.set (143) (.inr (.inl (0, l))), A.mc) = hp ({ A with mo := { A.mo with wt := l } }) := rfl
theorem rd_o_en : (hp A).1[144]? = some (.inr (.inl (0, A.mo.en))) := rfl
theorem wr_o_en {l : List Int} : ((hp A).1.set (144) (.inr (.inl (0, l))), A.mc) = hp ({ A with mo := { A.mo with en := l } }) := rfl
theorem rd_o_od : (hp A).1[145]? = some (.inr (.inl (0, A.mo.od))) := rfl
theorem wr_o_od {l : List Int} : ((hp A).1.set (145) (.inr (.inl (0, l))), A.mc) = hp ({ A with mo := { A.mo with od := l } }) := rfl
theorem rd_o_nu : (hp A).1[146]? = some (.inr (.inl (0, A.mo.nu))) := rfl
theorem wr_o_nu {l : List Int} : ((hp A).1.set (146) (.inr (.inl (0, l))), A.mc) = hp ({ A with mo := { A.mo with nu := l } }) := rfl
theorem rd_o_he : (hp A).1[147]? = some (.inr (.inl (0, A.mo.he))) := rfl
theorem wr_o_he {l : List Int} : ((hp A).1.set (147) (.inr (.inl (0, l))), A.mc) = hp ({ A with mo := { A.mo with he := l } }) := rfl
theorem rd_o_bh : (hp A).1[148]? = some (.inr (.inl (0, A.mo.bh))) := rfl
theorem wr_o_bh {l : List Int} : ((hp A).1.set (148) (.inr (.inl (0, l))), A.mc) = hp ({ A with mo := { A.mo with bh := l } }) := rfl
theorem rd_o_ak : (hp A).1[149]? = some (.inr (.inl (0, A.mo.ak))) := rfl
theorem wr_o_ak {l : List Int} : ((hp A).1.set (149) (.inr (.inl (0, l))), A.mc) = hp ({ A with mo := { A.mo with ak := l } }) := rfl
theorem rd_o_fi : (hp A).1[150]? = some (.inr (.inl (0, A.mo.fi))) := rfl
theorem wr_o_fi {l : List Int} : ((hp A).1.set (150) (.inr (.inl (0, l))), A.mc) = hp ({ A with mo := { A.mo with fi := l } }) := rfl
theorem rd_o_th : (hp A).1[151]? = some (.inr (.inl (0, A.mo.th))) := rfl
theorem wr_o_th {l : List Int} : ((hp A).1.set (151) (.inr (.inl (0, l))), A.mc) = hp ({ A with mo := { A.mo with th := l } }) := rfl
theorem rd_o_ke : (hp A).1[152]? = some (.inr (.inl (0, A.mo.ke))) := rfl
theorem wr_o_ke {l : List Int} : ((hp A).1.set (152) (.inr (.inl (0, l))), A.mc) = hp ({ A with mo := { A.mo with ke := l } }) := rfl
theorem rd_o_kk : (hp A).1[153]? = some (.inr (.inl (0, A.mo.kk))) := rfl
theorem wr_o_kk {l : List Int} : ((hp A).1.set (153) (.inr (.inl (0, l))), A.mc) = hp ({ A with mo := { A.mo with kk := l } }) := rfl
theorem rd_o_kf : (hp A).1[154]? = some (.inr (.inl (0, A.mo.kf))) := rfl
theorem wr_o_kf {l : List Int} : ((hp A).1.set (154) (.inr (.inl (0, l))), A.mc) = hp ({ A with mo := { A.mo with kf := l } }) := rfl
theorem rd_o_so : (hp A).1[155]? = some (.inr (.inl (0, A.mo.so))) := rfl
theorem wr_o_so {l : List Int} : ((hp A).1.set (155) (.inr (.inl (0, l))), A.mc) = hp ({ A with mo := { A.mo with so := l } }) := rfl
theorem rd_o_sz : (hp A).1[156]? = some (.inr (.inl (0, A.mo.sz))) := rfl
theorem wr_o_sz {l : List Int} : ((hp A).1.set (156) (.inr (.inl (0, l))), A.mc) = hp ({ A with mo := { A.mo with sz := l } }) := rfl
theorem rd_o_el : (hp A).1[157]? = some (.inr (.inl (0, A.mo.el))) := rfl
theorem wr_o_el {l : List Int} : ((hp A).1.set (157) (.inr (.inl (0, l))), A.mc) = hp ({ A with mo := { A.mo with el := l } }) := rfl
theorem rd_out : (hp A).1[158]? = some (.inr (.inl (1, A.out))) := rfl
theorem wr_out {l : List Int} : ((hp A).1.set (158) (.inr (.inl (1, l))), A.mc) = hp ({ A with out := l }) := rfl
theorem rd_x {k : Nat} (hk : k < A.ext.length) : (hp A).1[159 + k]? = some (.inr (.inl (1, A.ext.getD k []))) := by
  have : (hp A).1[159 + k]? = (A.ext.map cL)[k]? := by show (lay A)[159 + k]? = _; rw [Nat.add_comm]; rfl
  rw [this, List.getElem?_map, List.getD_eq_getElem?_getD, List.getElem?_eq_getElem hk]; rfl
theorem hp_len : (hp A).1.length = 159 + A.ext.length := by
  have : (hp A).1.length = (A.ext.map cL).length + 159 := rfl
  rw [this, List.length_map, Nat.add_comm]
theorem wr_x {k : Nat} {l : List Int} : ((hp A).1.set (159 + k) (.inr (.inl (1, l))), A.mc) = hp { A with ext := A.ext.set k l } := by
  have : (hp A).1.set (159 + k) (.inr (.inl (1, l))) = (hp { A with ext := A.ext.set k l }).1 := by
    have e : (hp { A with ext := A.ext.set k l }).1 = lay1 A ++ (lay2 A ++ (layM A.mo ++ (cL A.out :: (A.ext.map cL).set k (cL l)))) := by
      rw [← List.map_set]; rfl
    rw [e, Nat.add_comm]; rfl
  rw [this]; rfl
end RD
