set_option maxRecDepth 16384
/-! ===== the constructors: the class ===== -/
def dcV : DecidableEq iV := inferInstance
def dc1 : DecidableEq (Nat × List iV) :=
  letI := dcV
  inferInstance
def dc2 : DecidableEq ((Nat × List Int) ⊕ (Nat × List Nat)) := inferInstance
def dcO : DecidableEq iO :=
  letI := dc1
  letI := dc2
  inferInstance
def dcH : DecidableEq iH :=
  letI := dcO
  inferInstance
def dc3 : DecidableEq (List (Option iV)) :=
  letI := dcV
  inferInstance
def dc4 : DecidableEq (List iV) :=
  letI := dcV
  inferInstance
def dcF : DecidableEq iF :=
  letI := dc3
  letI := dc4
  inferInstance
def dcR : DecidableEq (Option (iF × iH)) :=
  letI := dcF
  letI := dcH
  inferInstance
def dcS : DecidableEq (Option iH) :=
  letI := dcH
  inferInstance
theorem byR {x y : Option (iF × iH)} (h : @decide (x = y) (dcR x y) = true) : x = y := @of_decide_eq_true _ (dcR x y) h
theorem byS {x y : Option iH} (h : @decide (x = y) (dcS x y) = true) : x = y := @of_decide_eq_true _ (dcS x y) h
def oC (a b c d e f g : Nat) : iO := .inl (11, [.inr (.inr a), .inr (.inr b), .inr (.inr c), .inr (.inr d), .inl 0, .inr (.inr e), .inr (.inr f), .inr (.inr g)])
def hc1 : List iO := cN 6 0 :: cV 2 val0
def hc2 : List iO := hc1 ++ [.inl (4, [.inr (.inr 4), .inr (.inr 16), .inr (.inr 17), .inr (.inr 18), .inr (.inr 19), .inl 0, .inl 0]), cI (List.replicate 5 0), cI (List.replicate 5 0), cI (List.replicate 5 0), cZ (List.replicate 25 0)]
def hc3 : List iO := hc2 ++ cV 18 val0
def hc4 : List iO := hc3 ++ (.inl (10, [.inr (.inr 32), .inr (.inr 43), .inr (.inr 44), .inr (.inr 45), .inr (.inr 46), .inl 0, .inl 0, .inl 0, .inl 0]) :: (cV 30 val0 ++ [cI (List.replicate 4 0), cZ (List.replicate 10 0), cI (List.replicate 4 0), cI (List.replicate 4 0)]))
def hc5 (f : Nat) : List iO := hc4 ++ (.inr (.inr (3, (List.range 60).map fun i => if i % 10 < f then 48 + 6 * (i % 10) + i / 10 else 0)) :: (List.range f).flatMap fun (j : Nat) => cNs (j : Int))
def hc6 (k : Nat) : List iO := hc5 10 ++ (.inr (.inr (4, (List.range 8).map fun j => if j < k then 109 + 2 * j else 0)) :: (List.range k).flatMap fun j => [.inl (5, [.inl 0, .inr (.inr 3), .inl 0, .inl 0, .inr (.inr (110 + 2 * j))]), cL []])
def hc7 (k : Nat) : List iO := hc6 8 ++ (.inr (.inr (5, (List.range 7).map fun j => if j < k then 126 + 2 * j else 0)) :: (List.range k).flatMap fun j => [.inl (2, [.inr (.inr (127 + 2 * j))]), cL (List.replicate 8 0)])
set_option maxRecDepth 100000 in
theorem cp_0 : evk 2000 12 19 mX11_init (0, [some (.inr (.inr 2)), none, none, none], []) ([.inl (11, dfT 11)], 1) = some ((22, [some (.inr (.inr 2)), some (.inr (.inr 3)), some (.inr (.inr 4)), none], []), (oC 0 0 0 0 0 0 0 :: hc1, 13)) := byR (by decide +kernel)
set_option maxRecDepth 100000 in
theorem cp_1 : evk 2000 9 19 mX11_init (22, [some (.inr (.inr 2)), some (.inr (.inr 3)), some (.inr (.inr 4)), none], []) (oC 0 0 0 0 0 0 0 :: hc1, 13) = some ((39, [some (.inr (.inr 2)), some (.inr (.inr 3)), some (.inr (.inr 4)), none], []), (oC 0 0 4 0 0 15 0 :: hc2, 18)) := byR (by decide +kernel)
set_option maxRecDepth 100000 in
theorem cp_2 : evk 2000 6 19 mX11_init (39, [some (.inr (.inr 2)), some (.inr (.inr 3)), some (.inr (.inr 4)), none], []) (oC 0 0 4 0 0 15 0 :: hc2, 18) = some ((51, [some (.inr (.inr 2)), some (.inr (.inr 3)), some (.inr (.inr 4)), none], []), (oC 0 0 4 20 0 15 0 :: hc3, 29)) := byR (by decide +kernel)
set_option maxRecDepth 100000 in
theorem cp_3 : evk 2000 9 19 mX11_init (51, [some (.inr (.inr 2)), some (.inr (.inr 3)), some (.inr (.inr 4)), none], []) (oC 0 0 4 20 0 15 0 :: hc3, 29) = some ((70, [some (.inr (.inr 2)), some (.inr (.inr 3)), some (.inr (.inr 4)), none], []), (oC 0 0 4 20 31 15 0 :: hc4, 45)) := byR (by decide +kernel)
set_option maxRecDepth 100000 in
theorem cp_4 : evk 2000 6 19 mX11_init (70, [some (.inr (.inr 2)), some (.inr (.inr 3)), some (.inr (.inr 4)), none], []) (oC 0 0 4 20 31 15 0 :: hc4, 45) = some ((81, [some (.inr (.inr 2)), some (.inr (.inr 3)), some (.inr (.inr 4)), some (.inl 0)], []), (oC 47 0 4 20 31 15 0 :: hc5 0, 46)) := byR (by decide +kernel)
set_option maxRecDepth 100000 in
theorem cp_50 : evk 2000 63 19 mX11_init (81, [some (.inr (.inr 2)), some (.inr (.inr 3)), some (.inr (.inr 4)), some (.inl 0)], []) (oC 47 0 4 20 31 15 0 :: hc5 0, 46) = some ((81, [some (.inr (.inr 2)), some (.inr (.inr 3)), some (.inr (.inr 4)), some (.inl 1)], []), (oC 47 0 4 20 31 15 0 :: hc5 1, 52)) := byR (by decide +kernel)
set_option maxRecDepth 100000 in
theorem cp_51 : evk 2000 63 19 mX11_init (81, [some (.inr (.inr 2)), some (.inr (.inr 3)), some (.inr (.inr 4)), some (.inl 1)], []) (oC 47 0 4 20 31 15 0 :: hc5 1, 52) = some ((81, [some (.inr (.inr 2)), some (.inr (.inr 3)), some (.inr (.inr 4)), some (.inl 2)], []), (oC 47 0 4 20 31 15 0 :: hc5 2, 58)) := byR (by decide +kernel)
set_option maxRecDepth 100000 in
theorem cp_52 : evk 2000 63 19 mX11_init (81, [some (.inr (.inr 2)), some (.inr (.inr 3)), some (.inr (.inr 4)), some (.inl 2)], []) (oC 47 0 4 20 31 15 0 :: hc5 2, 58) = some ((81, [some (.inr (.inr 2)), some (.inr (.inr 3)), some (.inr (.inr 4)), some (.inl 3)], []), (oC 47 0 4 20 31 15 0 :: hc5 3, 64)) := byR (by decide +kernel)
set_option maxRecDepth 100000 in
theorem cp_53 : evk 2000 63 19 mX11_init (81, [some (.inr (.inr 2)), some (.inr (.inr 3)), some (.inr (.inr 4)), some (.inl 3)], []) (oC 47 0 4 20 31 15 0 :: hc5 3, 64) = some ((81, [some (.inr (.inr 2)), some (.inr (.inr 3)), some (.inr (.inr 4)), some (.inl 4)], []), (oC 47 0 4 20 31 15 0 :: hc5 4, 70)) := byR (by decide +kernel)
set_option maxRecDepth 100000 in
theorem cp_54 : evk 2000 63 19 mX11_init (81, [some (.inr (.inr 2)), some (.inr (.inr 3)), some (.inr (.inr 4)), some (.inl 4)], []) (oC 47 0 4 20 31 15 0 :: hc5 4, 70) = some ((81, [some (.inr (.inr 2)), some (.inr (.inr 3)), some (.inr (.inr 4)), some (.inl 5)], []), (oC 47 0 4 20 31 15 0 :: hc5 5, 76)) := byR (by decide +kernel)
set_option maxRecDepth 100000 in
theorem cp_55 : evk 2000 63 19 mX11_init (81, [some (.inr (.inr 2)), some (.inr (.inr 3)), some (.inr (.inr 4)), some (.inl 5)], []) (oC 47 0 4 20 31 15 0 :: hc5 5, 76) = some ((81, [some (.inr (.inr 2)), some (.inr (.inr 3)), some (.inr (.inr 4)), some (.inl 6)], []), (oC 47 0 4 20 31 15 0 :: hc5 6, 82)) := byR (by decide +kernel)
set_option maxRecDepth 100000 in
theorem cp_56 : evk 2000 63 19 mX11_init (81, [some (.inr (.inr 2)), some (.inr (.inr 3)), some (.inr (.inr 4)), some (.inl 6)], []) (oC 47 0 4 20 31 15 0 :: hc5 6, 82) = some ((81, [some (.inr (.inr 2)), some (.inr (.inr 3)), some (.inr (.inr 4)), some (.inl 7)], []), (oC 47 0 4 20 31 15 0 :: hc5 7, 88)) := byR (by decide +kernel)
set_option maxRecDepth 100000 in
theorem cp_57 : evk 2000 63 19 mX11_init (81, [some (.inr (.inr 2)), some (.inr (.inr 3)), some (.inr (.inr 4)), some (.inl 7)], []) (oC 47 0 4 20 31 15 0 :: hc5 7, 88) = some ((81, [some (.inr (.inr 2)), some (.inr (.inr 3)), some (.inr (.inr 4)), some (.inl 8)], []), (oC 47 0 4 20 31 15 0 :: hc5 8, 94)) := byR (by decide +kernel)
set_option maxRecDepth 100000 in
theorem cp_58 : evk 2000 63 19 mX11_init (81, [some (.inr (.inr 2)), some (.inr (.inr 3)), some (.inr (.inr 4)), some (.inl 8)], []) (oC 47 0 4 20 31 15 0 :: hc5 8, 94) = some ((81, [some (.inr (.inr 2)), some (.inr (.inr 3)), some (.inr (.inr 4)), some (.inl 9)], []), (oC 47 0 4 20 31 15 0 :: hc5 9, 100)) := byR (by decide +kernel)
set_option maxRecDepth 100000 in
theorem cp_59 : evk 2000 63 19 mX11_init (81, [some (.inr (.inr 2)), some (.inr (.inr 3)), some (.inr (.inr 4)), some (.inl 9)], []) (oC 47 0 4 20 31 15 0 :: hc5 9, 100) = some ((81, [some (.inr (.inr 2)), some (.inr (.inr 3)), some (.inr (.inr 4)), some (.inl 10)], []), (oC 47 0 4 20 31 15 0 :: hc5 10, 106)) := byR (by decide +kernel)
set_option maxRecDepth 100000 in
theorem cp_6 : evk 2000 9 19 mX11_init (81, [some (.inr (.inr 2)), some (.inr (.inr 3)), some (.inr (.inr 4)), some (.inl 10)], []) (oC 47 0 4 20 31 15 0 :: hc5 10, 106) = some ((203, [some (.inr (.inr 2)), some (.inr (.inr 3)), some (.inr (.inr 4)), some (.inl 0)], []), (oC 47 108 4 20 31 15 0 :: hc6 0, 107)) := byR (by decide +kernel)
set_option maxRecDepth 100000 in
theorem cp_60 : evk 2000 13 19 mX11_init (203, [some (.inr (.inr 2)), some (.inr (.inr 3)), some (.inr (.inr 4)), some (.inl 0)], []) (oC 47 108 4 20 31 15 0 :: hc6 0, 107) = some ((203, [some (.inr (.inr 2)), some (.inr (.inr 3)), some (.inr (.inr 4)), some (.inl 1)], []), (oC 47 108 4 20 31 15 0 :: hc6 1, 109)) := byR (by decide +kernel)
set_option maxRecDepth 100000 in
theorem cp_61 : evk 2000 13 19 mX11_init (203, [some (.inr (.inr 2)), some (.inr (.inr 3)), some (.inr (.inr 4)), some (.inl 1)], []) (oC 47 108 4 20 31 15 0 :: hc6 1, 109) = some ((203, [some (.inr (.inr 2)), some (.inr (.inr 3)), some (.inr (.inr 4)), some (.inl 2)], []), (oC 47 108 4 20 31 15 0 :: hc6 2, 111)) := byR (by decide +kernel)
set_option maxRecDepth 100000 in
theorem cp_62 : evk 2000 13 19 mX11_init (203, [some (.inr (.inr 2)), some (.inr (.inr 3)), some (.inr (.inr 4)), some (.inl 2)], []) (oC 47 108 4 20 31 15 0 :: hc6 2, 111) = some ((203, [some (.inr (.inr 2)), some (.inr (.inr 3)), some (.inr (.inr 4)), some (.inl 3)], []), (oC 47 108 4 20 31 15 0 :: hc6 3, 113)) := byR (by decide +kernel)
set_option maxRecDepth 100000 in
theorem cp_63 : evk 2000 13 19 mX11_init (203, [some (.inr (.inr 2)), some (.inr (.inr 3)), some (.inr (.inr 4)), some (.inl 3)], []) (oC 47 108 4 20 31 15 0 :: hc6 3, 113) = some ((203, [some (.inr (.inr 2)), some (.inr (.inr 3)), some (.inr (.inr 4)), some (.inl 4)], []), (oC 47 108 4 20 31 15 0 :: hc6 4, 115)) := byR (by decide +kernel)
set_option maxRecDepth 100000 in
theorem cp_64 : evk 2000 13 19 mX11_init (203, [some (.inr (.inr 2)), some (.inr (.inr 3)), some (.inr (.inr 4)), some (.inl 4)], []) (oC 47 108 4 20 31 15 0 :: hc6 4, 115) = some ((203, [some (.inr (.inr 2)), some (.inr (.inr 3)), some (.inr (.inr 4)), some (.inl 5)], []), (oC 47 108 4 20 31 15 0 :: hc6 5, 117)) := byR (by decide +kernel)
set_option maxRecDepth 100000 in
theorem cp_65 : evk 2000 13 19 mX11_init (203, [some (.inr (.inr 2)), some (.inr (.inr 3)), some (.inr (.inr 4)), some (.inl 5)], []) (oC 47 108 4 20 31 15 0 :: hc6 5, 117) = some ((203, [some (.inr (.inr 2)), some (.inr (.inr 3)), some (.inr (.inr 4)), some (.inl 6)], []), (oC 47 108 4 20 31 15 0 :: hc6 6, 119)) := byR (by decide +kernel)
set_option maxRecDepth 100000 in
theorem cp_66 : evk 2000 13 19 mX11_init (203, [some (.inr (.inr 2)), some (.inr (.inr 3)), some (.inr (.inr 4)), some (.inl 6)], []) (oC 47 108 4 20 31 15 0 :: hc6 6, 119) = some ((203, [some (.inr (.inr 2)), some (.inr (.inr 3)), some (.inr (.inr 4)), some (.inl 7)], []), (oC 47 108 4 20 31 15 0 :: hc6 7, 121)) := byR (by decide +kernel)
set_option maxRecDepth 100000 in
theorem cp_67 : evk 2000 13 19 mX11_init (203, [some (.inr (.inr 2)), some (.inr (.inr 3)), some (.inr (.inr 4)), some (.inl 7)], []) (oC 47 108 4 20 31 15 0 :: hc6 7, 121) = some ((203, [some (.inr (.inr 2)), some (.inr (.inr 3)), some (.inr (.inr 4)), some (.inl 8)], []), (oC 47 108 4 20 31 15 0 :: hc6 8, 123)) := byR (by decide +kernel)
set_option maxRecDepth 100000 in
theorem cp_7 : evk 2000 9 19 mX11_init (203, [some (.inr (.inr 2)), some (.inr (.inr 3)), some (.inr (.inr 4)), some (.inl 8)], []) (oC 47 108 4 20 31 15 0 :: hc6 8, 123) = some ((240, [some (.inr (.inr 2)), some (.inr (.inr 3)), some (.inr (.inr 4)), some (.inl 0)], []), (oC 47 108 4 20 31 15 125 :: hc7 0, 124)) := byR (by decide +kernel)
set_option maxRecDepth 100000 in
theorem cp_70 : evk 2000 12 19 mX11_init (240, [some (.inr (.inr 2)), some (.inr (.inr 3)), some (.inr (.inr 4)), some (.inl 0)], []) (oC 47 108 4 20 31 15 125 :: hc7 0, 124) = some ((240, [some (.inr (.inr 2)), some (.inr (.inr 3)), some (.inr (.inr 4)), some (.inl 1)], []), (oC 47 108 4 20 31 15 125 :: hc7 1, 126)) := byR (by decide +kernel)
set_option maxRecDepth 100000 in
theorem cp_71 : evk 2000 12 19 mX11_init (240, [some (.inr (.inr 2)), some (.inr (.inr 3)), some (.inr (.inr 4)), some (.inl 1)], []) (oC 47 108 4 20 31 15 125 :: hc7 1, 126) = some ((240, [some (.inr (.inr 2)), some (.inr (.inr 3)), some (.inr (.inr 4)), some (.inl 2)], []), (oC 47 108 4 20 31 15 125 :: hc7 2, 128)) := byR (by decide +kernel)
set_option maxRecDepth 100000 in
theorem cp_72 : evk 2000 12 19 mX11_init (240, [some (.inr (.inr 2)), some (.inr (.inr 3)), some (.inr (.inr 4)), some (.inl 2)], []) (oC 47 108 4 20 31 15 125 :: hc7 2, 128) = some ((240, [some (.inr (.inr 2)), some (.inr (.inr 3)), some (.inr (.inr 4)), some (.inl 3)], []), (oC 47 108 4 20 31 15 125 :: hc7 3, 130)) := byR (by decide +kernel)
set_option maxRecDepth 100000 in
theorem cp_73 : evk 2000 12 19 mX11_init (240, [some (.inr (.inr 2)), some (.inr (.inr 3)), some (.inr (.inr 4)), some (.inl 3)], []) (oC 47 108 4 20 31 15 125 :: hc7 3, 130) = some ((240, [some (.inr (.inr 2)), some (.inr (.inr 3)), some (.inr (.inr 4)), some (.inl 4)], []), (oC 47 108 4 20 31 15 125 :: hc7 4, 132)) := byR (by decide +kernel)
set_option maxRecDepth 100000 in
theorem cp_74 : evk 2000 12 19 mX11_init (240, [some (.inr (.inr 2)), some (.inr (.inr 3)), some (.inr (.inr 4)), some (.inl 4)], []) (oC 47 108 4 20 31 15 125 :: hc7 4, 132) = some ((240, [some (.inr (.inr 2)), some (.inr (.inr 3)), some (.inr (.inr 4)), some (.inl 5)], []), (oC 47 108 4 20 31 15 125 :: hc7 5, 134)) := byR (by decide +kernel)
set_option maxRecDepth 100000 in
theorem cp_75 : evk 2000 12 19 mX11_init (240, [some (.inr (.inr 2)), some (.inr (.inr 3)), some (.inr (.inr 4)), some (.inl 5)], []) (oC 47 108 4 20 31 15 125 :: hc7 5, 134) = some ((240, [some (.inr (.inr 2)), some (.inr (.inr 3)), some (.inr (.inr 4)), some (.inl 6)], []), (oC 47 108 4 20 31 15 125 :: hc7 6, 136)) := byR (by decide +kernel)
set_option maxRecDepth 100000 in
theorem cp_76 : evk 2000 12 19 mX11_init (240, [some (.inr (.inr 2)), some (.inr (.inr 3)), some (.inr (.inr 4)), some (.inl 6)], []) (oC 47 108 4 20 31 15 125 :: hc7 6, 136) = some ((240, [some (.inr (.inr 2)), some (.inr (.inr 3)), some (.inr (.inr 4)), some (.inl 7)], []), (oC 47 108 4 20 31 15 125 :: hc7 7, 138)) := byR (by decide +kernel)
set_option maxRecDepth 100000 in
theorem cp_8 : ev 2000 19 mX11_init (240, [some (.inr (.inr 2)), some (.inr (.inr 3)), some (.inr (.inr 4)), some (.inl 7)], []) (oC 47 108 4 20 31 15 125 :: hc7 7, 138) = some (oC 47 108 4 20 31 15 125 :: hc7 7, 138) := byS (by decide +kernel)
theorem ctC {sp : Nat → List iV → iH → Option (Option iV × iH)} {sc : List Int} {Q : Option iV → iH → Prop} (hQ : Q none (oC 47 108 4 20 31 15 125 :: hc7 7, 138)) : Call sp sc 19 mX11_init [.inr (.inr 2)] ([.inl (11, dfT 11)], 1) Q := by
  refine call_of (q := (⟨RX11, "<init>", "()V"⟩, prog_1_method_1_code, 4, none, 11)) (L := [some (.inr (.inr 2)), none, none, none]) (by decide) rfl rfl rfl ?_
  refine evk_ok _ _ _ _ _ _ _ cp_0 ?_
  refine evk_ok _ _ _ _ _ _ _ cp_1 ?_
  refine evk_ok _ _ _ _ _ _ _ cp_2 ?_
  refine evk_ok _ _ _ _ _ _ _ cp_3 ?_
  refine evk_ok _ _ _ _ _ _ _ cp_4 ?_
  refine evk_ok _ _ _ _ _ _ _ cp_50 ?_
  refine evk_ok _ _ _ _ _ _ _ cp_51 ?_
  refine evk_ok _ _ _ _ _ _ _ cp_52 ?_
  refine evk_ok _ _ _ _ _ _ _ cp_53 ?_
  refine evk_ok _ _ _ _ _ _ _ cp_54 ?_
  refine evk_ok _ _ _ _ _ _ _ cp_55 ?_
  refine evk_ok _ _ _ _ _ _ _ cp_56 ?_
  refine evk_ok _ _ _ _ _ _ _ cp_57 ?_
  refine evk_ok _ _ _ _ _ _ _ cp_58 ?_
  refine evk_ok _ _ _ _ _ _ _ cp_59 ?_
  refine evk_ok _ _ _ _ _ _ _ cp_6 ?_
  refine evk_ok _ _ _ _ _ _ _ cp_60 ?_
  refine evk_ok _ _ _ _ _ _ _ cp_61 ?_
  refine evk_ok _ _ _ _ _ _ _ cp_62 ?_
  refine evk_ok _ _ _ _ _ _ _ cp_63 ?_
  refine evk_ok _ _ _ _ _ _ _ cp_64 ?_
  refine evk_ok _ _ _ _ _ _ _ cp_65 ?_
  refine evk_ok _ _ _ _ _ _ _ cp_66 ?_
  refine evk_ok _ _ _ _ _ _ _ cp_67 ?_
  refine evk_ok _ _ _ _ _ _ _ cp_7 ?_
  refine evk_ok _ _ _ _ _ _ _ cp_70 ?_
  refine evk_ok _ _ _ _ _ _ _ cp_71 ?_
  refine evk_ok _ _ _ _ _ _ _ cp_72 ?_
  refine evk_ok _ _ _ _ _ _ _ cp_73 ?_
  refine evk_ok _ _ _ _ _ _ _ cp_74 ?_
  refine evk_ok _ _ _ _ _ _ _ cp_75 ?_
  refine evk_ok _ _ _ _ _ _ _ cp_76 ?_
  exact ev_ok _ _ _ _ _ _ _ cp_8 hQ
