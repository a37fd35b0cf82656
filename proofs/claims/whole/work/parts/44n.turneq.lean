set_option maxRecDepth 16384
section GG
variable {sp : Nat → List iV → iH → Option (Option iV × iH)} {sc : List Int}
theorem gX12_turn_m : (∀ (n d : Nat) (L : List (Option iV)) (st : List iV) (h : iH) (Q : Option iV → iH → Prop), G sp sc [109, 117, 143, 175, 216, 260] d mX12_turn (n + 1) 0 L st h Q = (match ld L 1 with | some (.inr (.inr (r + 1))) => G sp sc [109, 117, 143, 175, 216, 260] d mX12_turn n 1 L (.inr (.inr (r + 1)) :: st) h Q | _ => False)) ∧
  (∀ (n d : Nat) (L : List (Option iV)) (st : List iV) (h : iH) (Q : Option iV → iH → Prop), G sp sc [109, 117, 143, 175, 216, 260] d mX12_turn (n + 1) 1 L st h Q = (match ld L 2 with | some (.inl x) => G sp sc [109, 117, 143, 175, 216, 260] d mX12_turn n 2 L (.inl x :: st) h Q | _ => False)) ∧
  (∀ (n d : Nat) (L : List (Option iV)) (st : List iV) (h : iH) (Q : Option iV → iH → Prop), G sp sc [109, 117, 143, 175, 216, 260] d mX12_turn (n + 1) 2 L st h Q = G sp sc [109, 117, 143, 175, 216, 260] d mX12_turn n 3 L (.inl 0 :: st) h Q) ∧
  (∀ (n d : Nat) (L : List (Option iV)) (r : List iV) (z0 : iV) (z1 : iV) (h : iH) (Q : Option iV → iH → Prop), G sp sc [109, 117, 143, 175, 216, 260] (d + 1) mX12_turn (n + 1) 3 L (z1 :: z0 :: r) h Q = (cs r ≤ 8 ∧ Call sp sc d mX12_atCouple [z0, z1] h (fun q h1 => GC sp sc [109, 117, 143, 175, 216, 260] (d + 1) mX12_turn n 6 L q r h h1 Q))) ∧
  (∀ (n d : Nat) (L : List (Option iV)) (r : List iV) (j : Int) (m : Nat) (h : iH) (Q : Option iV → iH → Prop), G sp sc [109, 117, 143, 175, 216, 260] d mX12_turn (n + 1) 6 L (.inl j :: .inr (.inr (m + 2)) :: r) h Q = (match h.1[m]? with | some (.inr (.inl (0, xs))) => inA j xs.length = true ∧ G sp sc [109, 117, 143, 175, 216, 260] d mX12_turn n 7 L (.inl (xs.getD j.toNat 0) :: r) h Q | _ => False)) ∧
  (∀ (n d : Nat) (L : List (Option iV)) (r : List iV) (x : Int) (h : iH) (Q : Option iV → iH → Prop), G sp sc [109, 117, 143, 175, 216, 260] d mX12_turn (n + 1) 7 L (.inl x :: r) h Q = (match st1 L 4 (.inl x) with | some L' => G sp sc [109, 117, 143, 175, 216, 260] d mX12_turn n 9 L' r h Q | none => False)) ∧
  (∀ (n d : Nat) (L : List (Option iV)) (st : List iV) (h : iH) (Q : Option iV → iH → Prop), G sp sc [109, 117, 143, 175, 216, 260] d mX12_turn (n + 1) 9 L st h Q = (match ld L 1 with | some (.inr (.inr (r + 1))) => G sp sc [109, 117, 143, 175, 216, 260] d mX12_turn n 10 L (.inr (.inr (r + 1)) :: st) h Q | _ => False)) ∧
  (∀ (n d : Nat) (L : List (Option iV)) (st : List iV) (h : iH) (Q : Option iV → iH → Prop), G sp sc [109, 117, 143, 175, 216, 260] d mX12_turn (n + 1) 10 L st h Q = (match ld L 2 with | some (.inl x) => G sp sc [109, 117, 143, 175, 216, 260] d mX12_turn n 11 L (.inl x :: st) h Q | _ => False)) ∧
  (∀ (n d : Nat) (L : List (Option iV)) (st : List iV) (h : iH) (Q : Option iV → iH → Prop), G sp sc [109, 117, 143, 175, 216, 260] d mX12_turn (n + 1) 11 L st h Q = G sp sc [109, 117, 143, 175, 216, 260] d mX12_turn n 12 L (.inl 1 :: st) h Q) ∧
  (∀ (n d : Nat) (L : List (Option iV)) (r : List iV) (z0 : iV) (z1 : iV) (h : iH) (Q : Option iV → iH → Prop), G sp sc [109, 117, 143, 175, 216, 260] (d + 1) mX12_turn (n + 1) 12 L (z1 :: z0 :: r) h Q = (cs r ≤ 8 ∧ Call sp sc d mX12_atCouple [z0, z1] h (fun q h1 => GC sp sc [109, 117, 143, 175, 216, 260] (d + 1) mX12_turn n 15 L q r h h1 Q))) ∧
  (∀ (n d : Nat) (L : List (Option iV)) (r : List iV) (j : Int) (m : Nat) (h : iH) (Q : Option iV → iH → Prop), G sp sc [109, 117, 143, 175, 216, 260] d mX12_turn (n + 1) 15 L (.inl j :: .inr (.inr (m + 2)) :: r) h Q = (match h.1[m]? with | some (.inr (.inl (0, xs))) => inA j xs.length = true ∧ G sp sc [109, 117, 143, 175, 216, 260] d mX12_turn n 16 L (.inl (xs.getD j.toNat 0) :: r) h Q | _ => False)) ∧
  (∀ (n d : Nat) (L : List (Option iV)) (r : List iV) (x : Int) (h : iH) (Q : Option iV → iH → Prop), G sp sc [109, 117, 143, 175, 216, 260] d mX12_turn (n + 1) 16 L (.inl x :: r) h Q = (match st1 L 5 (.inl x) with | some L' => G sp sc [109, 117, 143, 175, 216, 260] d mX12_turn n 18 L' r h Q | none => False)) ∧
  (∀ (n d : Nat) (L : List (Option iV)) (st : List iV) (h : iH) (Q : Option iV → iH → Prop), G sp sc [109, 117, 143, 175, 216, 260] d mX12_turn (n + 1) 18 L st h Q = (match ld L 1 with | some (.inr (.inr (r + 1))) => G sp sc [109, 117, 143, 175, 216, 260] d mX12_turn n 19 L (.inr (.inr (r + 1)) :: st) h Q | _ => False)) ∧
  (∀ (n d : Nat) (L : List (Option iV)) (st : List iV) (h : iH) (Q : Option iV → iH → Prop), G sp sc [109, 117, 143, 175, 216, 260] d mX12_turn (n + 1) 19 L st h Q = G sp sc [109, 117, 143, 175, 216, 260] d mX12_turn n 20 L (.inl 5 :: st) h Q) ∧
  (∀ (n d : Nat) (L : List (Option iV)) (st : List iV) (h : iH) (Q : Option iV → iH → Prop), G sp sc [109, 117, 143, 175, 216, 260] d mX12_turn (n + 1) 20 L st h Q = (match ld L 1 with | some (.inr (.inr (r + 1))) => G sp sc [109, 117, 143, 175, 216, 260] d mX12_turn n 21 L (.inr (.inr (r + 1)) :: st) h Q | _ => False)) ∧
  (∀ (n d : Nat) (L : List (Option iV)) (st : List iV) (h : iH) (Q : Option iV → iH → Prop), G sp sc [109, 117, 143, 175, 216, 260] d mX12_turn (n + 1) 21 L st h Q = (match ld L 2 with | some (.inl x) => G sp sc [109, 117, 143, 175, 216, 260] d mX12_turn n 22 L (.inl x :: st) h Q | _ => False)) ∧
  (∀ (n d : Nat) (L : List (Option iV)) (st : List iV) (h : iH) (Q : Option iV → iH → Prop), G sp sc [109, 117, 143, 175, 216, 260] d mX12_turn (n + 1) 22 L st h Q = G sp sc [109, 117, 143, 175, 216, 260] d mX12_turn n 23 L (.inl 3 :: st) h Q) ∧
  (∀ (n d : Nat) (L : List (Option iV)) (r : List iV) (z0 : iV) (z1 : iV) (h : iH) (Q : Option iV → iH → Prop), G sp sc [109, 117, 143, 175, 216, 260] (d + 1) mX12_turn (n + 1) 23 L (z1 :: z0 :: r) h Q = (cs r ≤ 8 ∧ Call sp sc d mX12_atCouple [z0, z1] h (fun q h1 => GC sp sc [109, 117, 143, 175, 216, 260] (d + 1) mX12_turn n 26 L q r h h1 Q))) ∧
  (∀ (n d : Nat) (L : List (Option iV)) (r : List iV) (j : Int) (m : Nat) (h : iH) (Q : Option iV → iH → Prop), G sp sc [109, 117, 143, 175, 216, 260] d mX12_turn (n + 1) 26 L (.inl j :: .inr (.inr (m + 2)) :: r) h Q = (match h.1[m]? with | some (.inr (.inl (0, xs))) => inA j xs.length = true ∧ G sp sc [109, 117, 143, 175, 216, 260] d mX12_turn n 27 L (.inl (xs.getD j.toNat 0) :: r) h Q | _ => False)) ∧
  (∀ (n d : Nat) (L : List (Option iV)) (a : Int) (b : Int) (r : List iV) (h : iH) (Q : Option iV → iH → Prop), G sp sc [109, 117, 143, 175, 216, 260] d mX12_turn (n + 1) 27 L (.inl b :: .inl a :: r) h Q = G sp sc [109, 117, 143, 175, 216, 260] d mX12_turn n 28 L (.inl (a + b) :: r) h Q) ∧
  (∀ (n d : Nat) (L : List (Option iV)) (r : List iV) (j : Int) (m : Nat) (h : iH) (Q : Option iV → iH → Prop), G sp sc [109, 117, 143, 175, 216, 260] d mX12_turn (n + 1) 28 L (.inl j :: .inr (.inr (m + 2)) :: r) h Q = (match h.1[m]? with | some (.inr (.inl (0, xs))) => inA j xs.length = true ∧ G sp sc [109, 117, 143, 175, 216, 260] d mX12_turn n 29 L (.inl (xs.getD j.toNat 0) :: r) h Q | _ => False)) ∧
  (∀ (n d : Nat) (L : List (Option iV)) (r : List iV) (x : Int) (h : iH) (Q : Option iV → iH → Prop), G sp sc [109, 117, 143, 175, 216, 260] d mX12_turn (n + 1) 29 L (.inl x :: r) h Q = (match st1 L 6 (.inl x) with | some L' => G sp sc [109, 117, 143, 175, 216, 260] d mX12_turn n 31 L' r h Q | none => False)) ∧
  (∀ (n d : Nat) (L : List (Option iV)) (st : List iV) (h : iH) (Q : Option iV → iH → Prop), G sp sc [109, 117, 143, 175, 216, 260] d mX12_turn (n + 1) 31 L st h Q = (match ld L 1 with | some (.inr (.inr (r + 1))) => G sp sc [109, 117, 143, 175, 216, 260] d mX12_turn n 32 L (.inr (.inr (r + 1)) :: st) h Q | _ => False)) ∧
  (∀ (n d : Nat) (L : List (Option iV)) (st : List iV) (h : iH) (Q : Option iV → iH → Prop), G sp sc [109, 117, 143, 175, 216, 260] d mX12_turn (n + 1) 32 L st h Q = G sp sc [109, 117, 143, 175, 216, 260] d mX12_turn n 33 L (.inl 0 :: st) h Q) ∧
  (∀ (n d : Nat) (L : List (Option iV)) (st : List iV) (h : iH) (Q : Option iV → iH → Prop), G sp sc [109, 117, 143, 175, 216, 260] d mX12_turn (n + 1) 33 L st h Q = (match ld L 4 with | some (.inl x) => G sp sc [109, 117, 143, 175, 216, 260] d mX12_turn n 35 L (.inl x :: st) h Q | _ => False)) ∧
  (∀ (n d : Nat) (L : List (Option iV)) (st : List iV) (h : iH) (Q : Option iV → iH → Prop), G sp sc [109, 117, 143, 175, 216, 260] d mX12_turn (n + 1) 35 L st h Q = (match ld L 6 with | some (.inl x) => G sp sc [109, 117, 143, 175, 216, 260] d mX12_turn n 37 L (.inl x :: st) h Q | _ => False)) ∧
  (∀ (n d : Nat) (L : List (Option iV)) (r : List iV) (z0 : iV) (z1 : iV) (z2 : iV) (z3 : iV) (h : iH) (Q : Option iV → iH → Prop), G sp sc [109, 117, 143, 175, 216, 260] (d + 1) mX12_turn (n + 1) 37 L (z3 :: z2 :: z1 :: z0 :: r) h Q = (cs r ≤ 8 ∧ Call sp sc d mX12_doer [z0, z1, z2, z3] h (fun q h1 => GC sp sc [109, 117, 143, 175, 216, 260] (d + 1) mX12_turn n 40 L q r h h1 Q))) ∧
  (∀ (n d : Nat) (L : List (Option iV)) (r : List iV) (x : Int) (h : iH) (Q : Option iV → iH → Prop), G sp sc [109, 117, 143, 175, 216, 260] d mX12_turn (n + 1) 40 L (.inl x :: r) h Q = (match st1 L 7 (.inl x) with | some L' => G sp sc [109, 117, 143, 175, 216, 260] d mX12_turn n 42 L' r h Q | none => False)) ∧
  (∀ (n d : Nat) (L : List (Option iV)) (st : List iV) (h : iH) (Q : Option iV → iH → Prop), G sp sc [109, 117, 143, 175, 216, 260] d mX12_turn (n + 1) 42 L st h Q = (match ld L 1 with | some (.inr (.inr (r + 1))) => G sp sc [109, 117, 143, 175, 216, 260] d mX12_turn n 43 L (.inr (.inr (r + 1)) :: st) h Q | _ => False)) ∧
  (∀ (n d : Nat) (L : List (Option iV)) (st : List iV) (h : iH) (Q : Option iV → iH → Prop), G sp sc [109, 117, 143, 175, 216, 260] d mX12_turn (n + 1) 43 L st h Q = G sp sc [109, 117, 143, 175, 216, 260] d mX12_turn n 44 L (.inl 1 :: st) h Q) ∧
  (∀ (n d : Nat) (L : List (Option iV)) (st : List iV) (h : iH) (Q : Option iV → iH → Prop), G sp sc [109, 117, 143, 175, 216, 260] d mX12_turn (n + 1) 44 L st h Q = (match ld L 5 with | some (.inl x) => G sp sc [109, 117, 143, 175, 216, 260] d mX12_turn n 46 L (.inl x :: st) h Q | _ => False)) ∧
  (∀ (n d : Nat) (L : List (Option iV)) (st : List iV) (h : iH) (Q : Option iV → iH → Prop), G sp sc [109, 117, 143, 175, 216, 260] d mX12_turn (n + 1) 46 L st h Q = (match ld L 6 with | some (.inl x) => G sp sc [109, 117, 143, 175, 216, 260] d mX12_turn n 48 L (.inl x :: st) h Q | _ => False)) ∧
  (∀ (n d : Nat) (L : List (Option iV)) (r : List iV) (z0 : iV) (z1 : iV) (z2 : iV) (z3 : iV) (h : iH) (Q : Option iV → iH → Prop), G sp sc [109, 117, 143, 175, 216, 260] (d + 1) mX12_turn (n + 1) 48 L (z3 :: z2 :: z1 :: z0 :: r) h Q = (cs r ≤ 8 ∧ Call sp sc d mX12_doer [z0, z1, z2, z3] h (fun q h1 => GC sp sc [109, 117, 143, 175, 216, 260] (d + 1) mX12_turn n 51 L q r h h1 Q))) ∧
  (∀ (n d : Nat) (L : List (Option iV)) (r : List iV) (x : Int) (h : iH) (Q : Option iV → iH → Prop), G sp sc [109, 117, 143, 175, 216, 260] d mX12_turn (n + 1) 51 L (.inl x :: r) h Q = (match st1 L 8 (.inl x) with | some L' => G sp sc [109, 117, 143, 175, 216, 260] d mX12_turn n 53 L' r h Q | none => False)) ∧
  (∀ (n d : Nat) (L : List (Option iV)) (st : List iV) (h : iH) (Q : Option iV → iH → Prop), G sp sc [109, 117, 143, 175, 216, 260] d mX12_turn (n + 1) 53 L st h Q = (match ld L 1 with | some (.inr (.inr (r + 1))) => G sp sc [109, 117, 143, 175, 216, 260] d mX12_turn n 54 L (.inr (.inr (r + 1)) :: st) h Q | _ => False)) ∧
  (∀ (n d : Nat) (L : List (Option iV)) (st : List iV) (h : iH) (Q : Option iV → iH → Prop), G sp sc [109, 117, 143, 175, 216, 260] d mX12_turn (n + 1) 54 L st h Q = G sp sc [109, 117, 143, 175, 216, 260] d mX12_turn n 55 L (.inl 0 :: st) h Q) ∧
  (∀ (n d : Nat) (L : List (Option iV)) (st : List iV) (h : iH) (Q : Option iV → iH → Prop), G sp sc [109, 117, 143, 175, 216, 260] d mX12_turn (n + 1) 55 L st h Q = (match ld L 7 with | some (.inl x) => G sp sc [109, 117, 143, 175, 216, 260] d mX12_turn n 57 L (.inl x :: st) h Q | _ => False)) ∧
  (∀ (n d : Nat) (L : List (Option iV)) (st : List iV) (h : iH) (Q : Option iV → iH → Prop), G sp sc [109, 117, 143, 175, 216, 260] d mX12_turn (n + 1) 57 L st h Q = G sp sc [109, 117, 143, 175, 216, 260] d mX12_turn n 58 L (.inl 3 :: st) h Q) ∧
  (∀ (n d : Nat) (L : List (Option iV)) (r : List iV) (z0 : iV) (z1 : iV) (z2 : iV) (h : iH) (Q : Option iV → iH → Prop), G sp sc [109, 117, 143, 175, 216, 260] (d + 1) mX12_turn (n + 1) 58 L (z2 :: z1 :: z0 :: r) h Q = (cs r ≤ 8 ∧ Call sp sc d mX12_atOne [z0, z1, z2] h (fun q h1 => GC sp sc [109, 117, 143, 175, 216, 260] (d + 1) mX12_turn n 61 L q r h h1 Q))) ∧
  (∀ (n d : Nat) (L : List (Option iV)) (r : List iV) (j : Int) (m : Nat) (h : iH) (Q : Option iV → iH → Prop), G sp sc [109, 117, 143, 175, 216, 260] d mX12_turn (n + 1) 61 L (.inl j :: .inr (.inr (m + 2)) :: r) h Q = (match h.1[m]? with | some (.inr (.inl (0, xs))) => inA j xs.length = true ∧ G sp sc [109, 117, 143, 175, 216, 260] d mX12_turn n 62 L (.inl (xs.getD j.toNat 0) :: r) h Q | _ => False)) ∧
  (∀ (n d : Nat) (L : List (Option iV)) (a : Int) (r : List iV) (h : iH) (Q : Option iV → iH → Prop), G sp sc [109, 117, 143, 175, 216, 260] d mX12_turn (n + 1) 62 L (.inl a :: r) h Q = (inI a = true ∧ (0 ≤ a → G sp sc [109, 117, 143, 175, 216, 260] d mX12_turn n 97 L r h Q) ∧ (¬ (0 ≤ a) → G sp sc [109, 117, 143, 175, 216, 260] d mX12_turn n 65 L r h Q))) ∧
  (∀ (n d : Nat) (L : List (Option iV)) (st : List iV) (h : iH) (Q : Option iV → iH → Prop), G sp sc [109, 117, 143, 175, 216, 260] d mX12_turn (n + 1) 65 L st h Q = (match ld L 1 with | some (.inr (.inr (r + 1))) => G sp sc [109, 117, 143, 175, 216, 260] d mX12_turn n 66 L (.inr (.inr (r + 1)) :: st) h Q | _ => False)) ∧
  (∀ (n d : Nat) (L : List (Option iV)) (st : List iV) (h : iH) (Q : Option iV → iH → Prop), G sp sc [109, 117, 143, 175, 216, 260] d mX12_turn (n + 1) 66 L st h Q = G sp sc [109, 117, 143, 175, 216, 260] d mX12_turn n 67 L (.inl 1 :: st) h Q) ∧
  (∀ (n d : Nat) (L : List (Option iV)) (st : List iV) (h : iH) (Q : Option iV → iH → Prop), G sp sc [109, 117, 143, 175, 216, 260] d mX12_turn (n + 1) 67 L st h Q = (match ld L 8 with | some (.inl x) => G sp sc [109, 117, 143, 175, 216, 260] d mX12_turn n 69 L (.inl x :: st) h Q | _ => False)) ∧
  (∀ (n d : Nat) (L : List (Option iV)) (st : List iV) (h : iH) (Q : Option iV → iH → Prop), G sp sc [109, 117, 143, 175, 216, 260] d mX12_turn (n + 1) 69 L st h Q = G sp sc [109, 117, 143, 175, 216, 260] d mX12_turn n 70 L (.inl 3 :: st) h Q) ∧
  (∀ (n d : Nat) (L : List (Option iV)) (r : List iV) (z0 : iV) (z1 : iV) (z2 : iV) (h : iH) (Q : Option iV → iH → Prop), G sp sc [109, 117, 143, 175, 216, 260] (d + 1) mX12_turn (n + 1) 70 L (z2 :: z1 :: z0 :: r) h Q = (cs r ≤ 8 ∧ Call sp sc d mX12_atOne [z0, z1, z2] h (fun q h1 => GC sp sc [109, 117, 143, 175, 216, 260] (d + 1) mX12_turn n 73 L q r h h1 Q))) ∧
  (∀ (n d : Nat) (L : List (Option iV)) (r : List iV) (j : Int) (m : Nat) (h : iH) (Q : Option iV → iH → Prop), G sp sc [109, 117, 143, 175, 216, 260] d mX12_turn (n + 1) 73 L (.inl j :: .inr (.inr (m + 2)) :: r) h Q = (match h.1[m]? with | some (.inr (.inl (0, xs))) => inA j xs.length = true ∧ G sp sc [109, 117, 143, 175, 216, 260] d mX12_turn n 74 L (.inl (xs.getD j.toNat 0) :: r) h Q | _ => False)) ∧
  (∀ (n d : Nat) (L : List (Option iV)) (a : Int) (r : List iV) (h : iH) (Q : Option iV → iH → Prop), G sp sc [109, 117, 143, 175, 216, 260] d mX12_turn (n + 1) 74 L (.inl a :: r) h Q = (inI a = true ∧ (0 ≤ a → G sp sc [109, 117, 143, 175, 216, 260] d mX12_turn n 97 L r h Q) ∧ (¬ (0 ≤ a) → G sp sc [109, 117, 143, 175, 216, 260] d mX12_turn n 77 L r h Q))) ∧
  (∀ (n d : Nat) (L : List (Option iV)) (st : List iV) (h : iH) (Q : Option iV → iH → Prop), G sp sc [109, 117, 143, 175, 216, 260] d mX12_turn (n + 1) 77 L st h Q = (match ld L 3 with | some (.inl x) => G sp sc [109, 117, 143, 175, 216, 260] d mX12_turn n 78 L (.inl x :: st) h Q | _ => False)) ∧
  (∀ (n d : Nat) (L : List (Option iV)) (st : List iV) (h : iH) (Q : Option iV → iH → Prop), G sp sc [109, 117, 143, 175, 216, 260] d mX12_turn (n + 1) 78 L st h Q = (match ld L 7 with | some (.inl x) => G sp sc [109, 117, 143, 175, 216, 260] d mX12_turn n 80 L (.inl x :: st) h Q | _ => False)) ∧
  (∀ (n d : Nat) (L : List (Option iV)) (r : List iV) (z0 : iV) (z1 : iV) (h : iH) (Q : Option iV → iH → Prop), G sp sc [109, 117, 143, 175, 216, 260] (d + 1) mX12_turn (n + 1) 80 L (z1 :: z0 :: r) h Q = (cs r ≤ 8 ∧ Call sp sc d mX12_has [z0, z1] h (fun q h1 => GC sp sc [109, 117, 143, 175, 216, 260] (d + 1) mX12_turn n 83 L q r h h1 Q))) ∧
  (∀ (n d : Nat) (L : List (Option iV)) (a : Int) (r : List iV) (h : iH) (Q : Option iV → iH → Prop), G sp sc [109, 117, 143, 175, 216, 260] d mX12_turn (n + 1) 83 L (.inl a :: r) h Q = (inI a = true ∧ (¬ a = 0 → G sp sc [109, 117, 143, 175, 216, 260] d mX12_turn n 97 L r h Q) ∧ (¬ (¬ a = 0) → G sp sc [109, 117, 143, 175, 216, 260] d mX12_turn n 86 L r h Q))) ∧
  (∀ (n d : Nat) (L : List (Option iV)) (st : List iV) (h : iH) (Q : Option iV → iH → Prop), G sp sc [109, 117, 143, 175, 216, 260] d mX12_turn (n + 1) 86 L st h Q = (match ld L 3 with | some (.inl x) => G sp sc [109, 117, 143, 175, 216, 260] d mX12_turn n 87 L (.inl x :: st) h Q | _ => False)) ∧
  (∀ (n d : Nat) (L : List (Option iV)) (st : List iV) (h : iH) (Q : Option iV → iH → Prop), G sp sc [109, 117, 143, 175, 216, 260] d mX12_turn (n + 1) 87 L st h Q = G sp sc [109, 117, 143, 175, 216, 260] d mX12_turn n 88 L (.inl 5 :: st) h Q) ∧
  (∀ (n d : Nat) (L : List (Option iV)) (st : List iV) (h : iH) (Q : Option iV → iH → Prop), G sp sc [109, 117, 143, 175, 216, 260] d mX12_turn (n + 1) 88 L st h Q = (match ld L 8 with | some (.inl x) => G sp sc [109, 117, 143, 175, 216, 260] d mX12_turn n 90 L (.inl x :: st) h Q | _ => False)) ∧
  (∀ (n d : Nat) (L : List (Option iV)) (a : Int) (b : Int) (r : List iV) (h : iH) (Q : Option iV → iH → Prop), G sp sc [109, 117, 143, 175, 216, 260] d mX12_turn (n + 1) 90 L (.inl b :: .inl a :: r) h Q = G sp sc [109, 117, 143, 175, 216, 260] d mX12_turn n 91 L (.inl (a + b) :: r) h Q) ∧
  (∀ (n d : Nat) (L : List (Option iV)) (r : List iV) (z0 : iV) (z1 : iV) (h : iH) (Q : Option iV → iH → Prop), G sp sc [109, 117, 143, 175, 216, 260] (d + 1) mX12_turn (n + 1) 91 L (z1 :: z0 :: r) h Q = (cs r ≤ 8 ∧ Call sp sc d mX12_has [z0, z1] h (fun q h1 => GC sp sc [109, 117, 143, 175, 216, 260] (d + 1) mX12_turn n 94 L q r h h1 Q))) ∧
  (∀ (n d : Nat) (L : List (Option iV)) (a : Int) (r : List iV) (h : iH) (Q : Option iV → iH → Prop), G sp sc [109, 117, 143, 175, 216, 260] d mX12_turn (n + 1) 94 L (.inl a :: r) h Q = (inI a = true ∧ (a = 0 → Run sp sc d mX12_turn 109 L r h Q) ∧ (¬ (a = 0) → G sp sc [109, 117, 143, 175, 216, 260] d mX12_turn n 97 L r h Q))) ∧
  (∀ (n d : Nat) (L : List (Option iV)) (st : List iV) (h : iH) (Q : Option iV → iH → Prop), G sp sc [109, 117, 143, 175, 216, 260] d mX12_turn (n + 1) 97 L st h Q = (match ld L 0 with | some (.inr (.inr (r + 1))) => G sp sc [109, 117, 143, 175, 216, 260] d mX12_turn n 98 L (.inr (.inr (r + 1)) :: st) h Q | _ => False)) ∧
  (∀ (n d : Nat) (L : List (Option iV)) (r : List iV) (m : Nat) (h : iH) (Q : Option iV → iH → Prop), G sp sc [109, 117, 143, 175, 216, 260] d mX12_turn (n + 1) 98 L (.inr (.inr (m + 2)) :: r) h Q = (match h.1[m]? with | some (.inl (ci, fs)) => (match lkF 12 22 ci with | some k => (match fs[k]? with | some v => G sp sc [109, 117, 143, 175, 216, 260] d mX12_turn n 101 L (v :: r) h Q | none => False) | none => False) | _ => False)) ∧
  (∀ (n d : Nat) (L : List (Option iV)) (st : List iV) (h : iH) (Q : Option iV → iH → Prop), G sp sc [109, 117, 143, 175, 216, 260] d mX12_turn (n + 1) 101 L st h Q = (match ld L 2 with | some (.inl x) => G sp sc [109, 117, 143, 175, 216, 260] d mX12_turn n 102 L (.inl x :: st) h Q | _ => False)) ∧
  (∀ (n d : Nat) (L : List (Option iV)) (a : Int) (b : Nat) (r : List iV) (h : iH) (Q : Option iV → iH → Prop), G sp sc [109, 117, 143, 175, 216, 260] d mX12_turn (n + 1) 102 L (.inl a :: .inr (.inr b) :: r) h Q = G sp sc [109, 117, 143, 175, 216, 260] d mX12_turn n 103 L (.inl a :: .inr (.inr b) :: .inl a :: .inr (.inr b) :: r) h Q) ∧
  (∀ (n d : Nat) (L : List (Option iV)) (r : List iV) (j : Int) (m : Nat) (h : iH) (Q : Option iV → iH → Prop), G sp sc [109, 117, 143, 175, 216, 260] d mX12_turn (n + 1) 103 L (.inl j :: .inr (.inr (m + 2)) :: r) h Q = (match h.1[m]? with | some (.inr (.inl (0, xs))) => inA j xs.length = true ∧ G sp sc [109, 117, 143, 175, 216, 260] d mX12_turn n 104 L (.inl (xs.getD j.toNat 0) :: r) h Q | _ => False)) ∧
  (∀ (n d : Nat) (L : List (Option iV)) (st : List iV) (h : iH) (Q : Option iV → iH → Prop), G sp sc [109, 117, 143, 175, 216, 260] d mX12_turn (n + 1) 104 L st h Q = G sp sc [109, 117, 143, 175, 216, 260] d mX12_turn n 105 L (.inl 1 :: st) h Q) ∧
  (∀ (n d : Nat) (L : List (Option iV)) (a : Int) (b : Int) (r : List iV) (h : iH) (Q : Option iV → iH → Prop), G sp sc [109, 117, 143, 175, 216, 260] d mX12_turn (n + 1) 105 L (.inl b :: .inl a :: r) h Q = G sp sc [109, 117, 143, 175, 216, 260] d mX12_turn n 106 L (.inl (a + b) :: r) h Q) ∧
  (∀ (n d : Nat) (L : List (Option iV)) (r : List iV) (v : Int) (j : Int) (m : Nat) (h : iH) (Q : Option iV → iH → Prop), G sp sc [109, 117, 143, 175, 216, 260] d mX12_turn (n + 1) 106 L (.inl v :: .inl j :: .inr (.inr (m + 2)) :: r) h Q = (match h.1[m]? with | some (.inr (.inl (0, xs))) => inA j xs.length = true ∧ G sp sc [109, 117, 143, 175, 216, 260] d mX12_turn n 107 L r (h.1.set m (.inr (.inl (0, xs.set j.toNat v))), h.2) Q | _ => False)) ∧
  (∀ (n d : Nat) (L : List (Option iV)) (st : List iV) (h : iH) (Q : Option iV → iH → Prop), G sp sc [109, 117, 143, 175, 216, 260] d mX12_turn (n + 1) 107 L st h Q = (match ld L 3 with | some (.inl x) => G sp sc [109, 117, 143, 175, 216, 260] d mX12_turn n 108 L (.inl x :: st) h Q | _ => False)) ∧
  (∀ (n d : Nat) (L : List (Option iV)) (a : Int) (h : iH) (Q : Option iV → iH → Prop), G sp sc [109, 117, 143, 175, 216, 260] d mX12_turn (n + 1) 108 L [.inl a] h Q = Q (some (.inl a)) h) ∧
  (∀ (n d : Nat) (L : List (Option iV)) (st : List iV) (h : iH) (Q : Option iV → iH → Prop), G sp sc [109, 117, 143, 175, 216, 260] d mX12_turn (n + 1) 109 L st h Q = (match ld L 1 with | some (.inr (.inr (r + 1))) => G sp sc [109, 117, 143, 175, 216, 260] d mX12_turn n 110 L (.inr (.inr (r + 1)) :: st) h Q | _ => False)) ∧
  (∀ (n d : Nat) (L : List (Option iV)) (st : List iV) (h : iH) (Q : Option iV → iH → Prop), G sp sc [109, 117, 143, 175, 216, 260] d mX12_turn (n + 1) 110 L st h Q = (match ld L 7 with | some (.inl x) => G sp sc [109, 117, 143, 175, 216, 260] d mX12_turn n 112 L (.inl x :: st) h Q | _ => False)) ∧
  (∀ (n d : Nat) (L : List (Option iV)) (st : List iV) (h : iH) (Q : Option iV → iH → Prop), G sp sc [109, 117, 143, 175, 216, 260] d mX12_turn (n + 1) 112 L st h Q = (match ld L 8 with | some (.inl x) => G sp sc [109, 117, 143, 175, 216, 260] d mX12_turn n 114 L (.inl x :: st) h Q | _ => False)) ∧
  (∀ (n d : Nat) (L : List (Option iV)) (r : List iV) (z0 : iV) (z1 : iV) (z2 : iV) (h : iH) (Q : Option iV → iH → Prop), G sp sc [109, 117, 143, 175, 216, 260] (d + 1) mX12_turn (n + 1) 114 L (z2 :: z1 :: z0 :: r) h Q = (cs r ≤ 8 ∧ Call sp sc d mX12_meet [z0, z1, z2] h (fun q h1 => GC sp sc [109, 117, 143, 175, 216, 260] (d + 1) mX12_turn n 117 L q r h h1 Q))) ∧
  (∀ (n d : Nat) (L : List (Option iV)) (st : List iV) (h : iH) (Q : Option iV → iH → Prop), G sp sc [109, 117, 143, 175, 216, 260] d mX12_turn (n + 1) 117 L st h Q = (match ld L 7 with | some (.inl x) => G sp sc [109, 117, 143, 175, 216, 260] d mX12_turn n 119 L (.inl x :: st) h Q | _ => False)) ∧
  (∀ (n d : Nat) (L : List (Option iV)) (st : List iV) (h : iH) (Q : Option iV → iH → Prop), G sp sc [109, 117, 143, 175, 216, 260] d mX12_turn (n + 1) 119 L st h Q = (match ld L 4 with | some (.inl x) => G sp sc [109, 117, 143, 175, 216, 260] d mX12_turn n 121 L (.inl x :: st) h Q | _ => False)) ∧
  (∀ (n d : Nat) (L : List (Option iV)) (a : Int) (b : Int) (r : List iV) (h : iH) (Q : Option iV → iH → Prop), G sp sc [109, 117, 143, 175, 216, 260] d mX12_turn (n + 1) 121 L (.inl b :: .inl a :: r) h Q = ((inI a = true ∧ inI b = true) ∧ (¬ a = b → G sp sc [109, 117, 143, 175, 216, 260] d mX12_turn n 135 L r h Q) ∧ (¬ (¬ a = b) → G sp sc [109, 117, 143, 175, 216, 260] d mX12_turn n 124 L r h Q))) ∧
  (∀ (n d : Nat) (L : List (Option iV)) (st : List iV) (h : iH) (Q : Option iV → iH → Prop), G sp sc [109, 117, 143, 175, 216, 260] d mX12_turn (n + 1) 124 L st h Q = (match ld L 8 with | some (.inl x) => G sp sc [109, 117, 143, 175, 216, 260] d mX12_turn n 126 L (.inl x :: st) h Q | _ => False)) ∧
  (∀ (n d : Nat) (L : List (Option iV)) (st : List iV) (h : iH) (Q : Option iV → iH → Prop), G sp sc [109, 117, 143, 175, 216, 260] d mX12_turn (n + 1) 126 L st h Q = (match ld L 5 with | some (.inl x) => G sp sc [109, 117, 143, 175, 216, 260] d mX12_turn n 128 L (.inl x :: st) h Q | _ => False)) ∧
  (∀ (n d : Nat) (L : List (Option iV)) (a : Int) (b : Int) (r : List iV) (h : iH) (Q : Option iV → iH → Prop), G sp sc [109, 117, 143, 175, 216, 260] d mX12_turn (n + 1) 128 L (.inl b :: .inl a :: r) h Q = ((inI a = true ∧ inI b = true) ∧ (¬ a = b → G sp sc [109, 117, 143, 175, 216, 260] d mX12_turn n 135 L r h Q) ∧ (¬ (¬ a = b) → G sp sc [109, 117, 143, 175, 216, 260] d mX12_turn n 131 L r h Q))) ∧
  (∀ (n d : Nat) (L : List (Option iV)) (st : List iV) (h : iH) (Q : Option iV → iH → Prop), G sp sc [109, 117, 143, 175, 216, 260] d mX12_turn (n + 1) 131 L st h Q = G sp sc [109, 117, 143, 175, 216, 260] d mX12_turn n 132 L (.inl 1 :: st) h Q) ∧
  (∀ (n d : Nat) (L : List (Option iV)) (st : List iV) (h : iH) (Q : Option iV → iH → Prop), G sp sc [109, 117, 143, 175, 216, 260] d mX12_turn (n + 1) 132 L st h Q = G sp sc [109, 117, 143, 175, 216, 260] d mX12_turn n 136 L st h Q) ∧
  (∀ (n d : Nat) (L : List (Option iV)) (st : List iV) (h : iH) (Q : Option iV → iH → Prop), G sp sc [109, 117, 143, 175, 216, 260] d mX12_turn (n + 1) 135 L st h Q = G sp sc [109, 117, 143, 175, 216, 260] d mX12_turn n 136 L (.inl 0 :: st) h Q) ∧
  (∀ (n d : Nat) (L : List (Option iV)) (r : List iV) (x : Int) (h : iH) (Q : Option iV → iH → Prop), G sp sc [109, 117, 143, 175, 216, 260] d mX12_turn (n + 1) 136 L (.inl x :: r) h Q = (match st1 L 9 (.inl x) with | some L' => G sp sc [109, 117, 143, 175, 216, 260] d mX12_turn n 138 L' r h Q | none => False)) ∧
  (∀ (n d : Nat) (L : List (Option iV)) (st : List iV) (h : iH) (Q : Option iV → iH → Prop), G sp sc [109, 117, 143, 175, 216, 260] d mX12_turn (n + 1) 138 L st h Q = (match ld L 9 with | some (.inl x) => G sp sc [109, 117, 143, 175, 216, 260] d mX12_turn n 140 L (.inl x :: st) h Q | _ => False)) ∧
  (∀ (n d : Nat) (L : List (Option iV)) (a : Int) (r : List iV) (h : iH) (Q : Option iV → iH → Prop), G sp sc [109, 117, 143, 175, 216, 260] d mX12_turn (n + 1) 140 L (.inl a :: r) h Q = (inI a = true ∧ (¬ a = 0 → Run sp sc d mX12_turn 216 L r h Q) ∧ (¬ (¬ a = 0) → Run sp sc d mX12_turn 143 L r h Q))) ∧
  (∀ (n d : Nat) (L : List (Option iV)) (st : List iV) (h : iH) (Q : Option iV → iH → Prop), G sp sc [109, 117, 143, 175, 216, 260] d mX12_turn (n + 1) 143 L st h Q = (match ld L 1 with | some (.inr (.inr (r + 1))) => G sp sc [109, 117, 143, 175, 216, 260] d mX12_turn n 144 L (.inr (.inr (r + 1)) :: st) h Q | _ => False)) ∧
  (∀ (n d : Nat) (L : List (Option iV)) (st : List iV) (h : iH) (Q : Option iV → iH → Prop), G sp sc [109, 117, 143, 175, 216, 260] d mX12_turn (n + 1) 144 L st h Q = G sp sc [109, 117, 143, 175, 216, 260] d mX12_turn n 145 L (.inl 0 :: st) h Q) ∧
  (∀ (n d : Nat) (L : List (Option iV)) (st : List iV) (h : iH) (Q : Option iV → iH → Prop), G sp sc [109, 117, 143, 175, 216, 260] d mX12_turn (n + 1) 145 L st h Q = (match ld L 7 with | some (.inl x) => G sp sc [109, 117, 143, 175, 216, 260] d mX12_turn n 147 L (.inl x :: st) h Q | _ => False)) ∧
  (∀ (n d : Nat) (L : List (Option iV)) (st : List iV) (h : iH) (Q : Option iV → iH → Prop), G sp sc [109, 117, 143, 175, 216, 260] d mX12_turn (n + 1) 147 L st h Q = (match ld L 8 with | some (.inl x) => G sp sc [109, 117, 143, 175, 216, 260] d mX12_turn n 149 L (.inl x :: st) h Q | _ => False)) ∧
  (∀ (n d : Nat) (L : List (Option iV)) (r : List iV) (z0 : iV) (z1 : iV) (z2 : iV) (h : iH) (Q : Option iV → iH → Prop), G sp sc [109, 117, 143, 175, 216, 260] (d + 1) mX12_turn (n + 1) 149 L (z2 :: z1 :: z0 :: r) h Q = (cs r ≤ 8 ∧ Call sp sc d mX12_atLike [z0, z1, z2] h (fun q h1 => GC sp sc [109, 117, 143, 175, 216, 260] (d + 1) mX12_turn n 152 L q r h h1 Q))) ∧
  (∀ (n d : Nat) (L : List (Option iV)) (r : List iV) (j : Int) (m : Nat) (h : iH) (Q : Option iV → iH → Prop), G sp sc [109, 117, 143, 175, 216, 260] d mX12_turn (n + 1) 152 L (.inl j :: .inr (.inr (m + 2)) :: r) h Q = (match h.1[m]? with | some (.inr (.inl (0, xs))) => inA j xs.length = true ∧ G sp sc [109, 117, 143, 175, 216, 260] d mX12_turn n 153 L (.inl (xs.getD j.toNat 0) :: r) h Q | _ => False)) ∧
  (∀ (n d : Nat) (L : List (Option iV)) (st : List iV) (h : iH) (Q : Option iV → iH → Prop), G sp sc [109, 117, 143, 175, 216, 260] d mX12_turn (n + 1) 153 L st h Q = (match ld L 1 with | some (.inr (.inr (r + 1))) => G sp sc [109, 117, 143, 175, 216, 260] d mX12_turn n 154 L (.inr (.inr (r + 1)) :: st) h Q | _ => False)) ∧
  (∀ (n d : Nat) (L : List (Option iV)) (st : List iV) (h : iH) (Q : Option iV → iH → Prop), G sp sc [109, 117, 143, 175, 216, 260] d mX12_turn (n + 1) 154 L st h Q = G sp sc [109, 117, 143, 175, 216, 260] d mX12_turn n 155 L (.inl 4 :: st) h Q) ∧
  (∀ (n d : Nat) (L : List (Option iV)) (r : List iV) (j : Int) (m : Nat) (h : iH) (Q : Option iV → iH → Prop), G sp sc [109, 117, 143, 175, 216, 260] d mX12_turn (n + 1) 155 L (.inl j :: .inr (.inr (m + 2)) :: r) h Q = (match h.1[m]? with | some (.inr (.inl (0, xs))) => inA j xs.length = true ∧ G sp sc [109, 117, 143, 175, 216, 260] d mX12_turn n 156 L (.inl (xs.getD j.toNat 0) :: r) h Q | _ => False)) ∧
  (∀ (n d : Nat) (L : List (Option iV)) (a : Int) (b : Int) (r : List iV) (h : iH) (Q : Option iV → iH → Prop), G sp sc [109, 117, 143, 175, 216, 260] d mX12_turn (n + 1) 156 L (.inl b :: .inl a :: r) h Q = ((inI a = true ∧ inI b = true) ∧ (a ≤ b → Run sp sc d mX12_turn 216 L r h Q) ∧ (¬ (a ≤ b) → G sp sc [109, 117, 143, 175, 216, 260] d mX12_turn n 159 L r h Q))) ∧
  (∀ (n d : Nat) (L : List (Option iV)) (st : List iV) (h : iH) (Q : Option iV → iH → Prop), G sp sc [109, 117, 143, 175, 216, 260] d mX12_turn (n + 1) 159 L st h Q = (match ld L 1 with | some (.inr (.inr (r + 1))) => G sp sc [109, 117, 143, 175, 216, 260] d mX12_turn n 160 L (.inr (.inr (r + 1)) :: st) h Q | _ => False)) ∧
  (∀ (n d : Nat) (L : List (Option iV)) (st : List iV) (h : iH) (Q : Option iV → iH → Prop), G sp sc [109, 117, 143, 175, 216, 260] d mX12_turn (n + 1) 160 L st h Q = G sp sc [109, 117, 143, 175, 216, 260] d mX12_turn n 161 L (.inl 1 :: st) h Q) ∧
  (∀ (n d : Nat) (L : List (Option iV)) (st : List iV) (h : iH) (Q : Option iV → iH → Prop), G sp sc [109, 117, 143, 175, 216, 260] d mX12_turn (n + 1) 161 L st h Q = (match ld L 8 with | some (.inl x) => G sp sc [109, 117, 143, 175, 216, 260] d mX12_turn n 163 L (.inl x :: st) h Q | _ => False)) ∧
  (∀ (n d : Nat) (L : List (Option iV)) (st : List iV) (h : iH) (Q : Option iV → iH → Prop), G sp sc [109, 117, 143, 175, 216, 260] d mX12_turn (n + 1) 163 L st h Q = (match ld L 7 with | some (.inl x) => G sp sc [109, 117, 143, 175, 216, 260] d mX12_turn n 165 L (.inl x :: st) h Q | _ => False)) ∧
  (∀ (n d : Nat) (L : List (Option iV)) (r : List iV) (z0 : iV) (z1 : iV) (z2 : iV) (h : iH) (Q : Option iV → iH → Prop), G sp sc [109, 117, 143, 175, 216, 260] (d + 1) mX12_turn (n + 1) 165 L (z2 :: z1 :: z0 :: r) h Q = (cs r ≤ 8 ∧ Call sp sc d mX12_atLike [z0, z1, z2] h (fun q h1 => GC sp sc [109, 117, 143, 175, 216, 260] (d + 1) mX12_turn n 168 L q r h h1 Q))) ∧
  (∀ (n d : Nat) (L : List (Option iV)) (r : List iV) (j : Int) (m : Nat) (h : iH) (Q : Option iV → iH → Prop), G sp sc [109, 117, 143, 175, 216, 260] d mX12_turn (n + 1) 168 L (.inl j :: .inr (.inr (m + 2)) :: r) h Q = (match h.1[m]? with | some (.inr (.inl (0, xs))) => inA j xs.length = true ∧ G sp sc [109, 117, 143, 175, 216, 260] d mX12_turn n 169 L (.inl (xs.getD j.toNat 0) :: r) h Q | _ => False)) ∧
  (∀ (n d : Nat) (L : List (Option iV)) (st : List iV) (h : iH) (Q : Option iV → iH → Prop), G sp sc [109, 117, 143, 175, 216, 260] d mX12_turn (n + 1) 169 L st h Q = (match ld L 1 with | some (.inr (.inr (r + 1))) => G sp sc [109, 117, 143, 175, 216, 260] d mX12_turn n 170 L (.inr (.inr (r + 1)) :: st) h Q | _ => False)) ∧
  (∀ (n d : Nat) (L : List (Option iV)) (st : List iV) (h : iH) (Q : Option iV → iH → Prop), G sp sc [109, 117, 143, 175, 216, 260] d mX12_turn (n + 1) 170 L st h Q = G sp sc [109, 117, 143, 175, 216, 260] d mX12_turn n 171 L (.inl 4 :: st) h Q) ∧
  (∀ (n d : Nat) (L : List (Option iV)) (r : List iV) (j : Int) (m : Nat) (h : iH) (Q : Option iV → iH → Prop), G sp sc [109, 117, 143, 175, 216, 260] d mX12_turn (n + 1) 171 L (.inl j :: .inr (.inr (m + 2)) :: r) h Q = (match h.1[m]? with | some (.inr (.inl (0, xs))) => inA j xs.length = true ∧ G sp sc [109, 117, 143, 175, 216, 260] d mX12_turn n 172 L (.inl (xs.getD j.toNat 0) :: r) h Q | _ => False)) ∧
  (∀ (n d : Nat) (L : List (Option iV)) (a : Int) (b : Int) (r : List iV) (h : iH) (Q : Option iV → iH → Prop), G sp sc [109, 117, 143, 175, 216, 260] d mX12_turn (n + 1) 172 L (.inl b :: .inl a :: r) h Q = ((inI a = true ∧ inI b = true) ∧ (a ≤ b → Run sp sc d mX12_turn 216 L r h Q) ∧ (¬ (a ≤ b) → Run sp sc d mX12_turn 175 L r h Q))) ∧
  (∀ (n d : Nat) (L : List (Option iV)) (st : List iV) (h : iH) (Q : Option iV → iH → Prop), G sp sc [109, 117, 143, 175, 216, 260] d mX12_turn (n + 1) 175 L st h Q = (match ld L 0 with | some (.inr (.inr (r + 1))) => G sp sc [109, 117, 143, 175, 216, 260] d mX12_turn n 176 L (.inr (.inr (r + 1)) :: st) h Q | _ => False)) ∧
  (∀ (n d : Nat) (L : List (Option iV)) (st : List iV) (h : iH) (Q : Option iV → iH → Prop), G sp sc [109, 117, 143, 175, 216, 260] d mX12_turn (n + 1) 176 L st h Q = (match ld L 1 with | some (.inr (.inr (r + 1))) => G sp sc [109, 117, 143, 175, 216, 260] d mX12_turn n 177 L (.inr (.inr (r + 1)) :: st) h Q | _ => False)) ∧
  (∀ (n d : Nat) (L : List (Option iV)) (st : List iV) (h : iH) (Q : Option iV → iH → Prop), G sp sc [109, 117, 143, 175, 216, 260] d mX12_turn (n + 1) 177 L st h Q = (match ld L 7 with | some (.inl x) => G sp sc [109, 117, 143, 175, 216, 260] d mX12_turn n 179 L (.inl x :: st) h Q | _ => False)) ∧
  (∀ (n d : Nat) (L : List (Option iV)) (st : List iV) (h : iH) (Q : Option iV → iH → Prop), G sp sc [109, 117, 143, 175, 216, 260] d mX12_turn (n + 1) 179 L st h Q = (match ld L 8 with | some (.inl x) => G sp sc [109, 117, 143, 175, 216, 260] d mX12_turn n 181 L (.inl x :: st) h Q | _ => False)) ∧
  (∀ (n d : Nat) (L : List (Option iV)) (st : List iV) (h : iH) (Q : Option iV → iH → Prop), G sp sc [109, 117, 143, 175, 216, 260] d mX12_turn (n + 1) 181 L st h Q = (match ld L 2 with | some (.inl x) => G sp sc [109, 117, 143, 175, 216, 260] d mX12_turn n 182 L (.inl x :: st) h Q | _ => False)) ∧
  (∀ (n d : Nat) (L : List (Option iV)) (st : List iV) (h : iH) (Q : Option iV → iH → Prop), G sp sc [109, 117, 143, 175, 216, 260] d mX12_turn (n + 1) 182 L st h Q = G sp sc [109, 117, 143, 175, 216, 260] d mX12_turn n 183 L (.inl 2 :: st) h Q) ∧
  (∀ (n d : Nat) (L : List (Option iV)) (r : List iV) (m : Nat) (z0 : iV) (z1 : iV) (z2 : iV) (z3 : iV) (z4 : iV) (h : iH) (Q : Option iV → iH → Prop), G sp sc [109, 117, 143, 175, 216, 260] (d + 1) mX12_turn (n + 1) 183 L (z4 :: z3 :: z2 :: z1 :: z0 :: .inr (.inr (m + 2)) :: r) h Q = (match h.1[m]? with | some (.inl (ci, _)) => (match lkC 12 138 ci with | some (y1, n1, kd) => (n1 = 5 ∧ (kd = 2 ∨ kd = 3 ∨ kd = 8) ∧ cs r ≤ 8) ∧ Call sp sc d y1 [.inr (.inr (m + 2)), z0, z1, z2, z3, z4] h (fun q h1 => GC sp sc [109, 117, 143, 175, 216, 260] (d + 1) mX12_turn n 186 L q r h h1 Q) | none => False) | _ => False)) ∧
  (∀ (n d : Nat) (L : List (Option iV)) (st : List iV) (h : iH) (Q : Option iV → iH → Prop), G sp sc [109, 117, 143, 175, 216, 260] d mX12_turn (n + 1) 186 L st h Q = (match ld L 0 with | some (.inr (.inr (r + 1))) => G sp sc [109, 117, 143, 175, 216, 260] d mX12_turn n 187 L (.inr (.inr (r + 1)) :: st) h Q | _ => False)) ∧
  (∀ (n d : Nat) (L : List (Option iV)) (a : Int) (r : List iV) (h : iH) (Q : Option iV → iH → Prop), G sp sc [109, 117, 143, 175, 216, 260] d mX12_turn (n + 1) 187 L (.inl a :: r) h Q = G sp sc [109, 117, 143, 175, 216, 260] d mX12_turn n 188 L (.inl a :: .inl a :: r) h Q) ∧
  (∀ (n d : Nat) (L : List (Option iV)) (a : Nat) (r : List iV) (h : iH) (Q : Option iV → iH → Prop), G sp sc [109, 117, 143, 175, 216, 260] d mX12_turn (n + 1) 187 L (.inr (.inr a) :: r) h Q = G sp sc [109, 117, 143, 175, 216, 260] d mX12_turn n 188 L (.inr (.inr a) :: .inr (.inr a) :: r) h Q) ∧
  (∀ (n d : Nat) (L : List (Option iV)) (r : List iV) (m : Nat) (h : iH) (Q : Option iV → iH → Prop), G sp sc [109, 117, 143, 175, 216, 260] d mX12_turn (n + 1) 188 L (.inr (.inr (m + 2)) :: r) h Q = (match h.1[m]? with | some (.inl (ci, fs)) => (match lkF 12 79 ci with | some k => (match fs[k]? with | some v => G sp sc [109, 117, 143, 175, 216, 260] d mX12_turn n 191 L (v :: r) h Q | none => False) | none => False) | _ => False)) ∧
  (∀ (n d : Nat) (L : List (Option iV)) (st : List iV) (h : iH) (Q : Option iV → iH → Prop), G sp sc [109, 117, 143, 175, 216, 260] d mX12_turn (n + 1) 191 L st h Q = G sp sc [109, 117, 143, 175, 216, 260] d mX12_turn n 192 L (.inl 1 :: st) h Q) ∧
  (∀ (n d : Nat) (L : List (Option iV)) (a : Int) (b : Int) (r : List iV) (h : iH) (Q : Option iV → iH → Prop), G sp sc [109, 117, 143, 175, 216, 260] d mX12_turn (n + 1) 192 L (.inl b :: .inl a :: r) h Q = G sp sc [109, 117, 143, 175, 216, 260] d mX12_turn n 193 L (.inl (a + b) :: r) h Q) ∧
  (∀ (n d : Nat) (L : List (Option iV)) (r : List iV) (v : iV) (m : Nat) (h : iH) (Q : Option iV → iH → Prop), G sp sc [109, 117, 143, 175, 216, 260] d mX12_turn (n + 1) 193 L (v :: .inr (.inr (m + 2)) :: r) h Q = (match h.1[m]? with | some (.inl (ci, fs)) => (match lkF 12 79 ci with | some k => (fitV (tyT ci k) v = true ∧ k < fs.length ∧ pOK 12 false ci k = true) ∧ G sp sc [109, 117, 143, 175, 216, 260] d mX12_turn n 196 L r (h.1.set m (.inl (ci, fs.set k v)), h.2) Q | none => False) | _ => False)) ∧
  (∀ (n d : Nat) (L : List (Option iV)) (st : List iV) (h : iH) (Q : Option iV → iH → Prop), G sp sc [109, 117, 143, 175, 216, 260] d mX12_turn (n + 1) 196 L st h Q = (match ld L 0 with | some (.inr (.inr (r + 1))) => G sp sc [109, 117, 143, 175, 216, 260] d mX12_turn n 197 L (.inr (.inr (r + 1)) :: st) h Q | _ => False)) ∧
  (∀ (n d : Nat) (L : List (Option iV)) (r : List iV) (m : Nat) (h : iH) (Q : Option iV → iH → Prop), G sp sc [109, 117, 143, 175, 216, 260] d mX12_turn (n + 1) 197 L (.inr (.inr (m + 2)) :: r) h Q = (match h.1[m]? with | some (.inl (ci, fs)) => (match lkF 12 82 ci with | some k => (match fs[k]? with | some v => G sp sc [109, 117, 143, 175, 216, 260] d mX12_turn n 200 L (v :: r) h Q | none => False) | none => False) | _ => False)) ∧
  (∀ (n d : Nat) (L : List (Option iV)) (a : Int) (r : List iV) (h : iH) (Q : Option iV → iH → Prop), G sp sc [109, 117, 143, 175, 216, 260] d mX12_turn (n + 1) 200 L (.inl a :: r) h Q = (inI a = true ∧ (0 ≤ a → Run sp sc d mX12_turn 260 L r h Q) ∧ (¬ (0 ≤ a) → G sp sc [109, 117, 143, 175, 216, 260] d mX12_turn n 203 L r h Q))) ∧
  (∀ (n d : Nat) (L : List (Option iV)) (st : List iV) (h : iH) (Q : Option iV → iH → Prop), G sp sc [109, 117, 143, 175, 216, 260] d mX12_turn (n + 1) 203 L st h Q = (match ld L 0 with | some (.inr (.inr (r + 1))) => G sp sc [109, 117, 143, 175, 216, 260] d mX12_turn n 204 L (.inr (.inr (r + 1)) :: st) h Q | _ => False)) ∧
  (∀ (n d : Nat) (L : List (Option iV)) (st : List iV) (h : iH) (Q : Option iV → iH → Prop), G sp sc [109, 117, 143, 175, 216, 260] d mX12_turn (n + 1) 204 L st h Q = (match ld L 0 with | some (.inr (.inr (r + 1))) => G sp sc [109, 117, 143, 175, 216, 260] d mX12_turn n 205 L (.inr (.inr (r + 1)) :: st) h Q | _ => False)) ∧
  (∀ (n d : Nat) (L : List (Option iV)) (r : List iV) (m : Nat) (h : iH) (Q : Option iV → iH → Prop), G sp sc [109, 117, 143, 175, 216, 260] d mX12_turn (n + 1) 205 L (.inr (.inr (m + 2)) :: r) h Q = (match h.1[m]? with | some (.inl (ci, fs)) => (match lkF 12 85 ci with | some k => (match fs[k]? with | some v => G sp sc [109, 117, 143, 175, 216, 260] d mX12_turn n 208 L (v :: r) h Q | none => False) | none => False) | _ => False)) ∧
  (∀ (n d : Nat) (L : List (Option iV)) (st : List iV) (h : iH) (Q : Option iV → iH → Prop), G sp sc [109, 117, 143, 175, 216, 260] d mX12_turn (n + 1) 208 L st h Q = G sp sc [109, 117, 143, 175, 216, 260] d mX12_turn n 209 L (.inl 1 :: st) h Q) ∧
  (∀ (n d : Nat) (L : List (Option iV)) (a : Int) (b : Int) (r : List iV) (h : iH) (Q : Option iV → iH → Prop), G sp sc [109, 117, 143, 175, 216, 260] d mX12_turn (n + 1) 209 L (.inl b :: .inl a :: r) h Q = G sp sc [109, 117, 143, 175, 216, 260] d mX12_turn n 210 L (.inl (a + b) :: r) h Q) ∧
  (∀ (n d : Nat) (L : List (Option iV)) (r : List iV) (v : iV) (m : Nat) (h : iH) (Q : Option iV → iH → Prop), G sp sc [109, 117, 143, 175, 216, 260] d mX12_turn (n + 1) 210 L (v :: .inr (.inr (m + 2)) :: r) h Q = (match h.1[m]? with | some (.inl (ci, fs)) => (match lkF 12 82 ci with | some k => (fitV (tyT ci k) v = true ∧ k < fs.length ∧ pOK 12 false ci k = true) ∧ G sp sc [109, 117, 143, 175, 216, 260] d mX12_turn n 213 L r (h.1.set m (.inl (ci, fs.set k v)), h.2) Q | none => False) | _ => False)) ∧
  (∀ (n d : Nat) (L : List (Option iV)) (st : List iV) (h : iH) (Q : Option iV → iH → Prop), G sp sc [109, 117, 143, 175, 216, 260] d mX12_turn (n + 1) 213 L st h Q = Run sp sc d mX12_turn 260 L st h Q) ∧
  (∀ (n d : Nat) (L : List (Option iV)) (st : List iV) (h : iH) (Q : Option iV → iH → Prop), G sp sc [109, 117, 143, 175, 216, 260] d mX12_turn (n + 1) 216 L st h Q = (match ld L 1 with | some (.inr (.inr (r + 1))) => G sp sc [109, 117, 143, 175, 216, 260] d mX12_turn n 217 L (.inr (.inr (r + 1)) :: st) h Q | _ => False)) ∧
  (∀ (n d : Nat) (L : List (Option iV)) (st : List iV) (h : iH) (Q : Option iV → iH → Prop), G sp sc [109, 117, 143, 175, 216, 260] d mX12_turn (n + 1) 217 L st h Q = (match ld L 2 with | some (.inl x) => G sp sc [109, 117, 143, 175, 216, 260] d mX12_turn n 218 L (.inl x :: st) h Q | _ => False)) ∧
  (∀ (n d : Nat) (L : List (Option iV)) (st : List iV) (h : iH) (Q : Option iV → iH → Prop), G sp sc [109, 117, 143, 175, 216, 260] d mX12_turn (n + 1) 218 L st h Q = G sp sc [109, 117, 143, 175, 216, 260] d mX12_turn n 219 L (.inl 3 :: st) h Q) ∧
  (∀ (n d : Nat) (L : List (Option iV)) (r : List iV) (z0 : iV) (z1 : iV) (h : iH) (Q : Option iV → iH → Prop), G sp sc [109, 117, 143, 175, 216, 260] (d + 1) mX12_turn (n + 1) 219 L (z1 :: z0 :: r) h Q = (cs r ≤ 8 ∧ Call sp sc d mX12_atCouple [z0, z1] h (fun q h1 => GC sp sc [109, 117, 143, 175, 216, 260] (d + 1) mX12_turn n 222 L q r h h1 Q))) ∧
  (∀ (n d : Nat) (L : List (Option iV)) (a : Int) (b : Nat) (r : List iV) (h : iH) (Q : Option iV → iH → Prop), G sp sc [109, 117, 143, 175, 216, 260] d mX12_turn (n + 1) 222 L (.inl a :: .inr (.inr b) :: r) h Q = G sp sc [109, 117, 143, 175, 216, 260] d mX12_turn n 223 L (.inl a :: .inr (.inr b) :: .inl a :: .inr (.inr b) :: r) h Q) ∧
  (∀ (n d : Nat) (L : List (Option iV)) (r : List iV) (j : Int) (m : Nat) (h : iH) (Q : Option iV → iH → Prop), G sp sc [109, 117, 143, 175, 216, 260] d mX12_turn (n + 1) 223 L (.inl j :: .inr (.inr (m + 2)) :: r) h Q = (match h.1[m]? with | some (.inr (.inl (0, xs))) => inA j xs.length = true ∧ G sp sc [109, 117, 143, 175, 216, 260] d mX12_turn n 224 L (.inl (xs.getD j.toNat 0) :: r) h Q | _ => False)) ∧
  (∀ (n d : Nat) (L : List (Option iV)) (st : List iV) (h : iH) (Q : Option iV → iH → Prop), G sp sc [109, 117, 143, 175, 216, 260] d mX12_turn (n + 1) 224 L st h Q = G sp sc [109, 117, 143, 175, 216, 260] d mX12_turn n 225 L (.inl 1 :: st) h Q) ∧
  (∀ (n d : Nat) (L : List (Option iV)) (a : Int) (b : Int) (r : List iV) (h : iH) (Q : Option iV → iH → Prop), G sp sc [109, 117, 143, 175, 216, 260] d mX12_turn (n + 1) 225 L (.inl b :: .inl a :: r) h Q = G sp sc [109, 117, 143, 175, 216, 260] d mX12_turn n 226 L (.inl (a + b) :: r) h Q) ∧
  (∀ (n d : Nat) (L : List (Option iV)) (r : List iV) (v : Int) (j : Int) (m : Nat) (h : iH) (Q : Option iV → iH → Prop), G sp sc [109, 117, 143, 175, 216, 260] d mX12_turn (n + 1) 226 L (.inl v :: .inl j :: .inr (.inr (m + 2)) :: r) h Q = (match h.1[m]? with | some (.inr (.inl (0, xs))) => inA j xs.length = true ∧ G sp sc [109, 117, 143, 175, 216, 260] d mX12_turn n 227 L r (h.1.set m (.inr (.inl (0, xs.set j.toNat v))), h.2) Q | _ => False)) ∧
  (∀ (n d : Nat) (L : List (Option iV)) (st : List iV) (h : iH) (Q : Option iV → iH → Prop), G sp sc [109, 117, 143, 175, 216, 260] d mX12_turn (n + 1) 227 L st h Q = (match ld L 0 with | some (.inr (.inr (r + 1))) => G sp sc [109, 117, 143, 175, 216, 260] d mX12_turn n 228 L (.inr (.inr (r + 1)) :: st) h Q | _ => False)) ∧
  (∀ (n d : Nat) (L : List (Option iV)) (a : Int) (r : List iV) (h : iH) (Q : Option iV → iH → Prop), G sp sc [109, 117, 143, 175, 216, 260] d mX12_turn (n + 1) 228 L (.inl a :: r) h Q = G sp sc [109, 117, 143, 175, 216, 260] d mX12_turn n 229 L (.inl a :: .inl a :: r) h Q) ∧
  (∀ (n d : Nat) (L : List (Option iV)) (a : Nat) (r : List iV) (h : iH) (Q : Option iV → iH → Prop), G sp sc [109, 117, 143, 175, 216, 260] d mX12_turn (n + 1) 228 L (.inr (.inr a) :: r) h Q = G sp sc [109, 117, 143, 175, 216, 260] d mX12_turn n 229 L (.inr (.inr a) :: .inr (.inr a) :: r) h Q) ∧
  (∀ (n d : Nat) (L : List (Option iV)) (r : List iV) (m : Nat) (h : iH) (Q : Option iV → iH → Prop), G sp sc [109, 117, 143, 175, 216, 260] d mX12_turn (n + 1) 229 L (.inr (.inr (m + 2)) :: r) h Q = (match h.1[m]? with | some (.inl (ci, fs)) => (match lkF 12 75 ci with | some k => (match fs[k]? with | some v => G sp sc [109, 117, 143, 175, 216, 260] d mX12_turn n 232 L (v :: r) h Q | none => False) | none => False) | _ => False)) ∧
  (∀ (n d : Nat) (L : List (Option iV)) (st : List iV) (h : iH) (Q : Option iV → iH → Prop), G sp sc [109, 117, 143, 175, 216, 260] d mX12_turn (n + 1) 232 L st h Q = G sp sc [109, 117, 143, 175, 216, 260] d mX12_turn n 233 L (.inl 1 :: st) h Q) ∧
  (∀ (n d : Nat) (L : List (Option iV)) (a : Int) (b : Int) (r : List iV) (h : iH) (Q : Option iV → iH → Prop), G sp sc [109, 117, 143, 175, 216, 260] d mX12_turn (n + 1) 233 L (.inl b :: .inl a :: r) h Q = G sp sc [109, 117, 143, 175, 216, 260] d mX12_turn n 234 L (.inl (a + b) :: r) h Q) ∧
  (∀ (n d : Nat) (L : List (Option iV)) (r : List iV) (v : iV) (m : Nat) (h : iH) (Q : Option iV → iH → Prop), G sp sc [109, 117, 143, 175, 216, 260] d mX12_turn (n + 1) 234 L (v :: .inr (.inr (m + 2)) :: r) h Q = (match h.1[m]? with | some (.inl (ci, fs)) => (match lkF 12 75 ci with | some k => (fitV (tyT ci k) v = true ∧ k < fs.length ∧ pOK 12 false ci k = true) ∧ G sp sc [109, 117, 143, 175, 216, 260] d mX12_turn n 237 L r (h.1.set m (.inl (ci, fs.set k v)), h.2) Q | none => False) | _ => False)) ∧
  (∀ (n d : Nat) (L : List (Option iV)) (st : List iV) (h : iH) (Q : Option iV → iH → Prop), G sp sc [109, 117, 143, 175, 216, 260] d mX12_turn (n + 1) 237 L st h Q = (match ld L 1 with | some (.inr (.inr (r + 1))) => G sp sc [109, 117, 143, 175, 216, 260] d mX12_turn n 238 L (.inr (.inr (r + 1)) :: st) h Q | _ => False)) ∧
  (∀ (n d : Nat) (L : List (Option iV)) (st : List iV) (h : iH) (Q : Option iV → iH → Prop), G sp sc [109, 117, 143, 175, 216, 260] d mX12_turn (n + 1) 238 L st h Q = (match ld L 2 with | some (.inl x) => G sp sc [109, 117, 143, 175, 216, 260] d mX12_turn n 239 L (.inl x :: st) h Q | _ => False)) ∧
  (∀ (n d : Nat) (L : List (Option iV)) (st : List iV) (h : iH) (Q : Option iV → iH → Prop), G sp sc [109, 117, 143, 175, 216, 260] d mX12_turn (n + 1) 239 L st h Q = G sp sc [109, 117, 143, 175, 216, 260] d mX12_turn n 240 L (.inl 3 :: st) h Q) ∧
  (∀ (n d : Nat) (L : List (Option iV)) (r : List iV) (z0 : iV) (z1 : iV) (h : iH) (Q : Option iV → iH → Prop), G sp sc [109, 117, 143, 175, 216, 260] (d + 1) mX12_turn (n + 1) 240 L (z1 :: z0 :: r) h Q = (cs r ≤ 8 ∧ Call sp sc d mX12_atCouple [z0, z1] h (fun q h1 => GC sp sc [109, 117, 143, 175, 216, 260] (d + 1) mX12_turn n 243 L q r h h1 Q))) ∧
  (∀ (n d : Nat) (L : List (Option iV)) (r : List iV) (j : Int) (m : Nat) (h : iH) (Q : Option iV → iH → Prop), G sp sc [109, 117, 143, 175, 216, 260] d mX12_turn (n + 1) 243 L (.inl j :: .inr (.inr (m + 2)) :: r) h Q = (match h.1[m]? with | some (.inr (.inl (0, xs))) => inA j xs.length = true ∧ G sp sc [109, 117, 143, 175, 216, 260] d mX12_turn n 244 L (.inl (xs.getD j.toNat 0) :: r) h Q | _ => False)) ∧
  (∀ (n d : Nat) (L : List (Option iV)) (st : List iV) (h : iH) (Q : Option iV → iH → Prop), G sp sc [109, 117, 143, 175, 216, 260] d mX12_turn (n + 1) 244 L st h Q = ((-128 ≤ (6 : Int) ∧ (6 : Int) < 128) ∧ G sp sc [109, 117, 143, 175, 216, 260] d mX12_turn n 246 L (.inl 6 :: st) h Q)) ∧
  (∀ (n d : Nat) (L : List (Option iV)) (a : Int) (b : Int) (r : List iV) (h : iH) (Q : Option iV → iH → Prop), G sp sc [109, 117, 143, 175, 216, 260] d mX12_turn (n + 1) 246 L (.inl b :: .inl a :: r) h Q = ((inI a = true ∧ inI b = true) ∧ (¬ a = b → Run sp sc d mX12_turn 260 L r h Q) ∧ (¬ (¬ a = b) → G sp sc [109, 117, 143, 175, 216, 260] d mX12_turn n 249 L r h Q))) ∧
  (∀ (n d : Nat) (L : List (Option iV)) (st : List iV) (h : iH) (Q : Option iV → iH → Prop), G sp sc [109, 117, 143, 175, 216, 260] d mX12_turn (n + 1) 249 L st h Q = (match ld L 0 with | some (.inr (.inr (r + 1))) => G sp sc [109, 117, 143, 175, 216, 260] d mX12_turn n 250 L (.inr (.inr (r + 1)) :: st) h Q | _ => False)) ∧
  (∀ (n d : Nat) (L : List (Option iV)) (st : List iV) (h : iH) (Q : Option iV → iH → Prop), G sp sc [109, 117, 143, 175, 216, 260] d mX12_turn (n + 1) 250 L st h Q = (match ld L 1 with | some (.inr (.inr (r + 1))) => G sp sc [109, 117, 143, 175, 216, 260] d mX12_turn n 251 L (.inr (.inr (r + 1)) :: st) h Q | _ => False)) ∧
  (∀ (n d : Nat) (L : List (Option iV)) (st : List iV) (h : iH) (Q : Option iV → iH → Prop), G sp sc [109, 117, 143, 175, 216, 260] d mX12_turn (n + 1) 251 L st h Q = (match ld L 4 with | some (.inl x) => G sp sc [109, 117, 143, 175, 216, 260] d mX12_turn n 253 L (.inl x :: st) h Q | _ => False)) ∧
  (∀ (n d : Nat) (L : List (Option iV)) (st : List iV) (h : iH) (Q : Option iV → iH → Prop), G sp sc [109, 117, 143, 175, 216, 260] d mX12_turn (n + 1) 253 L st h Q = (match ld L 5 with | some (.inl x) => G sp sc [109, 117, 143, 175, 216, 260] d mX12_turn n 255 L (.inl x :: st) h Q | _ => False)) ∧
  (∀ (n d : Nat) (L : List (Option iV)) (st : List iV) (h : iH) (Q : Option iV → iH → Prop), G sp sc [109, 117, 143, 175, 216, 260] d mX12_turn (n + 1) 255 L st h Q = (match ld L 2 with | some (.inl x) => G sp sc [109, 117, 143, 175, 216, 260] d mX12_turn n 256 L (.inl x :: st) h Q | _ => False)) ∧
  (∀ (n d : Nat) (L : List (Option iV)) (st : List iV) (h : iH) (Q : Option iV → iH → Prop), G sp sc [109, 117, 143, 175, 216, 260] d mX12_turn (n + 1) 256 L st h Q = G sp sc [109, 117, 143, 175, 216, 260] d mX12_turn n 257 L (.inl 1 :: st) h Q) ∧
  (∀ (n d : Nat) (L : List (Option iV)) (r : List iV) (m : Nat) (z0 : iV) (z1 : iV) (z2 : iV) (z3 : iV) (z4 : iV) (h : iH) (Q : Option iV → iH → Prop), G sp sc [109, 117, 143, 175, 216, 260] (d + 1) mX12_turn (n + 1) 257 L (z4 :: z3 :: z2 :: z1 :: z0 :: .inr (.inr (m + 2)) :: r) h Q = (match h.1[m]? with | some (.inl (ci, _)) => (match lkC 12 138 ci with | some (y1, n1, kd) => (n1 = 5 ∧ (kd = 2 ∨ kd = 3 ∨ kd = 8) ∧ cs r ≤ 8) ∧ Call sp sc d y1 [.inr (.inr (m + 2)), z0, z1, z2, z3, z4] h (fun q h1 => GC sp sc [109, 117, 143, 175, 216, 260] (d + 1) mX12_turn n 260 L q r h h1 Q) | none => False) | _ => False)) ∧
  (∀ (n d : Nat) (L : List (Option iV)) (st : List iV) (h : iH) (Q : Option iV → iH → Prop), G sp sc [109, 117, 143, 175, 216, 260] d mX12_turn (n + 1) 260 L st h Q = (match ld L 3 with | some (.inl x) => G sp sc [109, 117, 143, 175, 216, 260] d mX12_turn n 261 L (.inl x :: st) h Q | _ => False)) ∧
  (∀ (n d : Nat) (L : List (Option iV)) (st : List iV) (h : iH) (Q : Option iV → iH → Prop), G sp sc [109, 117, 143, 175, 216, 260] d mX12_turn (n + 1) 261 L st h Q = G sp sc [109, 117, 143, 175, 216, 260] d mX12_turn n 262 L (.inl 1 :: st) h Q) ∧
  (∀ (n d : Nat) (L : List (Option iV)) (st : List iV) (h : iH) (Q : Option iV → iH → Prop), G sp sc [109, 117, 143, 175, 216, 260] d mX12_turn (n + 1) 262 L st h Q = (match ld L 7 with | some (.inl x) => G sp sc [109, 117, 143, 175, 216, 260] d mX12_turn n 264 L (.inl x :: st) h Q | _ => False)) ∧
  (∀ (n d : Nat) (L : List (Option iV)) (a : Int) (b : Int) (r : List iV) (h : iH) (Q : Option iV → iH → Prop), G sp sc [109, 117, 143, 175, 216, 260] d mX12_turn (n + 1) 264 L (.inl b :: .inl a :: r) h Q = G sp sc [109, 117, 143, 175, 216, 260] d mX12_turn n 265 L (.inl (bShl a b) :: r) h Q) ∧
  (∀ (n d : Nat) (L : List (Option iV)) (a : Int) (b : Int) (r : List iV) (h : iH) (Q : Option iV → iH → Prop), G sp sc [109, 117, 143, 175, 216, 260] d mX12_turn (n + 1) 265 L (.inl b :: .inl a :: r) h Q = G sp sc [109, 117, 143, 175, 216, 260] d mX12_turn n 266 L (.inl (bOr a b) :: r) h Q) ∧
  (∀ (n d : Nat) (L : List (Option iV)) (st : List iV) (h : iH) (Q : Option iV → iH → Prop), G sp sc [109, 117, 143, 175, 216, 260] d mX12_turn (n + 1) 266 L st h Q = G sp sc [109, 117, 143, 175, 216, 260] d mX12_turn n 267 L (.inl 1 :: st) h Q) ∧
  (∀ (n d : Nat) (L : List (Option iV)) (st : List iV) (h : iH) (Q : Option iV → iH → Prop), G sp sc [109, 117, 143, 175, 216, 260] d mX12_turn (n + 1) 267 L st h Q = G sp sc [109, 117, 143, 175, 216, 260] d mX12_turn n 268 L (.inl 5 :: st) h Q) ∧
  (∀ (n d : Nat) (L : List (Option iV)) (st : List iV) (h : iH) (Q : Option iV → iH → Prop), G sp sc [109, 117, 143, 175, 216, 260] d mX12_turn (n + 1) 268 L st h Q = (match ld L 8 with | some (.inl x) => G sp sc [109, 117, 143, 175, 216, 260] d mX12_turn n 270 L (.inl x :: st) h Q | _ => False)) ∧
  (∀ (n d : Nat) (L : List (Option iV)) (a : Int) (b : Int) (r : List iV) (h : iH) (Q : Option iV → iH → Prop), G sp sc [109, 117, 143, 175, 216, 260] d mX12_turn (n + 1) 270 L (.inl b :: .inl a :: r) h Q = G sp sc [109, 117, 143, 175, 216, 260] d mX12_turn n 271 L (.inl (a + b) :: r) h Q) ∧
  (∀ (n d : Nat) (L : List (Option iV)) (a : Int) (b : Int) (r : List iV) (h : iH) (Q : Option iV → iH → Prop), G sp sc [109, 117, 143, 175, 216, 260] d mX12_turn (n + 1) 271 L (.inl b :: .inl a :: r) h Q = G sp sc [109, 117, 143, 175, 216, 260] d mX12_turn n 272 L (.inl (bShl a b) :: r) h Q) ∧
  (∀ (n d : Nat) (L : List (Option iV)) (a : Int) (b : Int) (r : List iV) (h : iH) (Q : Option iV → iH → Prop), G sp sc [109, 117, 143, 175, 216, 260] d mX12_turn (n + 1) 272 L (.inl b :: .inl a :: r) h Q = G sp sc [109, 117, 143, 175, 216, 260] d mX12_turn n 273 L (.inl (bOr a b) :: r) h Q) ∧
  (∀ (n d : Nat) (L : List (Option iV)) (a : Int) (h : iH) (Q : Option iV → iH → Prop), G sp sc [109, 117, 143, 175, 216, 260] d mX12_turn (n + 1) 273 L [.inl a] h Q = Q (some (.inl a)) h) ∧
  lkC 12 138 12 = some (mX12_bind, 5, 2) ∧
  lkF 12 22 12 = some 5 ∧
  lkF 12 75 12 = some 8 ∧
  lkF 12 79 12 = some 9 ∧
  lkF 12 82 12 = some 10 ∧
  lkF 12 85 12 = some 11 ∧
  pOK 12 false 12 10 = true ∧
  pOK 12 false 12 8 = true ∧
  pOK 12 false 12 9 = true := ⟨by intros; exact G_at (by decide +kernel : fetch mX12_turn 0 = some (.aload_n 1)),
  by intros; exact G_at (by decide +kernel : fetch mX12_turn 1 = some (.iload_n 2)),
  by intros; exact G_at (by decide +kernel : fetch mX12_turn 2 = some (.iconst 0)),
  by intros; exact G_callS (k := 2) (kd := 0) (by decide +kernel : fetch mX12_turn 3 = some (.invokestatic 92)) (by decide +kernel) (by decide +kernel) (by decide +kernel) rfl (by decide),
  by intros; exact G_at (by decide +kernel : fetch mX12_turn 6 = some (.iaload)),
  by intros; exact G_at (by decide +kernel : fetch mX12_turn 7 = some (.istore 4)),
  by intros; exact G_at (by decide +kernel : fetch mX12_turn 9 = some (.aload_n 1)),
  by intros; exact G_at (by decide +kernel : fetch mX12_turn 10 = some (.iload_n 2)),
  by intros; exact G_at (by decide +kernel : fetch mX12_turn 11 = some (.iconst 1)),
  by intros; exact G_callS (k := 2) (kd := 0) (by decide +kernel : fetch mX12_turn 12 = some (.invokestatic 92)) (by decide +kernel) (by decide +kernel) (by decide +kernel) rfl (by decide),
  by intros; exact G_at (by decide +kernel : fetch mX12_turn 15 = some (.iaload)),
  by intros; exact G_at (by decide +kernel : fetch mX12_turn 16 = some (.istore 5)),
  by intros; exact G_at (by decide +kernel : fetch mX12_turn 18 = some (.aload_n 1)),
  by intros; exact G_at (by decide +kernel : fetch mX12_turn 19 = some (.iconst 5)),
  by intros; exact G_at (by decide +kernel : fetch mX12_turn 20 = some (.aload_n 1)),
  by intros; exact G_at (by decide +kernel : fetch mX12_turn 21 = some (.iload_n 2)),
  by intros; exact G_at (by decide +kernel : fetch mX12_turn 22 = some (.iconst 3)),
  by intros; exact G_callS (k := 2) (kd := 0) (by decide +kernel : fetch mX12_turn 23 = some (.invokestatic 92)) (by decide +kernel) (by decide +kernel) (by decide +kernel) rfl (by decide),
  by intros; exact G_at (by decide +kernel : fetch mX12_turn 26 = some (.iaload)),
  by intros; exact G_at (by decide +kernel : fetch mX12_turn 27 = some (.iadd)),
  by intros; exact G_at (by decide +kernel : fetch mX12_turn 28 = some (.iaload)),
  by intros; exact G_at (by decide +kernel : fetch mX12_turn 29 = some (.istore 6)),
  by intros; exact G_at (by decide +kernel : fetch mX12_turn 31 = some (.aload_n 1)),
  by intros; exact G_at (by decide +kernel : fetch mX12_turn 32 = some (.iconst 0)),
  by intros; exact G_at (by decide +kernel : fetch mX12_turn 33 = some (.iload 4)),
  by intros; exact G_at (by decide +kernel : fetch mX12_turn 35 = some (.iload 6)),
  by intros; exact G_callS (k := 4) (kd := 0) (by decide +kernel : fetch mX12_turn 37 = some (.invokestatic 127)) (by decide +kernel) (by decide +kernel) (by decide +kernel) rfl (by decide),
  by intros; exact G_at (by decide +kernel : fetch mX12_turn 40 = some (.istore 7)),
  by intros; exact G_at (by decide +kernel : fetch mX12_turn 42 = some (.aload_n 1)),
  by intros; exact G_at (by decide +kernel : fetch mX12_turn 43 = some (.iconst 1)),
  by intros; exact G_at (by decide +kernel : fetch mX12_turn 44 = some (.iload 5)),
  by intros; exact G_at (by decide +kernel : fetch mX12_turn 46 = some (.iload 6)),
  by intros; exact G_callS (k := 4) (kd := 0) (by decide +kernel : fetch mX12_turn 48 = some (.invokestatic 127)) (by decide +kernel) (by decide +kernel) (by decide +kernel) rfl (by decide),
  by intros; exact G_at (by decide +kernel : fetch mX12_turn 51 = some (.istore 8)),
  by intros; exact G_at (by decide +kernel : fetch mX12_turn 53 = some (.aload_n 1)),
  by intros; exact G_at (by decide +kernel : fetch mX12_turn 54 = some (.iconst 0)),
  by intros; exact G_at (by decide +kernel : fetch mX12_turn 55 = some (.iload 7)),
  by intros; exact G_at (by decide +kernel : fetch mX12_turn 57 = some (.iconst 3)),
  by intros; exact G_callS (k := 3) (kd := 0) (by decide +kernel : fetch mX12_turn 58 = some (.invokestatic 88)) (by decide +kernel) (by decide +kernel) (by decide +kernel) rfl (by decide),
  by intros; exact G_at (by decide +kernel : fetch mX12_turn 61 = some (.iaload)),
  by intros; exact G_at (by decide +kernel : fetch mX12_turn 62 = some (.ifCond .ge 35)),
  by intros; exact G_at (by decide +kernel : fetch mX12_turn 65 = some (.aload_n 1)),
  by intros; exact G_at (by decide +kernel : fetch mX12_turn 66 = some (.iconst 1)),
  by intros; exact G_at (by decide +kernel : fetch mX12_turn 67 = some (.iload 8)),
  by intros; exact G_at (by decide +kernel : fetch mX12_turn 69 = some (.iconst 3)),
  by intros; exact G_callS (k := 3) (kd := 0) (by decide +kernel : fetch mX12_turn 70 = some (.invokestatic 88)) (by decide +kernel) (by decide +kernel) (by decide +kernel) rfl (by decide),
  by intros; exact G_at (by decide +kernel : fetch mX12_turn 73 = some (.iaload)),
  by intros; exact G_at (by decide +kernel : fetch mX12_turn 74 = some (.ifCond .ge 23)),
  by intros; exact G_at (by decide +kernel : fetch mX12_turn 77 = some (.iload_n 3)),
  by intros; exact G_at (by decide +kernel : fetch mX12_turn 78 = some (.iload 7)),
  by intros; exact G_callS (k := 2) (kd := 0) (by decide +kernel : fetch mX12_turn 80 = some (.invokestatic 131)) (by decide +kernel) (by decide +kernel) (by decide +kernel) rfl (by decide),
  by intros; exact G_at (by decide +kernel : fetch mX12_turn 83 = some (.ifCond .ne 14)),
  by intros; exact G_at (by decide +kernel : fetch mX12_turn 86 = some (.iload_n 3)),
  by intros; exact G_at (by decide +kernel : fetch mX12_turn 87 = some (.iconst 5)),
  by intros; exact G_at (by decide +kernel : fetch mX12_turn 88 = some (.iload 8)),
  by intros; exact G_at (by decide +kernel : fetch mX12_turn 90 = some (.iadd)),
  by intros; exact G_callS (k := 2) (kd := 0) (by decide +kernel : fetch mX12_turn 91 = some (.invokestatic 131)) (by decide +kernel) (by decide +kernel) (by decide +kernel) rfl (by decide),
  by intros; exact G_at (by decide +kernel : fetch mX12_turn 94 = some (.ifCond .eq 15)),
  by intros; exact G_at (by decide +kernel : fetch mX12_turn 97 = some (.aload_n 0)),
  by intros; exact G_own (by decide +kernel : fetch mX12_turn 98 = some (.getfield 22)) (by decide +kernel),
  by intros; exact G_at (by decide +kernel : fetch mX12_turn 101 = some (.iload_n 2)),
  by intros; exact G_at (by decide +kernel : fetch mX12_turn 102 = some (.dup2)),
  by intros; exact G_at (by decide +kernel : fetch mX12_turn 103 = some (.iaload)),
  by intros; exact G_at (by decide +kernel : fetch mX12_turn 104 = some (.iconst 1)),
  by intros; exact G_at (by decide +kernel : fetch mX12_turn 105 = some (.iadd)),
  by intros; exact G_at (by decide +kernel : fetch mX12_turn 106 = some (.iastore)),
  by intros; exact G_at (by decide +kernel : fetch mX12_turn 107 = some (.iload_n 3)),
  by intros; exact G_reti (by decide +kernel : fetch mX12_turn 108 = some (.ireturn)) (by decide +kernel),
  by intros; exact G_at (by decide +kernel : fetch mX12_turn 109 = some (.aload_n 1)),
  by intros; exact G_at (by decide +kernel : fetch mX12_turn 110 = some (.iload 7)),
  by intros; exact G_at (by decide +kernel : fetch mX12_turn 112 = some (.iload 8)),
  by intros; exact G_callS (k := 3) (kd := 0) (by decide +kernel : fetch mX12_turn 114 = some (.invokestatic 135)) (by decide +kernel) (by decide +kernel) (by decide +kernel) rfl (by decide),
  by intros; exact G_at (by decide +kernel : fetch mX12_turn 117 = some (.iload 7)),
  by intros; exact G_at (by decide +kernel : fetch mX12_turn 119 = some (.iload 4)),
  by intros; exact G_at (by decide +kernel : fetch mX12_turn 121 = some (.if_icmp .ne 14)),
  by intros; exact G_at (by decide +kernel : fetch mX12_turn 124 = some (.iload 8)),
  by intros; exact G_at (by decide +kernel : fetch mX12_turn 126 = some (.iload 5)),
  by intros; exact G_at (by decide +kernel : fetch mX12_turn 128 = some (.if_icmp .ne 7)),
  by intros; exact G_at (by decide +kernel : fetch mX12_turn 131 = some (.iconst 1)),
  by intros; exact G_at (by decide +kernel : fetch mX12_turn 132 = some (.goto 4)),
  by intros; exact G_at (by decide +kernel : fetch mX12_turn 135 = some (.iconst 0)),
  by intros; exact G_at (by decide +kernel : fetch mX12_turn 136 = some (.istore 9)),
  by intros; exact G_at (by decide +kernel : fetch mX12_turn 138 = some (.iload 9)),
  by intros; exact G_at (by decide +kernel : fetch mX12_turn 140 = some (.ifCond .ne 76)),
  by intros; exact G_at (by decide +kernel : fetch mX12_turn 143 = some (.aload_n 1)),
  by intros; exact G_at (by decide +kernel : fetch mX12_turn 144 = some (.iconst 0)),
  by intros; exact G_at (by decide +kernel : fetch mX12_turn 145 = some (.iload 7)),
  by intros; exact G_at (by decide +kernel : fetch mX12_turn 147 = some (.iload 8)),
  by intros; exact G_callS (k := 3) (kd := 0) (by decide +kernel : fetch mX12_turn 149 = some (.invokestatic 109)) (by decide +kernel) (by decide +kernel) (by decide +kernel) rfl (by decide),
  by intros; exact G_at (by decide +kernel : fetch mX12_turn 152 = some (.iaload)),
  by intros; exact G_at (by decide +kernel : fetch mX12_turn 153 = some (.aload_n 1)),
  by intros; exact G_at (by decide +kernel : fetch mX12_turn 154 = some (.iconst 4)),
  by intros; exact G_at (by decide +kernel : fetch mX12_turn 155 = some (.iaload)),
  by intros; exact G_at (by decide +kernel : fetch mX12_turn 156 = some (.if_icmp .le 60)),
  by intros; exact G_at (by decide +kernel : fetch mX12_turn 159 = some (.aload_n 1)),
  by intros; exact G_at (by decide +kernel : fetch mX12_turn 160 = some (.iconst 1)),
  by intros; exact G_at (by decide +kernel : fetch mX12_turn 161 = some (.iload 8)),
  by intros; exact G_at (by decide +kernel : fetch mX12_turn 163 = some (.iload 7)),
  by intros; exact G_callS (k := 3) (kd := 0) (by decide +kernel : fetch mX12_turn 165 = some (.invokestatic 109)) (by decide +kernel) (by decide +kernel) (by decide +kernel) rfl (by decide),
  by intros; exact G_at (by decide +kernel : fetch mX12_turn 168 = some (.iaload)),
  by intros; exact G_at (by decide +kernel : fetch mX12_turn 169 = some (.aload_n 1)),
  by intros; exact G_at (by decide +kernel : fetch mX12_turn 170 = some (.iconst 4)),
  by intros; exact G_at (by decide +kernel : fetch mX12_turn 171 = some (.iaload)),
  by intros; exact G_at (by decide +kernel : fetch mX12_turn 172 = some (.if_icmp .le 44)),
  by intros; exact G_at (by decide +kernel : fetch mX12_turn 175 = some (.aload_n 0)),
  by intros; exact G_at (by decide +kernel : fetch mX12_turn 176 = some (.aload_n 1)),
  by intros; exact G_at (by decide +kernel : fetch mX12_turn 177 = some (.iload 7)),
  by intros; exact G_at (by decide +kernel : fetch mX12_turn 179 = some (.iload 8)),
  by intros; exact G_at (by decide +kernel : fetch mX12_turn 181 = some (.iload_n 2)),
  by intros; exact G_at (by decide +kernel : fetch mX12_turn 182 = some (.iconst 2)),
  by intros; exact G_callV (by decide +kernel : fetch mX12_turn 183 = some (.invokevirtual 138)) (by decide +kernel) (by decide +kernel) rfl,
  by intros; exact G_at (by decide +kernel : fetch mX12_turn 186 = some (.aload_n 0)),
  by intros; exact G_at (by decide +kernel : fetch mX12_turn 187 = some (.dup)),
  by intros; exact G_at (by decide +kernel : fetch mX12_turn 187 = some (.dup)),
  by intros; exact G_own (by decide +kernel : fetch mX12_turn 188 = some (.getfield 79)) (by decide +kernel),
  by intros; exact G_at (by decide +kernel : fetch mX12_turn 191 = some (.iconst 1)),
  by intros; exact G_at (by decide +kernel : fetch mX12_turn 192 = some (.iadd)),
  by intros; exact G_ownW (by decide +kernel : fetch mX12_turn 193 = some (.putfield 79)) (by decide +kernel) (by decide +kernel),
  by intros; exact G_at (by decide +kernel : fetch mX12_turn 196 = some (.aload_n 0)),
  by intros; exact G_own (by decide +kernel : fetch mX12_turn 197 = some (.getfield 82)) (by decide +kernel),
  by intros; exact G_at (by decide +kernel : fetch mX12_turn 200 = some (.ifCond .ge 60)),
  by intros; exact G_at (by decide +kernel : fetch mX12_turn 203 = some (.aload_n 0)),
  by intros; exact G_at (by decide +kernel : fetch mX12_turn 204 = some (.aload_n 0)),
  by intros; exact G_own (by decide +kernel : fetch mX12_turn 205 = some (.getfield 85)) (by decide +kernel),
  by intros; exact G_at (by decide +kernel : fetch mX12_turn 208 = some (.iconst 1)),
  by intros; exact G_at (by decide +kernel : fetch mX12_turn 209 = some (.iadd)),
  by intros; exact G_ownW (by decide +kernel : fetch mX12_turn 210 = some (.putfield 82)) (by decide +kernel) (by decide +kernel),
  by intros; exact G_at (by decide +kernel : fetch mX12_turn 213 = some (.goto 47)),
  by intros; exact G_at (by decide +kernel : fetch mX12_turn 216 = some (.aload_n 1)),
  by intros; exact G_at (by decide +kernel : fetch mX12_turn 217 = some (.iload_n 2)),
  by intros; exact G_at (by decide +kernel : fetch mX12_turn 218 = some (.iconst 3)),
  by intros; exact G_callS (k := 2) (kd := 0) (by decide +kernel : fetch mX12_turn 219 = some (.invokestatic 92)) (by decide +kernel) (by decide +kernel) (by decide +kernel) rfl (by decide),
  by intros; exact G_at (by decide +kernel : fetch mX12_turn 222 = some (.dup2)),
  by intros; exact G_at (by decide +kernel : fetch mX12_turn 223 = some (.iaload)),
  by intros; exact G_at (by decide +kernel : fetch mX12_turn 224 = some (.iconst 1)),
  by intros; exact G_at (by decide +kernel : fetch mX12_turn 225 = some (.iadd)),
  by intros; exact G_at (by decide +kernel : fetch mX12_turn 226 = some (.iastore)),
  by intros; exact G_at (by decide +kernel : fetch mX12_turn 227 = some (.aload_n 0)),
  by intros; exact G_at (by decide +kernel : fetch mX12_turn 228 = some (.dup)),
  by intros; exact G_at (by decide +kernel : fetch mX12_turn 228 = some (.dup)),
  by intros; exact G_own (by decide +kernel : fetch mX12_turn 229 = some (.getfield 75)) (by decide +kernel),
  by intros; exact G_at (by decide +kernel : fetch mX12_turn 232 = some (.iconst 1)),
  by intros; exact G_at (by decide +kernel : fetch mX12_turn 233 = some (.iadd)),
  by intros; exact G_ownW (by decide +kernel : fetch mX12_turn 234 = some (.putfield 75)) (by decide +kernel) (by decide +kernel),
  by intros; exact G_at (by decide +kernel : fetch mX12_turn 237 = some (.aload_n 1)),
  by intros; exact G_at (by decide +kernel : fetch mX12_turn 238 = some (.iload_n 2)),
  by intros; exact G_at (by decide +kernel : fetch mX12_turn 239 = some (.iconst 3)),
  by intros; exact G_callS (k := 2) (kd := 0) (by decide +kernel : fetch mX12_turn 240 = some (.invokestatic 92)) (by decide +kernel) (by decide +kernel) (by decide +kernel) rfl (by decide),
  by intros; exact G_at (by decide +kernel : fetch mX12_turn 243 = some (.iaload)),
  by intros; exact G_at (by decide +kernel : fetch mX12_turn 244 = some (.bipush 6)),
  by intros; exact G_at (by decide +kernel : fetch mX12_turn 246 = some (.if_icmp .ne 14)),
  by intros; exact G_at (by decide +kernel : fetch mX12_turn 249 = some (.aload_n 0)),
  by intros; exact G_at (by decide +kernel : fetch mX12_turn 250 = some (.aload_n 1)),
  by intros; exact G_at (by decide +kernel : fetch mX12_turn 251 = some (.iload 4)),
  by intros; exact G_at (by decide +kernel : fetch mX12_turn 253 = some (.iload 5)),
  by intros; exact G_at (by decide +kernel : fetch mX12_turn 255 = some (.iload_n 2)),
  by intros; exact G_at (by decide +kernel : fetch mX12_turn 256 = some (.iconst 1)),
  by intros; exact G_callV (by decide +kernel : fetch mX12_turn 257 = some (.invokevirtual 138)) (by decide +kernel) (by decide +kernel) rfl,
  by intros; exact G_at (by decide +kernel : fetch mX12_turn 260 = some (.iload_n 3)),
  by intros; exact G_at (by decide +kernel : fetch mX12_turn 261 = some (.iconst 1)),
  by intros; exact G_at (by decide +kernel : fetch mX12_turn 262 = some (.iload 7)),
  by intros; exact G_at (by decide +kernel : fetch mX12_turn 264 = some (.ishl)),
  by intros; exact G_at (by decide +kernel : fetch mX12_turn 265 = some (.ior)),
  by intros; exact G_at (by decide +kernel : fetch mX12_turn 266 = some (.iconst 1)),
  by intros; exact G_at (by decide +kernel : fetch mX12_turn 267 = some (.iconst 5)),
  by intros; exact G_at (by decide +kernel : fetch mX12_turn 268 = some (.iload 8)),
  by intros; exact G_at (by decide +kernel : fetch mX12_turn 270 = some (.iadd)),
  by intros; exact G_at (by decide +kernel : fetch mX12_turn 271 = some (.ishl)),
  by intros; exact G_at (by decide +kernel : fetch mX12_turn 272 = some (.ior)),
  by intros; exact G_reti (by decide +kernel : fetch mX12_turn 273 = some (.ireturn)) (by decide +kernel),
  by decide +kernel,
  by decide +kernel,
  by decide +kernel,
  by decide +kernel,
  by decide +kernel,
  by decide +kernel,
  by decide +kernel,
  by decide +kernel,
  by decide +kernel⟩
end GG
