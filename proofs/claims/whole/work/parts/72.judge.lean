set_option maxRecDepth 16384
/-! ===== a call: judge ===== -/
section GG
variable {sp : Nat → List iV → iH → Option (Option iV × iH)} {sc : List Int}
theorem gX12_judge_m : (∀ (n d : Nat) (L : List (Option iV)) (st : List iV) (h : iH) (Q : Option iV → iH → Prop), G sp sc [47, 125] d mX12_judge (n + 1) 0 L st h Q = (match ld L 0 with | some (.inr (.inr (r + 1))) => G sp sc [47, 125] d mX12_judge n 1 L (.inr (.inr (r + 1)) :: st) h Q | _ => False)) ∧
  (∀ (n d : Nat) (L : List (Option iV)) (st : List iV) (h : iH) (Q : Option iV → iH → Prop), G sp sc [47, 125] d mX12_judge (n + 1) 1 L st h Q = (match ld L 1 with | some (.inl x) => G sp sc [47, 125] d mX12_judge n 2 L (.inl x :: st) h Q | _ => False)) ∧
  (∀ (n d : Nat) (L : List (Option iV)) (st : List iV) (h : iH) (Q : Option iV → iH → Prop), G sp sc [47, 125] d mX12_judge (n + 1) 2 L st h Q = (match ld L 2 with | some (.inl x) => G sp sc [47, 125] d mX12_judge n 3 L (.inl x :: st) h Q | _ => False)) ∧
  (∀ (n d : Nat) (L : List (Option iV)) (r : List iV) (m : Nat) (z0 : iV) (z1 : iV) (h : iH) (Q : Option iV → iH → Prop), G sp sc [47, 125] (d + 1) mX12_judge (n + 1) 3 L (z1 :: z0 :: .inr (.inr (m + 2)) :: r) h Q = (match h.1[m]? with | some (.inl (ci, _)) => (match lkC 12 175 ci with | some (y1, n1, kd) => (n1 = 2 ∧ (kd = 2 ∨ kd = 3 ∨ kd = 8) ∧ cs r ≤ 8) ∧ Call sp sc d y1 [.inr (.inr (m + 2)), z0, z1] h (fun q h1 => GC sp sc [47, 125] (d + 1) mX12_judge n 6 L q r h h1 Q) | none => False) | _ => False)) ∧
  (∀ (n d : Nat) (L : List (Option iV)) (a : Int) (r : List iV) (h : iH) (Q : Option iV → iH → Prop), G sp sc [47, 125] d mX12_judge (n + 1) 6 L (.inl a :: r) h Q = (inI a = true ∧ (a = 0 → G sp sc [47, 125] d mX12_judge n 20 L r h Q) ∧ (¬ (a = 0) → G sp sc [47, 125] d mX12_judge n 9 L r h Q))) ∧
  (∀ (n d : Nat) (L : List (Option iV)) (st : List iV) (h : iH) (Q : Option iV → iH → Prop), G sp sc [47, 125] d mX12_judge (n + 1) 9 L st h Q = (match ld L 0 with | some (.inr (.inr (r + 1))) => G sp sc [47, 125] d mX12_judge n 10 L (.inr (.inr (r + 1)) :: st) h Q | _ => False)) ∧
  (∀ (n d : Nat) (L : List (Option iV)) (st : List iV) (h : iH) (Q : Option iV → iH → Prop), G sp sc [47, 125] d mX12_judge (n + 1) 10 L st h Q = G sp sc [47, 125] d mX12_judge n 11 L (.inl 1 :: st) h Q) ∧
  (∀ (n d : Nat) (L : List (Option iV)) (st : List iV) (h : iH) (Q : Option iV → iH → Prop), G sp sc [47, 125] d mX12_judge (n + 1) 11 L st h Q = (match ld L 1 with | some (.inl x) => G sp sc [47, 125] d mX12_judge n 12 L (.inl x :: st) h Q | _ => False)) ∧
  (∀ (n d : Nat) (L : List (Option iV)) (a : Int) (b : Int) (r : List iV) (h : iH) (Q : Option iV → iH → Prop), G sp sc [47, 125] d mX12_judge (n + 1) 12 L (.inl b :: .inl a :: r) h Q = G sp sc [47, 125] d mX12_judge n 13 L (.inl (a - b) :: r) h Q) ∧
  (∀ (n d : Nat) (L : List (Option iV)) (st : List iV) (h : iH) (Q : Option iV → iH → Prop), G sp sc [47, 125] d mX12_judge (n + 1) 13 L st h Q = (match ld L 3 with | some (.inl x) => G sp sc [47, 125] d mX12_judge n 14 L (.inl x :: st) h Q | _ => False)) ∧
  (∀ (n d : Nat) (L : List (Option iV)) (r : List iV) (m : Nat) (z0 : iV) (z1 : iV) (h : iH) (Q : Option iV → iH → Prop), G sp sc [47, 125] (d + 1) mX12_judge (n + 1) 14 L (z1 :: z0 :: .inr (.inr (m + 2)) :: r) h Q = (match h.1[m]? with | some (.inl (ci, _)) => (match lkC 12 175 ci with | some (y1, n1, kd) => (n1 = 2 ∧ (kd = 2 ∨ kd = 3 ∨ kd = 8) ∧ cs r ≤ 8) ∧ Call sp sc d y1 [.inr (.inr (m + 2)), z0, z1] h (fun q h1 => GC sp sc [47, 125] (d + 1) mX12_judge n 17 L q r h h1 Q) | none => False) | _ => False)) ∧
  (∀ (n d : Nat) (L : List (Option iV)) (a : Int) (r : List iV) (h : iH) (Q : Option iV → iH → Prop), G sp sc [47, 125] d mX12_judge (n + 1) 17 L (.inl a :: r) h Q = (inI a = true ∧ (¬ a = 0 → G sp sc [47, 125] d mX12_judge n 22 L r h Q) ∧ (¬ (¬ a = 0) → G sp sc [47, 125] d mX12_judge n 20 L r h Q))) ∧
  (∀ (n d : Nat) (L : List (Option iV)) (st : List iV) (h : iH) (Q : Option iV → iH → Prop), G sp sc [47, 125] d mX12_judge (n + 1) 20 L st h Q = G sp sc [47, 125] d mX12_judge n 21 L (.inl (-1) :: st) h Q) ∧
  (∀ (n d : Nat) (L : List (Option iV)) (a : Int) (h : iH) (Q : Option iV → iH → Prop), G sp sc [47, 125] d mX12_judge (n + 1) 21 L [.inl a] h Q = Q (some (.inl a)) h) ∧
  (∀ (n d : Nat) (L : List (Option iV)) (st : List iV) (h : iH) (Q : Option iV → iH → Prop), G sp sc [47, 125] d mX12_judge (n + 1) 22 L st h Q = (match ld L 0 with | some (.inr (.inr (r + 1))) => G sp sc [47, 125] d mX12_judge n 23 L (.inr (.inr (r + 1)) :: st) h Q | _ => False)) ∧
  (∀ (n d : Nat) (L : List (Option iV)) (st : List iV) (h : iH) (Q : Option iV → iH → Prop), G sp sc [47, 125] d mX12_judge (n + 1) 23 L st h Q = (match ld L 4 with | some (.inl x) => G sp sc [47, 125] d mX12_judge n 25 L (.inl x :: st) h Q | _ => False)) ∧
  (∀ (n d : Nat) (L : List (Option iV)) (st : List iV) (h : iH) (Q : Option iV → iH → Prop), G sp sc [47, 125] d mX12_judge (n + 1) 25 L st h Q = G sp sc [47, 125] d mX12_judge n 26 L (.inl (-1) :: st) h Q) ∧
  (∀ (n d : Nat) (L : List (Option iV)) (r : List iV) (m : Nat) (z0 : iV) (z1 : iV) (h : iH) (Q : Option iV → iH → Prop), G sp sc [47, 125] (d + 1) mX12_judge (n + 1) 26 L (z1 :: z0 :: .inr (.inr (m + 2)) :: r) h Q = (match h.1[m]? with | some (.inl (ci, _)) => (match lkC 12 184 ci with | some (y1, n1, kd) => (n1 = 2 ∧ (kd = 2 ∨ kd = 3 ∨ kd = 8) ∧ cs r ≤ 8) ∧ Call sp sc d y1 [.inr (.inr (m + 2)), z0, z1] h (fun q h1 => GC sp sc [47, 125] (d + 1) mX12_judge n 29 L q r h h1 Q) | none => False) | _ => False)) ∧
  (∀ (n d : Nat) (L : List (Option iV)) (r : List iV) (x : Int) (h : iH) (Q : Option iV → iH → Prop), G sp sc [47, 125] d mX12_judge (n + 1) 29 L (.inl x :: r) h Q = (match st1 L 5 (.inl x) with | some L' => G sp sc [47, 125] d mX12_judge n 31 L' r h Q | none => False)) ∧
  (∀ (n d : Nat) (L : List (Option iV)) (st : List iV) (h : iH) (Q : Option iV → iH → Prop), G sp sc [47, 125] d mX12_judge (n + 1) 31 L st h Q = (match ld L 5 with | some (.inl x) => G sp sc [47, 125] d mX12_judge n 33 L (.inl x :: st) h Q | _ => False)) ∧
  (∀ (n d : Nat) (L : List (Option iV)) (a : Int) (r : List iV) (h : iH) (Q : Option iV → iH → Prop), G sp sc [47, 125] d mX12_judge (n + 1) 33 L (.inl a :: r) h Q = (inI a = true ∧ (a = 0 → G sp sc [47, 125] d mX12_judge n 39 L r h Q) ∧ (¬ (a = 0) → G sp sc [47, 125] d mX12_judge n 36 L r h Q))) ∧
  (∀ (n d : Nat) (L : List (Option iV)) (st : List iV) (h : iH) (Q : Option iV → iH → Prop), G sp sc [47, 125] d mX12_judge (n + 1) 36 L st h Q = (match ld L 5 with | some (.inl x) => G sp sc [47, 125] d mX12_judge n 38 L (.inl x :: st) h Q | _ => False)) ∧
  (∀ (n d : Nat) (L : List (Option iV)) (a : Int) (h : iH) (Q : Option iV → iH → Prop), G sp sc [47, 125] d mX12_judge (n + 1) 38 L [.inl a] h Q = Q (some (.inl a)) h) ∧
  (∀ (n d : Nat) (L : List (Option iV)) (st : List iV) (h : iH) (Q : Option iV → iH → Prop), G sp sc [47, 125] d mX12_judge (n + 1) 39 L st h Q = (match ld L 0 with | some (.inr (.inr (r + 1))) => G sp sc [47, 125] d mX12_judge n 40 L (.inr (.inr (r + 1)) :: st) h Q | _ => False)) ∧
  (∀ (n d : Nat) (L : List (Option iV)) (st : List iV) (h : iH) (Q : Option iV → iH → Prop), G sp sc [47, 125] d mX12_judge (n + 1) 40 L st h Q = G sp sc [47, 125] d mX12_judge n 41 L (.inl 0 :: st) h Q) ∧
  (∀ (n d : Nat) (L : List (Option iV)) (r : List iV) (m : Nat) (z0 : iV) (h : iH) (Q : Option iV → iH → Prop), G sp sc [47, 125] (d + 1) mX12_judge (n + 1) 41 L (z0 :: .inr (.inr (m + 2)) :: r) h Q = (match h.1[m]? with | some (.inl (ci, _)) => (match lkC 12 211 ci with | some (y1, n1, kd) => (n1 = 1 ∧ (kd = 2 ∨ kd = 3 ∨ kd = 8) ∧ cs r ≤ 8) ∧ Call sp sc d y1 [.inr (.inr (m + 2)), z0] h (fun q h1 => GC sp sc [47, 125] (d + 1) mX12_judge n 44 L q r h h1 Q) | none => False) | _ => False)) ∧
  (∀ (n d : Nat) (L : List (Option iV)) (st : List iV) (h : iH) (Q : Option iV → iH → Prop), G sp sc [47, 125] d mX12_judge (n + 1) 44 L st h Q = G sp sc [47, 125] d mX12_judge n 45 L (.inl 0 :: st) h Q) ∧
  (∀ (n d : Nat) (L : List (Option iV)) (r : List iV) (x : Int) (h : iH) (Q : Option iV → iH → Prop), G sp sc [47, 125] d mX12_judge (n + 1) 45 L (.inl x :: r) h Q = (match st1 L 6 (.inl x) with | some L' => Run sp sc d mX12_judge 47 L' r h Q | none => False)) ∧
  (∀ (n d : Nat) (L : List (Option iV)) (st : List iV) (h : iH) (Q : Option iV → iH → Prop), G sp sc [47, 125] d mX12_judge (n + 1) 47 L st h Q = (match ld L 6 with | some (.inl x) => G sp sc [47, 125] d mX12_judge n 49 L (.inl x :: st) h Q | _ => False)) ∧
  (∀ (n d : Nat) (L : List (Option iV)) (st : List iV) (h : iH) (Q : Option iV → iH → Prop), G sp sc [47, 125] d mX12_judge (n + 1) 49 L st h Q = (match ld L 0 with | some (.inr (.inr (r + 1))) => G sp sc [47, 125] d mX12_judge n 50 L (.inr (.inr (r + 1)) :: st) h Q | _ => False)) ∧
  (∀ (n d : Nat) (L : List (Option iV)) (r : List iV) (m : Nat) (h : iH) (Q : Option iV → iH → Prop), G sp sc [47, 125] d mX12_judge (n + 1) 50 L (.inr (.inr (m + 2)) :: r) h Q = (match h.1[m]? with | some (.inl (ci, fs)) => (match lkF 12 61 ci with | some k => (match fs[k]? with | some v => G sp sc [47, 125] d mX12_judge n 53 L (v :: r) h Q | none => False) | none => False) | _ => False)) ∧
  (∀ (n d : Nat) (L : List (Option iV)) (st : List iV) (h : iH) (Q : Option iV → iH → Prop), G sp sc [47, 125] d mX12_judge (n + 1) 53 L st h Q = (match ld L 4 with | some (.inl x) => G sp sc [47, 125] d mX12_judge n 55 L (.inl x :: st) h Q | _ => False)) ∧
  (∀ (n d : Nat) (L : List (Option iV)) (r : List iV) (j : Int) (m : Nat) (h : iH) (Q : Option iV → iH → Prop), G sp sc [47, 125] d mX12_judge (n + 1) 55 L (.inl j :: .inr (.inr (m + 2)) :: r) h Q = (match h.1[m]? with | some (.inr (.inl (0, xs))) => inA j xs.length = true ∧ G sp sc [47, 125] d mX12_judge n 56 L (.inl (xs.getD j.toNat 0) :: r) h Q | _ => False)) ∧
  (∀ (n d : Nat) (L : List (Option iV)) (a : Int) (b : Int) (r : List iV) (h : iH) (Q : Option iV → iH → Prop), G sp sc [47, 125] d mX12_judge (n + 1) 56 L (.inl b :: .inl a :: r) h Q = ((inI a = true ∧ inI b = true) ∧ (b ≤ a → G sp sc [47, 125] d mX12_judge n 193 L r h Q) ∧ (¬ (b ≤ a) → G sp sc [47, 125] d mX12_judge n 59 L r h Q))) ∧
  (∀ (n d : Nat) (L : List (Option iV)) (st : List iV) (h : iH) (Q : Option iV → iH → Prop), G sp sc [47, 125] d mX12_judge (n + 1) 59 L st h Q = (match ld L 0 with | some (.inr (.inr (r + 1))) => G sp sc [47, 125] d mX12_judge n 60 L (.inr (.inr (r + 1)) :: st) h Q | _ => False)) ∧
  (∀ (n d : Nat) (L : List (Option iV)) (r : List iV) (m : Nat) (h : iH) (Q : Option iV → iH → Prop), G sp sc [47, 125] d mX12_judge (n + 1) 60 L (.inr (.inr (m + 2)) :: r) h Q = (match h.1[m]? with | some (.inl (ci, fs)) => (match lkF 12 64 ci with | some k => (match fs[k]? with | some v => G sp sc [47, 125] d mX12_judge n 63 L (v :: r) h Q | none => False) | none => False) | _ => False)) ∧
  (∀ (n d : Nat) (L : List (Option iV)) (st : List iV) (h : iH) (Q : Option iV → iH → Prop), G sp sc [47, 125] d mX12_judge (n + 1) 63 L st h Q = ((-128 ≤ (100 : Int) ∧ (100 : Int) < 128) ∧ G sp sc [47, 125] d mX12_judge n 65 L (.inl 100 :: st) h Q)) ∧
  (∀ (n d : Nat) (L : List (Option iV)) (st : List iV) (h : iH) (Q : Option iV → iH → Prop), G sp sc [47, 125] d mX12_judge (n + 1) 65 L st h Q = (match ld L 4 with | some (.inl x) => G sp sc [47, 125] d mX12_judge n 67 L (.inl x :: st) h Q | _ => False)) ∧
  (∀ (n d : Nat) (L : List (Option iV)) (a : Int) (b : Int) (r : List iV) (h : iH) (Q : Option iV → iH → Prop), G sp sc [47, 125] d mX12_judge (n + 1) 67 L (.inl b :: .inl a :: r) h Q = G sp sc [47, 125] d mX12_judge n 68 L (.inl (a * b) :: r) h Q) ∧
  (∀ (n d : Nat) (L : List (Option iV)) (st : List iV) (h : iH) (Q : Option iV → iH → Prop), G sp sc [47, 125] d mX12_judge (n + 1) 68 L st h Q = (match ld L 6 with | some (.inl x) => G sp sc [47, 125] d mX12_judge n 70 L (.inl x :: st) h Q | _ => False)) ∧
  (∀ (n d : Nat) (L : List (Option iV)) (a : Int) (b : Int) (r : List iV) (h : iH) (Q : Option iV → iH → Prop), G sp sc [47, 125] d mX12_judge (n + 1) 70 L (.inl b :: .inl a :: r) h Q = G sp sc [47, 125] d mX12_judge n 71 L (.inl (a + b) :: r) h Q) ∧
  (∀ (n d : Nat) (L : List (Option iV)) (r : List iV) (j : Int) (m : Nat) (h : iH) (Q : Option iV → iH → Prop), G sp sc [47, 125] d mX12_judge (n + 1) 71 L (.inl j :: .inr (.inr (m + 2)) :: r) h Q = (match h.1[m]? with | some (.inr (.inl (0, xs))) => inA j xs.length = true ∧ G sp sc [47, 125] d mX12_judge n 72 L (.inl (xs.getD j.toNat 0) :: r) h Q | _ => False)) ∧
  (∀ (n d : Nat) (L : List (Option iV)) (r : List iV) (x : Int) (h : iH) (Q : Option iV → iH → Prop), G sp sc [47, 125] d mX12_judge (n + 1) 72 L (.inl x :: r) h Q = (match st1 L 7 (.inl x) with | some L' => G sp sc [47, 125] d mX12_judge n 74 L' r h Q | none => False)) ∧
  (∀ (n d : Nat) (L : List (Option iV)) (st : List iV) (h : iH) (Q : Option iV → iH → Prop), G sp sc [47, 125] d mX12_judge (n + 1) 74 L st h Q = (match ld L 0 with | some (.inr (.inr (r + 1))) => G sp sc [47, 125] d mX12_judge n 75 L (.inr (.inr (r + 1)) :: st) h Q | _ => False)) ∧
  (∀ (n d : Nat) (L : List (Option iV)) (r : List iV) (m : Nat) (h : iH) (Q : Option iV → iH → Prop), G sp sc [47, 125] d mX12_judge (n + 1) 75 L (.inr (.inr (m + 2)) :: r) h Q = (match h.1[m]? with | some (.inl (ci, fs)) => (match lkF 12 58 ci with | some k => (match fs[k]? with | some v => G sp sc [47, 125] d mX12_judge n 78 L (v :: r) h Q | none => False) | none => False) | _ => False)) ∧
  (∀ (n d : Nat) (L : List (Option iV)) (st : List iV) (h : iH) (Q : Option iV → iH → Prop), G sp sc [47, 125] d mX12_judge (n + 1) 78 L st h Q = (match ld L 4 with | some (.inl x) => G sp sc [47, 125] d mX12_judge n 80 L (.inl x :: st) h Q | _ => False)) ∧
  (∀ (n d : Nat) (L : List (Option iV)) (r : List iV) (j : Int) (m : Nat) (h : iH) (Q : Option iV → iH → Prop), G sp sc [47, 125] d mX12_judge (n + 1) 80 L (.inl j :: .inr (.inr (m + 2)) :: r) h Q = (match h.1[m]? with | some (.inr (.inl (0, xs))) => inA j xs.length = true ∧ G sp sc [47, 125] d mX12_judge n 81 L (.inl (xs.getD j.toNat 0) :: r) h Q | _ => False)) ∧
  (∀ (n d : Nat) (L : List (Option iV)) (a : Int) (r : List iV) (h : iH) (Q : Option iV → iH → Prop), G sp sc [47, 125] d mX12_judge (n + 1) 81 L (.inl a :: r) h Q = (inI a = true ∧ (¬ a = 0 → G sp sc [47, 125] d mX12_judge n 99 L r h Q) ∧ (¬ (¬ a = 0) → G sp sc [47, 125] d mX12_judge n 84 L r h Q))) ∧
  (∀ (n d : Nat) (L : List (Option iV)) (st : List iV) (h : iH) (Q : Option iV → iH → Prop), G sp sc [47, 125] d mX12_judge (n + 1) 84 L st h Q = (match ld L 7 with | some (.inl x) => G sp sc [47, 125] d mX12_judge n 86 L (.inl x :: st) h Q | _ => False)) ∧
  (∀ (n d : Nat) (L : List (Option iV)) (st : List iV) (h : iH) (Q : Option iV → iH → Prop), G sp sc [47, 125] d mX12_judge (n + 1) 86 L st h Q = ((-128 ≤ ((-128) : Int) ∧ ((-128) : Int) < 128) ∧ G sp sc [47, 125] d mX12_judge n 88 L (.inl (-128) :: st) h Q)) ∧
  (∀ (n d : Nat) (L : List (Option iV)) (a : Int) (b : Int) (r : List iV) (h : iH) (Q : Option iV → iH → Prop), G sp sc [47, 125] d mX12_judge (n + 1) 88 L (.inl b :: .inl a :: r) h Q = ((inI a = true ∧ inI b = true) ∧ (¬ a = b → G sp sc [47, 125] d mX12_judge n 95 L r h Q) ∧ (¬ (¬ a = b) → G sp sc [47, 125] d mX12_judge n 91 L r h Q))) ∧
  (∀ (n d : Nat) (L : List (Option iV)) (st : List iV) (h : iH) (Q : Option iV → iH → Prop), G sp sc [47, 125] d mX12_judge (n + 1) 91 L st h Q = G sp sc [47, 125] d mX12_judge n 92 L (.inl 1 :: st) h Q) ∧
  (∀ (n d : Nat) (L : List (Option iV)) (st : List iV) (h : iH) (Q : Option iV → iH → Prop), G sp sc [47, 125] d mX12_judge (n + 1) 92 L st h Q = G sp sc [47, 125] d mX12_judge n 123 L st h Q) ∧
  (∀ (n d : Nat) (L : List (Option iV)) (st : List iV) (h : iH) (Q : Option iV → iH → Prop), G sp sc [47, 125] d mX12_judge (n + 1) 95 L st h Q = G sp sc [47, 125] d mX12_judge n 96 L (.inl 0 :: st) h Q) ∧
  (∀ (n d : Nat) (L : List (Option iV)) (st : List iV) (h : iH) (Q : Option iV → iH → Prop), G sp sc [47, 125] d mX12_judge (n + 1) 96 L st h Q = G sp sc [47, 125] d mX12_judge n 123 L st h Q) ∧
  (∀ (n d : Nat) (L : List (Option iV)) (st : List iV) (h : iH) (Q : Option iV → iH → Prop), G sp sc [47, 125] d mX12_judge (n + 1) 99 L st h Q = (match ld L 0 with | some (.inr (.inr (r + 1))) => G sp sc [47, 125] d mX12_judge n 100 L (.inr (.inr (r + 1)) :: st) h Q | _ => False)) ∧
  (∀ (n d : Nat) (L : List (Option iV)) (r : List iV) (m : Nat) (h : iH) (Q : Option iV → iH → Prop), G sp sc [47, 125] d mX12_judge (n + 1) 100 L (.inr (.inr (m + 2)) :: r) h Q = (match h.1[m]? with | some (.inl (ci, fs)) => (match lkF 12 58 ci with | some k => (match fs[k]? with | some v => G sp sc [47, 125] d mX12_judge n 103 L (v :: r) h Q | none => False) | none => False) | _ => False)) ∧
  (∀ (n d : Nat) (L : List (Option iV)) (st : List iV) (h : iH) (Q : Option iV → iH → Prop), G sp sc [47, 125] d mX12_judge (n + 1) 103 L st h Q = (match ld L 4 with | some (.inl x) => G sp sc [47, 125] d mX12_judge n 105 L (.inl x :: st) h Q | _ => False)) ∧
  (∀ (n d : Nat) (L : List (Option iV)) (r : List iV) (j : Int) (m : Nat) (h : iH) (Q : Option iV → iH → Prop), G sp sc [47, 125] d mX12_judge (n + 1) 105 L (.inl j :: .inr (.inr (m + 2)) :: r) h Q = (match h.1[m]? with | some (.inr (.inl (0, xs))) => inA j xs.length = true ∧ G sp sc [47, 125] d mX12_judge n 106 L (.inl (xs.getD j.toNat 0) :: r) h Q | _ => False)) ∧
  (∀ (n d : Nat) (L : List (Option iV)) (st : List iV) (h : iH) (Q : Option iV → iH → Prop), G sp sc [47, 125] d mX12_judge (n + 1) 106 L st h Q = G sp sc [47, 125] d mX12_judge n 107 L (.inl 1 :: st) h Q) ∧
  (∀ (n d : Nat) (L : List (Option iV)) (a : Int) (b : Int) (r : List iV) (h : iH) (Q : Option iV → iH → Prop), G sp sc [47, 125] d mX12_judge (n + 1) 107 L (.inl b :: .inl a :: r) h Q = ((inI a = true ∧ inI b = true) ∧ (¬ a = b → G sp sc [47, 125] d mX12_judge n 122 L r h Q) ∧ (¬ (¬ a = b) → G sp sc [47, 125] d mX12_judge n 110 L r h Q))) ∧
  (∀ (n d : Nat) (L : List (Option iV)) (st : List iV) (h : iH) (Q : Option iV → iH → Prop), G sp sc [47, 125] d mX12_judge (n + 1) 110 L st h Q = (match ld L 7 with | some (.inl x) => G sp sc [47, 125] d mX12_judge n 112 L (.inl x :: st) h Q | _ => False)) ∧
  (∀ (n d : Nat) (L : List (Option iV)) (st : List iV) (h : iH) (Q : Option iV → iH → Prop), G sp sc [47, 125] d mX12_judge (n + 1) 112 L st h Q = G sp sc [47, 125] d mX12_judge n 115 L (.inl (-2147483648) :: st) h Q) ∧
  (∀ (n d : Nat) (L : List (Option iV)) (a : Int) (b : Int) (r : List iV) (h : iH) (Q : Option iV → iH → Prop), G sp sc [47, 125] d mX12_judge (n + 1) 115 L (.inl b :: .inl a :: r) h Q = ((inI a = true ∧ inI b = true) ∧ (¬ a = b → G sp sc [47, 125] d mX12_judge n 122 L r h Q) ∧ (¬ (¬ a = b) → G sp sc [47, 125] d mX12_judge n 118 L r h Q))) ∧
  (∀ (n d : Nat) (L : List (Option iV)) (st : List iV) (h : iH) (Q : Option iV → iH → Prop), G sp sc [47, 125] d mX12_judge (n + 1) 118 L st h Q = G sp sc [47, 125] d mX12_judge n 119 L (.inl 1 :: st) h Q) ∧
  (∀ (n d : Nat) (L : List (Option iV)) (st : List iV) (h : iH) (Q : Option iV → iH → Prop), G sp sc [47, 125] d mX12_judge (n + 1) 119 L st h Q = G sp sc [47, 125] d mX12_judge n 123 L st h Q) ∧
  (∀ (n d : Nat) (L : List (Option iV)) (st : List iV) (h : iH) (Q : Option iV → iH → Prop), G sp sc [47, 125] d mX12_judge (n + 1) 122 L st h Q = G sp sc [47, 125] d mX12_judge n 123 L (.inl 0 :: st) h Q) ∧
  (∀ (n d : Nat) (L : List (Option iV)) (r : List iV) (x : Int) (h : iH) (Q : Option iV → iH → Prop), G sp sc [47, 125] d mX12_judge (n + 1) 123 L (.inl x :: r) h Q = (match st1 L 8 (.inl x) with | some L' => Run sp sc d mX12_judge 125 L' r h Q | none => False)) ∧
  (∀ (n d : Nat) (L : List (Option iV)) (st : List iV) (h : iH) (Q : Option iV → iH → Prop), G sp sc [47, 125] d mX12_judge (n + 1) 125 L st h Q = (match ld L 6 with | some (.inl x) => G sp sc [47, 125] d mX12_judge n 127 L (.inl x :: st) h Q | _ => False)) ∧
  (∀ (n d : Nat) (L : List (Option iV)) (st : List iV) (h : iH) (Q : Option iV → iH → Prop), G sp sc [47, 125] d mX12_judge (n + 1) 127 L st h Q = ((-128 ≤ (60 : Int) ∧ (60 : Int) < 128) ∧ G sp sc [47, 125] d mX12_judge n 129 L (.inl 60 :: st) h Q)) ∧
  (∀ (n d : Nat) (L : List (Option iV)) (a : Int) (b : Int) (r : List iV) (h : iH) (Q : Option iV → iH → Prop), G sp sc [47, 125] d mX12_judge (n + 1) 129 L (.inl b :: .inl a :: r) h Q = ((inI a = true ∧ inI b = true) ∧ (a ≤ b → G sp sc [47, 125] d mX12_judge n 140 L r h Q) ∧ (¬ (a ≤ b) → G sp sc [47, 125] d mX12_judge n 132 L r h Q))) ∧
  (∀ (n d : Nat) (L : List (Option iV)) (st : List iV) (h : iH) (Q : Option iV → iH → Prop), G sp sc [47, 125] d mX12_judge (n + 1) 132 L st h Q = (match ld L 8 with | some (.inl x) => G sp sc [47, 125] d mX12_judge n 134 L (.inl x :: st) h Q | _ => False)) ∧
  (∀ (n d : Nat) (L : List (Option iV)) (a : Int) (r : List iV) (h : iH) (Q : Option iV → iH → Prop), G sp sc [47, 125] d mX12_judge (n + 1) 134 L (.inl a :: r) h Q = (inI a = true ∧ (a = 0 → G sp sc [47, 125] d mX12_judge n 140 L r h Q) ∧ (¬ (a = 0) → G sp sc [47, 125] d mX12_judge n 137 L r h Q))) ∧
  (∀ (n d : Nat) (L : List (Option iV)) (st : List iV) (h : iH) (Q : Option iV → iH → Prop), G sp sc [47, 125] d mX12_judge (n + 1) 137 L st h Q = G sp sc [47, 125] d mX12_judge n 187 L st h Q) ∧
  (∀ (n d : Nat) (L : List (Option iV)) (st : List iV) (h : iH) (Q : Option iV → iH → Prop), G sp sc [47, 125] d mX12_judge (n + 1) 140 L st h Q = (match ld L 6 with | some (.inl x) => G sp sc [47, 125] d mX12_judge n 142 L (.inl x :: st) h Q | _ => False)) ∧
  (∀ (n d : Nat) (L : List (Option iV)) (st : List iV) (h : iH) (Q : Option iV → iH → Prop), G sp sc [47, 125] d mX12_judge (n + 1) 142 L st h Q = ((-128 ≤ (60 : Int) ∧ (60 : Int) < 128) ∧ G sp sc [47, 125] d mX12_judge n 144 L (.inl 60 :: st) h Q)) ∧
  (∀ (n d : Nat) (L : List (Option iV)) (a : Int) (b : Int) (r : List iV) (h : iH) (Q : Option iV → iH → Prop), G sp sc [47, 125] d mX12_judge (n + 1) 144 L (.inl b :: .inl a :: r) h Q = ((inI a = true ∧ inI b = true) ∧ (a ≤ b → G sp sc [47, 125] d mX12_judge n 150 L r h Q) ∧ (¬ (a ≤ b) → G sp sc [47, 125] d mX12_judge n 147 L r h Q))) ∧
  (∀ (n d : Nat) (L : List (Option iV)) (st : List iV) (h : iH) (Q : Option iV → iH → Prop), G sp sc [47, 125] d mX12_judge (n + 1) 147 L st h Q = (match ld L 6 with | some (.inl x) => G sp sc [47, 125] d mX12_judge n 149 L (.inl x :: st) h Q | _ => False)) ∧
  (∀ (n d : Nat) (L : List (Option iV)) (a : Int) (h : iH) (Q : Option iV → iH → Prop), G sp sc [47, 125] d mX12_judge (n + 1) 149 L [.inl a] h Q = Q (some (.inl a)) h) ∧
  (∀ (n d : Nat) (L : List (Option iV)) (st : List iV) (h : iH) (Q : Option iV → iH → Prop), G sp sc [47, 125] d mX12_judge (n + 1) 150 L st h Q = (match ld L 6 with | some (.inl x) => G sp sc [47, 125] d mX12_judge n 152 L (.inl x :: st) h Q | _ => False)) ∧
  (∀ (n d : Nat) (L : List (Option iV)) (a : Int) (r : List iV) (h : iH) (Q : Option iV → iH → Prop), G sp sc [47, 125] d mX12_judge (n + 1) 152 L (.inl a :: r) h Q = (inI a = true ∧ (a ≤ 0 → G sp sc [47, 125] d mX12_judge n 163 L r h Q) ∧ (¬ (a ≤ 0) → G sp sc [47, 125] d mX12_judge n 155 L r h Q))) ∧
  (∀ (n d : Nat) (L : List (Option iV)) (st : List iV) (h : iH) (Q : Option iV → iH → Prop), G sp sc [47, 125] d mX12_judge (n + 1) 155 L st h Q = (match ld L 0 with | some (.inr (.inr (r + 1))) => G sp sc [47, 125] d mX12_judge n 156 L (.inr (.inr (r + 1)) :: st) h Q | _ => False)) ∧
  (∀ (n d : Nat) (L : List (Option iV)) (st : List iV) (h : iH) (Q : Option iV → iH → Prop), G sp sc [47, 125] d mX12_judge (n + 1) 156 L st h Q = (match ld L 0 with | some (.inr (.inr (r + 1))) => G sp sc [47, 125] d mX12_judge n 157 L (.inr (.inr (r + 1)) :: st) h Q | _ => False)) ∧
  (∀ (n d : Nat) (L : List (Option iV)) (r : List iV) (m : Nat) (h : iH) (Q : Option iV → iH → Prop), G sp sc [47, 125] d mX12_judge (n + 1) 157 L (.inr (.inr (m + 2)) :: r) h Q = (match h.1[m]? with | some (.inl (ci, fs)) => (match lkF 12 13 ci with | some k => (match fs[k]? with | some v => G sp sc [47, 125] d mX12_judge n 160 L (v :: r) h Q | none => False) | none => False) | _ => False)) ∧
  (∀ (n d : Nat) (L : List (Option iV)) (r : List iV) (m : Nat) (z0 : iV) (h : iH) (Q : Option iV → iH → Prop), G sp sc [47, 125] (d + 1) mX12_judge (n + 1) 160 L (z0 :: .inr (.inr (m + 2)) :: r) h Q = (match h.1[m]? with | some (.inl (ci, _)) => (match lkC 12 152 ci with | some (y1, n1, kd) => (n1 = 1 ∧ (kd = 2 ∨ kd = 3 ∨ kd = 8) ∧ cs r ≤ 8) ∧ Call sp sc d y1 [.inr (.inr (m + 2)), z0] h (fun q h1 => GC sp sc [47, 125] (d + 1) mX12_judge n 163 L q r h h1 Q) | none => False) | _ => False)) ∧
  (∀ (n d : Nat) (L : List (Option iV)) (st : List iV) (h : iH) (Q : Option iV → iH → Prop), G sp sc [47, 125] d mX12_judge (n + 1) 163 L st h Q = (match ld L 8 with | some (.inl x) => G sp sc [47, 125] d mX12_judge n 165 L (.inl x :: st) h Q | _ => False)) ∧
  (∀ (n d : Nat) (L : List (Option iV)) (a : Int) (r : List iV) (h : iH) (Q : Option iV → iH → Prop), G sp sc [47, 125] d mX12_judge (n + 1) 165 L (.inl a :: r) h Q = (inI a = true ∧ (¬ a = 0 → G sp sc [47, 125] d mX12_judge n 187 L r h Q) ∧ (¬ (¬ a = 0) → G sp sc [47, 125] d mX12_judge n 168 L r h Q))) ∧
  (∀ (n d : Nat) (L : List (Option iV)) (st : List iV) (h : iH) (Q : Option iV → iH → Prop), G sp sc [47, 125] d mX12_judge (n + 1) 168 L st h Q = (match ld L 7 with | some (.inl x) => G sp sc [47, 125] d mX12_judge n 170 L (.inl x :: st) h Q | _ => False)) ∧
  (∀ (n d : Nat) (L : List (Option iV)) (st : List iV) (h : iH) (Q : Option iV → iH → Prop), G sp sc [47, 125] d mX12_judge (n + 1) 170 L st h Q = (match ld L 0 with | some (.inr (.inr (r + 1))) => G sp sc [47, 125] d mX12_judge n 171 L (.inr (.inr (r + 1)) :: st) h Q | _ => False)) ∧
  (∀ (n d : Nat) (L : List (Option iV)) (r : List iV) (m : Nat) (h : iH) (Q : Option iV → iH → Prop), G sp sc [47, 125] d mX12_judge (n + 1) 171 L (.inr (.inr (m + 2)) :: r) h Q = (match h.1[m]? with | some (.inl (ci, fs)) => (match lkF 12 13 ci with | some k => (match fs[k]? with | some v => G sp sc [47, 125] d mX12_judge n 174 L (v :: r) h Q | none => False) | none => False) | _ => False)) ∧
  (∀ (n d : Nat) (L : List (Option iV)) (st : List iV) (h : iH) (Q : Option iV → iH → Prop), G sp sc [47, 125] d mX12_judge (n + 1) 174 L st h Q = (match ld L 1 with | some (.inl x) => G sp sc [47, 125] d mX12_judge n 175 L (.inl x :: st) h Q | _ => False)) ∧
  (∀ (n d : Nat) (L : List (Option iV)) (st : List iV) (h : iH) (Q : Option iV → iH → Prop), G sp sc [47, 125] d mX12_judge (n + 1) 175 L st h Q = (match ld L 2 with | some (.inl x) => G sp sc [47, 125] d mX12_judge n 176 L (.inl x :: st) h Q | _ => False)) ∧
  (∀ (n d : Nat) (L : List (Option iV)) (st : List iV) (h : iH) (Q : Option iV → iH → Prop), G sp sc [47, 125] d mX12_judge (n + 1) 176 L st h Q = (match ld L 3 with | some (.inl x) => G sp sc [47, 125] d mX12_judge n 177 L (.inl x :: st) h Q | _ => False)) ∧
  (∀ (n d : Nat) (L : List (Option iV)) (r : List iV) (z0 : iV) (z1 : iV) (z2 : iV) (h : iH) (Q : Option iV → iH → Prop), G sp sc [47, 125] (d + 1) mX12_judge (n + 1) 177 L (z2 :: z1 :: z0 :: r) h Q = (cs r ≤ 8 ∧ Call sp sc d mX12_atLike [z0, z1, z2] h (fun q h1 => GC sp sc [47, 125] (d + 1) mX12_judge n 180 L q r h h1 Q))) ∧
  (∀ (n d : Nat) (L : List (Option iV)) (r : List iV) (j : Int) (m : Nat) (h : iH) (Q : Option iV → iH → Prop), G sp sc [47, 125] d mX12_judge (n + 1) 180 L (.inl j :: .inr (.inr (m + 2)) :: r) h Q = (match h.1[m]? with | some (.inr (.inl (0, xs))) => inA j xs.length = true ∧ G sp sc [47, 125] d mX12_judge n 181 L (.inl (xs.getD j.toNat 0) :: r) h Q | _ => False)) ∧
  (∀ (n d : Nat) (L : List (Option iV)) (a : Int) (b : Int) (r : List iV) (h : iH) (Q : Option iV → iH → Prop), G sp sc [47, 125] d mX12_judge (n + 1) 181 L (.inl b :: .inl a :: r) h Q = ((inI a = true ∧ inI b = true) ∧ (a = b → G sp sc [47, 125] d mX12_judge n 187 L r h Q) ∧ (¬ (a = b) → G sp sc [47, 125] d mX12_judge n 184 L r h Q))) ∧
  (∀ (n d : Nat) (L : List (Option iV)) (st : List iV) (h : iH) (Q : Option iV → iH → Prop), G sp sc [47, 125] d mX12_judge (n + 1) 184 L st h Q = (match ld L 6 with | some (.inl x) => G sp sc [47, 125] d mX12_judge n 186 L (.inl x :: st) h Q | _ => False)) ∧
  (∀ (n d : Nat) (L : List (Option iV)) (a : Int) (h : iH) (Q : Option iV → iH → Prop), G sp sc [47, 125] d mX12_judge (n + 1) 186 L [.inl a] h Q = Q (some (.inl a)) h) ∧
  (∀ (n d : Nat) (L : List (Option iV)) (st : List iV) (h : iH) (Q : Option iV → iH → Prop), G sp sc [47, 125] d mX12_judge (n + 1) 187 L st h Q = (match ld L 6 with | some (.inl x) => (match st1 L 6 (.inl (x + 1)) with | some L' => G sp sc [47, 125] d mX12_judge n 190 L' st h Q | none => False) | _ => False)) ∧
  (∀ (n d : Nat) (L : List (Option iV)) (st : List iV) (h : iH) (Q : Option iV → iH → Prop), G sp sc [47, 125] d mX12_judge (n + 1) 190 L st h Q = Run sp sc d mX12_judge 47 L st h Q) ∧
  (∀ (n d : Nat) (L : List (Option iV)) (st : List iV) (h : iH) (Q : Option iV → iH → Prop), G sp sc [47, 125] d mX12_judge (n + 1) 193 L st h Q = ((-128 ≤ ((-4) : Int) ∧ ((-4) : Int) < 128) ∧ G sp sc [47, 125] d mX12_judge n 195 L (.inl (-4) :: st) h Q)) ∧
  (∀ (n d : Nat) (L : List (Option iV)) (a : Int) (h : iH) (Q : Option iV → iH → Prop), G sp sc [47, 125] d mX12_judge (n + 1) 195 L [.inl a] h Q = Q (some (.inl a)) h) ∧
  lkC 12 152 12 = some (mX12_goes, 1, 2) ∧
  lkC 12 175 12 = some (mX12_isOne, 2, 2) ∧
  lkC 12 184 12 = some (mX12_wrongRow, 2, 2) ∧
  lkC 12 211 12 = some (mX12_inMind, 1, 2) ∧
  lkF 12 13 12 = some 1 ∧
  lkF 12 58 12 = some 29 ∧
  lkF 12 61 12 = some 30 ∧
  lkF 12 64 12 = some 31 := ⟨by intros; exact G_at (by decide +kernel : fetch mX12_judge 0 = some (.aload_n 0)),
  by intros; exact G_at (by decide +kernel : fetch mX12_judge 1 = some (.iload_n 1)),
  by intros; exact G_at (by decide +kernel : fetch mX12_judge 2 = some (.iload_n 2)),
  by intros; exact G_callV (by decide +kernel : fetch mX12_judge 3 = some (.invokevirtual 175)) (by decide +kernel) (by decide +kernel) rfl,
  by intros; exact G_at (by decide +kernel : fetch mX12_judge 6 = some (.ifCond .eq 14)),
  by intros; exact G_at (by decide +kernel : fetch mX12_judge 9 = some (.aload_n 0)),
  by intros; exact G_at (by decide +kernel : fetch mX12_judge 10 = some (.iconst 1)),
  by intros; exact G_at (by decide +kernel : fetch mX12_judge 11 = some (.iload_n 1)),
  by intros; exact G_at (by decide +kernel : fetch mX12_judge 12 = some (.isub)),
  by intros; exact G_at (by decide +kernel : fetch mX12_judge 13 = some (.iload_n 3)),
  by intros; exact G_callV (by decide +kernel : fetch mX12_judge 14 = some (.invokevirtual 175)) (by decide +kernel) (by decide +kernel) rfl,
  by intros; exact G_at (by decide +kernel : fetch mX12_judge 17 = some (.ifCond .ne 5)),
  by intros; exact G_at (by decide +kernel : fetch mX12_judge 20 = some (.iconst (-1))),
  by intros; exact G_reti (by decide +kernel : fetch mX12_judge 21 = some (.ireturn)) (by decide +kernel),
  by intros; exact G_at (by decide +kernel : fetch mX12_judge 22 = some (.aload_n 0)),
  by intros; exact G_at (by decide +kernel : fetch mX12_judge 23 = some (.iload 4)),
  by intros; exact G_at (by decide +kernel : fetch mX12_judge 25 = some (.iconst (-1))),
  by intros; exact G_callV (by decide +kernel : fetch mX12_judge 26 = some (.invokevirtual 184)) (by decide +kernel) (by decide +kernel) rfl,
  by intros; exact G_at (by decide +kernel : fetch mX12_judge 29 = some (.istore 5)),
  by intros; exact G_at (by decide +kernel : fetch mX12_judge 31 = some (.iload 5)),
  by intros; exact G_at (by decide +kernel : fetch mX12_judge 33 = some (.ifCond .eq 6)),
  by intros; exact G_at (by decide +kernel : fetch mX12_judge 36 = some (.iload 5)),
  by intros; exact G_reti (by decide +kernel : fetch mX12_judge 38 = some (.ireturn)) (by decide +kernel),
  by intros; exact G_at (by decide +kernel : fetch mX12_judge 39 = some (.aload_n 0)),
  by intros; exact G_at (by decide +kernel : fetch mX12_judge 40 = some (.iconst 0)),
  by intros; exact G_callV (by decide +kernel : fetch mX12_judge 41 = some (.invokevirtual 211)) (by decide +kernel) (by decide +kernel) rfl,
  by intros; exact G_at (by decide +kernel : fetch mX12_judge 44 = some (.iconst 0)),
  by intros; exact G_at (by decide +kernel : fetch mX12_judge 45 = some (.istore 6)),
  by intros; exact G_at (by decide +kernel : fetch mX12_judge 47 = some (.iload 6)),
  by intros; exact G_at (by decide +kernel : fetch mX12_judge 49 = some (.aload_n 0)),
  by intros; exact G_own (by decide +kernel : fetch mX12_judge 50 = some (.getfield 61)) (by decide +kernel),
  by intros; exact G_at (by decide +kernel : fetch mX12_judge 53 = some (.iload 4)),
  by intros; exact G_at (by decide +kernel : fetch mX12_judge 55 = some (.iaload)),
  by intros; exact G_at (by decide +kernel : fetch mX12_judge 56 = some (.if_icmp .ge 137)),
  by intros; exact G_at (by decide +kernel : fetch mX12_judge 59 = some (.aload_n 0)),
  by intros; exact G_own (by decide +kernel : fetch mX12_judge 60 = some (.getfield 64)) (by decide +kernel),
  by intros; exact G_at (by decide +kernel : fetch mX12_judge 63 = some (.bipush 100)),
  by intros; exact G_at (by decide +kernel : fetch mX12_judge 65 = some (.iload 4)),
  by intros; exact G_at (by decide +kernel : fetch mX12_judge 67 = some (.imul)),
  by intros; exact G_at (by decide +kernel : fetch mX12_judge 68 = some (.iload 6)),
  by intros; exact G_at (by decide +kernel : fetch mX12_judge 70 = some (.iadd)),
  by intros; exact G_at (by decide +kernel : fetch mX12_judge 71 = some (.iaload)),
  by intros; exact G_at (by decide +kernel : fetch mX12_judge 72 = some (.istore 7)),
  by intros; exact G_at (by decide +kernel : fetch mX12_judge 74 = some (.aload_n 0)),
  by intros; exact G_own (by decide +kernel : fetch mX12_judge 75 = some (.getfield 58)) (by decide +kernel),
  by intros; exact G_at (by decide +kernel : fetch mX12_judge 78 = some (.iload 4)),
  by intros; exact G_at (by decide +kernel : fetch mX12_judge 80 = some (.iaload)),
  by intros; exact G_at (by decide +kernel : fetch mX12_judge 81 = some (.ifCond .ne 18)),
  by intros; exact G_at (by decide +kernel : fetch mX12_judge 84 = some (.iload 7)),
  by intros; exact G_at (by decide +kernel : fetch mX12_judge 86 = some (.bipush (-128))),
  by intros; exact G_at (by decide +kernel : fetch mX12_judge 88 = some (.if_icmp .ne 7)),
  by intros; exact G_at (by decide +kernel : fetch mX12_judge 91 = some (.iconst 1)),
  by intros; exact G_at (by decide +kernel : fetch mX12_judge 92 = some (.goto 31)),
  by intros; exact G_at (by decide +kernel : fetch mX12_judge 95 = some (.iconst 0)),
  by intros; exact G_at (by decide +kernel : fetch mX12_judge 96 = some (.goto 27)),
  by intros; exact G_at (by decide +kernel : fetch mX12_judge 99 = some (.aload_n 0)),
  by intros; exact G_own (by decide +kernel : fetch mX12_judge 100 = some (.getfield 58)) (by decide +kernel),
  by intros; exact G_at (by decide +kernel : fetch mX12_judge 103 = some (.iload 4)),
  by intros; exact G_at (by decide +kernel : fetch mX12_judge 105 = some (.iaload)),
  by intros; exact G_at (by decide +kernel : fetch mX12_judge 106 = some (.iconst 1)),
  by intros; exact G_at (by decide +kernel : fetch mX12_judge 107 = some (.if_icmp .ne 15)),
  by intros; exact G_at (by decide +kernel : fetch mX12_judge 110 = some (.iload 7)),
  by intros; exact G_ldcw (by decide +kernel : fetch mX12_judge 112 = some (.ldc_w 278)) (by decide +kernel),
  by intros; exact G_at (by decide +kernel : fetch mX12_judge 115 = some (.if_icmp .ne 7)),
  by intros; exact G_at (by decide +kernel : fetch mX12_judge 118 = some (.iconst 1)),
  by intros; exact G_at (by decide +kernel : fetch mX12_judge 119 = some (.goto 4)),
  by intros; exact G_at (by decide +kernel : fetch mX12_judge 122 = some (.iconst 0)),
  by intros; exact G_at (by decide +kernel : fetch mX12_judge 123 = some (.istore 8)),
  by intros; exact G_at (by decide +kernel : fetch mX12_judge 125 = some (.iload 6)),
  by intros; exact G_at (by decide +kernel : fetch mX12_judge 127 = some (.bipush 60)),
  by intros; exact G_at (by decide +kernel : fetch mX12_judge 129 = some (.if_icmp .le 11)),
  by intros; exact G_at (by decide +kernel : fetch mX12_judge 132 = some (.iload 8)),
  by intros; exact G_at (by decide +kernel : fetch mX12_judge 134 = some (.ifCond .eq 6)),
  by intros; exact G_at (by decide +kernel : fetch mX12_judge 137 = some (.goto 50)),
  by intros; exact G_at (by decide +kernel : fetch mX12_judge 140 = some (.iload 6)),
  by intros; exact G_at (by decide +kernel : fetch mX12_judge 142 = some (.bipush 60)),
  by intros; exact G_at (by decide +kernel : fetch mX12_judge 144 = some (.if_icmp .le 6)),
  by intros; exact G_at (by decide +kernel : fetch mX12_judge 147 = some (.iload 6)),
  by intros; exact G_reti (by decide +kernel : fetch mX12_judge 149 = some (.ireturn)) (by decide +kernel),
  by intros; exact G_at (by decide +kernel : fetch mX12_judge 150 = some (.iload 6)),
  by intros; exact G_at (by decide +kernel : fetch mX12_judge 152 = some (.ifCond .le 11)),
  by intros; exact G_at (by decide +kernel : fetch mX12_judge 155 = some (.aload_n 0)),
  by intros; exact G_at (by decide +kernel : fetch mX12_judge 156 = some (.aload_n 0)),
  by intros; exact G_own (by decide +kernel : fetch mX12_judge 157 = some (.getfield 13)) (by decide +kernel),
  by intros; exact G_callV (by decide +kernel : fetch mX12_judge 160 = some (.invokevirtual 152)) (by decide +kernel) (by decide +kernel) rfl,
  by intros; exact G_at (by decide +kernel : fetch mX12_judge 163 = some (.iload 8)),
  by intros; exact G_at (by decide +kernel : fetch mX12_judge 165 = some (.ifCond .ne 22)),
  by intros; exact G_at (by decide +kernel : fetch mX12_judge 168 = some (.iload 7)),
  by intros; exact G_at (by decide +kernel : fetch mX12_judge 170 = some (.aload_n 0)),
  by intros; exact G_own (by decide +kernel : fetch mX12_judge 171 = some (.getfield 13)) (by decide +kernel),
  by intros; exact G_at (by decide +kernel : fetch mX12_judge 174 = some (.iload_n 1)),
  by intros; exact G_at (by decide +kernel : fetch mX12_judge 175 = some (.iload_n 2)),
  by intros; exact G_at (by decide +kernel : fetch mX12_judge 176 = some (.iload_n 3)),
  by intros; exact G_callS (k := 3) (kd := 0) (by decide +kernel : fetch mX12_judge 177 = some (.invokestatic 109)) (by decide +kernel) (by decide +kernel) (by decide +kernel) rfl (by decide),
  by intros; exact G_at (by decide +kernel : fetch mX12_judge 180 = some (.iaload)),
  by intros; exact G_at (by decide +kernel : fetch mX12_judge 181 = some (.if_icmp .eq 6)),
  by intros; exact G_at (by decide +kernel : fetch mX12_judge 184 = some (.iload 6)),
  by intros; exact G_reti (by decide +kernel : fetch mX12_judge 186 = some (.ireturn)) (by decide +kernel),
  by intros; exact G_at (by decide +kernel : fetch mX12_judge 187 = some (.iinc 6 1)),
  by intros; exact G_at (by decide +kernel : fetch mX12_judge 190 = some (.goto (-143))),
  by intros; exact G_at (by decide +kernel : fetch mX12_judge 193 = some (.bipush (-4))),
  by intros; exact G_reti (by decide +kernel : fetch mX12_judge 195 = some (.ireturn)) (by decide +kernel),
  by decide +kernel,
  by decide +kernel,
  by decide +kernel,
  by decide +kernel,
  by decide +kernel,
  by decide +kernel,
  by decide +kernel,
  by decide +kernel⟩
end GG
theorem cmp_0 {a b : Int} (h : a = b) : (if b < a then (1 : Int) else if a = b then 0 else -1) = 0 := by rw [if_neg (by omega), if_pos h]
theorem cmp_n {a b : Int} (h : ¬ a = b) : ¬ (if b < a then (1 : Int) else if a = b then 0 else -1) = 0 := by
  by_cases y : b < a
  · rw [if_pos y]; decide
  · rw [if_neg y, if_neg h]; decide
theorem cmp_in {a b : Int} : inI (if b < a then (1 : Int) else if a = b then 0 else -1) = true := by
  by_cases y : b < a
  · rw [if_pos y]; rfl
  · rw [if_neg y]
    by_cases z : a = b
    · rw [if_pos z]; rfl
    · rw [if_neg z]; rfl
def lsk (s : Int) : Int := if s = 0 then -128 else if s = 1 then -2147483648 else -9223372036854775808
theorem lsk_j {s : Int} : inJ (lsk s) = true := by
  unfold lsk
  by_cases y : s = 0
  · rw [if_pos y]; decide
  · rw [if_neg y]
    by_cases z : s = 1
    · rw [if_pos z]; decide
    · rw [if_neg z]; decide
def jgV (cl : List Int) (q s k j : Int) : Nat → Int → iXY → Int
  | 0, _, _ => -4
  | n + 1, i, S => if ¬ cl.getD i.toNat 0 = q ∧ (60 < i ∨ ¬ cl.getD i.toNat 0 = S.1.lik s k j) then i else jgV cl q s k j n (i + 1) (dayA S)
def jgC (cl : List Int) (q s k j : Int) : Nat → Int → iXY → iXY
  | 0, _, S => S
  | n + 1, i, S => if ¬ cl.getD i.toNat 0 = q ∧ (60 < i ∨ ¬ cl.getD i.toNat 0 = S.1.lik s k j) then S else jgC cl q s k j n (i + 1) (dayA S)
def jgD (i : Int) (T : iXY) : iXY := if i = 0 then T else dayA T
def jgR (cl : List Int) (q s k j : Int) : Nat → Int → iXY → iXY
  | 0, _, T => T
  | n + 1, i, T => if 60 < i then (if cl.getD i.toNat 0 = q then jgR cl q s k j n (i + 1) T else T) else if ¬ cl.getD i.toNat 0 = q ∧ ¬ cl.getD i.toNat 0 = (jgD i T).1.lik s k j then jgD i T else jgR cl q s k j n (i + 1) (jgD i T)
theorem jgV_b {cl : List Int} {q s k j : Int} : ∀ (n : Nat) (i : Int) (S : iXY), 0 ≤ i → -4 ≤ jgV cl q s k j n i S ∧ jgV cl q s k j n i S ≤ i + n := by
  intro n
  induction n with
  | zero => intro i S h; exact ⟨Int.le_refl _, by show -4 ≤ i + ((0 : Nat) : Int); omega⟩
  | succ n ih =>
    intro i S h
    unfold jgV
    split
    · omega
    · have := ih (i + 1) (dayA S) (by omega); omega
def onS (S : iXY) (X : iVal) : Prop := S.1.on = X.on
section OPS
variable {sp : Nat → List iV → iH → Option (Option iV × iH)} {sc : List Int} {d : Nat} {A A' : iA} {Q : Option iV → iH → Prop} {h : iH} {X : iVal} {e B : Int} {D : Nat} {S T : iXY}
theorem onS_day (h : OkS S B) (ho : onS S X) : onS (dayA S) X := by
  have := sameT_days 1 S B h
  exact this.1.trans ho
theorem jgC_ok {cl : List Int} {q s k j : Int} : ∀ (n : Nat) (i : Int) (S : iXY) (B : Int), OkS S B → OkS (jgC cl q s k j n i S) (B + 5 * n) := by
  intro n
  induction n with
  | zero => intro i S B h; exact ⟨h.1, h.2.mono (by omega)⟩
  | succ n ih =>
    intro i S B h
    unfold jgC
    split
    · exact ⟨h.1, h.2.mono (by omega)⟩
    · have := ih (i + 1) (dayA S) (B + 5) (okS_day h).1
      exact ⟨this.1, this.2.mono (by omega)⟩
theorem jgD_ok {i : Int} (h : OkS T B) : OkS (jgD i T) (B + 5) := by
  unfold jgD
  split
  · exact ⟨h.1, h.2.mono (by omega)⟩
  · exact (okS_day h).1
theorem jgD_on {i : Int} (h : OkS T B) (ho : onS T X) : onS (jgD i T) X := by
  unfold jgD
  split
  · exact ho
  · exact onS_day h ho
theorem jgR_ok {cl : List Int} {q s k j : Int} : ∀ (n : Nat) (i : Int) (T : iXY) (B : Int), OkS T B → OkS (jgR cl q s k j n i T) (B + 5 * n) := by
  intro n
  induction n with
  | zero => intro i S B h; exact ⟨h.1, h.2.mono (by omega)⟩
  | succ n ih =>
    intro i T B h
    unfold jgR
    split
    · split
      · have := ih (i + 1) T B h
        exact ⟨this.1, this.2.mono (by omega)⟩
      · exact ⟨h.1, h.2.mono (by omega)⟩
    · have hD := jgD_ok (i := i) h
      split
      · exact ⟨hD.1, hD.2.mono (by omega)⟩
      · have := ih (i + 1) (jgD i T) (B + 5) hD
        exact ⟨this.1, this.2.mono (by omega)⟩
theorem leastOf_eq (hd : D < 8) (hs : 0 ≤ (A.sh D).so ∧ (A.sh D).so ≤ 2) : Call sp sc d mX5_leastOfSort [.inr (.inr (107 + 2 * D + 2))] (hp A) Q = Q (some (.inr (.inl (lsk (A.sh D).so)))) (hp A) := Call_eq (by
  apply eX5_leastOfSort 40
  have : (A.sh D).so = 0 ∨ (A.sh D).so = 1 ∨ (A.sh D).so = 2 := by omega
  rcases this with z | z | z <;> simp (disch := first | assumption | rfl | exact inI_of (by omega) (by omega) | omega | decide | (simp only [sv_ext, sv_mc, Nat.le_refl]; done) | with_unfolding_all (refine @id _ ?_; first | exact Eq.refl _ | exact Nat.le_refl _ | assumption)) only [Nat.reduceAdd, Nat.reduceMul, Nat.reduceLeDiff, Nat.reduceLT, Int.reduceAdd, Int.reduceSub, Int.reduceMul, Int.reduceNeg, Int.reduceLE, Int.reduceLT, Int.reduceToNat, Int.reduceEq, reduceCtorEq, ld_z, ld_s, st1_0, st1_1, st1_s, st2_0, st2_1, st2_s, isJ_i, isJ_r, isJ_n, isJ_l, cs_nil, cs_i, cs_r, cs_l, kF, List.getElem?_cons_succ, List.getElem?_cons_zero, List.set_cons_zero, List.set_cons_succ, GC_s, GC_n, GK_nil, GK_no, GK_yes, not_false_eq_true, back_eq, back_hp, inI_eq, inA_eq, true_and, and_true, and_self, if_true, if_false, bI_0, bI_1, bI_in, bI_T, bI_F, fitF, jmpF, nlF, pjA, iVal.eta, iYr.eta, List.getElem?_toArray, List.length_cons, List.length_nil, true_or, or_true, or_false, false_or, Classical.not_not, Bool.false_eq_true, hp_2, Nat.zero_le, Nat.le_refl, Option.some.injEq, Sum.inl.injEq, Sum.inr.injEq, not_true_eq_false, true_implies, false_implies, implies_true, gX5_leastOfSort, rd_s, z] <;> rfl)
theorem jgC_loop (hd : D < 8) (hok : celC A D) (hsz : 0 ≤ (A.sh D).sz ∧ (A.sh D).sz ≤ 100) (hl : (A.sh D).sz ≤ ((A.cel D).length : Int)) (hl2 : (A.cel D).length ≤ 1000) (her : ∀ i : Int, 0 ≤ i → i < (A.sh D).sz → inI ((A.cel D).getD i.toNat 0) = true) {s k j q : Int} (h0 : 0 ≤ s) (h1 : s < 2) (h2 : 0 ≤ k) (h3 : k < 5) (h4 : 0 ≤ j) (h5 : j < 5) (hq : inJ q = true) {o4 o6 : Option iV} : ∀ (n : Nat) (i : Int) (S : iXY) (B : Int), OkS S B → B + 5 * n ≤ 1000 → 0 ≤ i → i + n = (A.sh D).sz → Q (some (.inl (jgV (A.cel D) q s k j n i S))) (hp (A.sxy (jgC (A.cel D) q s k j n i S))) → Run sp sc (d + 7) mX11_judge 68 [some (.inr (.inr 2)), some (.inl s), some (.inl k), some (.inl j), o4, some (.inr (.inr (107 + 2 * D + 2))), o6, some (.inr (.inl q)), none, some (.inl i)] [] (hp (A.sxy S)) Q := by
  intro n
  induction n with
  | zero =>
    intro i S B hS hB g0 g1 hQ
    refine G_run (B := [68]) 60 _ _ _ _ ?_
    have e1 : (A.sh D).sz ≤ i := by omega
    have rs : (hp (A.sxy S)).1[107 + 2 * D]? = _ := @rd_s (A.sxy S) D hd
    have es : (A.sxy S).sh = A.sh := rfl
    rw [es] at rs
    simp (disch := first | assumption | rfl | exact inI_of (by omega) (by omega) | omega | decide | (simp only [sv_ext, sv_mc, Nat.le_refl]; done) | with_unfolding_all (refine @id _ ?_; first | exact Eq.refl _ | exact Nat.le_refl _ | assumption)) only [Nat.reduceAdd, Nat.reduceMul, Nat.reduceLeDiff, Nat.reduceLT, Int.reduceAdd, Int.reduceSub, Int.reduceMul, Int.reduceNeg, Int.reduceLE, Int.reduceLT, Int.reduceToNat, Int.reduceEq, reduceCtorEq, ld_z, ld_s, st1_0, st1_1, st1_s, st2_0, st2_1, st2_s, isJ_i, isJ_r, isJ_n, isJ_l, cs_nil, cs_i, cs_r, cs_l, kF, List.getElem?_cons_succ, List.getElem?_cons_zero, List.set_cons_zero, List.set_cons_succ, GC_s, GC_n, GK_nil, GK_no, GK_yes, not_false_eq_true, back_eq, inI_eq, inA_eq, true_and, and_true, and_self, if_true, if_false, bI_0, bI_1, bI_in, bI_T, bI_F, fitF, jmpF, nlF, pjA, iVal.eta, iYr.eta, List.getElem?_toArray, List.length_cons, List.length_nil, true_or, or_true, or_false, false_or, Classical.not_not, Bool.false_eq_true, hp_2, Nat.zero_le, Nat.le_refl, Option.some.injEq, Sum.inl.injEq, Sum.inr.injEq, not_true_eq_false, true_implies, false_implies, implies_true, rd_v, f_num, f_lik, f_dep, f_bnd, f_man, f_wom, f_sta, f_dds, f_who, rd_y, rd_y1, rd_y2, rd_y3, rd_y4, wy, wy1, wy2, wy3, wy4, sxy_mnd, sxy_now, sxy_img, sxy_yr, sxy_xy, sxy_sxy, sv_sxy, f_ord, f_bus, f_wai, f_fin, rd_e, v_now, hasOne_eq, hasTwo_eq, hasCouple_eq, orNone_eq, natureOf_eq, rd_nat, place_eq, rd_v1, rd_v3, rd_v4, rd_v6, rd_v7, rd_v8, rd_v9, rd_v10, isShelf_eq, isSide_eq, isDeed_eq, isKind_eq, isMindSpan_eq, back_sxy, back_sxy1, f_orN, gX11_judge, rs, e1]
    exact hQ
  | succ n ih =>
    intro i S B hS hB g0 g1 hQ
    refine G_run (B := [68]) 60 _ _ _ _ ?_
    have e1 : ¬ (A.sh D).sz ≤ i := by omega
    have rs : (hp (A.sxy S)).1[107 + 2 * D]? = _ := @rd_s (A.sxy S) D hd
    have es : (A.sxy S).sh = A.sh := rfl
    rw [es] at rs
    have rc : (hp (A.sxy S)).1[(A.sh D).ca]? = some (.inr (.inl (1, A.cel D))) := @rd_c (A.sxy S) D hd hok
    have hp1 : ∀ Q, Call sp sc (d + 6) mX10_pass [.inr (.inr 31), .inl 1] (hp (A.sxy S)) Q = Q none (hp (A.sxy (dayA S))) := fun Q => passC (n := 1) hS (by omega) (by omega)
    have ih := ih (i + 1) (dayA S) (B + 5) (okS_day hS).1 (by omega) (by omega) (by omega)
    have jv := inJ_of (her i g0 (by omega))
    have hS1 : OkV ((A.sxy S).v .mnd) := hS.1
    have lk := hS.1.lik s k j h0 h1 h2 h3 h4 h5
    have il : inI (S.1.lik s k j) = true := inI_of (by omega) (by omega)
    have jl := inJ_of il
    have lq := fun Q => @liking_eq sp sc (d + 6) (A.sxy S) .mnd Q hS1 s k j h0 h1 h2 h3 h4 h5
    have ev : ((A.sxy S).v .mnd).lik s k j = S.1.lik s k j := rfl
    rw [ev] at lq
    unfold jgV jgC at hQ
    generalize hv : (A.cel D).getD i.toNat 0 = v at *
    by_cases z : v = q
    · rw [if_neg (fun y => y.1 z), if_neg (fun y => y.1 z)] at hQ
      have x1 := cmp_0 z
      simp (disch := first | assumption | rfl | exact inI_of (by omega) (by omega) | omega | decide | (simp only [sv_ext, sv_mc, Nat.le_refl]; done) | with_unfolding_all (refine @id _ ?_; first | exact Eq.refl _ | exact Nat.le_refl _ | assumption)) only [Nat.reduceAdd, Nat.reduceMul, Nat.reduceLeDiff, Nat.reduceLT, Int.reduceAdd, Int.reduceSub, Int.reduceMul, Int.reduceNeg, Int.reduceLE, Int.reduceLT, Int.reduceToNat, Int.reduceEq, reduceCtorEq, ld_z, ld_s, st1_0, st1_1, st1_s, st2_0, st2_1, st2_s, isJ_i, isJ_r, isJ_n, isJ_l, cs_nil, cs_i, cs_r, cs_l, kF, List.getElem?_cons_succ, List.getElem?_cons_zero, List.set_cons_zero, List.set_cons_succ, GC_s, GC_n, GK_nil, GK_no, GK_yes, not_false_eq_true, back_eq, inI_eq, inA_eq, true_and, and_true, and_self, if_true, if_false, bI_0, bI_1, bI_in, bI_T, bI_F, fitF, jmpF, nlF, pjA, iVal.eta, iYr.eta, List.getElem?_toArray, List.length_cons, List.length_nil, true_or, or_true, or_false, false_or, Classical.not_not, Bool.false_eq_true, hp_2, Nat.zero_le, Nat.le_refl, Option.some.injEq, Sum.inl.injEq, Sum.inr.injEq, not_true_eq_false, true_implies, false_implies, implies_true, rd_v, f_num, f_lik, f_dep, f_bnd, f_man, f_wom, f_sta, f_dds, f_who, rd_y, rd_y1, rd_y2, rd_y3, rd_y4, wy, wy1, wy2, wy3, wy4, sxy_mnd, sxy_now, sxy_img, sxy_yr, sxy_xy, sxy_sxy, sv_sxy, f_ord, f_bus, f_wai, f_fin, rd_e, v_now, hasOne_eq, hasTwo_eq, hasCouple_eq, orNone_eq, natureOf_eq, rd_nat, place_eq, rd_v1, rd_v3, rd_v4, rd_v6, rd_v7, rd_v8, rd_v9, rd_v10, isShelf_eq, isSide_eq, isDeed_eq, isKind_eq, isMindSpan_eq, back_sxy, back_sxy1, f_orN, gX11_judge, rs, e1, rc, hv, jv, hq, x1, hp1]
      exact ih hQ
    · have x1 := cmp_n z
      have x2 := @cmp_in v q
      by_cases y : 60 < i
      · rw [if_pos ⟨z, Or.inl y⟩, if_pos ⟨z, Or.inl y⟩] at hQ
        simp (disch := first | assumption | rfl | exact inI_of (by omega) (by omega) | omega | decide | (simp only [sv_ext, sv_mc, Nat.le_refl]; done) | with_unfolding_all (refine @id _ ?_; first | exact Eq.refl _ | exact Nat.le_refl _ | assumption)) only [Nat.reduceAdd, Nat.reduceMul, Nat.reduceLeDiff, Nat.reduceLT, Int.reduceAdd, Int.reduceSub, Int.reduceMul, Int.reduceNeg, Int.reduceLE, Int.reduceLT, Int.reduceToNat, Int.reduceEq, reduceCtorEq, ld_z, ld_s, st1_0, st1_1, st1_s, st2_0, st2_1, st2_s, isJ_i, isJ_r, isJ_n, isJ_l, cs_nil, cs_i, cs_r, cs_l, kF, List.getElem?_cons_succ, List.getElem?_cons_zero, List.set_cons_zero, List.set_cons_succ, GC_s, GC_n, GK_nil, GK_no, GK_yes, not_false_eq_true, back_eq, inI_eq, inA_eq, true_and, and_true, and_self, if_true, if_false, bI_0, bI_1, bI_in, bI_T, bI_F, fitF, jmpF, nlF, pjA, iVal.eta, iYr.eta, List.getElem?_toArray, List.length_cons, List.length_nil, true_or, or_true, or_false, false_or, Classical.not_not, Bool.false_eq_true, hp_2, Nat.zero_le, Nat.le_refl, Option.some.injEq, Sum.inl.injEq, Sum.inr.injEq, not_true_eq_false, true_implies, false_implies, implies_true, rd_v, f_num, f_lik, f_dep, f_bnd, f_man, f_wom, f_sta, f_dds, f_who, rd_y, rd_y1, rd_y2, rd_y3, rd_y4, wy, wy1, wy2, wy3, wy4, sxy_mnd, sxy_now, sxy_img, sxy_yr, sxy_xy, sxy_sxy, sv_sxy, f_ord, f_bus, f_wai, f_fin, rd_e, v_now, hasOne_eq, hasTwo_eq, hasCouple_eq, orNone_eq, natureOf_eq, rd_nat, place_eq, rd_v1, rd_v3, rd_v4, rd_v6, rd_v7, rd_v8, rd_v9, rd_v10, isShelf_eq, isSide_eq, isDeed_eq, isKind_eq, isMindSpan_eq, back_sxy, back_sxy1, f_orN, gX11_judge, rs, e1, rc, hv, jv, hq, x1, x2, y]
        exact hQ
      · by_cases w : v = S.1.lik s k j
        · rw [if_neg (fun u => u.2.elim y (fun t => t w)), if_neg (fun u => u.2.elim y (fun t => t w))] at hQ
          have x3 := cmp_0 w
          simp (disch := first | assumption | rfl | exact inI_of (by omega) (by omega) | omega | decide | (simp only [sv_ext, sv_mc, Nat.le_refl]; done) | with_unfolding_all (refine @id _ ?_; first | exact Eq.refl _ | exact Nat.le_refl _ | assumption)) only [Nat.reduceAdd, Nat.reduceMul, Nat.reduceLeDiff, Nat.reduceLT, Int.reduceAdd, Int.reduceSub, Int.reduceMul, Int.reduceNeg, Int.reduceLE, Int.reduceLT, Int.reduceToNat, Int.reduceEq, reduceCtorEq, ld_z, ld_s, st1_0, st1_1, st1_s, st2_0, st2_1, st2_s, isJ_i, isJ_r, isJ_n, isJ_l, cs_nil, cs_i, cs_r, cs_l, kF, List.getElem?_cons_succ, List.getElem?_cons_zero, List.set_cons_zero, List.set_cons_succ, GC_s, GC_n, GK_nil, GK_no, GK_yes, not_false_eq_true, back_eq, inI_eq, inA_eq, true_and, and_true, and_self, if_true, if_false, bI_0, bI_1, bI_in, bI_T, bI_F, fitF, jmpF, nlF, pjA, iVal.eta, iYr.eta, List.getElem?_toArray, List.length_cons, List.length_nil, true_or, or_true, or_false, false_or, Classical.not_not, Bool.false_eq_true, hp_2, Nat.zero_le, Nat.le_refl, Option.some.injEq, Sum.inl.injEq, Sum.inr.injEq, not_true_eq_false, true_implies, false_implies, implies_true, rd_v, f_num, f_lik, f_dep, f_bnd, f_man, f_wom, f_sta, f_dds, f_who, rd_y, rd_y1, rd_y2, rd_y3, rd_y4, wy, wy1, wy2, wy3, wy4, sxy_mnd, sxy_now, sxy_img, sxy_yr, sxy_xy, sxy_sxy, sv_sxy, f_ord, f_bus, f_wai, f_fin, rd_e, v_now, hasOne_eq, hasTwo_eq, hasCouple_eq, orNone_eq, natureOf_eq, rd_nat, place_eq, rd_v1, rd_v3, rd_v4, rd_v6, rd_v7, rd_v8, rd_v9, rd_v10, isShelf_eq, isSide_eq, isDeed_eq, isKind_eq, isMindSpan_eq, back_sxy, back_sxy1, f_orN, gX11_judge, rs, e1, rc, hv, jv, hq, x1, x2, y, lq, il, jl, x3, hp1]
          exact ih hQ
        · rw [if_pos ⟨z, Or.inr w⟩, if_pos ⟨z, Or.inr w⟩] at hQ
          have x3 := cmp_n w
          have x4 := @cmp_in v (S.1.lik s k j)
          simp (disch := first | assumption | rfl | exact inI_of (by omega) (by omega) | omega | decide | (simp only [sv_ext, sv_mc, Nat.le_refl]; done) | with_unfolding_all (refine @id _ ?_; first | exact Eq.refl _ | exact Nat.le_refl _ | assumption)) only [Nat.reduceAdd, Nat.reduceMul, Nat.reduceLeDiff, Nat.reduceLT, Int.reduceAdd, Int.reduceSub, Int.reduceMul, Int.reduceNeg, Int.reduceLE, Int.reduceLT, Int.reduceToNat, Int.reduceEq, reduceCtorEq, ld_z, ld_s, st1_0, st1_1, st1_s, st2_0, st2_1, st2_s, isJ_i, isJ_r, isJ_n, isJ_l, cs_nil, cs_i, cs_r, cs_l, kF, List.getElem?_cons_succ, List.getElem?_cons_zero, List.set_cons_zero, List.set_cons_succ, GC_s, GC_n, GK_nil, GK_no, GK_yes, not_false_eq_true, back_eq, inI_eq, inA_eq, true_and, and_true, and_self, if_true, if_false, bI_0, bI_1, bI_in, bI_T, bI_F, fitF, jmpF, nlF, pjA, iVal.eta, iYr.eta, List.getElem?_toArray, List.length_cons, List.length_nil, true_or, or_true, or_false, false_or, Classical.not_not, Bool.false_eq_true, hp_2, Nat.zero_le, Nat.le_refl, Option.some.injEq, Sum.inl.injEq, Sum.inr.injEq, not_true_eq_false, true_implies, false_implies, implies_true, rd_v, f_num, f_lik, f_dep, f_bnd, f_man, f_wom, f_sta, f_dds, f_who, rd_y, rd_y1, rd_y2, rd_y3, rd_y4, wy, wy1, wy2, wy3, wy4, sxy_mnd, sxy_now, sxy_img, sxy_yr, sxy_xy, sxy_sxy, sv_sxy, f_ord, f_bus, f_wai, f_fin, rd_e, v_now, hasOne_eq, hasTwo_eq, hasCouple_eq, orNone_eq, natureOf_eq, rd_nat, place_eq, rd_v1, rd_v3, rd_v4, rd_v6, rd_v7, rd_v8, rd_v9, rd_v10, isShelf_eq, isSide_eq, isDeed_eq, isKind_eq, isMindSpan_eq, back_sxy, back_sxy1, f_orN, gX11_judge, rs, e1, rc, hv, jv, hq, x1, x2, y, lq, il, jl, x3, x4]
          exact hQ
theorem jgR_seg1 {X : iVal} (hd : D < 8) {s k j i v so sz : Int} (hz : A.mo.sz.getD D 0 = sz) (hs : A.mo.so.getD D 0 = so) (l1 : A.mo.sz.length = 8) (l2 : A.mo.el.length = 800) (l3 : A.mo.so.length = 8) (hso : 0 ≤ so ∧ so ≤ 2) (h0 : 0 ≤ i) (h1 : i < sz) (hsz : sz ≤ 100) (hv : A.mo.el.getD (100 * (D : Int) + i).toNat 0 = v) (iv : inI v = true) {z5 : Int} {o7 o8 : Option iV} (hq : Run sp sc (d + 6) mX12_judge 125 [some (.inr (.inr 140)), some (.inl s), some (.inl k), some (.inl j), some (.inl (D : Int)), some (.inl z5), some (.inl i), some (.inl v), some (.inl (if v = lsk so then 1 else 0))] [] (hp A) Q) : Run sp sc (d + 6) mX12_judge 47 [some (.inr (.inr 140)), some (.inl s), some (.inl k), some (.inl j), some (.inl (D : Int)), some (.inl z5), some (.inl i), o7, o8] [] (hp A) Q := by
  refine G_run (B := [47, 125]) 60 _ _ _ _ ?_
  have eD : ((D : Int)).toNat = D := by omega
  have e1 : ¬ sz ≤ i := by omega
  have iv2 := inI_iff.mp iv
  have : so = 0 ∨ so = 1 ∨ so = 2 := by omega
  rcases this with rfl | rfl | rfl
  · by_cases z : v = -128
    · have : (if v = lsk 0 then (1 : Int) else 0) = 1 := if_pos (by rw [z]; rfl)
      rw [this] at hq
      simp (disch := first | assumption | rfl | exact inI_of (by omega) (by omega) | omega | decide | (simp only [sv_ext, sv_mc, Nat.le_refl]; done) | with_unfolding_all (refine @id _ ?_; first | exact Eq.refl _ | exact Nat.le_refl _ | assumption)) only [Nat.reduceAdd, Nat.reduceMul, Nat.reduceLeDiff, Nat.reduceLT, Int.reduceAdd, Int.reduceSub, Int.reduceMul, Int.reduceNeg, Int.reduceLE, Int.reduceLT, Int.reduceToNat, Int.reduceEq, reduceCtorEq, ld_z, ld_s, st1_0, st1_1, st1_s, st2_0, st2_1, st2_s, isJ_i, isJ_r, isJ_n, isJ_l, cs_nil, cs_i, cs_r, cs_l, kF, List.getElem?_cons_succ, List.getElem?_cons_zero, List.set_cons_zero, List.set_cons_succ, GC_s, GC_n, GK_nil, GK_no, GK_yes, not_false_eq_true, back_eq, back_hp, inI_eq, inA_eq, true_and, and_true, and_self, if_true, if_false, bI_0, bI_1, bI_in, bI_T, bI_F, fitF, jmpF, nlF, pjA, iVal.eta, iYr.eta, List.getElem?_toArray, List.length_cons, List.length_nil, true_or, or_true, or_false, false_or, Classical.not_not, Bool.false_eq_true, hp_2, Nat.zero_le, Nat.le_refl, Option.some.injEq, Sum.inl.injEq, Sum.inr.injEq, not_true_eq_false, true_implies, false_implies, implies_true, gX12_judge_m, rd_o, rd_o_sz, rd_o_so, rd_o_el, l1, l2, l3, eD, hz, hs, e1, hv, eq_true z]
      exact hq
    · have : (if v = lsk 0 then (1 : Int) else 0) = 0 := if_neg z
      rw [this] at hq
      simp (disch := first | assumption | rfl | exact inI_of (by omega) (by omega) | omega | decide | (simp only [sv_ext, sv_mc, Nat.le_refl]; done) | with_unfolding_all (refine @id _ ?_; first | exact Eq.refl _ | exact Nat.le_refl _ | assumption)) only [Nat.reduceAdd, Nat.reduceMul, Nat.reduceLeDiff, Nat.reduceLT, Int.reduceAdd, Int.reduceSub, Int.reduceMul, Int.reduceNeg, Int.reduceLE, Int.reduceLT, Int.reduceToNat, Int.reduceEq, reduceCtorEq, ld_z, ld_s, st1_0, st1_1, st1_s, st2_0, st2_1, st2_s, isJ_i, isJ_r, isJ_n, isJ_l, cs_nil, cs_i, cs_r, cs_l, kF, List.getElem?_cons_succ, List.getElem?_cons_zero, List.set_cons_zero, List.set_cons_succ, GC_s, GC_n, GK_nil, GK_no, GK_yes, not_false_eq_true, back_eq, back_hp, inI_eq, inA_eq, true_and, and_true, and_self, if_true, if_false, bI_0, bI_1, bI_in, bI_T, bI_F, fitF, jmpF, nlF, pjA, iVal.eta, iYr.eta, List.getElem?_toArray, List.length_cons, List.length_nil, true_or, or_true, or_false, false_or, Classical.not_not, Bool.false_eq_true, hp_2, Nat.zero_le, Nat.le_refl, Option.some.injEq, Sum.inl.injEq, Sum.inr.injEq, not_true_eq_false, true_implies, false_implies, implies_true, gX12_judge_m, rd_o, rd_o_sz, rd_o_so, rd_o_el, l1, l2, l3, eD, hz, hs, e1, hv, z]
      exact hq
  · by_cases z : v = -2147483648
    · have : (if v = lsk 1 then (1 : Int) else 0) = 1 := if_pos (by rw [z]; rfl)
      rw [this] at hq
      simp (disch := first | assumption | rfl | exact inI_of (by omega) (by omega) | omega | decide | (simp only [sv_ext, sv_mc, Nat.le_refl]; done) | with_unfolding_all (refine @id _ ?_; first | exact Eq.refl _ | exact Nat.le_refl _ | assumption)) only [Nat.reduceAdd, Nat.reduceMul, Nat.reduceLeDiff, Nat.reduceLT, Int.reduceAdd, Int.reduceSub, Int.reduceMul, Int.reduceNeg, Int.reduceLE, Int.reduceLT, Int.reduceToNat, Int.reduceEq, reduceCtorEq, ld_z, ld_s, st1_0, st1_1, st1_s, st2_0, st2_1, st2_s, isJ_i, isJ_r, isJ_n, isJ_l, cs_nil, cs_i, cs_r, cs_l, kF, List.getElem?_cons_succ, List.getElem?_cons_zero, List.set_cons_zero, List.set_cons_succ, GC_s, GC_n, GK_nil, GK_no, GK_yes, not_false_eq_true, back_eq, back_hp, inI_eq, inA_eq, true_and, and_true, and_self, if_true, if_false, bI_0, bI_1, bI_in, bI_T, bI_F, fitF, jmpF, nlF, pjA, iVal.eta, iYr.eta, List.getElem?_toArray, List.length_cons, List.length_nil, true_or, or_true, or_false, false_or, Classical.not_not, Bool.false_eq_true, hp_2, Nat.zero_le, Nat.le_refl, Option.some.injEq, Sum.inl.injEq, Sum.inr.injEq, not_true_eq_false, true_implies, false_implies, implies_true, gX12_judge_m, rd_o, rd_o_sz, rd_o_so, rd_o_el, l1, l2, l3, eD, hz, hs, e1, hv, eq_true z]
      exact hq
    · have : (if v = lsk 1 then (1 : Int) else 0) = 0 := if_neg z
      rw [this] at hq
      simp (disch := first | assumption | rfl | exact inI_of (by omega) (by omega) | omega | decide | (simp only [sv_ext, sv_mc, Nat.le_refl]; done) | with_unfolding_all (refine @id _ ?_; first | exact Eq.refl _ | exact Nat.le_refl _ | assumption)) only [Nat.reduceAdd, Nat.reduceMul, Nat.reduceLeDiff, Nat.reduceLT, Int.reduceAdd, Int.reduceSub, Int.reduceMul, Int.reduceNeg, Int.reduceLE, Int.reduceLT, Int.reduceToNat, Int.reduceEq, reduceCtorEq, ld_z, ld_s, st1_0, st1_1, st1_s, st2_0, st2_1, st2_s, isJ_i, isJ_r, isJ_n, isJ_l, cs_nil, cs_i, cs_r, cs_l, kF, List.getElem?_cons_succ, List.getElem?_cons_zero, List.set_cons_zero, List.set_cons_succ, GC_s, GC_n, GK_nil, GK_no, GK_yes, not_false_eq_true, back_eq, back_hp, inI_eq, inA_eq, true_and, and_true, and_self, if_true, if_false, bI_0, bI_1, bI_in, bI_T, bI_F, fitF, jmpF, nlF, pjA, iVal.eta, iYr.eta, List.getElem?_toArray, List.length_cons, List.length_nil, true_or, or_true, or_false, false_or, Classical.not_not, Bool.false_eq_true, hp_2, Nat.zero_le, Nat.le_refl, Option.some.injEq, Sum.inl.injEq, Sum.inr.injEq, not_true_eq_false, true_implies, false_implies, implies_true, gX12_judge_m, rd_o, rd_o_sz, rd_o_so, rd_o_el, l1, l2, l3, eD, hz, hs, e1, hv, z]
      exact hq
  · have z : ¬ v = lsk 2 := by
      have : lsk 2 = -9223372036854775808 := rfl
      omega
    rw [if_neg z] at hq
    simp (disch := first | assumption | rfl | exact inI_of (by omega) (by omega) | omega | decide | (simp only [sv_ext, sv_mc, Nat.le_refl]; done) | with_unfolding_all (refine @id _ ?_; first | exact Eq.refl _ | exact Nat.le_refl _ | assumption)) only [Nat.reduceAdd, Nat.reduceMul, Nat.reduceLeDiff, Nat.reduceLT, Int.reduceAdd, Int.reduceSub, Int.reduceMul, Int.reduceNeg, Int.reduceLE, Int.reduceLT, Int.reduceToNat, Int.reduceEq, reduceCtorEq, ld_z, ld_s, st1_0, st1_1, st1_s, st2_0, st2_1, st2_s, isJ_i, isJ_r, isJ_n, isJ_l, cs_nil, cs_i, cs_r, cs_l, kF, List.getElem?_cons_succ, List.getElem?_cons_zero, List.set_cons_zero, List.set_cons_succ, GC_s, GC_n, GK_nil, GK_no, GK_yes, not_false_eq_true, back_eq, back_hp, inI_eq, inA_eq, true_and, and_true, and_self, if_true, if_false, bI_0, bI_1, bI_in, bI_T, bI_F, fitF, jmpF, nlF, pjA, iVal.eta, iYr.eta, List.getElem?_toArray, List.length_cons, List.length_nil, true_or, or_true, or_false, false_or, Classical.not_not, Bool.false_eq_true, hp_2, Nat.zero_le, Nat.le_refl, Option.some.injEq, Sum.inl.injEq, Sum.inr.injEq, not_true_eq_false, true_implies, false_implies, implies_true, gX12_judge_m, rd_o, rd_o_sz, rd_o_so, rd_o_el, l1, l2, l3, eD, hz, hs, e1, hv]
    exact hq
theorem jgR_seg2 {X : iVal} (hT : OkS T B) (hB : B ≤ 1000) (hT2 : onS T X) {s k j i v b : Int} {o4 : Option iV} {z5 : Int} (g0 : 0 ≤ s) (g1 : s < 2) (g2 : 0 ≤ k) (g3 : k < X.num s) (g3' : X.num s ≤ 5) (g4 : 0 ≤ j) (g5 : j < 5) (h0 : 0 ≤ i) (hi : i ≤ 100) (iv : inI v = true) (hb : b = 0 ∨ b = 1)
    (k1 : 60 < i → b = 0 → Q (some (.inl i)) (hp (A.mr T e))) (k2 : 60 < i → b = 1 → Run sp sc (d + 6) mX12_judge 47 [some (.inr (.inr 140)), some (.inl s), some (.inl k), some (.inl j), o4, some (.inl z5), some (.inl (i + 1)), some (.inl v), some (.inl b)] [] (hp (A.mr T e)) Q)
    (k3 : ¬ 60 < i → b = 0 → ¬ v = (jgD i T).1.lik s k j → Q (some (.inl i)) (hp (A.mr (jgD i T) e))) (k4 : ¬ 60 < i → (b = 1 ∨ v = (jgD i T).1.lik s k j) → Run sp sc (d + 6) mX12_judge 47 [some (.inr (.inr 140)), some (.inl s), some (.inl k), some (.inl j), o4, some (.inl z5), some (.inl (i + 1)), some (.inl v), some (.inl b)] [] (hp (A.mr (jgD i T) e)) Q) : Run sp sc (d + 6) mX12_judge 125 [some (.inr (.inr 140)), some (.inl s), some (.inl k), some (.inl j), o4, some (.inl z5), some (.inl i), some (.inl v), some (.inl b)] [] (hp (A.mr T e)) Q := by
  refine G_run (B := [47, 125]) 60 _ _ _ _ ?_
  have hD := jgD_ok (i := i) hT
  have oD := jgD_on (i := i) hT hT2
  have nD : k < (jgD i T).1.num s := by rw [num_of_on oD]; exact g3
  have lk := hD.1.lik s k j g0 g1 g2 (by omega) g4 g5
  have mg := fun Q => @mr_goes sp sc (d) A Q e B T hT (by omega)
  have ql := fun e => @q_lik (jgD i T).1 e s k j g0 g1 g2 (by omega) g4 g5 (Or.inl nD)
  by_cases y : 60 < i
  · have y2 : ¬ i ≤ 60 := by omega
    rcases hb with rfl | rfl
    · simp (disch := first | assumption | rfl | exact inI_of (by omega) (by omega) | omega | decide | (simp only [sv_ext, sv_mc, Nat.le_refl]; done) | with_unfolding_all (refine @id _ ?_; first | exact Eq.refl _ | exact Nat.le_refl _ | assumption)) only [Nat.reduceAdd, Nat.reduceMul, Nat.reduceLeDiff, Nat.reduceLT, Int.reduceAdd, Int.reduceSub, Int.reduceMul, Int.reduceNeg, Int.reduceLE, Int.reduceLT, Int.reduceToNat, Int.reduceEq, reduceCtorEq, ld_z, ld_s, st1_0, st1_1, st1_s, st2_0, st2_1, st2_s, isJ_i, isJ_r, isJ_n, isJ_l, cs_nil, cs_i, cs_r, cs_l, kF, List.getElem?_cons_succ, List.getElem?_cons_zero, List.set_cons_zero, List.set_cons_succ, GC_s, GC_n, GK_nil, GK_no, GK_yes, not_false_eq_true, back_eq, back_hp, inI_eq, inA_eq, true_and, and_true, and_self, if_true, if_false, bI_0, bI_1, bI_in, bI_T, bI_F, fitF, jmpF, nlF, pjA, iVal.eta, iYr.eta, List.getElem?_toArray, List.length_cons, List.length_nil, true_or, or_true, or_false, false_or, Classical.not_not, Bool.false_eq_true, hp_2, Nat.zero_le, Nat.le_refl, Option.some.injEq, Sum.inl.injEq, Sum.inr.injEq, not_true_eq_false, true_implies, false_implies, implies_true, gX12_judge_m, y2]
      exact k1 y rfl
    · simp (disch := first | assumption | rfl | exact inI_of (by omega) (by omega) | omega | decide | (simp only [sv_ext, sv_mc, Nat.le_refl]; done) | with_unfolding_all (refine @id _ ?_; first | exact Eq.refl _ | exact Nat.le_refl _ | assumption)) only [Nat.reduceAdd, Nat.reduceMul, Nat.reduceLeDiff, Nat.reduceLT, Int.reduceAdd, Int.reduceSub, Int.reduceMul, Int.reduceNeg, Int.reduceLE, Int.reduceLT, Int.reduceToNat, Int.reduceEq, reduceCtorEq, ld_z, ld_s, st1_0, st1_1, st1_s, st2_0, st2_1, st2_s, isJ_i, isJ_r, isJ_n, isJ_l, cs_nil, cs_i, cs_r, cs_l, kF, List.getElem?_cons_succ, List.getElem?_cons_zero, List.set_cons_zero, List.set_cons_succ, GC_s, GC_n, GK_nil, GK_no, GK_yes, not_false_eq_true, back_eq, back_hp, inI_eq, inA_eq, true_and, and_true, and_self, if_true, if_false, bI_0, bI_1, bI_in, bI_T, bI_F, fitF, jmpF, nlF, pjA, iVal.eta, iYr.eta, List.getElem?_toArray, List.length_cons, List.length_nil, true_or, or_true, or_false, false_or, Classical.not_not, Bool.false_eq_true, hp_2, Nat.zero_le, Nat.le_refl, Option.some.injEq, Sum.inl.injEq, Sum.inr.injEq, not_true_eq_false, true_implies, false_implies, implies_true, gX12_judge_m, y2]
      exact k2 y rfl
  · have y2 : i ≤ 60 := by omega
    by_cases z : i = 0
    · have eT : jgD i T = T := if_pos z
      rw [eT] at k3 k4 ql lk
      subst z
      rcases hb with rfl | rfl
      · by_cases w : v = T.1.lik s k j
        · simp (disch := first | assumption | rfl | exact inI_of (by omega) (by omega) | omega | decide | (simp only [sv_ext, sv_mc, Nat.le_refl]; done) | with_unfolding_all (refine @id _ ?_; first | exact Eq.refl _ | exact Nat.le_refl _ | assumption)) only [Nat.reduceAdd, Nat.reduceMul, Nat.reduceLeDiff, Nat.reduceLT, Int.reduceAdd, Int.reduceSub, Int.reduceMul, Int.reduceNeg, Int.reduceLE, Int.reduceLT, Int.reduceToNat, Int.reduceEq, reduceCtorEq, ld_z, ld_s, st1_0, st1_1, st1_s, st2_0, st2_1, st2_s, isJ_i, isJ_r, isJ_n, isJ_l, cs_nil, cs_i, cs_r, cs_l, kF, List.getElem?_cons_succ, List.getElem?_cons_zero, List.set_cons_zero, List.set_cons_succ, GC_s, GC_n, GK_nil, GK_no, GK_yes, not_false_eq_true, back_eq, back_hp, inI_eq, inA_eq, true_and, and_true, and_self, if_true, if_false, bI_0, bI_1, bI_in, bI_T, bI_F, fitF, jmpF, nlF, pjA, iVal.eta, iYr.eta, List.getElem?_toArray, List.length_cons, List.length_nil, true_or, or_true, or_false, false_or, Classical.not_not, Bool.false_eq_true, hp_2, Nat.zero_le, Nat.le_refl, Option.some.injEq, Sum.inl.injEq, Sum.inr.injEq, not_true_eq_false, true_implies, false_implies, implies_true, gX12_judge_m, rd_o, rd_o_m, mr_m, row_len, inA_lik, atLike_eq, ql, iv, eq_true w]
          exact k4 y (Or.inr w)
        · simp (disch := first | assumption | rfl | exact inI_of (by omega) (by omega) | omega | decide | (simp only [sv_ext, sv_mc, Nat.le_refl]; done) | with_unfolding_all (refine @id _ ?_; first | exact Eq.refl _ | exact Nat.le_refl _ | assumption)) only [Nat.reduceAdd, Nat.reduceMul, Nat.reduceLeDiff, Nat.reduceLT, Int.reduceAdd, Int.reduceSub, Int.reduceMul, Int.reduceNeg, Int.reduceLE, Int.reduceLT, Int.reduceToNat, Int.reduceEq, reduceCtorEq, ld_z, ld_s, st1_0, st1_1, st1_s, st2_0, st2_1, st2_s, isJ_i, isJ_r, isJ_n, isJ_l, cs_nil, cs_i, cs_r, cs_l, kF, List.getElem?_cons_succ, List.getElem?_cons_zero, List.set_cons_zero, List.set_cons_succ, GC_s, GC_n, GK_nil, GK_no, GK_yes, not_false_eq_true, back_eq, back_hp, inI_eq, inA_eq, true_and, and_true, and_self, if_true, if_false, bI_0, bI_1, bI_in, bI_T, bI_F, fitF, jmpF, nlF, pjA, iVal.eta, iYr.eta, List.getElem?_toArray, List.length_cons, List.length_nil, true_or, or_true, or_false, false_or, Classical.not_not, Bool.false_eq_true, hp_2, Nat.zero_le, Nat.le_refl, Option.some.injEq, Sum.inl.injEq, Sum.inr.injEq, not_true_eq_false, true_implies, false_implies, implies_true, gX12_judge_m, rd_o, rd_o_m, mr_m, row_len, inA_lik, atLike_eq, ql, iv, w]
          exact k3 y rfl w
      · simp (disch := first | assumption | rfl | exact inI_of (by omega) (by omega) | omega | decide | (simp only [sv_ext, sv_mc, Nat.le_refl]; done) | with_unfolding_all (refine @id _ ?_; first | exact Eq.refl _ | exact Nat.le_refl _ | assumption)) only [Nat.reduceAdd, Nat.reduceMul, Nat.reduceLeDiff, Nat.reduceLT, Int.reduceAdd, Int.reduceSub, Int.reduceMul, Int.reduceNeg, Int.reduceLE, Int.reduceLT, Int.reduceToNat, Int.reduceEq, reduceCtorEq, ld_z, ld_s, st1_0, st1_1, st1_s, st2_0, st2_1, st2_s, isJ_i, isJ_r, isJ_n, isJ_l, cs_nil, cs_i, cs_r, cs_l, kF, List.getElem?_cons_succ, List.getElem?_cons_zero, List.set_cons_zero, List.set_cons_succ, GC_s, GC_n, GK_nil, GK_no, GK_yes, not_false_eq_true, back_eq, back_hp, inI_eq, inA_eq, true_and, and_true, and_self, if_true, if_false, bI_0, bI_1, bI_in, bI_T, bI_F, fitF, jmpF, nlF, pjA, iVal.eta, iYr.eta, List.getElem?_toArray, List.length_cons, List.length_nil, true_or, or_true, or_false, false_or, Classical.not_not, Bool.false_eq_true, hp_2, Nat.zero_le, Nat.le_refl, Option.some.injEq, Sum.inl.injEq, Sum.inr.injEq, not_true_eq_false, true_implies, false_implies, implies_true, gX12_judge_m]
        exact k4 y (Or.inl rfl)
    · have eT : jgD i T = dayA T := if_neg z
      rw [eT] at k3 k4 ql lk
      have z2 : ¬ i ≤ 0 := by omega
      rcases hb with rfl | rfl
      · by_cases w : v = (dayA T).1.lik s k j
        · simp (disch := first | assumption | rfl | exact inI_of (by omega) (by omega) | omega | decide | (simp only [sv_ext, sv_mc, Nat.le_refl]; done) | with_unfolding_all (refine @id _ ?_; first | exact Eq.refl _ | exact Nat.le_refl _ | assumption)) only [Nat.reduceAdd, Nat.reduceMul, Nat.reduceLeDiff, Nat.reduceLT, Int.reduceAdd, Int.reduceSub, Int.reduceMul, Int.reduceNeg, Int.reduceLE, Int.reduceLT, Int.reduceToNat, Int.reduceEq, reduceCtorEq, ld_z, ld_s, st1_0, st1_1, st1_s, st2_0, st2_1, st2_s, isJ_i, isJ_r, isJ_n, isJ_l, cs_nil, cs_i, cs_r, cs_l, kF, List.getElem?_cons_succ, List.getElem?_cons_zero, List.set_cons_zero, List.set_cons_succ, GC_s, GC_n, GK_nil, GK_no, GK_yes, not_false_eq_true, back_eq, back_hp, inI_eq, inA_eq, true_and, and_true, and_self, if_true, if_false, bI_0, bI_1, bI_in, bI_T, bI_F, fitF, jmpF, nlF, pjA, iVal.eta, iYr.eta, List.getElem?_toArray, List.length_cons, List.length_nil, true_or, or_true, or_false, false_or, Classical.not_not, Bool.false_eq_true, hp_2, Nat.zero_le, Nat.le_refl, Option.some.injEq, Sum.inl.injEq, Sum.inr.injEq, not_true_eq_false, true_implies, false_implies, implies_true, gX12_judge_m, y2, z2, rd_o, rd_o_m, mg, back_mr, mr_m, row_len, inA_lik, atLike_eq, ql, iv, eq_true w]
          exact k4 y (Or.inr w)
        · simp (disch := first | assumption | rfl | exact inI_of (by omega) (by omega) | omega | decide | (simp only [sv_ext, sv_mc, Nat.le_refl]; done) | with_unfolding_all (refine @id _ ?_; first | exact Eq.refl _ | exact Nat.le_refl _ | assumption)) only [Nat.reduceAdd, Nat.reduceMul, Nat.reduceLeDiff, Nat.reduceLT, Int.reduceAdd, Int.reduceSub, Int.reduceMul, Int.reduceNeg, Int.reduceLE, Int.reduceLT, Int.reduceToNat, Int.reduceEq, reduceCtorEq, ld_z, ld_s, st1_0, st1_1, st1_s, st2_0, st2_1, st2_s, isJ_i, isJ_r, isJ_n, isJ_l, cs_nil, cs_i, cs_r, cs_l, kF, List.getElem?_cons_succ, List.getElem?_cons_zero, List.set_cons_zero, List.set_cons_succ, GC_s, GC_n, GK_nil, GK_no, GK_yes, not_false_eq_true, back_eq, back_hp, inI_eq, inA_eq, true_and, and_true, and_self, if_true, if_false, bI_0, bI_1, bI_in, bI_T, bI_F, fitF, jmpF, nlF, pjA, iVal.eta, iYr.eta, List.getElem?_toArray, List.length_cons, List.length_nil, true_or, or_true, or_false, false_or, Classical.not_not, Bool.false_eq_true, hp_2, Nat.zero_le, Nat.le_refl, Option.some.injEq, Sum.inl.injEq, Sum.inr.injEq, not_true_eq_false, true_implies, false_implies, implies_true, gX12_judge_m, y2, z2, rd_o, rd_o_m, mg, back_mr, mr_m, row_len, inA_lik, atLike_eq, ql, iv, w]
          exact k3 y rfl w
      · simp (disch := first | assumption | rfl | exact inI_of (by omega) (by omega) | omega | decide | (simp only [sv_ext, sv_mc, Nat.le_refl]; done) | with_unfolding_all (refine @id _ ?_; first | exact Eq.refl _ | exact Nat.le_refl _ | assumption)) only [Nat.reduceAdd, Nat.reduceMul, Nat.reduceLeDiff, Nat.reduceLT, Int.reduceAdd, Int.reduceSub, Int.reduceMul, Int.reduceNeg, Int.reduceLE, Int.reduceLT, Int.reduceToNat, Int.reduceEq, reduceCtorEq, ld_z, ld_s, st1_0, st1_1, st1_s, st2_0, st2_1, st2_s, isJ_i, isJ_r, isJ_n, isJ_l, cs_nil, cs_i, cs_r, cs_l, kF, List.getElem?_cons_succ, List.getElem?_cons_zero, List.set_cons_zero, List.set_cons_succ, GC_s, GC_n, GK_nil, GK_no, GK_yes, not_false_eq_true, back_eq, back_hp, inI_eq, inA_eq, true_and, and_true, and_self, if_true, if_false, bI_0, bI_1, bI_in, bI_T, bI_F, fitF, jmpF, nlF, pjA, iVal.eta, iYr.eta, List.getElem?_toArray, List.length_cons, List.length_nil, true_or, or_true, or_false, false_or, Classical.not_not, Bool.false_eq_true, hp_2, Nat.zero_le, Nat.le_refl, Option.some.injEq, Sum.inl.injEq, Sum.inr.injEq, not_true_eq_false, true_implies, false_implies, implies_true, gX12_judge_m, y2, z2, rd_o, mg, back_mr]
        exact k4 y (Or.inl rfl)
theorem jgR_loop {X : iVal} (hd : D < 8) {cl : List Int} {s k j so sz : Int} (hz : A.mo.sz.getD D 0 = sz) (hs : A.mo.so.getD D 0 = so) (l1 : A.mo.sz.length = 8) (l2 : A.mo.el.length = 800) (l3 : A.mo.so.length = 8) (hso : 0 ≤ so ∧ so ≤ 2) (hsz : sz ≤ 100) (hel : ∀ i : Int, 0 ≤ i → i < sz → A.mo.el.getD (100 * (D : Int) + i).toNat 0 = cl.getD i.toNat 0) (her : ∀ i : Int, 0 ≤ i → i < sz → inI (cl.getD i.toNat 0) = true) (g0 : 0 ≤ s) (g1 : s < 2) (g2 : 0 ≤ k) (g3 : k < X.num s) (g3' : X.num s ≤ 5) (g4 : 0 ≤ j) (g5 : j < 5) {z5 : Int} : ∀ (n : Nat) (i : Int) (S T : iXY) (B : Int) (o7 o8 : Option iV), OkS T B → onS T X → (i ≤ 60 → jgD i T = S) → B + 5 * n ≤ 1000 → 0 ≤ i → i + n = sz → Q (some (.inl (jgV cl (lsk so) s k j n i S))) (hp (A.mr (jgR cl (lsk so) s k j n i T) e)) → Run sp sc (d + 6) mX12_judge 47 [some (.inr (.inr 140)), some (.inl s), some (.inl k), some (.inl j), some (.inl (D : Int)), some (.inl z5), some (.inl i), o7, o8] [] (hp (A.mr T e)) Q := by
  have eD : ((D : Int)).toNat = D := by omega
  intro n
  induction n with
  | zero =>
    intro i S T B o7 o8 hT hT2 hST hB h0 h1 hq
    refine G_run (B := [47, 125]) 60 _ _ _ _ ?_
    have e1 : sz ≤ i := by omega
    have hz2 : (A.mr T e).mo.sz.getD D 0 = sz := hz
    have l12 : (A.mr T e).mo.sz.length = 8 := l1
    simp (disch := first | assumption | rfl | exact inI_of (by omega) (by omega) | omega | decide | (simp only [sv_ext, sv_mc, Nat.le_refl]; done) | with_unfolding_all (refine @id _ ?_; first | exact Eq.refl _ | exact Nat.le_refl _ | assumption)) only [Nat.reduceAdd, Nat.reduceMul, Nat.reduceLeDiff, Nat.reduceLT, Int.reduceAdd, Int.reduceSub, Int.reduceMul, Int.reduceNeg, Int.reduceLE, Int.reduceLT, Int.reduceToNat, Int.reduceEq, reduceCtorEq, ld_z, ld_s, st1_0, st1_1, st1_s, st2_0, st2_1, st2_s, isJ_i, isJ_r, isJ_n, isJ_l, cs_nil, cs_i, cs_r, cs_l, kF, List.getElem?_cons_succ, List.getElem?_cons_zero, List.set_cons_zero, List.set_cons_succ, GC_s, GC_n, GK_nil, GK_no, GK_yes, not_false_eq_true, back_eq, back_hp, inI_eq, inA_eq, true_and, and_true, and_self, if_true, if_false, bI_0, bI_1, bI_in, bI_T, bI_F, fitF, jmpF, nlF, pjA, iVal.eta, iYr.eta, List.getElem?_toArray, List.length_cons, List.length_nil, true_or, or_true, or_false, false_or, Classical.not_not, Bool.false_eq_true, hp_2, Nat.zero_le, Nat.le_refl, Option.some.injEq, Sum.inl.injEq, Sum.inr.injEq, not_true_eq_false, true_implies, false_implies, implies_true, gX12_judge_m, rd_o, rd_o_sz, l12, eD, hz2, e1]
    exact hq
  | succ n ih =>
    intro i S T B o7 o8 hT hT2 hST hB h0 h1 hq
    have ev := hel i h0 (by omega)
    have iv := her i h0 (by omega)
    have hb : (if cl.getD i.toNat 0 = lsk so then (1 : Int) else 0) = 0 ∨ (if cl.getD i.toNat 0 = lsk so then (1 : Int) else 0) = 1 := by split <;> omega
    have t1 : ∀ {p : Prop} [Decidable p], (if p then (1 : Int) else 0) = 1 → p := fun {p} _ h => by
      by_cases c : p
      · exact c
      · rw [if_neg c] at h; exact absurd h (by decide)
    have t0 : ∀ {p : Prop} [Decidable p], (if p then (1 : Int) else 0) = 0 → ¬ p := fun {p} _ h c => by
      rw [if_pos c] at h; exact absurd h (by decide)
    refine jgR_seg1 (A := A.mr T e) (X := X) (d := d) hd hz hs l1 l2 l3 hso h0 (by omega) hsz ev iv ?_
    unfold jgV jgR at hq
    refine jgR_seg2 (X := X) (d := d) hT (by omega) hT2 g0 g1 g2 g3 g3' g4 g5 h0 (by omega) iv hb (fun y b => ?_) (fun y b => ?_) (fun y b w => ?_) (fun y b => ?_)
    · have z := t0 b
      rw [if_pos ⟨z, Or.inl y⟩, if_pos y, if_neg z] at hq
      exact hq
    · have z := t1 b
      rw [if_neg (fun u => u.1 z), if_pos y, if_pos z] at hq
      exact ih (i + 1) (dayA S) T B _ _ hT hT2 (fun u => by omega) (by omega) (by omega) (by omega) hq
    · have z := t0 b
      have eS := hST (by omega)
      subst eS
      rw [if_pos ⟨z, Or.inr w⟩, if_neg y, if_pos ⟨z, w⟩] at hq
      exact hq
    · have eS := hST (by omega)
      subst eS
      have cnd : ¬ (¬ cl.getD i.toNat 0 = lsk so ∧ ¬ cl.getD i.toNat 0 = (jgD i T).1.lik s k j) := fun u => b.elim (fun c => u.1 (t1 c)) (fun c => u.2 c)
      rw [if_neg (fun u => cnd ⟨u.1, u.2.elim (fun c => absurd c y) id⟩), if_neg y, if_neg cnd] at hq
      exact ih (i + 1) (dayA (jgD i T)) (jgD i T) (B + 5) _ _ (jgD_ok hT) (jgD_on hT hT2) (fun u => by
        show (if i + 1 = 0 then jgD i T else dayA (jgD i T)) = dayA (jgD i T)
        rw [if_neg (by omega)]) (by omega) (by omega) (by omega) hq
theorem ag_judge (hR : Rel A) {s k j a : Int} (is : inI s = true) (ik : inI k = true) (ij : inI j = true) (ia : inI a = true) : Agree sp sc mX11_judge mX12_judge [.inl s, .inl k, .inl j, .inl a] A := by
  have ns : ([109, 111, 113, 115, 117, 119, 121, 123] : List Nat).length = 8 := rfl
  have hO := hR.now
  have hr := hR.row
  have wk := fun (A1 : iA) (hk : A1.mo.ke = A.mo.ke) Q => @wrongRow_eq sp sc 16 A1 Q a ia (by rw [hk]; exact hR.lke) (by rw [hk]; exact rel_kev hR)
  by_cases c : (0 ≤ s ∧ s < 2) ∧ 0 ≤ k ∧ k < A.now.num s
  · have nn := hO.num c.1.1 c.1.2
    have n1 := hO.num (s := 1 - s) (by omega) (by omega)
    have i1 : inI (1 - s) = true := inI_of (by omega) (by omega)
    have c2 : 0 ≤ 1 - s ∧ 1 - s < 2 := by omega
    by_cases c3 : 0 ≤ j ∧ j < A.now.num (1 - s)
    · by_cases c4 : 0 ≤ a ∧ a < 8
      · have hS := hR.shs a.toNat (by omega)
        have hd : a.toNat < 8 := by omega
        have ea : ((a.toNat : Nat) : Int) = a := by omega
        simp only [if_pos c4] at wk
        rcases hS.hv with z | z | z
        · have wk := wk A rfl
          rw [hS.ho, z] at wk
          refine Agree.of (-11) A A rfl (fun Q => Call_eq ?_) (fun Q => Call_eq ?_) rfl rfl hR
          · apply eX11_judge 60; simp (disch := first | assumption | rfl | exact inI_of (by omega) (by omega) | omega | decide | (simp only [sv_ext, sv_mc, Nat.le_refl]; done) | with_unfolding_all (refine @id _ ?_; first | exact Eq.refl _ | exact Nat.le_refl _ | assumption)) only [Nat.reduceAdd, Nat.reduceMul, Nat.reduceLeDiff, Nat.reduceLT, Int.reduceAdd, Int.reduceSub, Int.reduceMul, Int.reduceNeg, Int.reduceLE, Int.reduceLT, Int.reduceToNat, Int.reduceEq, reduceCtorEq, ld_z, ld_s, st1_0, st1_1, st1_s, st2_0, st2_1, st2_s, isJ_i, isJ_r, isJ_n, isJ_l, cs_nil, cs_i, cs_r, cs_l, kF, List.getElem?_cons_succ, List.getElem?_cons_zero, List.set_cons_zero, List.set_cons_succ, GC_s, GC_n, GK_nil, GK_no, GK_yes, not_false_eq_true, back_eq, back_hp, inI_eq, inA_eq, true_and, and_true, and_self, if_true, if_false, bI_0, bI_1, bI_in, bI_T, bI_F, fitF, jmpF, nlF, pjA, iVal.eta, iYr.eta, List.getElem?_toArray, List.length_cons, List.length_nil, true_or, or_true, or_false, false_or, Classical.not_not, Bool.false_eq_true, hp_2, Nat.zero_le, Nat.le_refl, Option.some.injEq, Sum.inl.injEq, Sum.inr.injEq, not_true_eq_false, true_implies, false_implies, implies_true, rd_v, f_num, f_lik, f_dep, f_bnd, f_man, f_wom, f_sta, f_dds, f_who, rd_e, v_now, hasOne_eq, hasTwo_eq, hasCouple_eq, orNone_eq, natureOf_eq, rd_nat, place_eq, rd_v1, rd_v3, rd_v4, rd_v6, rd_v7, rd_v8, rd_v9, rd_v10, isShelf_eq, isSide_eq, isDeed_eq, isKind_eq, isMindSpan_eq, gX11_judge, c, c3, c4, rd_ss, ns, sh_at, refR_eq hd hS.hv, z, rfR, rd_s]
          · apply eX12_judge 60; simp (disch := first | assumption | rfl | exact inI_of (by omega) (by omega) | omega | decide | (simp only [sv_ext, sv_mc, Nat.le_refl]; done) | with_unfolding_all (refine @id _ ?_; first | exact Eq.refl _ | exact Nat.le_refl _ | assumption)) only [Nat.reduceAdd, Nat.reduceMul, Nat.reduceLeDiff, Nat.reduceLT, Int.reduceAdd, Int.reduceSub, Int.reduceMul, Int.reduceNeg, Int.reduceLE, Int.reduceLT, Int.reduceToNat, Int.reduceEq, reduceCtorEq, ld_z, ld_s, st1_0, st1_1, st1_s, st2_0, st2_1, st2_s, isJ_i, isJ_r, isJ_n, isJ_l, cs_nil, cs_i, cs_r, cs_l, kF, List.getElem?_cons_succ, List.getElem?_cons_zero, List.set_cons_zero, List.set_cons_succ, GC_s, GC_n, GK_nil, GK_no, GK_yes, not_false_eq_true, back_eq, back_hp, inI_eq, inA_eq, true_and, and_true, and_self, if_true, if_false, bI_0, bI_1, bI_in, bI_T, bI_F, fitF, jmpF, nlF, pjA, iVal.eta, iYr.eta, List.getElem?_toArray, List.length_cons, List.length_nil, true_or, or_true, or_false, false_or, Classical.not_not, Bool.false_eq_true, hp_2, Nat.zero_le, Nat.le_refl, Option.some.injEq, Sum.inl.injEq, Sum.inr.injEq, not_true_eq_false, true_implies, false_implies, implies_true, rd_o, rd_o_s, hr, row_len, inA_one, inA_lik, inA_cpl, isOne_eq hO hr, isCouple_eq hO hr, isIn_eq, atOne_eq, atLike_eq, atCouple_eq, r_num, q_n0, q_n1, r_cp, r_dy, r_sl, r_who, q_kind, q_fig, q_dep, q_bnd, q_lik, q_man, q_wom, q_sta, q_dds, orNoneR_eq, Int.zero_add, gX12_judge, c, c2, c3, i1, rd_o, wk, rfR]
        · have wk := wk A rfl
          rw [hS.ho, z] at wk
          refine Agree.of (-12) A A rfl (fun Q => Call_eq ?_) (fun Q => Call_eq ?_) rfl rfl hR
          · apply eX11_judge 60; simp (disch := first | assumption | rfl | exact inI_of (by omega) (by omega) | omega | decide | (simp only [sv_ext, sv_mc, Nat.le_refl]; done) | with_unfolding_all (refine @id _ ?_; first | exact Eq.refl _ | exact Nat.le_refl _ | assumption)) only [Nat.reduceAdd, Nat.reduceMul, Nat.reduceLeDiff, Nat.reduceLT, Int.reduceAdd, Int.reduceSub, Int.reduceMul, Int.reduceNeg, Int.reduceLE, Int.reduceLT, Int.reduceToNat, Int.reduceEq, reduceCtorEq, ld_z, ld_s, st1_0, st1_1, st1_s, st2_0, st2_1, st2_s, isJ_i, isJ_r, isJ_n, isJ_l, cs_nil, cs_i, cs_r, cs_l, kF, List.getElem?_cons_succ, List.getElem?_cons_zero, List.set_cons_zero, List.set_cons_succ, GC_s, GC_n, GK_nil, GK_no, GK_yes, not_false_eq_true, back_eq, back_hp, inI_eq, inA_eq, true_and, and_true, and_self, if_true, if_false, bI_0, bI_1, bI_in, bI_T, bI_F, fitF, jmpF, nlF, pjA, iVal.eta, iYr.eta, List.getElem?_toArray, List.length_cons, List.length_nil, true_or, or_true, or_false, false_or, Classical.not_not, Bool.false_eq_true, hp_2, Nat.zero_le, Nat.le_refl, Option.some.injEq, Sum.inl.injEq, Sum.inr.injEq, not_true_eq_false, true_implies, false_implies, implies_true, rd_v, f_num, f_lik, f_dep, f_bnd, f_man, f_wom, f_sta, f_dds, f_who, rd_e, v_now, hasOne_eq, hasTwo_eq, hasCouple_eq, orNone_eq, natureOf_eq, rd_nat, place_eq, rd_v1, rd_v3, rd_v4, rd_v6, rd_v7, rd_v8, rd_v9, rd_v10, isShelf_eq, isSide_eq, isDeed_eq, isKind_eq, isMindSpan_eq, gX11_judge, c, c3, c4, rd_ss, ns, sh_at, refR_eq hd hS.hv, z, rfR, rd_s]
          · apply eX12_judge 60; simp (disch := first | assumption | rfl | exact inI_of (by omega) (by omega) | omega | decide | (simp only [sv_ext, sv_mc, Nat.le_refl]; done) | with_unfolding_all (refine @id _ ?_; first | exact Eq.refl _ | exact Nat.le_refl _ | assumption)) only [Nat.reduceAdd, Nat.reduceMul, Nat.reduceLeDiff, Nat.reduceLT, Int.reduceAdd, Int.reduceSub, Int.reduceMul, Int.reduceNeg, Int.reduceLE, Int.reduceLT, Int.reduceToNat, Int.reduceEq, reduceCtorEq, ld_z, ld_s, st1_0, st1_1, st1_s, st2_0, st2_1, st2_s, isJ_i, isJ_r, isJ_n, isJ_l, cs_nil, cs_i, cs_r, cs_l, kF, List.getElem?_cons_succ, List.getElem?_cons_zero, List.set_cons_zero, List.set_cons_succ, GC_s, GC_n, GK_nil, GK_no, GK_yes, not_false_eq_true, back_eq, back_hp, inI_eq, inA_eq, true_and, and_true, and_self, if_true, if_false, bI_0, bI_1, bI_in, bI_T, bI_F, fitF, jmpF, nlF, pjA, iVal.eta, iYr.eta, List.getElem?_toArray, List.length_cons, List.length_nil, true_or, or_true, or_false, false_or, Classical.not_not, Bool.false_eq_true, hp_2, Nat.zero_le, Nat.le_refl, Option.some.injEq, Sum.inl.injEq, Sum.inr.injEq, not_true_eq_false, true_implies, false_implies, implies_true, rd_o, rd_o_s, hr, row_len, inA_one, inA_lik, inA_cpl, isOne_eq hO hr, isCouple_eq hO hr, isIn_eq, atOne_eq, atLike_eq, atCouple_eq, r_num, q_n0, q_n1, r_cp, r_dy, r_sl, r_who, q_kind, q_fig, q_dep, q_bnd, q_lik, q_man, q_wom, q_sta, q_dds, orNoneR_eq, Int.zero_add, gX12_judge, c, c2, c3, i1, rd_o, wk, rfR]
        · have sb := hS.sz
          have h0 := okS_s0 hR
          obtain ⟨n, hn⟩ : ∃ n : Nat, (n : Int) = (A.sh a.toNat).sz := ⟨(A.sh a.toNat).sz.toNat, by omega⟩
          have hb := fun Q => @beginC sp sc 15 A Q hR
          have l100 : (A.cel a.toNat).length ≤ 1000 := by
            rcases hS.ca with y | y
            · have : A.cel a.toNat = [] := by unfold iA.cel; rw [if_pos (by omega)]
              rw [this]; exact Nat.zero_le _
            · omega
          have hC := jgC_ok (cl := A.cel a.toNat) (q := lsk (A.sh a.toNat).so) (s := s) (k := k) (j := j) n 0 A.s0 0 h0
          have hD := jgR_ok (cl := A.cel a.toNat) (q := lsk (A.sh a.toNat).so) (s := s) (k := k) (j := j) n 0 A.s0 0 h0
          have hV := @jgV_b (A.cel a.toNat) (lsk (A.sh a.toNat).so) s k j n 0 A.s0 (by omega)
          have kC := fun Q o4 o6 => @jgC_loop sp sc 12 A Q a.toNat hd (celC_of hS) sb hS.cl l100 (hS.er z) s k j (lsk (A.sh a.toNat).so) c.1.1 c.1.2 c.2.1 (by omega) c3.1 (by omega) lsk_j o4 o6 n 0 A.s0 0 h0 (by omega) (by omega) (by omega)
          have kR := fun (A1 : iA) (h1 : A1.mo = A.mo) Q z5 o7 o8 => @jgR_loop sp sc 13 A1 Q A.now.dy a.toNat A.now hd (A.cel a.toNat) s k j (A.sh a.toNat).so (A.sh a.toNat).sz (by rw [h1]; exact hS.zz z) (by rw [h1]; exact hS.ss z) (by rw [h1]; exact hR.lsz) (by rw [h1]; exact hR.lel) (by rw [h1]; exact hR.lso) hS.so sb.2 (by rw [h1]; exact hS.el z) (hS.er z) c.1.1 c.1.2 c.2.1 c.2.2 nn.2 c3.1 (by omega) z5 n 0 A.s0 A.s0 0 o7 o8 h0 rfl (fun _ => rfl) (by omega) (by omega) (by omega)
          generalize jgC (A.cel a.toNat) (lsk (A.sh a.toNat).so) s k j n 0 A.s0 = S at *
          generalize jgR (A.cel a.toNat) (lsk (A.sh a.toNat).so) s k j n 0 A.s0 = T at *
          generalize jgV (A.cel a.toNat) (lsk (A.sh a.toNat).so) s k j n 0 A.s0 = v at *
          have L := LR.sxy (S := S) (LR.of hR)
          have hr2 : (A.sxy S).mo.s = rowOf A.now A.now.dy := hr
          have hm : ∀ Q, Call sp sc 18 mX12_inMind [.inr (.inr 140), .inl 0] (hp (A.sxy S)) Q = Q none (hp ((A.sxy S).mr A.s0 A.now.dy)) := fun Q => mr_mind (d := 12) (n := 0) hO hr2 L hR.yr.lbz hR.yr.bus (by omega)
          have wk := wk (A.sxy S) rfl
          have k1 : (A.sxy S).mo.ke.getD a.toNat 0 = 2 := hS.ho.trans z
          rw [k1] at wk
          have lo := fun Q => @leastOf_eq sp sc 18 A Q a.toNat hd hS.so
          refine Agree.of v (A.sxy S) ((A.sxy S).mr T A.now.dy) (inI_of (by omega) (by omega)) (fun Q => Call_eq ?_) (fun Q => Call_eq ?_) rfl rfl (rel_mr (rel_sxy hR hC) hD)
          · apply eX11_judge 60; simp (disch := first | assumption | rfl | exact inI_of (by omega) (by omega) | omega | decide | (simp only [sv_ext, sv_mc, Nat.le_refl]; done) | with_unfolding_all (refine @id _ ?_; first | exact Eq.refl _ | exact Nat.le_refl _ | assumption)) only [Nat.reduceAdd, Nat.reduceMul, Nat.reduceLeDiff, Nat.reduceLT, Int.reduceAdd, Int.reduceSub, Int.reduceMul, Int.reduceNeg, Int.reduceLE, Int.reduceLT, Int.reduceToNat, Int.reduceEq, reduceCtorEq, ld_z, ld_s, st1_0, st1_1, st1_s, st2_0, st2_1, st2_s, isJ_i, isJ_r, isJ_n, isJ_l, cs_nil, cs_i, cs_r, cs_l, kF, List.getElem?_cons_succ, List.getElem?_cons_zero, List.set_cons_zero, List.set_cons_succ, GC_s, GC_n, GK_nil, GK_no, GK_yes, not_false_eq_true, back_eq, inI_eq, inA_eq, true_and, and_true, and_self, if_true, if_false, bI_0, bI_1, bI_in, bI_T, bI_F, fitF, jmpF, nlF, pjA, iVal.eta, iYr.eta, List.getElem?_toArray, List.length_cons, List.length_nil, true_or, or_true, or_false, false_or, Classical.not_not, Bool.false_eq_true, hp_2, Nat.zero_le, Nat.le_refl, Option.some.injEq, Sum.inl.injEq, Sum.inr.injEq, not_true_eq_false, true_implies, false_implies, implies_true, rd_v, f_num, f_lik, f_dep, f_bnd, f_man, f_wom, f_sta, f_dds, f_who, rd_y, rd_y1, rd_y2, rd_y3, rd_y4, wy, wy1, wy2, wy3, wy4, sxy_mnd, sxy_now, sxy_img, sxy_yr, sxy_xy, sxy_sxy, sv_sxy, f_ord, f_bus, f_wai, f_fin, rd_e, v_now, hasOne_eq, hasTwo_eq, hasCouple_eq, orNone_eq, natureOf_eq, rd_nat, place_eq, rd_v1, rd_v3, rd_v4, rd_v6, rd_v7, rd_v8, rd_v9, rd_v10, isShelf_eq, isSide_eq, isDeed_eq, isKind_eq, isMindSpan_eq, back_sxy, back_sxy1, f_orN, gX11_judge, c, c3, c4, rd_ss, ns, sh_at, refR_eq hd hS.hv, z, rfR, rd_s, lo, hb]
            exact kC _ _ _ ⟨rfl, rfl⟩
          · have hr := hr2
            apply eX12_judge 60; simp (disch := first | assumption | rfl | exact inI_of (by omega) (by omega) | omega | decide | (simp only [sv_ext, sv_mc, Nat.le_refl]; done) | with_unfolding_all (refine @id _ ?_; first | exact Eq.refl _ | exact Nat.le_refl _ | assumption)) only [Nat.reduceAdd, Nat.reduceMul, Nat.reduceLeDiff, Nat.reduceLT, Int.reduceAdd, Int.reduceSub, Int.reduceMul, Int.reduceNeg, Int.reduceLE, Int.reduceLT, Int.reduceToNat, Int.reduceEq, reduceCtorEq, ld_z, ld_s, st1_0, st1_1, st1_s, st2_0, st2_1, st2_s, isJ_i, isJ_r, isJ_n, isJ_l, cs_nil, cs_i, cs_r, cs_l, kF, List.getElem?_cons_succ, List.getElem?_cons_zero, List.set_cons_zero, List.set_cons_succ, GC_s, GC_n, GK_nil, GK_no, GK_yes, not_false_eq_true, back_eq, back_hp, inI_eq, inA_eq, true_and, and_true, and_self, if_true, if_false, bI_0, bI_1, bI_in, bI_T, bI_F, fitF, jmpF, nlF, pjA, iVal.eta, iYr.eta, List.getElem?_toArray, List.length_cons, List.length_nil, true_or, or_true, or_false, false_or, Classical.not_not, Bool.false_eq_true, hp_2, Nat.zero_le, Nat.le_refl, Option.some.injEq, Sum.inl.injEq, Sum.inr.injEq, not_true_eq_false, true_implies, false_implies, implies_true, rd_o, rd_o_s, hr, row_len, inA_one, inA_lik, inA_cpl, isOne_eq hO hr, isCouple_eq hO hr, isIn_eq, atOne_eq, atLike_eq, atCouple_eq, r_num, q_n0, q_n1, r_cp, r_dy, r_sl, r_who, q_kind, q_fig, q_dep, q_bnd, q_lik, q_man, q_wom, q_sta, q_dds, orNoneR_eq, Int.zero_add, gX12_judge, c, c2, c3, i1, rd_o, wk, rfR, hm, back_mr1]
            have kR := kR (A.sxy S) rfl
            rw [ea] at kR
            exact kR _ _ _ _ ⟨rfl, rfl⟩
      · have wk := wk A rfl
        rw [if_neg c4] at wk
        refine Agree.of (-1) A A rfl (fun Q => Call_eq ?_) (fun Q => Call_eq ?_) rfl rfl hR
        · apply eX11_judge 60; simp (disch := first | assumption | rfl | exact inI_of (by omega) (by omega) | omega | decide | (simp only [sv_ext, sv_mc, Nat.le_refl]; done) | with_unfolding_all (refine @id _ ?_; first | exact Eq.refl _ | exact Nat.le_refl _ | assumption)) only [Nat.reduceAdd, Nat.reduceMul, Nat.reduceLeDiff, Nat.reduceLT, Int.reduceAdd, Int.reduceSub, Int.reduceMul, Int.reduceNeg, Int.reduceLE, Int.reduceLT, Int.reduceToNat, Int.reduceEq, reduceCtorEq, ld_z, ld_s, st1_0, st1_1, st1_s, st2_0, st2_1, st2_s, isJ_i, isJ_r, isJ_n, isJ_l, cs_nil, cs_i, cs_r, cs_l, kF, List.getElem?_cons_succ, List.getElem?_cons_zero, List.set_cons_zero, List.set_cons_succ, GC_s, GC_n, GK_nil, GK_no, GK_yes, not_false_eq_true, back_eq, back_hp, inI_eq, inA_eq, true_and, and_true, and_self, if_true, if_false, bI_0, bI_1, bI_in, bI_T, bI_F, fitF, jmpF, nlF, pjA, iVal.eta, iYr.eta, List.getElem?_toArray, List.length_cons, List.length_nil, true_or, or_true, or_false, false_or, Classical.not_not, Bool.false_eq_true, hp_2, Nat.zero_le, Nat.le_refl, Option.some.injEq, Sum.inl.injEq, Sum.inr.injEq, not_true_eq_false, true_implies, false_implies, implies_true, rd_v, f_num, f_lik, f_dep, f_bnd, f_man, f_wom, f_sta, f_dds, f_who, rd_e, v_now, hasOne_eq, hasTwo_eq, hasCouple_eq, orNone_eq, natureOf_eq, rd_nat, place_eq, rd_v1, rd_v3, rd_v4, rd_v6, rd_v7, rd_v8, rd_v9, rd_v10, isShelf_eq, isSide_eq, isDeed_eq, isKind_eq, isMindSpan_eq, gX11_judge, c, c3, c4]
        · apply eX12_judge 60; simp (disch := first | assumption | rfl | exact inI_of (by omega) (by omega) | omega | decide | (simp only [sv_ext, sv_mc, Nat.le_refl]; done) | with_unfolding_all (refine @id _ ?_; first | exact Eq.refl _ | exact Nat.le_refl _ | assumption)) only [Nat.reduceAdd, Nat.reduceMul, Nat.reduceLeDiff, Nat.reduceLT, Int.reduceAdd, Int.reduceSub, Int.reduceMul, Int.reduceNeg, Int.reduceLE, Int.reduceLT, Int.reduceToNat, Int.reduceEq, reduceCtorEq, ld_z, ld_s, st1_0, st1_1, st1_s, st2_0, st2_1, st2_s, isJ_i, isJ_r, isJ_n, isJ_l, cs_nil, cs_i, cs_r, cs_l, kF, List.getElem?_cons_succ, List.getElem?_cons_zero, List.set_cons_zero, List.set_cons_succ, GC_s, GC_n, GK_nil, GK_no, GK_yes, not_false_eq_true, back_eq, back_hp, inI_eq, inA_eq, true_and, and_true, and_self, if_true, if_false, bI_0, bI_1, bI_in, bI_T, bI_F, fitF, jmpF, nlF, pjA, iVal.eta, iYr.eta, List.getElem?_toArray, List.length_cons, List.length_nil, true_or, or_true, or_false, false_or, Classical.not_not, Bool.false_eq_true, hp_2, Nat.zero_le, Nat.le_refl, Option.some.injEq, Sum.inl.injEq, Sum.inr.injEq, not_true_eq_false, true_implies, false_implies, implies_true, rd_o, rd_o_s, hr, row_len, inA_one, inA_lik, inA_cpl, isOne_eq hO hr, isCouple_eq hO hr, isIn_eq, atOne_eq, atLike_eq, atCouple_eq, r_num, q_n0, q_n1, r_cp, r_dy, r_sl, r_who, q_kind, q_fig, q_dep, q_bnd, q_lik, q_man, q_wom, q_sta, q_dds, orNoneR_eq, Int.zero_add, gX12_judge, c, c2, c3, i1, rd_o, wk]
    · refine Agree.of (-1) A A rfl (fun Q => Call_eq ?_) (fun Q => Call_eq ?_) rfl rfl hR
      · apply eX11_judge 60; simp (disch := first | assumption | rfl | exact inI_of (by omega) (by omega) | omega | decide | (simp only [sv_ext, sv_mc, Nat.le_refl]; done) | with_unfolding_all (refine @id _ ?_; first | exact Eq.refl _ | exact Nat.le_refl _ | assumption)) only [Nat.reduceAdd, Nat.reduceMul, Nat.reduceLeDiff, Nat.reduceLT, Int.reduceAdd, Int.reduceSub, Int.reduceMul, Int.reduceNeg, Int.reduceLE, Int.reduceLT, Int.reduceToNat, Int.reduceEq, reduceCtorEq, ld_z, ld_s, st1_0, st1_1, st1_s, st2_0, st2_1, st2_s, isJ_i, isJ_r, isJ_n, isJ_l, cs_nil, cs_i, cs_r, cs_l, kF, List.getElem?_cons_succ, List.getElem?_cons_zero, List.set_cons_zero, List.set_cons_succ, GC_s, GC_n, GK_nil, GK_no, GK_yes, not_false_eq_true, back_eq, back_hp, inI_eq, inA_eq, true_and, and_true, and_self, if_true, if_false, bI_0, bI_1, bI_in, bI_T, bI_F, fitF, jmpF, nlF, pjA, iVal.eta, iYr.eta, List.getElem?_toArray, List.length_cons, List.length_nil, true_or, or_true, or_false, false_or, Classical.not_not, Bool.false_eq_true, hp_2, Nat.zero_le, Nat.le_refl, Option.some.injEq, Sum.inl.injEq, Sum.inr.injEq, not_true_eq_false, true_implies, false_implies, implies_true, rd_v, f_num, f_lik, f_dep, f_bnd, f_man, f_wom, f_sta, f_dds, f_who, rd_e, v_now, hasOne_eq, hasTwo_eq, hasCouple_eq, orNone_eq, natureOf_eq, rd_nat, place_eq, rd_v1, rd_v3, rd_v4, rd_v6, rd_v7, rd_v8, rd_v9, rd_v10, isShelf_eq, isSide_eq, isDeed_eq, isKind_eq, isMindSpan_eq, gX11_judge, c, c3]
      · apply eX12_judge 60; simp (disch := first | assumption | rfl | exact inI_of (by omega) (by omega) | omega | decide | (simp only [sv_ext, sv_mc, Nat.le_refl]; done) | with_unfolding_all (refine @id _ ?_; first | exact Eq.refl _ | exact Nat.le_refl _ | assumption)) only [Nat.reduceAdd, Nat.reduceMul, Nat.reduceLeDiff, Nat.reduceLT, Int.reduceAdd, Int.reduceSub, Int.reduceMul, Int.reduceNeg, Int.reduceLE, Int.reduceLT, Int.reduceToNat, Int.reduceEq, reduceCtorEq, ld_z, ld_s, st1_0, st1_1, st1_s, st2_0, st2_1, st2_s, isJ_i, isJ_r, isJ_n, isJ_l, cs_nil, cs_i, cs_r, cs_l, kF, List.getElem?_cons_succ, List.getElem?_cons_zero, List.set_cons_zero, List.set_cons_succ, GC_s, GC_n, GK_nil, GK_no, GK_yes, not_false_eq_true, back_eq, back_hp, inI_eq, inA_eq, true_and, and_true, and_self, if_true, if_false, bI_0, bI_1, bI_in, bI_T, bI_F, fitF, jmpF, nlF, pjA, iVal.eta, iYr.eta, List.getElem?_toArray, List.length_cons, List.length_nil, true_or, or_true, or_false, false_or, Classical.not_not, Bool.false_eq_true, hp_2, Nat.zero_le, Nat.le_refl, Option.some.injEq, Sum.inl.injEq, Sum.inr.injEq, not_true_eq_false, true_implies, false_implies, implies_true, rd_o, rd_o_s, hr, row_len, inA_one, inA_lik, inA_cpl, isOne_eq hO hr, isCouple_eq hO hr, isIn_eq, atOne_eq, atLike_eq, atCouple_eq, r_num, q_n0, q_n1, r_cp, r_dy, r_sl, r_who, q_kind, q_fig, q_dep, q_bnd, q_lik, q_man, q_wom, q_sta, q_dds, orNoneR_eq, Int.zero_add, gX12_judge, c, c2, c3, i1]
  · refine Agree.of (-1) A A rfl (fun Q => Call_eq ?_) (fun Q => Call_eq ?_) rfl rfl hR
    · apply eX11_judge 60; simp (disch := first | assumption | rfl | exact inI_of (by omega) (by omega) | omega | decide | (simp only [sv_ext, sv_mc, Nat.le_refl]; done) | with_unfolding_all (refine @id _ ?_; first | exact Eq.refl _ | exact Nat.le_refl _ | assumption)) only [Nat.reduceAdd, Nat.reduceMul, Nat.reduceLeDiff, Nat.reduceLT, Int.reduceAdd, Int.reduceSub, Int.reduceMul, Int.reduceNeg, Int.reduceLE, Int.reduceLT, Int.reduceToNat, Int.reduceEq, reduceCtorEq, ld_z, ld_s, st1_0, st1_1, st1_s, st2_0, st2_1, st2_s, isJ_i, isJ_r, isJ_n, isJ_l, cs_nil, cs_i, cs_r, cs_l, kF, List.getElem?_cons_succ, List.getElem?_cons_zero, List.set_cons_zero, List.set_cons_succ, GC_s, GC_n, GK_nil, GK_no, GK_yes, not_false_eq_true, back_eq, back_hp, inI_eq, inA_eq, true_and, and_true, and_self, if_true, if_false, bI_0, bI_1, bI_in, bI_T, bI_F, fitF, jmpF, nlF, pjA, iVal.eta, iYr.eta, List.getElem?_toArray, List.length_cons, List.length_nil, true_or, or_true, or_false, false_or, Classical.not_not, Bool.false_eq_true, hp_2, Nat.zero_le, Nat.le_refl, Option.some.injEq, Sum.inl.injEq, Sum.inr.injEq, not_true_eq_false, true_implies, false_implies, implies_true, rd_v, f_num, f_lik, f_dep, f_bnd, f_man, f_wom, f_sta, f_dds, f_who, rd_e, v_now, hasOne_eq, hasTwo_eq, hasCouple_eq, orNone_eq, natureOf_eq, rd_nat, place_eq, rd_v1, rd_v3, rd_v4, rd_v6, rd_v7, rd_v8, rd_v9, rd_v10, isShelf_eq, isSide_eq, isDeed_eq, isKind_eq, isMindSpan_eq, gX11_judge, c, false_and]
    · apply eX12_judge 60; simp (disch := first | assumption | rfl | exact inI_of (by omega) (by omega) | omega | decide | (simp only [sv_ext, sv_mc, Nat.le_refl]; done) | with_unfolding_all (refine @id _ ?_; first | exact Eq.refl _ | exact Nat.le_refl _ | assumption)) only [Nat.reduceAdd, Nat.reduceMul, Nat.reduceLeDiff, Nat.reduceLT, Int.reduceAdd, Int.reduceSub, Int.reduceMul, Int.reduceNeg, Int.reduceLE, Int.reduceLT, Int.reduceToNat, Int.reduceEq, reduceCtorEq, ld_z, ld_s, st1_0, st1_1, st1_s, st2_0, st2_1, st2_s, isJ_i, isJ_r, isJ_n, isJ_l, cs_nil, cs_i, cs_r, cs_l, kF, List.getElem?_cons_succ, List.getElem?_cons_zero, List.set_cons_zero, List.set_cons_succ, GC_s, GC_n, GK_nil, GK_no, GK_yes, not_false_eq_true, back_eq, back_hp, inI_eq, inA_eq, true_and, and_true, and_self, if_true, if_false, bI_0, bI_1, bI_in, bI_T, bI_F, fitF, jmpF, nlF, pjA, iVal.eta, iYr.eta, List.getElem?_toArray, List.length_cons, List.length_nil, true_or, or_true, or_false, false_or, Classical.not_not, Bool.false_eq_true, hp_2, Nat.zero_le, Nat.le_refl, Option.some.injEq, Sum.inl.injEq, Sum.inr.injEq, not_true_eq_false, true_implies, false_implies, implies_true, rd_o, rd_o_s, hr, row_len, inA_one, inA_lik, inA_cpl, isOne_eq hO hr, isCouple_eq hO hr, isIn_eq, atOne_eq, atLike_eq, atCouple_eq, r_num, q_n0, q_n1, r_cp, r_dy, r_sl, r_who, q_kind, q_fig, q_dep, q_bnd, q_lik, q_man, q_wom, q_sta, q_dds, orNoneR_eq, Int.zero_add, gX12_judge, c]
end OPS
