section GG
variable {sp : Nat → List iV → iH → Option (Option iV × iH)} {sc : List Int}
theorem gX12_judge : (∀ (n d : Nat) (L : List (Option iV)) (st : List iV) (h : iH) (Q : Option iV → iH → Prop), G sp sc [47] d mX12_judge (n + 1) 0 L st h Q = (match ld L 0 with | some (.inr (.inr (r + 1))) => G sp sc [47] d mX12_judge n 1 L (.inr (.inr (r + 1)) :: st) h Q | _ => False)) ∧
  (∀ (n d : Nat) (L : List (Option iV)) (st : List iV) (h : iH) (Q : Option iV → iH → Prop), G sp sc [47] d mX12_judge (n + 1) 1 L st h Q = (match ld L 1 with | some (.inl x) => G sp sc [47] d mX12_judge n 2 L (.inl x :: st) h Q | _ => False)) ∧
  (∀ (n d : Nat) (L : List (Option iV)) (st : List iV) (h : iH) (Q : Option iV → iH → Prop), G sp sc [47] d mX12_judge (n + 1) 2 L st h Q = (match ld L 2 with | some (.inl x) => G sp sc [47] d mX12_judge n 3 L (.inl x :: st) h Q | _ => False)) ∧
  (∀ (n d : Nat) (L : List (Option iV)) (r : List iV) (m : Nat) (z0 : iV) (z1 : iV) (h : iH) (Q : Option iV → iH → Prop), G sp sc [47] (d + 1) mX12_judge (n + 1) 3 L (z1 :: z0 :: .inr (.inr (m + 2)) :: r) h Q = (match h.1[m]? with | some (.inl (ci, _)) => (match lkC 12 175 ci with | some (y1, n1, kd) => (n1 = 2 ∧ (kd = 2 ∨ kd = 3 ∨ kd = 8) ∧ cs r ≤ 8) ∧ Call sp sc d y1 [.inr (.inr (m + 2)), z0, z1] h (fun q h1 => GC sp sc [47] (d + 1) mX12_judge n 6 L q r h h1 Q) | none => False) | _ => False)) ∧
  (∀ (n d : Nat) (L : List (Option iV)) (a : Int) (r : List iV) (h : iH) (Q : Option iV → iH → Prop), G sp sc [47] d mX12_judge (n + 1) 6 L (.inl a :: r) h Q = (inI a = true ∧ (a = 0 → G sp sc [47] d mX12_judge n 20 L r h Q) ∧ (¬ (a = 0) → G sp sc [47] d mX12_judge n 9 L r h Q))) ∧
  (∀ (n d : Nat) (L : List (Option iV)) (st : List iV) (h : iH) (Q : Option iV → iH → Prop), G sp sc [47] d mX12_judge (n + 1) 9 L st h Q = (match ld L 0 with | some (.inr (.inr (r + 1))) => G sp sc [47] d mX12_judge n 10 L (.inr (.inr (r + 1)) :: st) h Q | _ => False)) ∧
  (∀ (n d : Nat) (L : List (Option iV)) (st : List iV) (h : iH) (Q : Option iV → iH → Prop), G sp sc [47] d mX12_judge (n + 1) 10 L st h Q = G sp sc [47] d mX12_judge n 11 L (.inl 1 :: st) h Q) ∧
  (∀ (n d : Nat) (L : List (Option iV)) (st : List iV) (h : iH) (Q : Option iV → iH → Prop), G sp sc [47] d mX12_judge (n + 1) 11 L st h Q = (match ld L 1 with | some (.inl x) => G sp sc [47] d mX12_judge n 12 L (.inl x :: st) h Q | _ => False)) ∧
  (∀ (n d : Nat) (L : List (Option iV)) (a : Int) (b : Int) (r : List iV) (h : iH) (Q : Option iV → iH → Prop), G sp sc [47] d mX12_judge (n + 1) 12 L (.inl b :: .inl a :: r) h Q = G sp sc [47] d mX12_judge n 13 L (.inl (a - b) :: r) h Q) ∧
  (∀ (n d : Nat) (L : List (Option iV)) (st : List iV) (h : iH) (Q : Option iV → iH → Prop), G sp sc [47] d mX12_judge (n + 1) 13 L st h Q = (match ld L 3 with | some (.inl x) => G sp sc [47] d mX12_judge n 14 L (.inl x :: st) h Q | _ => False)) ∧
  (∀ (n d : Nat) (L : List (Option iV)) (r : List iV) (m : Nat) (z0 : iV) (z1 : iV) (h : iH) (Q : Option iV → iH → Prop), G sp sc [47] (d + 1) mX12_judge (n + 1) 14 L (z1 :: z0 :: .inr (.inr (m + 2)) :: r) h Q = (match h.1[m]? with | some (.inl (ci, _)) => (match lkC 12 175 ci with | some (y1, n1, kd) => (n1 = 2 ∧ (kd = 2 ∨ kd = 3 ∨ kd = 8) ∧ cs r ≤ 8) ∧ Call sp sc d y1 [.inr (.inr (m + 2)), z0, z1] h (fun q h1 => GC sp sc [47] (d + 1) mX12_judge n 17 L q r h h1 Q) | none => False) | _ => False)) ∧
  (∀ (n d : Nat) (L : List (Option iV)) (a : Int) (r : List iV) (h : iH) (Q : Option iV → iH → Prop), G sp sc [47] d mX12_judge (n + 1) 17 L (.inl a :: r) h Q = (inI a = true ∧ (¬ a = 0 → G sp sc [47] d mX12_judge n 22 L r h Q) ∧ (¬ (¬ a = 0) → G sp sc [47] d mX12_judge n 20 L r h Q))) ∧
  (∀ (n d : Nat) (L : List (Option iV)) (st : List iV) (h : iH) (Q : Option iV → iH → Prop), G sp sc [47] d mX12_judge (n + 1) 20 L st h Q = G sp sc [47] d mX12_judge n 21 L (.inl (-1) :: st) h Q) ∧
  (∀ (n d : Nat) (L : List (Option iV)) (a : Int) (h : iH) (Q : Option iV → iH → Prop), G sp sc [47] d mX12_judge (n + 1) 21 L [.inl a] h Q = Q (some (.inl a)) h) ∧
  (∀ (n d : Nat) (L : List (Option iV)) (st : List iV) (h : iH) (Q : Option iV → iH → Prop), G sp sc [47] d mX12_judge (n + 1) 22 L st h Q = (match ld L 0 with | some (.inr (.inr (r + 1))) => G sp sc [47] d mX12_judge n 23 L (.inr (.inr (r + 1)) :: st) h Q | _ => False)) ∧
  (∀ (n d : Nat) (L : List (Option iV)) (st : List iV) (h : iH) (Q : Option iV → iH → Prop), G sp sc [47] d mX12_judge (n + 1) 23 L st h Q = (match ld L 4 with | some (.inl x) => G sp sc [47] d mX12_judge n 25 L (.inl x :: st) h Q | _ => False)) ∧
  (∀ (n d : Nat) (L : List (Option iV)) (st : List iV) (h : iH) (Q : Option iV → iH → Prop), G sp sc [47] d mX12_judge (n + 1) 25 L st h Q = G sp sc [47] d mX12_judge n 26 L (.inl (-1) :: st) h Q) ∧
  (∀ (n d : Nat) (L : List (Option iV)) (r : List iV) (m : Nat) (z0 : iV) (z1 : iV) (h : iH) (Q : Option iV → iH → Prop), G sp sc [47] (d + 1) mX12_judge (n + 1) 26 L (z1 :: z0 :: .inr (.inr (m + 2)) :: r) h Q = (match h.1[m]? with | some (.inl (ci, _)) => (match lkC 12 184 ci with | some (y1, n1, kd) => (n1 = 2 ∧ (kd = 2 ∨ kd = 3 ∨ kd = 8) ∧ cs r ≤ 8) ∧ Call sp sc d y1 [.inr (.inr (m + 2)), z0, z1] h (fun q h1 => GC sp sc [47] (d + 1) mX12_judge n 29 L q r h h1 Q) | none => False) | _ => False)) ∧
  (∀ (n d : Nat) (L : List (Option iV)) (r : List iV) (x : Int) (h : iH) (Q : Option iV → iH → Prop), G sp sc [47] d mX12_judge (n + 1) 29 L (.inl x :: r) h Q = (match st1 L 5 (.inl x) with | some L' => G sp sc [47] d mX12_judge n 31 L' r h Q | none => False)) ∧
  (∀ (n d : Nat) (L : List (Option iV)) (st : List iV) (h : iH) (Q : Option iV → iH → Prop), G sp sc [47] d mX12_judge (n + 1) 31 L st h Q = (match ld L 5 with | some (.inl x) => G sp sc [47] d mX12_judge n 33 L (.inl x :: st) h Q | _ => False)) ∧
  (∀ (n d : Nat) (L : List (Option iV)) (a : Int) (r : List iV) (h : iH) (Q : Option iV → iH → Prop), G sp sc [47] d mX12_judge (n + 1) 33 L (.inl a :: r) h Q = (inI a = true ∧ (a = 0 → G sp sc [47] d mX12_judge n 39 L r h Q) ∧ (¬ (a = 0) → G sp sc [47] d mX12_judge n 36 L r h Q))) ∧
  (∀ (n d : Nat) (L : List (Option iV)) (st : List iV) (h : iH) (Q : Option iV → iH → Prop), G sp sc [47] d mX12_judge (n + 1) 36 L st h Q = (match ld L 5 with | some (.inl x) => G sp sc [47] d mX12_judge n 38 L (.inl x :: st) h Q | _ => False)) ∧
  (∀ (n d : Nat) (L : List (Option iV)) (a : Int) (h : iH) (Q : Option iV → iH → Prop), G sp sc [47] d mX12_judge (n + 1) 38 L [.inl a] h Q = Q (some (.inl a)) h) ∧
  (∀ (n d : Nat) (L : List (Option iV)) (st : List iV) (h : iH) (Q : Option iV → iH → Prop), G sp sc [47] d mX12_judge (n + 1) 39 L st h Q = (match ld L 0 with | some (.inr (.inr (r + 1))) => G sp sc [47] d mX12_judge n 40 L (.inr (.inr (r + 1)) :: st) h Q | _ => False)) ∧
  (∀ (n d : Nat) (L : List (Option iV)) (st : List iV) (h : iH) (Q : Option iV → iH → Prop), G sp sc [47] d mX12_judge (n + 1) 40 L st h Q = G sp sc [47] d mX12_judge n 41 L (.inl 0 :: st) h Q) ∧
  (∀ (n d : Nat) (L : List (Option iV)) (r : List iV) (m : Nat) (z0 : iV) (h : iH) (Q : Option iV → iH → Prop), G sp sc [47] (d + 1) mX12_judge (n + 1) 41 L (z0 :: .inr (.inr (m + 2)) :: r) h Q = (match h.1[m]? with | some (.inl (ci, _)) => (match lkC 12 211 ci with | some (y1, n1, kd) => (n1 = 1 ∧ (kd = 2 ∨ kd = 3 ∨ kd = 8) ∧ cs r ≤ 8) ∧ Call sp sc d y1 [.inr (.inr (m + 2)), z0] h (fun q h1 => GC sp sc [47] (d + 1) mX12_judge n 44 L q r h h1 Q) | none => False) | _ => False)) ∧
  (∀ (n d : Nat) (L : List (Option iV)) (st : List iV) (h : iH) (Q : Option iV → iH → Prop), G sp sc [47] d mX12_judge (n + 1) 44 L st h Q = G sp sc [47] d mX12_judge n 45 L (.inl 0 :: st) h Q) ∧
  (∀ (n d : Nat) (L : List (Option iV)) (r : List iV) (x : Int) (h : iH) (Q : Option iV → iH → Prop), G sp sc [47] d mX12_judge (n + 1) 45 L (.inl x :: r) h Q = (match st1 L 6 (.inl x) with | some L' => Run sp sc d mX12_judge 47 L' r h Q | none => False)) ∧
  (∀ (n d : Nat) (L : List (Option iV)) (st : List iV) (h : iH) (Q : Option iV → iH → Prop), G sp sc [47] d mX12_judge (n + 1) 47 L st h Q = (match ld L 6 with | some (.inl x) => G sp sc [47] d mX12_judge n 49 L (.inl x :: st) h Q | _ => False)) ∧
  (∀ (n d : Nat) (L : List (Option iV)) (st : List iV) (h : iH) (Q : Option iV → iH → Prop), G sp sc [47] d mX12_judge (n + 1) 49 L st h Q = (match ld L 0 with | some (.inr (.inr (r + 1))) => G sp sc [47] d mX12_judge n 50 L (.inr (.inr (r + 1)) :: st) h Q | _ => False)) ∧
  (∀ (n d : Nat) (L : List (Option iV)) (r : List iV) (m : Nat) (h : iH) (Q : Option iV → iH → Prop), G sp sc [47] d mX12_judge (n + 1) 50 L (.inr (.inr (m + 2)) :: r) h Q = (match h.1[m]? with | some (.inl (ci, fs)) => (match lkF 12 61 ci with | some k => (match fs[k]? with | some v => G sp sc [47] d mX12_judge n 53 L (v :: r) h Q | none => False) | none => False) | _ => False)) ∧
  (∀ (n d : Nat) (L : List (Option iV)) (st : List iV) (h : iH) (Q : Option iV → iH → Prop), G sp sc [47] d mX12_judge (n + 1) 53 L st h Q = (match ld L 4 with | some (.inl x) => G sp sc [47] d mX12_judge n 55 L (.inl x :: st) h Q | _ => False)) ∧
  (∀ (n d : Nat) (L : List (Option iV)) (r : List iV) (j : Int) (m : Nat) (h : iH) (Q : Option iV → iH → Prop), G sp sc [47] d mX12_judge (n + 1) 55 L (.inl j :: .inr (.inr (m + 2)) :: r) h Q = (match h.1[m]? with | some (.inr (.inl (0, xs))) => inA j xs.length = true ∧ G sp sc [47] d mX12_judge n 56 L (.inl (xs.getD j.toNat 0) :: r) h Q | _ => False)) ∧
  (∀ (n d : Nat) (L : List (Option iV)) (a : Int) (b : Int) (r : List iV) (h : iH) (Q : Option iV → iH → Prop), G sp sc [47] d mX12_judge (n + 1) 56 L (.inl b :: .inl a :: r) h Q = ((inI a = true ∧ inI b = true) ∧ (b ≤ a → G sp sc [47] d mX12_judge n 193 L r h Q) ∧ (¬ (b ≤ a) → G sp sc [47] d mX12_judge n 59 L r h Q))) ∧
  (∀ (n d : Nat) (L : List (Option iV)) (st : List iV) (h : iH) (Q : Option iV → iH → Prop), G sp sc [47] d mX12_judge (n + 1) 59 L st h Q = (match ld L 0 with | some (.inr (.inr (r + 1))) => G sp sc [47] d mX12_judge n 60 L (.inr (.inr (r + 1)) :: st) h Q | _ => False)) ∧
  (∀ (n d : Nat) (L : List (Option iV)) (r : List iV) (m : Nat) (h : iH) (Q : Option iV → iH → Prop), G sp sc [47] d mX12_judge (n + 1) 60 L (.inr (.inr (m + 2)) :: r) h Q = (match h.1[m]? with | some (.inl (ci, fs)) => (match lkF 12 64 ci with | some k => (match fs[k]? with | some v => G sp sc [47] d mX12_judge n 63 L (v :: r) h Q | none => False) | none => False) | _ => False)) ∧
  (∀ (n d : Nat) (L : List (Option iV)) (st : List iV) (h : iH) (Q : Option iV → iH → Prop), G sp sc [47] d mX12_judge (n + 1) 63 L st h Q = ((-128 ≤ (100 : Int) ∧ (100 : Int) < 128) ∧ G sp sc [47] d mX12_judge n 65 L (.inl 100 :: st) h Q)) ∧
  (∀ (n d : Nat) (L : List (Option iV)) (st : List iV) (h : iH) (Q : Option iV → iH → Prop), G sp sc [47] d mX12_judge (n + 1) 65 L st h Q = (match ld L 4 with | some (.inl x) => G sp sc [47] d mX12_judge n 67 L (.inl x :: st) h Q | _ => False)) ∧
  (∀ (n d : Nat) (L : List (Option iV)) (a : Int) (b : Int) (r : List iV) (h : iH) (Q : Option iV → iH → Prop), G sp sc [47] d mX12_judge (n + 1) 67 L (.inl b :: .inl a :: r) h Q = G sp sc [47] d mX12_judge n 68 L (.inl (a * b) :: r) h Q) ∧
  (∀ (n d : Nat) (L : List (Option iV)) (st : List iV) (h : iH) (Q : Option iV → iH → Prop), G sp sc [47] d mX12_judge (n + 1) 68 L st h Q = (match ld L 6 with | some (.inl x) => G sp sc [47] d mX12_judge n 70 L (.inl x :: st) h Q | _ => False)) ∧
  (∀ (n d : Nat) (L : List (Option iV)) (a : Int) (b : Int) (r : List iV) (h : iH) (Q : Option iV → iH → Prop), G sp sc [47] d mX12_judge (n + 1) 70 L (.inl b :: .inl a :: r) h Q = G sp sc [47] d mX12_judge n 71 L (.inl (a + b) :: r) h Q) ∧
  (∀ (n d : Nat) (L : List (Option iV)) (r : List iV) (j : Int) (m : Nat) (h : iH) (Q : Option iV → iH → Prop), G sp sc [47] d mX12_judge (n + 1) 71 L (.inl j :: .inr (.inr (m + 2)) :: r) h Q = (match h.1[m]? with | some (.inr (.inl (0, xs))) => inA j xs.length = true ∧ G sp sc [47] d mX12_judge n 72 L (.inl (xs.getD j.toNat 0) :: r) h Q | _ => False)) ∧
  (∀ (n d : Nat) (L : List (Option iV)) (r : List iV) (x : Int) (h : iH) (Q : Option iV → iH → Prop), G sp sc [47] d mX12_judge (n + 1) 72 L (.inl x :: r) h Q = (match st1 L 7 (.inl x) with | some L' => G sp sc [47] d mX12_judge n 74 L' r h Q | none => False)) ∧
  (∀ (n d : Nat) (L : List (Option iV)) (st : List iV) (h : iH) (Q : Option iV → iH → Prop), G sp sc [47] d mX12_judge (n + 1) 74 L st h Q = (match ld L 0 with | some (.inr (.inr (r + 1))) => G sp sc [47] d mX12_judge n 75 L (.inr (.inr (r + 1)) :: st) h Q | _ => False)) ∧
  (∀ (n d : Nat) (L : List (Option iV)) (r : List iV) (m : Nat) (h : iH) (Q : Option iV → iH → Prop), G sp sc [47] d mX12_judge (n + 1) 75 L (.inr (.inr (m + 2)) :: r) h Q = (match h.1[m]? with | some (.inl (ci, fs)) => (match lkF 12 58 ci with | some k => (match fs[k]? with | some v => G sp sc [47] d mX12_judge n 78 L (v :: r) h Q | none => False) | none => False) | _ => False)) ∧
  (∀ (n d : Nat) (L : List (Option iV)) (st : List iV) (h : iH) (Q : Option iV → iH → Prop), G sp sc [47] d mX12_judge (n + 1) 78 L st h Q = (match ld L 4 with | some (.inl x) => G sp sc [47] d mX12_judge n 80 L (.inl x :: st) h Q | _ => False)) ∧
  (∀ (n d : Nat) (L : List (Option iV)) (r : List iV) (j : Int) (m : Nat) (h : iH) (Q : Option iV → iH → Prop), G sp sc [47] d mX12_judge (n + 1) 80 L (.inl j :: .inr (.inr (m + 2)) :: r) h Q = (match h.1[m]? with | some (.inr (.inl (0, xs))) => inA j xs.length = true ∧ G sp sc [47] d mX12_judge n 81 L (.inl (xs.getD j.toNat 0) :: r) h Q | _ => False)) ∧
  (∀ (n d : Nat) (L : List (Option iV)) (a : Int) (r : List iV) (h : iH) (Q : Option iV → iH → Prop), G sp sc [47] d mX12_judge (n + 1) 81 L (.inl a :: r) h Q = (inI a = true ∧ (¬ a = 0 → G sp sc [47] d mX12_judge n 99 L r h Q) ∧ (¬ (¬ a = 0) → G sp sc [47] d mX12_judge n 84 L r h Q))) ∧
  (∀ (n d : Nat) (L : List (Option iV)) (st : List iV) (h : iH) (Q : Option iV → iH → Prop), G sp sc [47] d mX12_judge (n + 1) 84 L st h Q = (match ld L 7 with | some (.inl x) => G sp sc [47] d mX12_judge n 86 L (.inl x :: st) h Q | _ => False)) ∧
  (∀ (n d : Nat) (L : List (Option iV)) (st : List iV) (h : iH) (Q : Option iV → iH → Prop), G sp sc [47] d mX12_judge (n + 1) 86 L st h Q = ((-128 ≤ ((-128) : Int) ∧ ((-128) : Int) < 128) ∧ G sp sc [47] d mX12_judge n 88 L (.inl (-128) :: st) h Q)) ∧
  (∀ (n d : Nat) (L : List (Option iV)) (a : Int) (b : Int) (r : List iV) (h : iH) (Q : Option iV → iH → Prop), G sp sc [47] d mX12_judge (n + 1) 88 L (.inl b :: .inl a :: r) h Q = ((inI a = true ∧ inI b = true) ∧ (¬ a = b → G sp sc [47] d mX12_judge n 95 L r h Q) ∧ (¬ (¬ a = b) → G sp sc [47] d mX12_judge n 91 L r h Q))) ∧
  (∀ (n d : Nat) (L : List (Option iV)) (st : List iV) (h : iH) (Q : Option iV → iH → Prop), G sp sc [47] d mX12_judge (n + 1) 91 L st h Q = G sp sc [47] d mX12_judge n 92 L (.inl 1 :: st) h Q) ∧
  (∀ (n d : Nat) (L : List (Option iV)) (st : List iV) (h : iH) (Q : Option iV → iH → Prop), G sp sc [47] d mX12_judge (n + 1) 92 L st h Q = G sp sc [47] d mX12_judge n 123 L st h Q) ∧
  (∀ (n d : Nat) (L : List (Option iV)) (st : List iV) (h : iH) (Q : Option iV → iH → Prop), G sp sc [47] d mX12_judge (n + 1) 95 L st h Q = G sp sc [47] d mX12_judge n 96 L (.inl 0 :: st) h Q) ∧
  (∀ (n d : Nat) (L : List (Option iV)) (st : List iV) (h : iH) (Q : Option iV → iH → Prop), G sp sc [47] d mX12_judge (n + 1) 96 L st h Q = G sp sc [47] d mX12_judge n 123 L st h Q) ∧
  (∀ (n d : Nat) (L : List (Option iV)) (st : List iV) (h : iH) (Q : Option iV → iH → Prop), G sp sc [47] d mX12_judge (n + 1) 99 L st h Q = (match ld L 0 with | some (.inr (.inr (r + 1))) => G sp sc [47] d mX12_judge n 100 L (.inr (.inr (r + 1)) :: st) h Q | _ => False)) ∧
  (∀ (n d : Nat) (L : List (Option iV)) (r : List iV) (m : Nat) (h : iH) (Q : Option iV → iH → Prop), G sp sc [47] d mX12_judge (n + 1) 100 L (.inr (.inr (m + 2)) :: r) h Q = (match h.1[m]? with | some (.inl (ci, fs)) => (match lkF 12 58 ci with | some k => (match fs[k]? with | some v => G sp sc [47] d mX12_judge n 103 L (v :: r) h Q | none => False) | none => False) | _ => False)) ∧
  (∀ (n d : Nat) (L : List (Option iV)) (st : List iV) (h : iH) (Q : Option iV → iH → Prop), G sp sc [47] d mX12_judge (n + 1) 103 L st h Q = (match ld L 4 with | some (.inl x) => G sp sc [47] d mX12_judge n 105 L (.inl x :: st) h Q | _ => False)) ∧
  (∀ (n d : Nat) (L : List (Option iV)) (r : List iV) (j : Int) (m : Nat) (h : iH) (Q : Option iV → iH → Prop), G sp sc [47] d mX12_judge (n + 1) 105 L (.inl j :: .inr (.inr (m + 2)) :: r) h Q = (match h.1[m]? with | some (.inr (.inl (0, xs))) => inA j xs.length = true ∧ G sp sc [47] d mX12_judge n 106 L (.inl (xs.getD j.toNat 0) :: r) h Q | _ => False)) ∧
  (∀ (n d : Nat) (L : List (Option iV)) (st : List iV) (h : iH) (Q : Option iV → iH → Prop), G sp sc [47] d mX12_judge (n + 1) 106 L st h Q = G sp sc [47] d mX12_judge n 107 L (.inl 1 :: st) h Q) ∧
  (∀ (n d : Nat) (L : List (Option iV)) (a : Int) (b : Int) (r : List iV) (h : iH) (Q : Option iV → iH → Prop), G sp sc [47] d mX12_judge (n + 1) 107 L (.inl b :: .inl a :: r) h Q = ((inI a = true ∧ inI b = true) ∧ (¬ a = b → G sp sc [47] d mX12_judge n 122 L r h Q) ∧ (¬ (¬ a = b) → G sp sc [47] d mX12_judge n 110 L r h Q))) ∧
  (∀ (n d : Nat) (L : List (Option iV)) (st : List iV) (h : iH) (Q : Option iV → iH → Prop), G sp sc [47] d mX12_judge (n + 1) 110 L st h Q = (match ld L 7 with | some (.inl x) => G sp sc [47] d mX12_judge n 112 L (.inl x :: st) h Q | _ => False)) ∧
  (∀ (n d : Nat) (L : List (Option iV)) (st : List iV) (h : iH) (Q : Option iV → iH → Prop), G sp sc [47] d mX12_judge (n + 1) 112 L st h Q = G sp sc [47] d mX12_judge n 115 L (.inl (-2147483648) :: st) h Q) ∧
  (∀ (n d : Nat) (L : List (Option iV)) (a : Int) (b : Int) (r : List iV) (h : iH) (Q : Option iV → iH → Prop), G sp sc [47] d mX12_judge (n + 1) 115 L (.inl b :: .inl a :: r) h Q = ((inI a = true ∧ inI b = true) ∧ (¬ a = b → G sp sc [47] d mX12_judge n 122 L r h Q) ∧ (¬ (¬ a = b) → G sp sc [47] d mX12_judge n 118 L r h Q))) ∧
  (∀ (n d : Nat) (L : List (Option iV)) (st : List iV) (h : iH) (Q : Option iV → iH → Prop), G sp sc [47] d mX12_judge (n + 1) 118 L st h Q = G sp sc [47] d mX12_judge n 119 L (.inl 1 :: st) h Q) ∧
  (∀ (n d : Nat) (L : List (Option iV)) (st : List iV) (h : iH) (Q : Option iV → iH → Prop), G sp sc [47] d mX12_judge (n + 1) 119 L st h Q = G sp sc [47] d mX12_judge n 123 L st h Q) ∧
  (∀ (n d : Nat) (L : List (Option iV)) (st : List iV) (h : iH) (Q : Option iV → iH → Prop), G sp sc [47] d mX12_judge (n + 1) 122 L st h Q = G sp sc [47] d mX12_judge n 123 L (.inl 0 :: st) h Q) ∧
  (∀ (n d : Nat) (L : List (Option iV)) (r : List iV) (x : Int) (h : iH) (Q : Option iV → iH → Prop), G sp sc [47] d mX12_judge (n + 1) 123 L (.inl x :: r) h Q = (match st1 L 8 (.inl x) with | some L' => G sp sc [47] d mX12_judge n 125 L' r h Q | none => False)) ∧
  (∀ (n d : Nat) (L : List (Option iV)) (st : List iV) (h : iH) (Q : Option iV → iH → Prop), G sp sc [47] d mX12_judge (n + 1) 125 L st h Q = (match ld L 6 with | some (.inl x) => G sp sc [47] d mX12_judge n 127 L (.inl x :: st) h Q | _ => False)) ∧
  (∀ (n d : Nat) (L : List (Option iV)) (st : List iV) (h : iH) (Q : Option iV → iH → Prop), G sp sc [47] d mX12_judge (n + 1) 127 L st h Q = ((-128 ≤ (60 : Int) ∧ (60 : Int) < 128) ∧ G sp sc [47] d mX12_judge n 129 L (.inl 60 :: st) h Q)) ∧
  (∀ (n d : Nat) (L : List (Option iV)) (a : Int) (b : Int) (r : List iV) (h : iH) (Q : Option iV → iH → Prop), G sp sc [47] d mX12_judge (n + 1) 129 L (.inl b :: .inl a :: r) h Q = ((inI a = true ∧ inI b = true) ∧ (a ≤ b → G sp sc [47] d mX12_judge n 140 L r h Q) ∧ (¬ (a ≤ b) → G sp sc [47] d mX12_judge n 132 L r h Q))) ∧
  (∀ (n d : Nat) (L : List (Option iV)) (st : List iV) (h : iH) (Q : Option iV → iH → Prop), G sp sc [47] d mX12_judge (n + 1) 132 L st h Q = (match ld L 8 with | some (.inl x) => G sp sc [47] d mX12_judge n 134 L (.inl x :: st) h Q | _ => False)) ∧
  (∀ (n d : Nat) (L : List (Option iV)) (a : Int) (r : List iV) (h : iH) (Q : Option iV → iH → Prop), G sp sc [47] d mX12_judge (n + 1) 134 L (.inl a :: r) h Q = (inI a = true ∧ (a = 0 → G sp sc [47] d mX12_judge n 140 L r h Q) ∧ (¬ (a = 0) → G sp sc [47] d mX12_judge n 137 L r h Q))) ∧
  (∀ (n d : Nat) (L : List (Option iV)) (st : List iV) (h : iH) (Q : Option iV → iH → Prop), G sp sc [47] d mX12_judge (n + 1) 137 L st h Q = G sp sc [47] d mX12_judge n 187 L st h Q) ∧
  (∀ (n d : Nat) (L : List (Option iV)) (st : List iV) (h : iH) (Q : Option iV → iH → Prop), G sp sc [47] d mX12_judge (n + 1) 140 L st h Q = (match ld L 6 with | some (.inl x) => G sp sc [47] d mX12_judge n 142 L (.inl x :: st) h Q | _ => False)) ∧
  (∀ (n d : Nat) (L : List (Option iV)) (st : List iV) (h : iH) (Q : Option iV → iH → Prop), G sp sc [47] d mX12_judge (n + 1) 142 L st h Q = ((-128 ≤ (60 : Int) ∧ (60 : Int) < 128) ∧ G sp sc [47] d mX12_judge n 144 L (.inl 60 :: st) h Q)) ∧
  (∀ (n d : Nat) (L : List (Option iV)) (a : Int) (b : Int) (r : List iV) (h : iH) (Q : Option iV → iH → Prop), G sp sc [47] d mX12_judge (n + 1) 144 L (.inl b :: .inl a :: r) h Q = ((inI a = true ∧ inI b = true) ∧ (a ≤ b → G sp sc [47] d mX12_judge n 150 L r h Q) ∧ (¬ (a ≤ b) → G sp sc [47] d mX12_judge n 147 L r h Q))) ∧
  (∀ (n d : Nat) (L : List (Option iV)) (st : List iV) (h : iH) (Q : Option iV → iH → Prop), G sp sc [47] d mX12_judge (n + 1) 147 L st h Q = (match ld L 6 with | some (.inl x) => G sp sc [47] d mX12_judge n 149 L (.inl x :: st) h Q | _ => False)) ∧
  (∀ (n d : Nat) (L : List (Option iV)) (a : Int) (h : iH) (Q : Option iV → iH → Prop), G sp sc [47] d mX12_judge (n + 1) 149 L [.inl a] h Q = Q (some (.inl a)) h) ∧
  (∀ (n d : Nat) (L : List (Option iV)) (st : List iV) (h : iH) (Q : Option iV → iH → Prop), G sp sc [47] d mX12_judge (n + 1) 150 L st h Q = (match ld L 6 with | some (.inl x) => G sp sc [47] d mX12_judge n 152 L (.inl x :: st) h Q | _ => False)) ∧
  (∀ (n d : Nat) (L : List (Option iV)) (a : Int) (r : List iV) (h : iH) (Q : Option iV → iH → Prop), G sp sc [47] d mX12_judge (n + 1) 152 L (.inl a :: r) h Q = (inI a = true ∧ (a ≤ 0 → G sp sc [47] d mX12_judge n 163 L r h Q) ∧ (¬ (a ≤ 0) → G sp sc [47] d mX12_judge n 155 L r h Q))) ∧
  (∀ (n d : Nat) (L : List (Option iV)) (st : List iV) (h : iH) (Q : Option iV → iH → Prop), G sp sc [47] d mX12_judge (n + 1) 155 L st h Q = (match ld L 0 with | some (.inr (.inr (r + 1))) => G sp sc [47] d mX12_judge n 156 L (.inr (.inr (r + 1)) :: st) h Q | _ => False)) ∧
  (∀ (n d : Nat) (L : List (Option iV)) (st : List iV) (h : iH) (Q : Option iV → iH → Prop), G sp sc [47] d mX12_judge (n + 1) 156 L st h Q = (match ld L 0 with | some (.inr (.inr (r + 1))) => G sp sc [47] d mX12_judge n 157 L (.inr (.inr (r + 1)) :: st) h Q | _ => False)) ∧
  (∀ (n d : Nat) (L : List (Option iV)) (r : List iV) (m : Nat) (h : iH) (Q : Option iV → iH → Prop), G sp sc [47] d mX12_judge (n + 1) 157 L (.inr (.inr (m + 2)) :: r) h Q = (match h.1[m]? with | some (.inl (ci, fs)) => (match lkF 12 13 ci with | some k => (match fs[k]? with | some v => G sp sc [47] d mX12_judge n 160 L (v :: r) h Q | none => False) | none => False) | _ => False)) ∧
  (∀ (n d : Nat) (L : List (Option iV)) (r : List iV) (m : Nat) (z0 : iV) (h : iH) (Q : Option iV → iH → Prop), G sp sc [47] (d + 1) mX12_judge (n + 1) 160 L (z0 :: .inr (.inr (m + 2)) :: r) h Q = (match h.1[m]? with | some (.inl (ci, _)) => (match lkC 12 152 ci with | some (y1, n1, kd) => (n1 = 1 ∧ (kd = 2 ∨ kd = 3 ∨ kd = 8) ∧ cs r ≤ 8) ∧ Call sp sc d y1 [.inr (.inr (m + 2)), z0] h (fun q h1 => GC sp sc [47] (d + 1) mX12_judge n 163 L q r h h1 Q) | none => False) | _ => False)) ∧
  (∀ (n d : Nat) (L : List (Option iV)) (st : List iV) (h : iH) (Q : Option iV → iH → Prop), G sp sc [47] d mX12_judge (n + 1) 163 L st h Q = (match ld L 8 with | some (.inl x) => G sp sc [47] d mX12_judge n 165 L (.inl x :: st) h Q | _ => False)) ∧
  (∀ (n d : Nat) (L : List (Option iV)) (a : Int) (r : List iV) (h : iH) (Q : Option iV → iH → Prop), G sp sc [47] d mX12_judge (n + 1) 165 L (.inl a :: r) h Q = (inI a = true ∧ (¬ a = 0 → G sp sc [47] d mX12_judge n 187 L r h Q) ∧ (¬ (¬ a = 0) → G sp sc [47] d mX12_judge n 168 L r h Q))) ∧
  (∀ (n d : Nat) (L : List (Option iV)) (st : List iV) (h : iH) (Q : Option iV → iH → Prop), G sp sc [47] d mX12_judge (n + 1) 168 L st h Q = (match ld L 7 with | some (.inl x) => G sp sc [47] d mX12_judge n 170 L (.inl x :: st) h Q | _ => False)) ∧
  (∀ (n d : Nat) (L : List (Option iV)) (st : List iV) (h : iH) (Q : Option iV → iH → Prop), G sp sc [47] d mX12_judge (n + 1) 170 L st h Q = (match ld L 0 with | some (.inr (.inr (r + 1))) => G sp sc [47] d mX12_judge n 171 L (.inr (.inr (r + 1)) :: st) h Q | _ => False)) ∧
  (∀ (n d : Nat) (L : List (Option iV)) (r : List iV) (m : Nat) (h : iH) (Q : Option iV → iH → Prop), G sp sc [47] d mX12_judge (n + 1) 171 L (.inr (.inr (m + 2)) :: r) h Q = (match h.1[m]? with | some (.inl (ci, fs)) => (match lkF 12 13 ci with | some k => (match fs[k]? with | some v => G sp sc [47] d mX12_judge n 174 L (v :: r) h Q | none => False) | none => False) | _ => False)) ∧
  (∀ (n d : Nat) (L : List (Option iV)) (st : List iV) (h : iH) (Q : Option iV → iH → Prop), G sp sc [47] d mX12_judge (n + 1) 174 L st h Q = (match ld L 1 with | some (.inl x) => G sp sc [47] d mX12_judge n 175 L (.inl x :: st) h Q | _ => False)) ∧
  (∀ (n d : Nat) (L : List (Option iV)) (st : List iV) (h : iH) (Q : Option iV → iH → Prop), G sp sc [47] d mX12_judge (n + 1) 175 L st h Q = (match ld L 2 with | some (.inl x) => G sp sc [47] d mX12_judge n 176 L (.inl x :: st) h Q | _ => False)) ∧
  (∀ (n d : Nat) (L : List (Option iV)) (st : List iV) (h : iH) (Q : Option iV → iH → Prop), G sp sc [47] d mX12_judge (n + 1) 176 L st h Q = (match ld L 3 with | some (.inl x) => G sp sc [47] d mX12_judge n 177 L (.inl x :: st) h Q | _ => False)) ∧
  (∀ (n d : Nat) (L : List (Option iV)) (r : List iV) (z0 : iV) (z1 : iV) (z2 : iV) (h : iH) (Q : Option iV → iH → Prop), G sp sc [47] (d + 1) mX12_judge (n + 1) 177 L (z2 :: z1 :: z0 :: r) h Q = (cs r ≤ 8 ∧ Call sp sc d mX12_atLike [z0, z1, z2] h (fun q h1 => GC sp sc [47] (d + 1) mX12_judge n 180 L q r h h1 Q))) ∧
  (∀ (n d : Nat) (L : List (Option iV)) (r : List iV) (j : Int) (m : Nat) (h : iH) (Q : Option iV → iH → Prop), G sp sc [47] d mX12_judge (n + 1) 180 L (.inl j :: .inr (.inr (m + 2)) :: r) h Q = (match h.1[m]? with | some (.inr (.inl (0, xs))) => inA j xs.length = true ∧ G sp sc [47] d mX12_judge n 181 L (.inl (xs.getD j.toNat 0) :: r) h Q | _ => False)) ∧
  (∀ (n d : Nat) (L : List (Option iV)) (a : Int) (b : Int) (r : List iV) (h : iH) (Q : Option iV → iH → Prop), G sp sc [47] d mX12_judge (n + 1) 181 L (.inl b :: .inl a :: r) h Q = ((inI a = true ∧ inI b = true) ∧ (a = b → G sp sc [47] d mX12_judge n 187 L r h Q) ∧ (¬ (a = b) → G sp sc [47] d mX12_judge n 184 L r h Q))) ∧
  (∀ (n d : Nat) (L : List (Option iV)) (st : List iV) (h : iH) (Q : Option iV → iH → Prop), G sp sc [47] d mX12_judge (n + 1) 184 L st h Q = (match ld L 6 with | some (.inl x) => G sp sc [47] d mX12_judge n 186 L (.inl x :: st) h Q | _ => False)) ∧
  (∀ (n d : Nat) (L : List (Option iV)) (a : Int) (h : iH) (Q : Option iV → iH → Prop), G sp sc [47] d mX12_judge (n + 1) 186 L [.inl a] h Q = Q (some (.inl a)) h) ∧
  (∀ (n d : Nat) (L : List (Option iV)) (st : List iV) (h : iH) (Q : Option iV → iH → Prop), G sp sc [47] d mX12_judge (n + 1) 187 L st h Q = (match ld L 6 with | some (.inl x) => (match st1 L 6 (.inl (x + 1)) with | some L' => G sp sc [47] d mX12_judge n 190 L' st h Q | none => False) | _ => False)) ∧
  (∀ (n d : Nat) (L : List (Option iV)) (st : List iV) (h : iH) (Q : Option iV → iH → Prop), G sp sc [47] d mX12_judge (n + 1) 190 L st h Q = Run sp sc d mX12_judge 47 L st h Q) ∧
  (∀ (n d : Nat) (L : List (Option iV)) (st : List iV) (h : iH) (Q : Option iV → iH → Prop), G sp sc [47] d mX12_judge (n + 1) 193 L st h Q = ((-128 ≤ ((-4) : Int) ∧ ((-4) : Int) < 128) ∧ G sp sc [47] d mX12_judge n 195 L (.inl (-4) :: st) h Q)) ∧
  (∀ (n d : Nat) (L : List (Option iV)) (a : Int) (h : iH) (Q : Option iV → iH → Prop), G sp sc [47] d mX12_judge (n + 1) 195 L [.inl a] h Q = Q (some (.inl a)) h) ∧
  lkC 12 152 12 = some (mX12_goes, 1, 2) ∧
  lkC 12 175 12 = some (mX12_isOne, 2, 2) ∧
  lkC 12 184 12 = some (mX12_wrongRow, 2, 2) ∧
  lkC 12 211 12 = some (mX12_inMind, 1, 2) ∧
  lkF 12 13 12 = some 1 ∧
  lkF 12 58 12 = some 29 ∧
  lkF 12 61 12 = some 30 ∧
  lkF 12 64 12 = some 31 := ⟨by intros; exact G_at (by decide +kernel : fetch mX12_judge 0 = some (.aload_n 0)),
  by intros; exact G_at (by decide +kernel : fetch mX12_judge 1 = some (.iload_n 1)),
  by intros; exact G_at (by decide +kernel : fetch mX12_judge 2 = some (.iload_n 2)),
  by intros; exact G_callV (by decide +kernel : fetch mX12_judge 3 = some (.invokevirtual 175)) (by decide +kernel) (by decide +kernel) rfl,
  by intros; exact G_at (by decide +kernel : fetch mX12_judge 6 = some (.ifCond .eq 14)),
  by intros; exact G_at (by decide +kernel : fetch mX12_judge 9 = some (.aload_n 0)),
  by intros; exact G_at (by decide +kernel : fetch mX12_judge 10 = some (.iconst 1)),
  by intros; exact G_at (by decide +kernel : fetch mX12_judge 11 = some (.iload_n 1)),
  by intros; exact G_at (by decide +kernel : fetch mX12_judge 12 = some (.isub)),
  by intros; exact G_at (by decide +kernel : fetch mX12_judge 13 = some (.iload_n 3)),
  by intros; exact G_callV (by decide +kernel : fetch mX12_judge 14 = some (.invokevirtual 175)) (by decide +kernel) (by decide +kernel) rfl,
  by intros; exact G_at (by decide +kernel : fetch mX12_judge 17 = some (.ifCond .ne 5)),
  by intros; exact G_at (by decide +kernel : fetch mX12_judge 20 = some (.iconst (-1))),
  by intros; exact G_reti (by decide +kernel : fetch mX12_judge 21 = some (.ireturn)) (by decide +kernel),
  by intros; exact G_at (by decide +kernel : fetch mX12_judge 22 = some (.aload_n 0)),
  by intros; exact G_at (by decide +kernel : fetch mX12_judge 23 = some (.iload 4)),
  by intros; exact G_at (by decide +kernel : fetch mX12_judge 25 = some (.iconst (-1))),
  by intros; exact G_callV (by decide +kernel : fetch mX12_judge 26 = some (.invokevirtual 184)) (by decide +kernel) (by decide +kernel) rfl,
  by intros; exact G_at (by decide +kernel : fetch mX12_judge 29 = some (.istore 5)),
  by intros; exact G_at (by decide +kernel : fetch mX12_judge 31 = some (.iload 5)),
  by intros; exact G_at (by decide +kernel : fetch mX12_judge 33 = some (.ifCond .eq 6)),
  by intros; exact G_at (by decide +kernel : fetch mX12_judge 36 = some (.iload 5)),
  by intros; exact G_reti (by decide +kernel : fetch mX12_judge 38 = some (.ireturn)) (by decide +kernel),
  by intros; exact G_at (by decide +kernel : fetch mX12_judge 39 = some (.aload_n 0)),
  by intros; exact G_at (by decide +kernel : fetch mX12_judge 40 = some (.iconst 0)),
  by intros; exact G_callV (by decide +kernel : fetch mX12_judge 41 = some (.invokevirtual 211)) (by decide +kernel) (by decide +kernel) rfl,
  by intros; exact G_at (by decide +kernel : fetch mX12_judge 44 = some (.iconst 0)),
  by intros; exact G_at (by decide +kernel : fetch mX12_judge 45 = some (.istore 6)),
  by intros; exact G_at (by decide +kernel : fetch mX12_judge 47 = some (.iload 6)),
  by intros; exact G_at (by decide +kernel : fetch mX12_judge 49 = some (.aload_n 0)),
  by intros; exact G_own (by decide +kernel : fetch mX12_judge 50 = some (.getfield 61)) (by decide +kernel),
  by intros; exact G_at (by decide +kernel : fetch mX12_judge 53 = some (.iload 4)),
  by intros; exact G_at (by decide +kernel : fetch mX12_judge 55 = some (.iaload)),
  by intros; exact G_at (by decide +kernel : fetch mX12_judge 56 = some (.if_icmp .ge 137)),
  by intros; exact G_at (by decide +kernel : fetch mX12_judge 59 = some (.aload_n 0)),
  by intros; exact G_own (by decide +kernel : fetch mX12_judge 60 = some (.getfield 64)) (by decide +kernel),
  by intros; exact G_at (by decide +kernel : fetch mX12_judge 63 = some (.bipush 100)),
  by intros; exact G_at (by decide +kernel : fetch mX12_judge 65 = some (.iload 4)),
  by intros; exact G_at (by decide +kernel : fetch mX12_judge 67 = some (.imul)),
  by intros; exact G_at (by decide +kernel : fetch mX12_judge 68 = some (.iload 6)),
  by intros; exact G_at (by decide +kernel : fetch mX12_judge 70 = some (.iadd)),
  by intros; exact G_at (by decide +kernel : fetch mX12_judge 71 = some (.iaload)),
  by intros; exact G_at (by decide +kernel : fetch mX12_judge 72 = some (.istore 7)),
  by intros; exact G_at (by decide +kernel : fetch mX12_judge 74 = some (.aload_n 0)),
  by intros; exact G_own (by decide +kernel : fetch mX12_judge 75 = some (.getfield 58)) (by decide +kernel),
  by intros; exact G_at (by decide +kernel : fetch mX12_judge 78 = some (.iload 4)),
  by intros; exact G_at (by decide +kernel : fetch mX12_judge 80 = some (.iaload)),
  by intros; exact G_at (by decide +kernel : fetch mX12_judge 81 = some (.ifCond .ne 18)),
  by intros; exact G_at (by decide +kernel : fetch mX12_judge 84 = some (.iload 7)),
  by intros; exact G_at (by decide +kernel : fetch mX12_judge 86 = some (.bipush (-128))),
  by intros; exact G_at (by decide +kernel : fetch mX12_judge 88 = some (.if_icmp .ne 7)),
  by intros; exact G_at (by decide +kernel : fetch mX12_judge 91 = some (.iconst 1)),
  by intros; exact G_at (by decide +kernel : fetch mX12_judge 92 = some (.goto 31)),
  by intros; exact G_at (by decide +kernel : fetch mX12_judge 95 = some (.iconst 0)),
  by intros; exact G_at (by decide +kernel : fetch mX12_judge 96 = some (.goto 27)),
  by intros; exact G_at (by decide +kernel : fetch mX12_judge 99 = some (.aload_n 0)),
  by intros; exact G_own (by decide +kernel : fetch mX12_judge 100 = some (.getfield 58)) (by decide +kernel),
  by intros; exact G_at (by decide +kernel : fetch mX12_judge 103 = some (.iload 4)),
  by intros; exact G_at (by decide +kernel : fetch mX12_judge 105 = some (.iaload)),
  by intros; exact G_at (by decide +kernel : fetch mX12_judge 106 = some (.iconst 1)),
  by intros; exact G_at (by decide +kernel : fetch mX12_judge 107 = some (.if_icmp .ne 15)),
  by intros; exact G_at (by decide +kernel : fetch mX12_judge 110 = some (.iload 7)),
  by intros; exact G_ldcw (by decide +kernel : fetch mX12_judge 112 = some (.ldc_w 278)) (by decide +kernel),
  by intros; exact G_at (by decide +kernel : fetch mX12_judge 115 = some (.if_icmp .ne 7)),
  by intros; exact G_at (by decide +kernel : fetch mX12_judge 118 = some (.iconst 1)),
  by intros; exact G_at (by decide +kernel : fetch mX12_judge 119 = some (.goto 4)),
  by intros; exact G_at (by decide +kernel : fetch mX12_judge 122 = some (.iconst 0)),
  by intros; exact G_at (by decide +kernel : fetch mX12_judge 123 = some (.istore 8)),
  by intros; exact G_at (by decide +kernel : fetch mX12_judge 125 = some (.iload 6)),
  by intros; exact G_at (by decide +kernel : fetch mX12_judge 127 = some (.bipush 60)),
  by intros; exact G_at (by decide +kernel : fetch mX12_judge 129 = some (.if_icmp .le 11)),
  by intros; exact G_at (by decide +kernel : fetch mX12_judge 132 = some (.iload 8)),
  by intros; exact G_at (by decide +kernel : fetch mX12_judge 134 = some (.ifCond .eq 6)),
  by intros; exact G_at (by decide +kernel : fetch mX12_judge 137 = some (.goto 50)),
  by intros; exact G_at (by decide +kernel : fetch mX12_judge 140 = some (.iload 6)),
  by intros; exact G_at (by decide +kernel : fetch mX12_judge 142 = some (.bipush 60)),
  by intros; exact G_at (by decide +kernel : fetch mX12_judge 144 = some (.if_icmp .le 6)),
  by intros; exact G_at (by decide +kernel : fetch mX12_judge 147 = some (.iload 6)),
  by intros; exact G_reti (by decide +kernel : fetch mX12_judge 149 = some (.ireturn)) (by decide +kernel),
  by intros; exact G_at (by decide +kernel : fetch mX12_judge 150 = some (.iload 6)),
  by intros; exact G_at (by decide +kernel : fetch mX12_judge 152 = some (.ifCond .le 11)),
  by intros; exact G_at (by decide +kernel : fetch mX12_judge 155 = some (.aload_n 0)),
  by intros; exact G_at (by decide +kernel : fetch mX12_judge 156 = some (.aload_n 0)),
  by intros; exact G_own (by decide +kernel : fetch mX12_judge 157 = some (.getfield 13)) (by decide +kernel),
  by intros; exact G_callV (by decide +kernel : fetch mX12_judge 160 = some (.invokevirtual 152)) (by decide +kernel) (by decide +kernel) rfl,
  by intros; exact G_at (by decide +kernel : fetch mX12_judge 163 = some (.iload 8)),
  by intros; exact G_at (by decide +kernel : fetch mX12_judge 165 = some (.ifCond .ne 22)),
  by intros; exact G_at (by decide +kernel : fetch mX12_judge 168 = some (.iload 7)),
  by intros; exact G_at (by decide +kernel : fetch mX12_judge 170 = some (.aload_n 0)),
  by intros; exact G_own (by decide +kernel : fetch mX12_judge 171 = some (.getfield 13)) (by decide +kernel),
  by intros; exact G_at (by decide +kernel : fetch mX12_judge 174 = some (.iload_n 1)),
  by intros; exact G_at (by decide +kernel : fetch mX12_judge 175 = some (.iload_n 2)),
  by intros; exact G_at (by decide +kernel : fetch mX12_judge 176 = some (.iload_n 3)),
  by intros; exact G_callS (k := 3) (kd := 0) (by decide +kernel : fetch mX12_judge 177 = some (.invokestatic 109)) (by decide +kernel) (by decide +kernel) (by decide +kernel) rfl (by decide),
  by intros; exact G_at (by decide +kernel : fetch mX12_judge 180 = some (.iaload)),
  by intros; exact G_at (by decide +kernel : fetch mX12_judge 181 = some (.if_icmp .eq 6)),
  by intros; exact G_at (by decide +kernel : fetch mX12_judge 184 = some (.iload 6)),
  by intros; exact G_reti (by decide +kernel : fetch mX12_judge 186 = some (.ireturn)) (by decide +kernel),
  by intros; exact G_at (by decide +kernel : fetch mX12_judge 187 = some (.iinc 6 1)),
  by intros; exact G_at (by decide +kernel : fetch mX12_judge 190 = some (.goto (-143))),
  by intros; exact G_at (by decide +kernel : fetch mX12_judge 193 = some (.bipush (-4))),
  by intros; exact G_reti (by decide +kernel : fetch mX12_judge 195 = some (.ireturn)) (by decide +kernel),
  by decide +kernel,
  by decide +kernel,
  by decide +kernel,
  by decide +kernel,
  by decide +kernel,
  by decide +kernel,
  by decide +kernel,
  by decide +kernel⟩
theorem gX12_drawn : (∀ (n d : Nat) (L : List (Option iV)) (st : List iV) (h : iH) (Q : Option iV → iH → Prop), G sp sc [] d mX12_drawn (n + 1) 0 L st h Q = (match ld L 0 with | some (.inr (.inr (r + 1))) => G sp sc [] d mX12_drawn n 1 L (.inr (.inr (r + 1)) :: st) h Q | _ => False)) ∧
  (∀ (n d : Nat) (L : List (Option iV)) (st : List iV) (h : iH) (Q : Option iV → iH → Prop), G sp sc [] d mX12_drawn (n + 1) 1 L st h Q = (match ld L 0 with | some (.inr (.inr (r + 1))) => G sp sc [] d mX12_drawn n 2 L (.inr (.inr (r + 1)) :: st) h Q | _ => False)) ∧
  (∀ (n d : Nat) (L : List (Option iV)) (r : List iV) (m : Nat) (h : iH) (Q : Option iV → iH → Prop), G sp sc [] d mX12_drawn (n + 1) 2 L (.inr (.inr (m + 2)) :: r) h Q = (match h.1[m]? with | some (.inl (ci, fs)) => (match lkF 12 279 ci with | some k => (match fs[k]? with | some v => G sp sc [] d mX12_drawn n 5 L (v :: r) h Q | none => False) | none => False) | _ => False)) ∧
  (∀ (n d : Nat) (L : List (Option iV)) (st : List iV) (h : iH) (Q : Option iV → iH → Prop), G sp sc [] d mX12_drawn (n + 1) 5 L st h Q = G sp sc [] d mX12_drawn n 8 L (.inl (1103515245) :: st) h Q) ∧
  (∀ (n d : Nat) (L : List (Option iV)) (a : Int) (b : Int) (r : List iV) (h : iH) (Q : Option iV → iH → Prop), G sp sc [] d mX12_drawn (n + 1) 8 L (.inl b :: .inl a :: r) h Q = G sp sc [] d mX12_drawn n 9 L (.inl (a * b) :: r) h Q) ∧
  (∀ (n d : Nat) (L : List (Option iV)) (st : List iV) (h : iH) (Q : Option iV → iH → Prop), G sp sc [] d mX12_drawn (n + 1) 9 L st h Q = ((-32768 ≤ (12345 : Int) ∧ (12345 : Int) < 32768) ∧ G sp sc [] d mX12_drawn n 12 L (.inl 12345 :: st) h Q)) ∧
  (∀ (n d : Nat) (L : List (Option iV)) (a : Int) (b : Int) (r : List iV) (h : iH) (Q : Option iV → iH → Prop), G sp sc [] d mX12_drawn (n + 1) 12 L (.inl b :: .inl a :: r) h Q = G sp sc [] d mX12_drawn n 13 L (.inl (a + b) :: r) h Q) ∧
  (∀ (n d : Nat) (L : List (Option iV)) (r : List iV) (v : iV) (m : Nat) (h : iH) (Q : Option iV → iH → Prop), G sp sc [] d mX12_drawn (n + 1) 13 L (v :: .inr (.inr (m + 2)) :: r) h Q = (match h.1[m]? with | some (.inl (ci, fs)) => (match lkF 12 279 ci with | some k => (fitV (tyT ci k) v = true ∧ k < fs.length ∧ pOK 12 false ci k = true) ∧ G sp sc [] d mX12_drawn n 16 L r (h.1.set m (.inl (ci, fs.set k v)), h.2) Q | none => False) | _ => False)) ∧
  (∀ (n d : Nat) (L : List (Option iV)) (st : List iV) (h : iH) (Q : Option iV → iH → Prop), G sp sc [] d mX12_drawn (n + 1) 16 L st h Q = (match ld L 0 with | some (.inr (.inr (r + 1))) => G sp sc [] d mX12_drawn n 17 L (.inr (.inr (r + 1)) :: st) h Q | _ => False)) ∧
  (∀ (n d : Nat) (L : List (Option iV)) (r : List iV) (m : Nat) (h : iH) (Q : Option iV → iH → Prop), G sp sc [] d mX12_drawn (n + 1) 17 L (.inr (.inr (m + 2)) :: r) h Q = (match h.1[m]? with | some (.inl (ci, fs)) => (match lkF 12 279 ci with | some k => (match fs[k]? with | some v => G sp sc [] d mX12_drawn n 20 L (v :: r) h Q | none => False) | none => False) | _ => False)) ∧
  (∀ (n d : Nat) (L : List (Option iV)) (st : List iV) (h : iH) (Q : Option iV → iH → Prop), G sp sc [] d mX12_drawn (n + 1) 20 L st h Q = G sp sc [] d mX12_drawn n 23 L (.inl (2147483647) :: st) h Q) ∧
  (∀ (n d : Nat) (L : List (Option iV)) (a : Int) (b : Int) (r : List iV) (h : iH) (Q : Option iV → iH → Prop), G sp sc [] d mX12_drawn (n + 1) 23 L (.inl b :: .inl a :: r) h Q = G sp sc [] d mX12_drawn n 24 L (.inl (bAnd a b) :: r) h Q) ∧
  (∀ (n d : Nat) (L : List (Option iV)) (st : List iV) (h : iH) (Q : Option iV → iH → Prop), G sp sc [] d mX12_drawn (n + 1) 24 L st h Q = G sp sc [] d mX12_drawn n 27 L (.inl (65536) :: st) h Q) ∧
  (∀ (n d : Nat) (L : List (Option iV)) (a : Int) (b : Int) (r : List iV) (h : iH) (Q : Option iV → iH → Prop), G sp sc [] d mX12_drawn (n + 1) 27 L (.inl b :: .inl a :: r) h Q = ((inI a = true ∧ inI b = true ∧ 0 < b) ∧ G sp sc [] d mX12_drawn n 28 L (.inl (a.tdiv b) :: r) h Q)) ∧
  (∀ (n d : Nat) (L : List (Option iV)) (st : List iV) (h : iH) (Q : Option iV → iH → Prop), G sp sc [] d mX12_drawn (n + 1) 28 L st h Q = (match ld L 1 with | some (.inl x) => G sp sc [] d mX12_drawn n 29 L (.inl x :: st) h Q | _ => False)) ∧
  (∀ (n d : Nat) (L : List (Option iV)) (a : Int) (b : Int) (r : List iV) (h : iH) (Q : Option iV → iH → Prop), G sp sc [] d mX12_drawn (n + 1) 29 L (.inl b :: .inl a :: r) h Q = ((inI a = true ∧ inI b = true ∧ 0 < b) ∧ G sp sc [] d mX12_drawn n 30 L (.inl (a.tmod b) :: r) h Q)) ∧
  (∀ (n d : Nat) (L : List (Option iV)) (a : Int) (h : iH) (Q : Option iV → iH → Prop), G sp sc [] d mX12_drawn (n + 1) 30 L [.inl a] h Q = Q (some (.inl a)) h) ∧
  lkF 12 279 12 = some 25 ∧
  pOK 12 false 12 25 = true := ⟨by intros; exact G_at (by decide +kernel : fetch mX12_drawn 0 = some (.aload_n 0)),
  by intros; exact G_at (by decide +kernel : fetch mX12_drawn 1 = some (.aload_n 0)),
  by intros; exact G_own (by decide +kernel : fetch mX12_drawn 2 = some (.getfield 279)) (by decide +kernel),
  by intros; exact G_ldcw (by decide +kernel : fetch mX12_drawn 5 = some (.ldc_w 282)) (by decide +kernel),
  by intros; exact G_at (by decide +kernel : fetch mX12_drawn 8 = some (.imul)),
  by intros; exact G_at (by decide +kernel : fetch mX12_drawn 9 = some (.sipush 12345)),
  by intros; exact G_at (by decide +kernel : fetch mX12_drawn 12 = some (.iadd)),
  by intros; exact G_ownW (by decide +kernel : fetch mX12_drawn 13 = some (.putfield 279)) (by decide +kernel) (by decide +kernel),
  by intros; exact G_at (by decide +kernel : fetch mX12_drawn 16 = some (.aload_n 0)),
  by intros; exact G_own (by decide +kernel : fetch mX12_drawn 17 = some (.getfield 279)) (by decide +kernel),
  by intros; exact G_ldcw (by decide +kernel : fetch mX12_drawn 20 = some (.ldc_w 283)) (by decide +kernel),
  by intros; exact G_at (by decide +kernel : fetch mX12_drawn 23 = some (.iand)),
  by intros; exact G_ldcw (by decide +kernel : fetch mX12_drawn 24 = some (.ldc_w 284)) (by decide +kernel),
  by intros; exact G_at (by decide +kernel : fetch mX12_drawn 27 = some (.idiv)),
  by intros; exact G_at (by decide +kernel : fetch mX12_drawn 28 = some (.iload_n 1)),
  by intros; exact G_at (by decide +kernel : fetch mX12_drawn 29 = some (.irem)),
  by intros; exact G_reti (by decide +kernel : fetch mX12_drawn 30 = some (.ireturn)) (by decide +kernel),
  by decide +kernel,
  by decide +kernel⟩
theorem gX12_seeds : (∀ (n d : Nat) (L : List (Option iV)) (st : List iV) (h : iH) (Q : Option iV → iH → Prop), G sp sc [35, 49, 58, 75, 130] d mX12_seeds (n + 1) 0 L st h Q = (match ld L 1 with | some (.inl x) => G sp sc [35, 49, 58, 75, 130] d mX12_seeds n 1 L (.inl x :: st) h Q | _ => False)) ∧
  (∀ (n d : Nat) (L : List (Option iV)) (st : List iV) (h : iH) (Q : Option iV → iH → Prop), G sp sc [35, 49, 58, 75, 130] d mX12_seeds (n + 1) 1 L st h Q = G sp sc [35, 49, 58, 75, 130] d mX12_seeds n 2 L (.inl 1 :: st) h Q) ∧
  (∀ (n d : Nat) (L : List (Option iV)) (st : List iV) (h : iH) (Q : Option iV → iH → Prop), G sp sc [35, 49, 58, 75, 130] d mX12_seeds (n + 1) 2 L st h Q = ((-128 ≤ (20 : Int) ∧ (20 : Int) < 128) ∧ G sp sc [35, 49, 58, 75, 130] d mX12_seeds n 4 L (.inl 20 :: st) h Q)) ∧
  (∀ (n d : Nat) (L : List (Option iV)) (r : List iV) (z0 : iV) (z1 : iV) (z2 : iV) (h : iH) (Q : Option iV → iH → Prop), G sp sc [35, 49, 58, 75, 130] (d + 1) mX12_seeds (n + 1) 4 L (z2 :: z1 :: z0 :: r) h Q = (cs r ≤ 8 ∧ Call sp sc d mX12_isIn [z0, z1, z2] h (fun q h1 => GC sp sc [35, 49, 58, 75, 130] (d + 1) mX12_seeds n 7 L q r h h1 Q))) ∧
  (∀ (n d : Nat) (L : List (Option iV)) (a : Int) (r : List iV) (h : iH) (Q : Option iV → iH → Prop), G sp sc [35, 49, 58, 75, 130] d mX12_seeds (n + 1) 7 L (.inl a :: r) h Q = (inI a = true ∧ (a = 0 → G sp sc [35, 49, 58, 75, 130] d mX12_seeds n 19 L r h Q) ∧ (¬ (a = 0) → G sp sc [35, 49, 58, 75, 130] d mX12_seeds n 10 L r h Q))) ∧
  (∀ (n d : Nat) (L : List (Option iV)) (st : List iV) (h : iH) (Q : Option iV → iH → Prop), G sp sc [35, 49, 58, 75, 130] d mX12_seeds (n + 1) 10 L st h Q = (match ld L 3 with | some (.inl x) => G sp sc [35, 49, 58, 75, 130] d mX12_seeds n 11 L (.inl x :: st) h Q | _ => False)) ∧
  (∀ (n d : Nat) (L : List (Option iV)) (st : List iV) (h : iH) (Q : Option iV → iH → Prop), G sp sc [35, 49, 58, 75, 130] d mX12_seeds (n + 1) 11 L st h Q = G sp sc [35, 49, 58, 75, 130] d mX12_seeds n 12 L (.inl 0 :: st) h Q) ∧
  (∀ (n d : Nat) (L : List (Option iV)) (st : List iV) (h : iH) (Q : Option iV → iH → Prop), G sp sc [35, 49, 58, 75, 130] d mX12_seeds (n + 1) 12 L st h Q = G sp sc [35, 49, 58, 75, 130] d mX12_seeds n 13 L (.inl 1 :: st) h Q) ∧
  (∀ (n d : Nat) (L : List (Option iV)) (r : List iV) (z0 : iV) (z1 : iV) (z2 : iV) (h : iH) (Q : Option iV → iH → Prop), G sp sc [35, 49, 58, 75, 130] (d + 1) mX12_seeds (n + 1) 13 L (z2 :: z1 :: z0 :: r) h Q = (cs r ≤ 8 ∧ Call sp sc d mX12_isIn [z0, z1, z2] h (fun q h1 => GC sp sc [35, 49, 58, 75, 130] (d + 1) mX12_seeds n 16 L q r h h1 Q))) ∧
  (∀ (n d : Nat) (L : List (Option iV)) (a : Int) (r : List iV) (h : iH) (Q : Option iV → iH → Prop), G sp sc [35, 49, 58, 75, 130] d mX12_seeds (n + 1) 16 L (.inl a :: r) h Q = (inI a = true ∧ (¬ a = 0 → G sp sc [35, 49, 58, 75, 130] d mX12_seeds n 21 L r h Q) ∧ (¬ (¬ a = 0) → G sp sc [35, 49, 58, 75, 130] d mX12_seeds n 19 L r h Q))) ∧
  (∀ (n d : Nat) (L : List (Option iV)) (st : List iV) (h : iH) (Q : Option iV → iH → Prop), G sp sc [35, 49, 58, 75, 130] d mX12_seeds (n + 1) 19 L st h Q = G sp sc [35, 49, 58, 75, 130] d mX12_seeds n 20 L (.inl (-1) :: st) h Q) ∧
  (∀ (n d : Nat) (L : List (Option iV)) (a : Int) (h : iH) (Q : Option iV → iH → Prop), G sp sc [35, 49, 58, 75, 130] d mX12_seeds (n + 1) 20 L [.inl a] h Q = Q (some (.inl a)) h) ∧
  (∀ (n d : Nat) (L : List (Option iV)) (st : List iV) (h : iH) (Q : Option iV → iH → Prop), G sp sc [35, 49, 58, 75, 130] d mX12_seeds (n + 1) 21 L st h Q = (match ld L 0 with | some (.inr (.inr (r + 1))) => G sp sc [35, 49, 58, 75, 130] d mX12_seeds n 22 L (.inr (.inr (r + 1)) :: st) h Q | _ => False)) ∧
  (∀ (n d : Nat) (L : List (Option iV)) (st : List iV) (h : iH) (Q : Option iV → iH → Prop), G sp sc [35, 49, 58, 75, 130] d mX12_seeds (n + 1) 22 L st h Q = (match ld L 2 with | some (.inl x) => G sp sc [35, 49, 58, 75, 130] d mX12_seeds n 23 L (.inl x :: st) h Q | _ => False)) ∧
  (∀ (n d : Nat) (L : List (Option iV)) (r : List iV) (v : iV) (m : Nat) (h : iH) (Q : Option iV → iH → Prop), G sp sc [35, 49, 58, 75, 130] d mX12_seeds (n + 1) 23 L (v :: .inr (.inr (m + 2)) :: r) h Q = (match h.1[m]? with | some (.inl (ci, fs)) => (match lkF 12 279 ci with | some k => (fitV (tyT ci k) v = true ∧ k < fs.length ∧ pOK 12 false ci k = true) ∧ G sp sc [35, 49, 58, 75, 130] d mX12_seeds n 26 L r (h.1.set m (.inl (ci, fs.set k v)), h.2) Q | none => False) | _ => False)) ∧
  (∀ (n d : Nat) (L : List (Option iV)) (st : List iV) (h : iH) (Q : Option iV → iH → Prop), G sp sc [35, 49, 58, 75, 130] d mX12_seeds (n + 1) 26 L st h Q = G sp sc [35, 49, 58, 75, 130] d mX12_seeds n 27 L (.inl 0 :: st) h Q) ∧
  (∀ (n d : Nat) (L : List (Option iV)) (r : List iV) (x : Int) (h : iH) (Q : Option iV → iH → Prop), G sp sc [35, 49, 58, 75, 130] d mX12_seeds (n + 1) 27 L (.inl x :: r) h Q = (match st1 L 4 (.inl x) with | some L' => G sp sc [35, 49, 58, 75, 130] d mX12_seeds n 29 L' r h Q | none => False)) ∧
  (∀ (n d : Nat) (L : List (Option iV)) (st : List iV) (h : iH) (Q : Option iV → iH → Prop), G sp sc [35, 49, 58, 75, 130] d mX12_seeds (n + 1) 29 L st h Q = G sp sc [35, 49, 58, 75, 130] d mX12_seeds n 30 L (.inl 0 :: st) h Q) ∧
  (∀ (n d : Nat) (L : List (Option iV)) (r : List iV) (x : Int) (h : iH) (Q : Option iV → iH → Prop), G sp sc [35, 49, 58, 75, 130] d mX12_seeds (n + 1) 30 L (.inl x :: r) h Q = (match st1 L 5 (.inl x) with | some L' => G sp sc [35, 49, 58, 75, 130] d mX12_seeds n 32 L' r h Q | none => False)) ∧
  (∀ (n d : Nat) (L : List (Option iV)) (st : List iV) (h : iH) (Q : Option iV → iH → Prop), G sp sc [35, 49, 58, 75, 130] d mX12_seeds (n + 1) 32 L st h Q = G sp sc [35, 49, 58, 75, 130] d mX12_seeds n 33 L (.inl 0 :: st) h Q) ∧
  (∀ (n d : Nat) (L : List (Option iV)) (r : List iV) (x : Int) (h : iH) (Q : Option iV → iH → Prop), G sp sc [35, 49, 58, 75, 130] d mX12_seeds (n + 1) 33 L (.inl x :: r) h Q = (match st1 L 6 (.inl x) with | some L' => Run sp sc d mX12_seeds 35 L' r h Q | none => False)) ∧
  (∀ (n d : Nat) (L : List (Option iV)) (st : List iV) (h : iH) (Q : Option iV → iH → Prop), G sp sc [35, 49, 58, 75, 130] d mX12_seeds (n + 1) 35 L st h Q = (match ld L 6 with | some (.inl x) => G sp sc [35, 49, 58, 75, 130] d mX12_seeds n 37 L (.inl x :: st) h Q | _ => False)) ∧
  (∀ (n d : Nat) (L : List (Option iV)) (st : List iV) (h : iH) (Q : Option iV → iH → Prop), G sp sc [35, 49, 58, 75, 130] d mX12_seeds (n + 1) 37 L st h Q = (match ld L 1 with | some (.inl x) => G sp sc [35, 49, 58, 75, 130] d mX12_seeds n 38 L (.inl x :: st) h Q | _ => False)) ∧
  (∀ (n d : Nat) (L : List (Option iV)) (a : Int) (b : Int) (r : List iV) (h : iH) (Q : Option iV → iH → Prop), G sp sc [35, 49, 58, 75, 130] d mX12_seeds (n + 1) 38 L (.inl b :: .inl a :: r) h Q = ((inI a = true ∧ inI b = true) ∧ (b ≤ a → G sp sc [35, 49, 58, 75, 130] d mX12_seeds n 179 L r h Q) ∧ (¬ (b ≤ a) → G sp sc [35, 49, 58, 75, 130] d mX12_seeds n 41 L r h Q))) ∧
  (∀ (n d : Nat) (L : List (Option iV)) (st : List iV) (h : iH) (Q : Option iV → iH → Prop), G sp sc [35, 49, 58, 75, 130] d mX12_seeds (n + 1) 41 L st h Q = (match ld L 0 with | some (.inr (.inr (r + 1))) => G sp sc [35, 49, 58, 75, 130] d mX12_seeds n 42 L (.inr (.inr (r + 1)) :: st) h Q | _ => False)) ∧
  (∀ (n d : Nat) (L : List (Option iV)) (st : List iV) (h : iH) (Q : Option iV → iH → Prop), G sp sc [35, 49, 58, 75, 130] d mX12_seeds (n + 1) 42 L st h Q = G sp sc [35, 49, 58, 75, 130] d mX12_seeds n 43 L (.inl 0 :: st) h Q) ∧
  (∀ (n d : Nat) (L : List (Option iV)) (r : List iV) (m : Nat) (z0 : iV) (h : iH) (Q : Option iV → iH → Prop), G sp sc [35, 49, 58, 75, 130] (d + 1) mX12_seeds (n + 1) 43 L (z0 :: .inr (.inr (m + 2)) :: r) h Q = (match h.1[m]? with | some (.inl (ci, _)) => (match lkC 12 211 ci with | some (y1, n1, kd) => (n1 = 1 ∧ (kd = 2 ∨ kd = 3 ∨ kd = 8) ∧ cs r ≤ 8) ∧ Call sp sc d y1 [.inr (.inr (m + 2)), z0] h (fun q h1 => GC sp sc [35, 49, 58, 75, 130] (d + 1) mX12_seeds n 46 L q r h h1 Q) | none => False) | _ => False)) ∧
  (∀ (n d : Nat) (L : List (Option iV)) (st : List iV) (h : iH) (Q : Option iV → iH → Prop), G sp sc [35, 49, 58, 75, 130] d mX12_seeds (n + 1) 46 L st h Q = G sp sc [35, 49, 58, 75, 130] d mX12_seeds n 47 L (.inl 0 :: st) h Q) ∧
  (∀ (n d : Nat) (L : List (Option iV)) (r : List iV) (x : Int) (h : iH) (Q : Option iV → iH → Prop), G sp sc [35, 49, 58, 75, 130] d mX12_seeds (n + 1) 47 L (.inl x :: r) h Q = (match st1 L 7 (.inl x) with | some L' => Run sp sc d mX12_seeds 49 L' r h Q | none => False)) ∧
  (∀ (n d : Nat) (L : List (Option iV)) (st : List iV) (h : iH) (Q : Option iV → iH → Prop), G sp sc [35, 49, 58, 75, 130] d mX12_seeds (n + 1) 49 L st h Q = (match ld L 7 with | some (.inl x) => G sp sc [35, 49, 58, 75, 130] d mX12_seeds n 51 L (.inl x :: st) h Q | _ => False)) ∧
  (∀ (n d : Nat) (L : List (Option iV)) (st : List iV) (h : iH) (Q : Option iV → iH → Prop), G sp sc [35, 49, 58, 75, 130] d mX12_seeds (n + 1) 51 L st h Q = G sp sc [35, 49, 58, 75, 130] d mX12_seeds n 52 L (.inl 2 :: st) h Q) ∧
  (∀ (n d : Nat) (L : List (Option iV)) (a : Int) (b : Int) (r : List iV) (h : iH) (Q : Option iV → iH → Prop), G sp sc [35, 49, 58, 75, 130] d mX12_seeds (n + 1) 52 L (.inl b :: .inl a :: r) h Q = ((inI a = true ∧ inI b = true) ∧ (b ≤ a → G sp sc [35, 49, 58, 75, 130] d mX12_seeds n 127 L r h Q) ∧ (¬ (b ≤ a) → G sp sc [35, 49, 58, 75, 130] d mX12_seeds n 55 L r h Q))) ∧
  (∀ (n d : Nat) (L : List (Option iV)) (st : List iV) (h : iH) (Q : Option iV → iH → Prop), G sp sc [35, 49, 58, 75, 130] d mX12_seeds (n + 1) 55 L st h Q = G sp sc [35, 49, 58, 75, 130] d mX12_seeds n 56 L (.inl 0 :: st) h Q) ∧
  (∀ (n d : Nat) (L : List (Option iV)) (r : List iV) (x : Int) (h : iH) (Q : Option iV → iH → Prop), G sp sc [35, 49, 58, 75, 130] d mX12_seeds (n + 1) 56 L (.inl x :: r) h Q = (match st1 L 8 (.inl x) with | some L' => Run sp sc d mX12_seeds 58 L' r h Q | none => False)) ∧
  (∀ (n d : Nat) (L : List (Option iV)) (st : List iV) (h : iH) (Q : Option iV → iH → Prop), G sp sc [35, 49, 58, 75, 130] d mX12_seeds (n + 1) 58 L st h Q = (match ld L 8 with | some (.inl x) => G sp sc [35, 49, 58, 75, 130] d mX12_seeds n 60 L (.inl x :: st) h Q | _ => False)) ∧
  (∀ (n d : Nat) (L : List (Option iV)) (st : List iV) (h : iH) (Q : Option iV → iH → Prop), G sp sc [35, 49, 58, 75, 130] d mX12_seeds (n + 1) 60 L st h Q = (match ld L 0 with | some (.inr (.inr (r + 1))) => G sp sc [35, 49, 58, 75, 130] d mX12_seeds n 61 L (.inr (.inr (r + 1)) :: st) h Q | _ => False)) ∧
  (∀ (n d : Nat) (L : List (Option iV)) (r : List iV) (m : Nat) (h : iH) (Q : Option iV → iH → Prop), G sp sc [35, 49, 58, 75, 130] d mX12_seeds (n + 1) 61 L (.inr (.inr (m + 2)) :: r) h Q = (match h.1[m]? with | some (.inl (ci, fs)) => (match lkF 12 9 ci with | some k => (match fs[k]? with | some v => G sp sc [35, 49, 58, 75, 130] d mX12_seeds n 64 L (v :: r) h Q | none => False) | none => False) | _ => False)) ∧
  (∀ (n d : Nat) (L : List (Option iV)) (st : List iV) (h : iH) (Q : Option iV → iH → Prop), G sp sc [35, 49, 58, 75, 130] d mX12_seeds (n + 1) 64 L st h Q = G sp sc [35, 49, 58, 75, 130] d mX12_seeds n 65 L (.inl 0 :: st) h Q) ∧
  (∀ (n d : Nat) (L : List (Option iV)) (st : List iV) (h : iH) (Q : Option iV → iH → Prop), G sp sc [35, 49, 58, 75, 130] d mX12_seeds (n + 1) 65 L st h Q = (match ld L 7 with | some (.inl x) => G sp sc [35, 49, 58, 75, 130] d mX12_seeds n 67 L (.inl x :: st) h Q | _ => False)) ∧
  (∀ (n d : Nat) (L : List (Option iV)) (a : Int) (b : Int) (r : List iV) (h : iH) (Q : Option iV → iH → Prop), G sp sc [35, 49, 58, 75, 130] d mX12_seeds (n + 1) 67 L (.inl b :: .inl a :: r) h Q = G sp sc [35, 49, 58, 75, 130] d mX12_seeds n 68 L (.inl (a + b) :: r) h Q) ∧
  (∀ (n d : Nat) (L : List (Option iV)) (r : List iV) (j : Int) (m : Nat) (h : iH) (Q : Option iV → iH → Prop), G sp sc [35, 49, 58, 75, 130] d mX12_seeds (n + 1) 68 L (.inl j :: .inr (.inr (m + 2)) :: r) h Q = (match h.1[m]? with | some (.inr (.inl (0, xs))) => inA j xs.length = true ∧ G sp sc [35, 49, 58, 75, 130] d mX12_seeds n 69 L (.inl (xs.getD j.toNat 0) :: r) h Q | _ => False)) ∧
  (∀ (n d : Nat) (L : List (Option iV)) (a : Int) (b : Int) (r : List iV) (h : iH) (Q : Option iV → iH → Prop), G sp sc [35, 49, 58, 75, 130] d mX12_seeds (n + 1) 69 L (.inl b :: .inl a :: r) h Q = ((inI a = true ∧ inI b = true) ∧ (b ≤ a → G sp sc [35, 49, 58, 75, 130] d mX12_seeds n 121 L r h Q) ∧ (¬ (b ≤ a) → G sp sc [35, 49, 58, 75, 130] d mX12_seeds n 72 L r h Q))) ∧
  (∀ (n d : Nat) (L : List (Option iV)) (st : List iV) (h : iH) (Q : Option iV → iH → Prop), G sp sc [35, 49, 58, 75, 130] d mX12_seeds (n + 1) 72 L st h Q = G sp sc [35, 49, 58, 75, 130] d mX12_seeds n 73 L (.inl 0 :: st) h Q) ∧
  (∀ (n d : Nat) (L : List (Option iV)) (r : List iV) (x : Int) (h : iH) (Q : Option iV → iH → Prop), G sp sc [35, 49, 58, 75, 130] d mX12_seeds (n + 1) 73 L (.inl x :: r) h Q = (match st1 L 9 (.inl x) with | some L' => Run sp sc d mX12_seeds 75 L' r h Q | none => False)) ∧
  (∀ (n d : Nat) (L : List (Option iV)) (st : List iV) (h : iH) (Q : Option iV → iH → Prop), G sp sc [35, 49, 58, 75, 130] d mX12_seeds (n + 1) 75 L st h Q = (match ld L 9 with | some (.inl x) => G sp sc [35, 49, 58, 75, 130] d mX12_seeds n 77 L (.inl x :: st) h Q | _ => False)) ∧
  (∀ (n d : Nat) (L : List (Option iV)) (st : List iV) (h : iH) (Q : Option iV → iH → Prop), G sp sc [35, 49, 58, 75, 130] d mX12_seeds (n + 1) 77 L st h Q = (match ld L 0 with | some (.inr (.inr (r + 1))) => G sp sc [35, 49, 58, 75, 130] d mX12_seeds n 78 L (.inr (.inr (r + 1)) :: st) h Q | _ => False)) ∧
  (∀ (n d : Nat) (L : List (Option iV)) (r : List iV) (m : Nat) (h : iH) (Q : Option iV → iH → Prop), G sp sc [35, 49, 58, 75, 130] d mX12_seeds (n + 1) 78 L (.inr (.inr (m + 2)) :: r) h Q = (match h.1[m]? with | some (.inl (ci, fs)) => (match lkF 12 9 ci with | some k => (match fs[k]? with | some v => G sp sc [35, 49, 58, 75, 130] d mX12_seeds n 81 L (v :: r) h Q | none => False) | none => False) | _ => False)) ∧
  (∀ (n d : Nat) (L : List (Option iV)) (st : List iV) (h : iH) (Q : Option iV → iH → Prop), G sp sc [35, 49, 58, 75, 130] d mX12_seeds (n + 1) 81 L st h Q = G sp sc [35, 49, 58, 75, 130] d mX12_seeds n 82 L (.inl 1 :: st) h Q) ∧
  (∀ (n d : Nat) (L : List (Option iV)) (st : List iV) (h : iH) (Q : Option iV → iH → Prop), G sp sc [35, 49, 58, 75, 130] d mX12_seeds (n + 1) 82 L st h Q = (match ld L 7 with | some (.inl x) => G sp sc [35, 49, 58, 75, 130] d mX12_seeds n 84 L (.inl x :: st) h Q | _ => False)) ∧
  (∀ (n d : Nat) (L : List (Option iV)) (a : Int) (b : Int) (r : List iV) (h : iH) (Q : Option iV → iH → Prop), G sp sc [35, 49, 58, 75, 130] d mX12_seeds (n + 1) 84 L (.inl b :: .inl a :: r) h Q = G sp sc [35, 49, 58, 75, 130] d mX12_seeds n 85 L (.inl (a - b) :: r) h Q) ∧
  (∀ (n d : Nat) (L : List (Option iV)) (r : List iV) (j : Int) (m : Nat) (h : iH) (Q : Option iV → iH → Prop), G sp sc [35, 49, 58, 75, 130] d mX12_seeds (n + 1) 85 L (.inl j :: .inr (.inr (m + 2)) :: r) h Q = (match h.1[m]? with | some (.inr (.inl (0, xs))) => inA j xs.length = true ∧ G sp sc [35, 49, 58, 75, 130] d mX12_seeds n 86 L (.inl (xs.getD j.toNat 0) :: r) h Q | _ => False)) ∧
  (∀ (n d : Nat) (L : List (Option iV)) (a : Int) (b : Int) (r : List iV) (h : iH) (Q : Option iV → iH → Prop), G sp sc [35, 49, 58, 75, 130] d mX12_seeds (n + 1) 86 L (.inl b :: .inl a :: r) h Q = ((inI a = true ∧ inI b = true) ∧ (b ≤ a → G sp sc [35, 49, 58, 75, 130] d mX12_seeds n 115 L r h Q) ∧ (¬ (b ≤ a) → G sp sc [35, 49, 58, 75, 130] d mX12_seeds n 89 L r h Q))) ∧
  (∀ (n d : Nat) (L : List (Option iV)) (st : List iV) (h : iH) (Q : Option iV → iH → Prop), G sp sc [35, 49, 58, 75, 130] d mX12_seeds (n + 1) 89 L st h Q = (match ld L 0 with | some (.inr (.inr (r + 1))) => G sp sc [35, 49, 58, 75, 130] d mX12_seeds n 90 L (.inr (.inr (r + 1)) :: st) h Q | _ => False)) ∧
  (∀ (n d : Nat) (L : List (Option iV)) (r : List iV) (m : Nat) (h : iH) (Q : Option iV → iH → Prop), G sp sc [35, 49, 58, 75, 130] d mX12_seeds (n + 1) 90 L (.inr (.inr (m + 2)) :: r) h Q = (match h.1[m]? with | some (.inl (ci, fs)) => (match lkF 12 13 ci with | some k => (match fs[k]? with | some v => G sp sc [35, 49, 58, 75, 130] d mX12_seeds n 93 L (v :: r) h Q | none => False) | none => False) | _ => False)) ∧
  (∀ (n d : Nat) (L : List (Option iV)) (st : List iV) (h : iH) (Q : Option iV → iH → Prop), G sp sc [35, 49, 58, 75, 130] d mX12_seeds (n + 1) 93 L st h Q = (match ld L 7 with | some (.inl x) => G sp sc [35, 49, 58, 75, 130] d mX12_seeds n 95 L (.inl x :: st) h Q | _ => False)) ∧
  (∀ (n d : Nat) (L : List (Option iV)) (st : List iV) (h : iH) (Q : Option iV → iH → Prop), G sp sc [35, 49, 58, 75, 130] d mX12_seeds (n + 1) 95 L st h Q = (match ld L 8 with | some (.inl x) => G sp sc [35, 49, 58, 75, 130] d mX12_seeds n 97 L (.inl x :: st) h Q | _ => False)) ∧
  (∀ (n d : Nat) (L : List (Option iV)) (st : List iV) (h : iH) (Q : Option iV → iH → Prop), G sp sc [35, 49, 58, 75, 130] d mX12_seeds (n + 1) 97 L st h Q = (match ld L 9 with | some (.inl x) => G sp sc [35, 49, 58, 75, 130] d mX12_seeds n 99 L (.inl x :: st) h Q | _ => False)) ∧
  (∀ (n d : Nat) (L : List (Option iV)) (r : List iV) (z0 : iV) (z1 : iV) (z2 : iV) (h : iH) (Q : Option iV → iH → Prop), G sp sc [35, 49, 58, 75, 130] (d + 1) mX12_seeds (n + 1) 99 L (z2 :: z1 :: z0 :: r) h Q = (cs r ≤ 8 ∧ Call sp sc d mX12_atLike [z0, z1, z2] h (fun q h1 => GC sp sc [35, 49, 58, 75, 130] (d + 1) mX12_seeds n 102 L q r h h1 Q))) ∧
  (∀ (n d : Nat) (L : List (Option iV)) (st : List iV) (h : iH) (Q : Option iV → iH → Prop), G sp sc [35, 49, 58, 75, 130] d mX12_seeds (n + 1) 102 L st h Q = (match ld L 0 with | some (.inr (.inr (r + 1))) => G sp sc [35, 49, 58, 75, 130] d mX12_seeds n 103 L (.inr (.inr (r + 1)) :: st) h Q | _ => False)) ∧
  (∀ (n d : Nat) (L : List (Option iV)) (st : List iV) (h : iH) (Q : Option iV → iH → Prop), G sp sc [35, 49, 58, 75, 130] d mX12_seeds (n + 1) 103 L st h Q = ((-128 ≤ (60 : Int) ∧ (60 : Int) < 128) ∧ G sp sc [35, 49, 58, 75, 130] d mX12_seeds n 105 L (.inl 60 :: st) h Q)) ∧
  (∀ (n d : Nat) (L : List (Option iV)) (r : List iV) (m : Nat) (z0 : iV) (h : iH) (Q : Option iV → iH → Prop), G sp sc [35, 49, 58, 75, 130] (d + 1) mX12_seeds (n + 1) 105 L (z0 :: .inr (.inr (m + 2)) :: r) h Q = (match h.1[m]? with | some (.inl (ci, _)) => (match lkC 12 285 ci with | some (y1, n1, kd) => (n1 = 1 ∧ (kd = 2 ∨ kd = 3 ∨ kd = 8) ∧ cs r ≤ 8) ∧ Call sp sc d y1 [.inr (.inr (m + 2)), z0] h (fun q h1 => GC sp sc [35, 49, 58, 75, 130] (d + 1) mX12_seeds n 108 L q r h h1 Q) | none => False) | _ => False)) ∧
  (∀ (n d : Nat) (L : List (Option iV)) (r : List iV) (v : Int) (j : Int) (m : Nat) (h : iH) (Q : Option iV → iH → Prop), G sp sc [35, 49, 58, 75, 130] d mX12_seeds (n + 1) 108 L (.inl v :: .inl j :: .inr (.inr (m + 2)) :: r) h Q = (match h.1[m]? with | some (.inr (.inl (0, xs))) => inA j xs.length = true ∧ G sp sc [35, 49, 58, 75, 130] d mX12_seeds n 109 L r (h.1.set m (.inr (.inl (0, xs.set j.toNat v))), h.2) Q | _ => False)) ∧
  (∀ (n d : Nat) (L : List (Option iV)) (st : List iV) (h : iH) (Q : Option iV → iH → Prop), G sp sc [35, 49, 58, 75, 130] d mX12_seeds (n + 1) 109 L st h Q = (match ld L 9 with | some (.inl x) => (match st1 L 9 (.inl (x + 1)) with | some L' => G sp sc [35, 49, 58, 75, 130] d mX12_seeds n 112 L' st h Q | none => False) | _ => False)) ∧
  (∀ (n d : Nat) (L : List (Option iV)) (st : List iV) (h : iH) (Q : Option iV → iH → Prop), G sp sc [35, 49, 58, 75, 130] d mX12_seeds (n + 1) 112 L st h Q = Run sp sc d mX12_seeds 75 L st h Q) ∧
  (∀ (n d : Nat) (L : List (Option iV)) (st : List iV) (h : iH) (Q : Option iV → iH → Prop), G sp sc [35, 49, 58, 75, 130] d mX12_seeds (n + 1) 115 L st h Q = (match ld L 8 with | some (.inl x) => (match st1 L 8 (.inl (x + 1)) with | some L' => G sp sc [35, 49, 58, 75, 130] d mX12_seeds n 118 L' st h Q | none => False) | _ => False)) ∧
  (∀ (n d : Nat) (L : List (Option iV)) (st : List iV) (h : iH) (Q : Option iV → iH → Prop), G sp sc [35, 49, 58, 75, 130] d mX12_seeds (n + 1) 118 L st h Q = Run sp sc d mX12_seeds 58 L st h Q) ∧
  (∀ (n d : Nat) (L : List (Option iV)) (st : List iV) (h : iH) (Q : Option iV → iH → Prop), G sp sc [35, 49, 58, 75, 130] d mX12_seeds (n + 1) 121 L st h Q = (match ld L 7 with | some (.inl x) => (match st1 L 7 (.inl (x + 1)) with | some L' => G sp sc [35, 49, 58, 75, 130] d mX12_seeds n 124 L' st h Q | none => False) | _ => False)) ∧
  (∀ (n d : Nat) (L : List (Option iV)) (st : List iV) (h : iH) (Q : Option iV → iH → Prop), G sp sc [35, 49, 58, 75, 130] d mX12_seeds (n + 1) 124 L st h Q = Run sp sc d mX12_seeds 49 L st h Q) ∧
  (∀ (n d : Nat) (L : List (Option iV)) (st : List iV) (h : iH) (Q : Option iV → iH → Prop), G sp sc [35, 49, 58, 75, 130] d mX12_seeds (n + 1) 127 L st h Q = G sp sc [35, 49, 58, 75, 130] d mX12_seeds n 128 L (.inl 0 :: st) h Q) ∧
  (∀ (n d : Nat) (L : List (Option iV)) (r : List iV) (x : Int) (h : iH) (Q : Option iV → iH → Prop), G sp sc [35, 49, 58, 75, 130] d mX12_seeds (n + 1) 128 L (.inl x :: r) h Q = (match st1 L 7 (.inl x) with | some L' => Run sp sc d mX12_seeds 130 L' r h Q | none => False)) ∧
  (∀ (n d : Nat) (L : List (Option iV)) (st : List iV) (h : iH) (Q : Option iV → iH → Prop), G sp sc [35, 49, 58, 75, 130] d mX12_seeds (n + 1) 130 L st h Q = (match ld L 7 with | some (.inl x) => G sp sc [35, 49, 58, 75, 130] d mX12_seeds n 132 L (.inl x :: st) h Q | _ => False)) ∧
  (∀ (n d : Nat) (L : List (Option iV)) (st : List iV) (h : iH) (Q : Option iV → iH → Prop), G sp sc [35, 49, 58, 75, 130] d mX12_seeds (n + 1) 132 L st h Q = ((-128 ≤ (30 : Int) ∧ (30 : Int) < 128) ∧ G sp sc [35, 49, 58, 75, 130] d mX12_seeds n 134 L (.inl 30 :: st) h Q)) ∧
  (∀ (n d : Nat) (L : List (Option iV)) (a : Int) (b : Int) (r : List iV) (h : iH) (Q : Option iV → iH → Prop), G sp sc [35, 49, 58, 75, 130] d mX12_seeds (n + 1) 134 L (.inl b :: .inl a :: r) h Q = ((inI a = true ∧ inI b = true) ∧ (b ≤ a → G sp sc [35, 49, 58, 75, 130] d mX12_seeds n 151 L r h Q) ∧ (¬ (b ≤ a) → G sp sc [35, 49, 58, 75, 130] d mX12_seeds n 137 L r h Q))) ∧
  (∀ (n d : Nat) (L : List (Option iV)) (st : List iV) (h : iH) (Q : Option iV → iH → Prop), G sp sc [35, 49, 58, 75, 130] d mX12_seeds (n + 1) 137 L st h Q = (match ld L 0 with | some (.inr (.inr (r + 1))) => G sp sc [35, 49, 58, 75, 130] d mX12_seeds n 138 L (.inr (.inr (r + 1)) :: st) h Q | _ => False)) ∧
  (∀ (n d : Nat) (L : List (Option iV)) (st : List iV) (h : iH) (Q : Option iV → iH → Prop), G sp sc [35, 49, 58, 75, 130] d mX12_seeds (n + 1) 138 L st h Q = (match ld L 0 with | some (.inr (.inr (r + 1))) => G sp sc [35, 49, 58, 75, 130] d mX12_seeds n 139 L (.inr (.inr (r + 1)) :: st) h Q | _ => False)) ∧
  (∀ (n d : Nat) (L : List (Option iV)) (r : List iV) (m : Nat) (h : iH) (Q : Option iV → iH → Prop), G sp sc [35, 49, 58, 75, 130] d mX12_seeds (n + 1) 139 L (.inr (.inr (m + 2)) :: r) h Q = (match h.1[m]? with | some (.inl (ci, fs)) => (match lkF 12 13 ci with | some k => (match fs[k]? with | some v => G sp sc [35, 49, 58, 75, 130] d mX12_seeds n 142 L (v :: r) h Q | none => False) | none => False) | _ => False)) ∧
  (∀ (n d : Nat) (L : List (Option iV)) (r : List iV) (m : Nat) (z0 : iV) (h : iH) (Q : Option iV → iH → Prop), G sp sc [35, 49, 58, 75, 130] (d + 1) mX12_seeds (n + 1) 142 L (z0 :: .inr (.inr (m + 2)) :: r) h Q = (match h.1[m]? with | some (.inl (ci, _)) => (match lkC 12 152 ci with | some (y1, n1, kd) => (n1 = 1 ∧ (kd = 2 ∨ kd = 3 ∨ kd = 8) ∧ cs r ≤ 8) ∧ Call sp sc d y1 [.inr (.inr (m + 2)), z0] h (fun q h1 => GC sp sc [35, 49, 58, 75, 130] (d + 1) mX12_seeds n 145 L q r h h1 Q) | none => False) | _ => False)) ∧
  (∀ (n d : Nat) (L : List (Option iV)) (st : List iV) (h : iH) (Q : Option iV → iH → Prop), G sp sc [35, 49, 58, 75, 130] d mX12_seeds (n + 1) 145 L st h Q = (match ld L 7 with | some (.inl x) => (match st1 L 7 (.inl (x + 1)) with | some L' => G sp sc [35, 49, 58, 75, 130] d mX12_seeds n 148 L' st h Q | none => False) | _ => False)) ∧
  (∀ (n d : Nat) (L : List (Option iV)) (st : List iV) (h : iH) (Q : Option iV → iH → Prop), G sp sc [35, 49, 58, 75, 130] d mX12_seeds (n + 1) 148 L st h Q = Run sp sc d mX12_seeds 130 L st h Q) ∧
  (∀ (n d : Nat) (L : List (Option iV)) (st : List iV) (h : iH) (Q : Option iV → iH → Prop), G sp sc [35, 49, 58, 75, 130] d mX12_seeds (n + 1) 151 L st h Q = (match ld L 4 with | some (.inl x) => G sp sc [35, 49, 58, 75, 130] d mX12_seeds n 153 L (.inl x :: st) h Q | _ => False)) ∧
  (∀ (n d : Nat) (L : List (Option iV)) (st : List iV) (h : iH) (Q : Option iV → iH → Prop), G sp sc [35, 49, 58, 75, 130] d mX12_seeds (n + 1) 153 L st h Q = (match ld L 0 with | some (.inr (.inr (r + 1))) => G sp sc [35, 49, 58, 75, 130] d mX12_seeds n 154 L (.inr (.inr (r + 1)) :: st) h Q | _ => False)) ∧
  (∀ (n d : Nat) (L : List (Option iV)) (r : List iV) (m : Nat) (h : iH) (Q : Option iV → iH → Prop), G sp sc [35, 49, 58, 75, 130] d mX12_seeds (n + 1) 154 L (.inr (.inr (m + 2)) :: r) h Q = (match h.1[m]? with | some (.inl (ci, fs)) => (match lkF 12 13 ci with | some k => (match fs[k]? with | some v => G sp sc [35, 49, 58, 75, 130] d mX12_seeds n 157 L (v :: r) h Q | none => False) | none => False) | _ => False)) ∧
  (∀ (n d : Nat) (L : List (Option iV)) (st : List iV) (h : iH) (Q : Option iV → iH → Prop), G sp sc [35, 49, 58, 75, 130] d mX12_seeds (n + 1) 157 L st h Q = G sp sc [35, 49, 58, 75, 130] d mX12_seeds n 158 L (.inl 1 :: st) h Q) ∧
  (∀ (n d : Nat) (L : List (Option iV)) (r : List iV) (z0 : iV) (z1 : iV) (h : iH) (Q : Option iV → iH → Prop), G sp sc [35, 49, 58, 75, 130] (d + 1) mX12_seeds (n + 1) 158 L (z1 :: z0 :: r) h Q = (cs r ≤ 8 ∧ Call sp sc d mX12_manySuch [z0, z1] h (fun q h1 => GC sp sc [35, 49, 58, 75, 130] (d + 1) mX12_seeds n 161 L q r h h1 Q))) ∧
  (∀ (n d : Nat) (L : List (Option iV)) (a : Int) (b : Int) (r : List iV) (h : iH) (Q : Option iV → iH → Prop), G sp sc [35, 49, 58, 75, 130] d mX12_seeds (n + 1) 161 L (.inl b :: .inl a :: r) h Q = G sp sc [35, 49, 58, 75, 130] d mX12_seeds n 162 L (.inl (a + b) :: r) h Q) ∧
  (∀ (n d : Nat) (L : List (Option iV)) (r : List iV) (x : Int) (h : iH) (Q : Option iV → iH → Prop), G sp sc [35, 49, 58, 75, 130] d mX12_seeds (n + 1) 162 L (.inl x :: r) h Q = (match st1 L 4 (.inl x) with | some L' => G sp sc [35, 49, 58, 75, 130] d mX12_seeds n 164 L' r h Q | none => False)) ∧
  (∀ (n d : Nat) (L : List (Option iV)) (st : List iV) (h : iH) (Q : Option iV → iH → Prop), G sp sc [35, 49, 58, 75, 130] d mX12_seeds (n + 1) 164 L st h Q = (match ld L 5 with | some (.inl x) => G sp sc [35, 49, 58, 75, 130] d mX12_seeds n 166 L (.inl x :: st) h Q | _ => False)) ∧
  (∀ (n d : Nat) (L : List (Option iV)) (st : List iV) (h : iH) (Q : Option iV → iH → Prop), G sp sc [35, 49, 58, 75, 130] d mX12_seeds (n + 1) 166 L st h Q = (match ld L 0 with | some (.inr (.inr (r + 1))) => G sp sc [35, 49, 58, 75, 130] d mX12_seeds n 167 L (.inr (.inr (r + 1)) :: st) h Q | _ => False)) ∧
  (∀ (n d : Nat) (L : List (Option iV)) (r : List iV) (m : Nat) (h : iH) (Q : Option iV → iH → Prop), G sp sc [35, 49, 58, 75, 130] d mX12_seeds (n + 1) 167 L (.inr (.inr (m + 2)) :: r) h Q = (match h.1[m]? with | some (.inl (ci, fs)) => (match lkF 12 79 ci with | some k => (match fs[k]? with | some v => G sp sc [35, 49, 58, 75, 130] d mX12_seeds n 170 L (v :: r) h Q | none => False) | none => False) | _ => False)) ∧
  (∀ (n d : Nat) (L : List (Option iV)) (a : Int) (b : Int) (r : List iV) (h : iH) (Q : Option iV → iH → Prop), G sp sc [35, 49, 58, 75, 130] d mX12_seeds (n + 1) 170 L (.inl b :: .inl a :: r) h Q = G sp sc [35, 49, 58, 75, 130] d mX12_seeds n 171 L (.inl (a + b) :: r) h Q) ∧
  (∀ (n d : Nat) (L : List (Option iV)) (r : List iV) (x : Int) (h : iH) (Q : Option iV → iH → Prop), G sp sc [35, 49, 58, 75, 130] d mX12_seeds (n + 1) 171 L (.inl x :: r) h Q = (match st1 L 5 (.inl x) with | some L' => G sp sc [35, 49, 58, 75, 130] d mX12_seeds n 173 L' r h Q | none => False)) ∧
  (∀ (n d : Nat) (L : List (Option iV)) (st : List iV) (h : iH) (Q : Option iV → iH → Prop), G sp sc [35, 49, 58, 75, 130] d mX12_seeds (n + 1) 173 L st h Q = (match ld L 6 with | some (.inl x) => (match st1 L 6 (.inl (x + 1)) with | some L' => G sp sc [35, 49, 58, 75, 130] d mX12_seeds n 176 L' st h Q | none => False) | _ => False)) ∧
  (∀ (n d : Nat) (L : List (Option iV)) (st : List iV) (h : iH) (Q : Option iV → iH → Prop), G sp sc [35, 49, 58, 75, 130] d mX12_seeds (n + 1) 176 L st h Q = Run sp sc d mX12_seeds 35 L st h Q) ∧
  (∀ (n d : Nat) (L : List (Option iV)) (st : List iV) (h : iH) (Q : Option iV → iH → Prop), G sp sc [35, 49, 58, 75, 130] d mX12_seeds (n + 1) 179 L st h Q = (match ld L 3 with | some (.inl x) => G sp sc [35, 49, 58, 75, 130] d mX12_seeds n 180 L (.inl x :: st) h Q | _ => False)) ∧
  (∀ (n d : Nat) (L : List (Option iV)) (a : Int) (r : List iV) (h : iH) (Q : Option iV → iH → Prop), G sp sc [35, 49, 58, 75, 130] d mX12_seeds (n + 1) 180 L (.inl a :: r) h Q = (inI a = true ∧ (¬ a = 0 → G sp sc [35, 49, 58, 75, 130] d mX12_seeds n 188 L r h Q) ∧ (¬ (¬ a = 0) → G sp sc [35, 49, 58, 75, 130] d mX12_seeds n 183 L r h Q))) ∧
  (∀ (n d : Nat) (L : List (Option iV)) (st : List iV) (h : iH) (Q : Option iV → iH → Prop), G sp sc [35, 49, 58, 75, 130] d mX12_seeds (n + 1) 183 L st h Q = (match ld L 4 with | some (.inl x) => G sp sc [35, 49, 58, 75, 130] d mX12_seeds n 185 L (.inl x :: st) h Q | _ => False)) ∧
  (∀ (n d : Nat) (L : List (Option iV)) (st : List iV) (h : iH) (Q : Option iV → iH → Prop), G sp sc [35, 49, 58, 75, 130] d mX12_seeds (n + 1) 185 L st h Q = G sp sc [35, 49, 58, 75, 130] d mX12_seeds n 190 L st h Q) ∧
  (∀ (n d : Nat) (L : List (Option iV)) (st : List iV) (h : iH) (Q : Option iV → iH → Prop), G sp sc [35, 49, 58, 75, 130] d mX12_seeds (n + 1) 188 L st h Q = (match ld L 5 with | some (.inl x) => G sp sc [35, 49, 58, 75, 130] d mX12_seeds n 190 L (.inl x :: st) h Q | _ => False)) ∧
  (∀ (n d : Nat) (L : List (Option iV)) (a : Int) (h : iH) (Q : Option iV → iH → Prop), G sp sc [35, 49, 58, 75, 130] d mX12_seeds (n + 1) 190 L [.inl a] h Q = Q (some (.inl a)) h) ∧
  lkC 12 152 12 = some (mX12_goes, 1, 2) ∧
  lkC 12 211 12 = some (mX12_inMind, 1, 2) ∧
  lkC 12 285 12 = some (mX12_drawn, 1, 2) ∧
  lkF 12 13 12 = some 1 ∧
  lkF 12 279 12 = some 25 ∧
  lkF 12 79 12 = some 9 ∧
  lkF 12 9 12 = some 0 ∧
  pOK 12 false 12 25 = true := ⟨by intros; exact G_at (by decide +kernel : fetch mX12_seeds 0 = some (.iload_n 1)),
  by intros; exact G_at (by decide +kernel : fetch mX12_seeds 1 = some (.iconst 1)),
  by intros; exact G_at (by decide +kernel : fetch mX12_seeds 2 = some (.bipush 20)),
  by intros; exact G_callS (k := 3) (kd := 0) (by decide +kernel : fetch mX12_seeds 4 = some (.invokestatic 67)) (by decide +kernel) (by decide +kernel) (by decide +kernel) rfl (by decide),
  by intros; exact G_at (by decide +kernel : fetch mX12_seeds 7 = some (.ifCond .eq 12)),
  by intros; exact G_at (by decide +kernel : fetch mX12_seeds 10 = some (.iload_n 3)),
  by intros; exact G_at (by decide +kernel : fetch mX12_seeds 11 = some (.iconst 0)),
  by intros; exact G_at (by decide +kernel : fetch mX12_seeds 12 = some (.iconst 1)),
  by intros; exact G_callS (k := 3) (kd := 0) (by decide +kernel : fetch mX12_seeds 13 = some (.invokestatic 67)) (by decide +kernel) (by decide +kernel) (by decide +kernel) rfl (by decide),
  by intros; exact G_at (by decide +kernel : fetch mX12_seeds 16 = some (.ifCond .ne 5)),
  by intros; exact G_at (by decide +kernel : fetch mX12_seeds 19 = some (.iconst (-1))),
  by intros; exact G_reti (by decide +kernel : fetch mX12_seeds 20 = some (.ireturn)) (by decide +kernel),
  by intros; exact G_at (by decide +kernel : fetch mX12_seeds 21 = some (.aload_n 0)),
  by intros; exact G_at (by decide +kernel : fetch mX12_seeds 22 = some (.iload_n 2)),
  by intros; exact G_ownW (by decide +kernel : fetch mX12_seeds 23 = some (.putfield 279)) (by decide +kernel) (by decide +kernel),
  by intros; exact G_at (by decide +kernel : fetch mX12_seeds 26 = some (.iconst 0)),
  by intros; exact G_at (by decide +kernel : fetch mX12_seeds 27 = some (.istore 4)),
  by intros; exact G_at (by decide +kernel : fetch mX12_seeds 29 = some (.iconst 0)),
  by intros; exact G_at (by decide +kernel : fetch mX12_seeds 30 = some (.istore 5)),
  by intros; exact G_at (by decide +kernel : fetch mX12_seeds 32 = some (.iconst 0)),
  by intros; exact G_at (by decide +kernel : fetch mX12_seeds 33 = some (.istore 6)),
  by intros; exact G_at (by decide +kernel : fetch mX12_seeds 35 = some (.iload 6)),
  by intros; exact G_at (by decide +kernel : fetch mX12_seeds 37 = some (.iload_n 1)),
  by intros; exact G_at (by decide +kernel : fetch mX12_seeds 38 = some (.if_icmp .ge 141)),
  by intros; exact G_at (by decide +kernel : fetch mX12_seeds 41 = some (.aload_n 0)),
  by intros; exact G_at (by decide +kernel : fetch mX12_seeds 42 = some (.iconst 0)),
  by intros; exact G_callV (by decide +kernel : fetch mX12_seeds 43 = some (.invokevirtual 211)) (by decide +kernel) (by decide +kernel) rfl,
  by intros; exact G_at (by decide +kernel : fetch mX12_seeds 46 = some (.iconst 0)),
  by intros; exact G_at (by decide +kernel : fetch mX12_seeds 47 = some (.istore 7)),
  by intros; exact G_at (by decide +kernel : fetch mX12_seeds 49 = some (.iload 7)),
  by intros; exact G_at (by decide +kernel : fetch mX12_seeds 51 = some (.iconst 2)),
  by intros; exact G_at (by decide +kernel : fetch mX12_seeds 52 = some (.if_icmp .ge 75)),
  by intros; exact G_at (by decide +kernel : fetch mX12_seeds 55 = some (.iconst 0)),
  by intros; exact G_at (by decide +kernel : fetch mX12_seeds 56 = some (.istore 8)),
  by intros; exact G_at (by decide +kernel : fetch mX12_seeds 58 = some (.iload 8)),
  by intros; exact G_at (by decide +kernel : fetch mX12_seeds 60 = some (.aload_n 0)),
  by intros; exact G_own (by decide +kernel : fetch mX12_seeds 61 = some (.getfield 9)) (by decide +kernel),
  by intros; exact G_at (by decide +kernel : fetch mX12_seeds 64 = some (.iconst 0)),
  by intros; exact G_at (by decide +kernel : fetch mX12_seeds 65 = some (.iload 7)),
  by intros; exact G_at (by decide +kernel : fetch mX12_seeds 67 = some (.iadd)),
  by intros; exact G_at (by decide +kernel : fetch mX12_seeds 68 = some (.iaload)),
  by intros; exact G_at (by decide +kernel : fetch mX12_seeds 69 = some (.if_icmp .ge 52)),
  by intros; exact G_at (by decide +kernel : fetch mX12_seeds 72 = some (.iconst 0)),
  by intros; exact G_at (by decide +kernel : fetch mX12_seeds 73 = some (.istore 9)),
  by intros; exact G_at (by decide +kernel : fetch mX12_seeds 75 = some (.iload 9)),
  by intros; exact G_at (by decide +kernel : fetch mX12_seeds 77 = some (.aload_n 0)),
  by intros; exact G_own (by decide +kernel : fetch mX12_seeds 78 = some (.getfield 9)) (by decide +kernel),
  by intros; exact G_at (by decide +kernel : fetch mX12_seeds 81 = some (.iconst 1)),
  by intros; exact G_at (by decide +kernel : fetch mX12_seeds 82 = some (.iload 7)),
  by intros; exact G_at (by decide +kernel : fetch mX12_seeds 84 = some (.isub)),
  by intros; exact G_at (by decide +kernel : fetch mX12_seeds 85 = some (.iaload)),
  by intros; exact G_at (by decide +kernel : fetch mX12_seeds 86 = some (.if_icmp .ge 29)),
  by intros; exact G_at (by decide +kernel : fetch mX12_seeds 89 = some (.aload_n 0)),
  by intros; exact G_own (by decide +kernel : fetch mX12_seeds 90 = some (.getfield 13)) (by decide +kernel),
  by intros; exact G_at (by decide +kernel : fetch mX12_seeds 93 = some (.iload 7)),
  by intros; exact G_at (by decide +kernel : fetch mX12_seeds 95 = some (.iload 8)),
  by intros; exact G_at (by decide +kernel : fetch mX12_seeds 97 = some (.iload 9)),
  by intros; exact G_callS (k := 3) (kd := 0) (by decide +kernel : fetch mX12_seeds 99 = some (.invokestatic 109)) (by decide +kernel) (by decide +kernel) (by decide +kernel) rfl (by decide),
  by intros; exact G_at (by decide +kernel : fetch mX12_seeds 102 = some (.aload_n 0)),
  by intros; exact G_at (by decide +kernel : fetch mX12_seeds 103 = some (.bipush 60)),
  by intros; exact G_callV (by decide +kernel : fetch mX12_seeds 105 = some (.invokevirtual 285)) (by decide +kernel) (by decide +kernel) rfl,
  by intros; exact G_at (by decide +kernel : fetch mX12_seeds 108 = some (.iastore)),
  by intros; exact G_at (by decide +kernel : fetch mX12_seeds 109 = some (.iinc 9 1)),
  by intros; exact G_at (by decide +kernel : fetch mX12_seeds 112 = some (.goto (-37))),
  by intros; exact G_at (by decide +kernel : fetch mX12_seeds 115 = some (.iinc 8 1)),
  by intros; exact G_at (by decide +kernel : fetch mX12_seeds 118 = some (.goto (-60))),
  by intros; exact G_at (by decide +kernel : fetch mX12_seeds 121 = some (.iinc 7 1)),
  by intros; exact G_at (by decide +kernel : fetch mX12_seeds 124 = some (.goto (-75))),
  by intros; exact G_at (by decide +kernel : fetch mX12_seeds 127 = some (.iconst 0)),
  by intros; exact G_at (by decide +kernel : fetch mX12_seeds 128 = some (.istore 7)),
  by intros; exact G_at (by decide +kernel : fetch mX12_seeds 130 = some (.iload 7)),
  by intros; exact G_at (by decide +kernel : fetch mX12_seeds 132 = some (.bipush 30)),
  by intros; exact G_at (by decide +kernel : fetch mX12_seeds 134 = some (.if_icmp .ge 17)),
  by intros; exact G_at (by decide +kernel : fetch mX12_seeds 137 = some (.aload_n 0)),
  by intros; exact G_at (by decide +kernel : fetch mX12_seeds 138 = some (.aload_n 0)),
  by intros; exact G_own (by decide +kernel : fetch mX12_seeds 139 = some (.getfield 13)) (by decide +kernel),
  by intros; exact G_callV (by decide +kernel : fetch mX12_seeds 142 = some (.invokevirtual 152)) (by decide +kernel) (by decide +kernel) rfl,
  by intros; exact G_at (by decide +kernel : fetch mX12_seeds 145 = some (.iinc 7 1)),
  by intros; exact G_at (by decide +kernel : fetch mX12_seeds 148 = some (.goto (-18))),
  by intros; exact G_at (by decide +kernel : fetch mX12_seeds 151 = some (.iload 4)),
  by intros; exact G_at (by decide +kernel : fetch mX12_seeds 153 = some (.aload_n 0)),
  by intros; exact G_own (by decide +kernel : fetch mX12_seeds 154 = some (.getfield 13)) (by decide +kernel),
  by intros; exact G_at (by decide +kernel : fetch mX12_seeds 157 = some (.iconst 1)),
  by intros; exact G_callS (k := 2) (kd := 0) (by decide +kernel : fetch mX12_seeds 158 = some (.invokestatic 215)) (by decide +kernel) (by decide +kernel) (by decide +kernel) rfl (by decide),
  by intros; exact G_at (by decide +kernel : fetch mX12_seeds 161 = some (.iadd)),
  by intros; exact G_at (by decide +kernel : fetch mX12_seeds 162 = some (.istore 4)),
  by intros; exact G_at (by decide +kernel : fetch mX12_seeds 164 = some (.iload 5)),
  by intros; exact G_at (by decide +kernel : fetch mX12_seeds 166 = some (.aload_n 0)),
  by intros; exact G_own (by decide +kernel : fetch mX12_seeds 167 = some (.getfield 79)) (by decide +kernel),
  by intros; exact G_at (by decide +kernel : fetch mX12_seeds 170 = some (.iadd)),
  by intros; exact G_at (by decide +kernel : fetch mX12_seeds 171 = some (.istore 5)),
  by intros; exact G_at (by decide +kernel : fetch mX12_seeds 173 = some (.iinc 6 1)),
  by intros; exact G_at (by decide +kernel : fetch mX12_seeds 176 = some (.goto (-141))),
  by intros; exact G_at (by decide +kernel : fetch mX12_seeds 179 = some (.iload_n 3)),
  by intros; exact G_at (by decide +kernel : fetch mX12_seeds 180 = some (.ifCond .ne 8)),
  by intros; exact G_at (by decide +kernel : fetch mX12_seeds 183 = some (.iload 4)),
  by intros; exact G_at (by decide +kernel : fetch mX12_seeds 185 = some (.goto 5)),
  by intros; exact G_at (by decide +kernel : fetch mX12_seeds 188 = some (.iload 5)),
  by intros; exact G_reti (by decide +kernel : fetch mX12_seeds 190 = some (.ireturn)) (by decide +kernel),
  by decide +kernel,
  by decide +kernel,
  by decide +kernel,
  by decide +kernel,
  by decide +kernel,
  by decide +kernel,
  by decide +kernel,
  by decide +kernel⟩
theorem gX12_image : (∀ (n d : Nat) (L : List (Option iV)) (st : List iV) (h : iH) (Q : Option iV → iH → Prop), G sp sc [] d mX12_image (n + 1) 0 L st h Q = (match ld L 0 with | some (.inr (.inr (r + 1))) => G sp sc [] d mX12_image n 1 L (.inr (.inr (r + 1)) :: st) h Q | _ => False)) ∧
  (∀ (n d : Nat) (L : List (Option iV)) (r : List iV) (m : Nat) (h : iH) (Q : Option iV → iH → Prop), G sp sc [] d mX12_image (n + 1) 1 L (.inr (.inr (m + 2)) :: r) h Q = (match h.1[m]? with | some (.inl (ci, fs)) => (match lkF 12 9 ci with | some k => (match fs[k]? with | some v => G sp sc [] d mX12_image n 4 L (v :: r) h Q | none => False) | none => False) | _ => False)) ∧
  (∀ (n d : Nat) (L : List (Option iV)) (st : List iV) (h : iH) (Q : Option iV → iH → Prop), G sp sc [] d mX12_image (n + 1) 4 L st h Q = (match ld L 0 with | some (.inr (.inr (r + 1))) => G sp sc [] d mX12_image n 5 L (.inr (.inr (r + 1)) :: st) h Q | _ => False)) ∧
  (∀ (n d : Nat) (L : List (Option iV)) (r : List iV) (m : Nat) (h : iH) (Q : Option iV → iH → Prop), G sp sc [] d mX12_image (n + 1) 5 L (.inr (.inr (m + 2)) :: r) h Q = (match h.1[m]? with | some (.inl (ci, fs)) => (match lkF 12 16 ci with | some k => (match fs[k]? with | some v => G sp sc [] d mX12_image n 8 L (v :: r) h Q | none => False) | none => False) | _ => False)) ∧
  (∀ (n d : Nat) (L : List (Option iV)) (r : List iV) (z0 : iV) (z1 : iV) (h : iH) (Q : Option iV → iH → Prop), G sp sc [] (d + 1) mX12_image (n + 1) 8 L (z1 :: z0 :: r) h Q = (cs r ≤ 8 ∧ Call sp sc d mX12_lays [z0, z1] h (fun q h1 => GC sp sc [] (d + 1) mX12_image n 11 L q r h h1 Q))) ∧
  (∀ (n d : Nat) (L : List (Option iV)) (st : List iV) (h : iH) (Q : Option iV → iH → Prop), G sp sc [] d mX12_image (n + 1) 11 L st h Q = (match ld L 0 with | some (.inr (.inr (r + 1))) => G sp sc [] d mX12_image n 12 L (.inr (.inr (r + 1)) :: st) h Q | _ => False)) ∧
  (∀ (n d : Nat) (L : List (Option iV)) (st : List iV) (h : iH) (Q : Option iV → iH → Prop), G sp sc [] d mX12_image (n + 1) 12 L st h Q = G sp sc [] d mX12_image n 13 L (.inl 1 :: st) h Q) ∧
  (∀ (n d : Nat) (L : List (Option iV)) (r : List iV) (v : iV) (m : Nat) (h : iH) (Q : Option iV → iH → Prop), G sp sc [] d mX12_image (n + 1) 13 L (v :: .inr (.inr (m + 2)) :: r) h Q = (match h.1[m]? with | some (.inl (ci, fs)) => (match lkF 12 288 ci with | some k => (fitV (tyT ci k) v = true ∧ k < fs.length ∧ pOK 12 false ci k = true) ∧ G sp sc [] d mX12_image n 16 L r (h.1.set m (.inl (ci, fs.set k v)), h.2) Q | none => False) | _ => False)) ∧
  (∀ (n d : Nat) (L : List (Option iV)) (st : List iV) (h : iH) (Q : Option iV → iH → Prop), G sp sc [] d mX12_image (n + 1) 16 L st h Q = (match ld L 0 with | some (.inr (.inr (r + 1))) => G sp sc [] d mX12_image n 17 L (.inr (.inr (r + 1)) :: st) h Q | _ => False)) ∧
  (∀ (n d : Nat) (L : List (Option iV)) (r : List iV) (m : Nat) (h : iH) (Q : Option iV → iH → Prop), G sp sc [] d mX12_image (n + 1) 17 L (.inr (.inr (m + 2)) :: r) h Q = (match h.1[m]? with | some (.inl (ci, fs)) => (match lkF 12 9 ci with | some k => (match fs[k]? with | some v => G sp sc [] d mX12_image n 20 L (v :: r) h Q | none => False) | none => False) | _ => False)) ∧
  (∀ (n d : Nat) (L : List (Option iV)) (st : List iV) (h : iH) (Q : Option iV → iH → Prop), G sp sc [] d mX12_image (n + 1) 20 L st h Q = G sp sc [] d mX12_image n 21 L (.inl 3 :: st) h Q) ∧
  (∀ (n d : Nat) (L : List (Option iV)) (r : List iV) (j : Int) (m : Nat) (h : iH) (Q : Option iV → iH → Prop), G sp sc [] d mX12_image (n + 1) 21 L (.inl j :: .inr (.inr (m + 2)) :: r) h Q = (match h.1[m]? with | some (.inr (.inl (0, xs))) => inA j xs.length = true ∧ G sp sc [] d mX12_image n 22 L (.inl (xs.getD j.toNat 0) :: r) h Q | _ => False)) ∧
  (∀ (n d : Nat) (L : List (Option iV)) (a : Int) (h : iH) (Q : Option iV → iH → Prop), G sp sc [] d mX12_image (n + 1) 22 L [.inl a] h Q = Q (some (.inl a)) h) ∧
  lkF 12 16 12 = some 2 ∧
  lkF 12 288 12 = some 4 ∧
  lkF 12 9 12 = some 0 ∧
  pOK 12 false 12 4 = true := ⟨by intros; exact G_at (by decide +kernel : fetch mX12_image 0 = some (.aload_n 0)),
  by intros; exact G_own (by decide +kernel : fetch mX12_image 1 = some (.getfield 9)) (by decide +kernel),
  by intros; exact G_at (by decide +kernel : fetch mX12_image 4 = some (.aload_n 0)),
  by intros; exact G_own (by decide +kernel : fetch mX12_image 5 = some (.getfield 16)) (by decide +kernel),
  by intros; exact G_callS (k := 2) (kd := 0) (by decide +kernel : fetch mX12_image 8 = some (.invokestatic 145)) (by decide +kernel) (by decide +kernel) (by decide +kernel) rfl (by decide),
  by intros; exact G_at (by decide +kernel : fetch mX12_image 11 = some (.aload_n 0)),
  by intros; exact G_at (by decide +kernel : fetch mX12_image 12 = some (.iconst 1)),
  by intros; exact G_ownW (by decide +kernel : fetch mX12_image 13 = some (.putfield 288)) (by decide +kernel) (by decide +kernel),
  by intros; exact G_at (by decide +kernel : fetch mX12_image 16 = some (.aload_n 0)),
  by intros; exact G_own (by decide +kernel : fetch mX12_image 17 = some (.getfield 9)) (by decide +kernel),
  by intros; exact G_at (by decide +kernel : fetch mX12_image 20 = some (.iconst 3)),
  by intros; exact G_at (by decide +kernel : fetch mX12_image 21 = some (.iaload)),
  by intros; exact G_reti (by decide +kernel : fetch mX12_image 22 = some (.ireturn)) (by decide +kernel),
  by decide +kernel,
  by decide +kernel,
  by decide +kernel,
  by decide +kernel⟩
theorem gX12_restore : (∀ (n d : Nat) (L : List (Option iV)) (st : List iV) (h : iH) (Q : Option iV → iH → Prop), G sp sc [] d mX12_restore (n + 1) 0 L st h Q = (match ld L 0 with | some (.inr (.inr (r + 1))) => G sp sc [] d mX12_restore n 1 L (.inr (.inr (r + 1)) :: st) h Q | _ => False)) ∧
  (∀ (n d : Nat) (L : List (Option iV)) (r : List iV) (m : Nat) (h : iH) (Q : Option iV → iH → Prop), G sp sc [] d mX12_restore (n + 1) 1 L (.inr (.inr (m + 2)) :: r) h Q = (match h.1[m]? with | some (.inl (ci, fs)) => (match lkF 12 288 ci with | some k => (match fs[k]? with | some v => G sp sc [] d mX12_restore n 4 L (v :: r) h Q | none => False) | none => False) | _ => False)) ∧
  (∀ (n d : Nat) (L : List (Option iV)) (a : Int) (r : List iV) (h : iH) (Q : Option iV → iH → Prop), G sp sc [] d mX12_restore (n + 1) 4 L (.inl a :: r) h Q = (inI a = true ∧ (¬ a = 0 → G sp sc [] d mX12_restore n 10 L r h Q) ∧ (¬ (¬ a = 0) → G sp sc [] d mX12_restore n 7 L r h Q))) ∧
  (∀ (n d : Nat) (L : List (Option iV)) (st : List iV) (h : iH) (Q : Option iV → iH → Prop), G sp sc [] d mX12_restore (n + 1) 7 L st h Q = ((-128 ≤ ((-3) : Int) ∧ ((-3) : Int) < 128) ∧ G sp sc [] d mX12_restore n 9 L (.inl (-3) :: st) h Q)) ∧
  (∀ (n d : Nat) (L : List (Option iV)) (a : Int) (h : iH) (Q : Option iV → iH → Prop), G sp sc [] d mX12_restore (n + 1) 9 L [.inl a] h Q = Q (some (.inl a)) h) ∧
  (∀ (n d : Nat) (L : List (Option iV)) (st : List iV) (h : iH) (Q : Option iV → iH → Prop), G sp sc [] d mX12_restore (n + 1) 10 L st h Q = (match ld L 0 with | some (.inr (.inr (r + 1))) => G sp sc [] d mX12_restore n 11 L (.inr (.inr (r + 1)) :: st) h Q | _ => False)) ∧
  (∀ (n d : Nat) (L : List (Option iV)) (r : List iV) (m : Nat) (h : iH) (Q : Option iV → iH → Prop), G sp sc [] d mX12_restore (n + 1) 11 L (.inr (.inr (m + 2)) :: r) h Q = (match h.1[m]? with | some (.inl (ci, fs)) => (match lkF 12 16 ci with | some k => (match fs[k]? with | some v => G sp sc [] d mX12_restore n 14 L (v :: r) h Q | none => False) | none => False) | _ => False)) ∧
  (∀ (n d : Nat) (L : List (Option iV)) (st : List iV) (h : iH) (Q : Option iV → iH → Prop), G sp sc [] d mX12_restore (n + 1) 14 L st h Q = (match ld L 0 with | some (.inr (.inr (r + 1))) => G sp sc [] d mX12_restore n 15 L (.inr (.inr (r + 1)) :: st) h Q | _ => False)) ∧
  (∀ (n d : Nat) (L : List (Option iV)) (r : List iV) (m : Nat) (h : iH) (Q : Option iV → iH → Prop), G sp sc [] d mX12_restore (n + 1) 15 L (.inr (.inr (m + 2)) :: r) h Q = (match h.1[m]? with | some (.inl (ci, fs)) => (match lkF 12 9 ci with | some k => (match fs[k]? with | some v => G sp sc [] d mX12_restore n 18 L (v :: r) h Q | none => False) | none => False) | _ => False)) ∧
  (∀ (n d : Nat) (L : List (Option iV)) (r : List iV) (z0 : iV) (z1 : iV) (h : iH) (Q : Option iV → iH → Prop), G sp sc [] (d + 1) mX12_restore (n + 1) 18 L (z1 :: z0 :: r) h Q = (cs r ≤ 8 ∧ Call sp sc d mX12_lays [z0, z1] h (fun q h1 => GC sp sc [] (d + 1) mX12_restore n 21 L q r h h1 Q))) ∧
  (∀ (n d : Nat) (L : List (Option iV)) (st : List iV) (h : iH) (Q : Option iV → iH → Prop), G sp sc [] d mX12_restore (n + 1) 21 L st h Q = (match ld L 0 with | some (.inr (.inr (r + 1))) => G sp sc [] d mX12_restore n 22 L (.inr (.inr (r + 1)) :: st) h Q | _ => False)) ∧
  (∀ (n d : Nat) (L : List (Option iV)) (r : List iV) (m : Nat) (h : iH) (Q : Option iV → iH → Prop), G sp sc [] d mX12_restore (n + 1) 22 L (.inr (.inr (m + 2)) :: r) h Q = (match h.1[m]? with | some (.inl (ci, fs)) => (match lkF 12 9 ci with | some k => (match fs[k]? with | some v => G sp sc [] d mX12_restore n 25 L (v :: r) h Q | none => False) | none => False) | _ => False)) ∧
  (∀ (n d : Nat) (L : List (Option iV)) (st : List iV) (h : iH) (Q : Option iV → iH → Prop), G sp sc [] d mX12_restore (n + 1) 25 L st h Q = G sp sc [] d mX12_restore n 26 L (.inl 3 :: st) h Q) ∧
  (∀ (n d : Nat) (L : List (Option iV)) (r : List iV) (j : Int) (m : Nat) (h : iH) (Q : Option iV → iH → Prop), G sp sc [] d mX12_restore (n + 1) 26 L (.inl j :: .inr (.inr (m + 2)) :: r) h Q = (match h.1[m]? with | some (.inr (.inl (0, xs))) => inA j xs.length = true ∧ G sp sc [] d mX12_restore n 27 L (.inl (xs.getD j.toNat 0) :: r) h Q | _ => False)) ∧
  (∀ (n d : Nat) (L : List (Option iV)) (a : Int) (h : iH) (Q : Option iV → iH → Prop), G sp sc [] d mX12_restore (n + 1) 27 L [.inl a] h Q = Q (some (.inl a)) h) ∧
  lkF 12 16 12 = some 2 ∧
  lkF 12 288 12 = some 4 ∧
  lkF 12 9 12 = some 0 := ⟨by intros; exact G_at (by decide +kernel : fetch mX12_restore 0 = some (.aload_n 0)),
  by intros; exact G_own (by decide +kernel : fetch mX12_restore 1 = some (.getfield 288)) (by decide +kernel),
  by intros; exact G_at (by decide +kernel : fetch mX12_restore 4 = some (.ifCond .ne 6)),
  by intros; exact G_at (by decide +kernel : fetch mX12_restore 7 = some (.bipush (-3))),
  by intros; exact G_reti (by decide +kernel : fetch mX12_restore 9 = some (.ireturn)) (by decide +kernel),
  by intros; exact G_at (by decide +kernel : fetch mX12_restore 10 = some (.aload_n 0)),
  by intros; exact G_own (by decide +kernel : fetch mX12_restore 11 = some (.getfield 16)) (by decide +kernel),
  by intros; exact G_at (by decide +kernel : fetch mX12_restore 14 = some (.aload_n 0)),
  by intros; exact G_own (by decide +kernel : fetch mX12_restore 15 = some (.getfield 9)) (by decide +kernel),
  by intros; exact G_callS (k := 2) (kd := 0) (by decide +kernel : fetch mX12_restore 18 = some (.invokestatic 145)) (by decide +kernel) (by decide +kernel) (by decide +kernel) rfl (by decide),
  by intros; exact G_at (by decide +kernel : fetch mX12_restore 21 = some (.aload_n 0)),
  by intros; exact G_own (by decide +kernel : fetch mX12_restore 22 = some (.getfield 9)) (by decide +kernel),
  by intros; exact G_at (by decide +kernel : fetch mX12_restore 25 = some (.iconst 3)),
  by intros; exact G_at (by decide +kernel : fetch mX12_restore 26 = some (.iaload)),
  by intros; exact G_reti (by decide +kernel : fetch mX12_restore 27 = some (.ireturn)) (by decide +kernel),
  by decide +kernel,
  by decide +kernel,
  by decide +kernel⟩
theorem gX12_count : (∀ (n d : Nat) (L : List (Option iV)) (st : List iV) (h : iH) (Q : Option iV → iH → Prop), G sp sc [] d mX12_count (n + 1) 0 L st h Q = (match ld L 1 with | some (.inl x) => G sp sc [] d mX12_count n 1 L (.inl x :: st) h Q | _ => False)) ∧
  (∀ (n d : Nat) (L : List (Option iV)) (st : List iV) (h : iH) (Q : Option iV → iH → Prop), G sp sc [] d mX12_count (n + 1) 1 L st h Q = G sp sc [] d mX12_count n 2 L (.inl 0 :: st) h Q) ∧
  (∀ (n d : Nat) (L : List (Option iV)) (st : List iV) (h : iH) (Q : Option iV → iH → Prop), G sp sc [] d mX12_count (n + 1) 2 L st h Q = G sp sc [] d mX12_count n 3 L (.inl 4 :: st) h Q) ∧
  (∀ (n d : Nat) (L : List (Option iV)) (r : List iV) (z0 : iV) (z1 : iV) (z2 : iV) (h : iH) (Q : Option iV → iH → Prop), G sp sc [] (d + 1) mX12_count (n + 1) 3 L (z2 :: z1 :: z0 :: r) h Q = (cs r ≤ 8 ∧ Call sp sc d mX12_isIn [z0, z1, z2] h (fun q h1 => GC sp sc [] (d + 1) mX12_count n 6 L q r h h1 Q))) ∧
  (∀ (n d : Nat) (L : List (Option iV)) (a : Int) (r : List iV) (h : iH) (Q : Option iV → iH → Prop), G sp sc [] d mX12_count (n + 1) 6 L (.inl a :: r) h Q = (inI a = true ∧ (a = 0 → G sp sc [] d mX12_count n 16 L r h Q) ∧ (¬ (a = 0) → G sp sc [] d mX12_count n 9 L r h Q))) ∧
  (∀ (n d : Nat) (L : List (Option iV)) (st : List iV) (h : iH) (Q : Option iV → iH → Prop), G sp sc [] d mX12_count (n + 1) 9 L st h Q = (match ld L 0 with | some (.inr (.inr (r + 1))) => G sp sc [] d mX12_count n 10 L (.inr (.inr (r + 1)) :: st) h Q | _ => False)) ∧
  (∀ (n d : Nat) (L : List (Option iV)) (r : List iV) (m : Nat) (h : iH) (Q : Option iV → iH → Prop), G sp sc [] d mX12_count (n + 1) 10 L (.inr (.inr (m + 2)) :: r) h Q = (match h.1[m]? with | some (.inl (ci, fs)) => (match lkF 12 9 ci with | some k => (match fs[k]? with | some v => G sp sc [] d mX12_count n 13 L (v :: r) h Q | none => False) | none => False) | _ => False)) ∧
  (∀ (n d : Nat) (L : List (Option iV)) (st : List iV) (h : iH) (Q : Option iV → iH → Prop), G sp sc [] d mX12_count (n + 1) 13 L st h Q = (match ld L 1 with | some (.inl x) => G sp sc [] d mX12_count n 14 L (.inl x :: st) h Q | _ => False)) ∧
  (∀ (n d : Nat) (L : List (Option iV)) (r : List iV) (j : Int) (m : Nat) (h : iH) (Q : Option iV → iH → Prop), G sp sc [] d mX12_count (n + 1) 14 L (.inl j :: .inr (.inr (m + 2)) :: r) h Q = (match h.1[m]? with | some (.inr (.inl (0, xs))) => inA j xs.length = true ∧ G sp sc [] d mX12_count n 15 L (.inl (xs.getD j.toNat 0) :: r) h Q | _ => False)) ∧
  (∀ (n d : Nat) (L : List (Option iV)) (a : Int) (h : iH) (Q : Option iV → iH → Prop), G sp sc [] d mX12_count (n + 1) 15 L [.inl a] h Q = Q (some (.inl a)) h) ∧
  (∀ (n d : Nat) (L : List (Option iV)) (st : List iV) (h : iH) (Q : Option iV → iH → Prop), G sp sc [] d mX12_count (n + 1) 16 L st h Q = (match ld L 1 with | some (.inl x) => G sp sc [] d mX12_count n 17 L (.inl x :: st) h Q | _ => False)) ∧
  (∀ (n d : Nat) (L : List (Option iV)) (st : List iV) (h : iH) (Q : Option iV → iH → Prop), G sp sc [] d mX12_count (n + 1) 17 L st h Q = G sp sc [] d mX12_count n 18 L (.inl 5 :: st) h Q) ∧
  (∀ (n d : Nat) (L : List (Option iV)) (st : List iV) (h : iH) (Q : Option iV → iH → Prop), G sp sc [] d mX12_count (n + 1) 18 L st h Q = ((-128 ≤ (7 : Int) ∧ (7 : Int) < 128) ∧ G sp sc [] d mX12_count n 20 L (.inl 7 :: st) h Q)) ∧
  (∀ (n d : Nat) (L : List (Option iV)) (r : List iV) (z0 : iV) (z1 : iV) (z2 : iV) (h : iH) (Q : Option iV → iH → Prop), G sp sc [] (d + 1) mX12_count (n + 1) 20 L (z2 :: z1 :: z0 :: r) h Q = (cs r ≤ 8 ∧ Call sp sc d mX12_isIn [z0, z1, z2] h (fun q h1 => GC sp sc [] (d + 1) mX12_count n 23 L q r h h1 Q))) ∧
  (∀ (n d : Nat) (L : List (Option iV)) (a : Int) (r : List iV) (h : iH) (Q : Option iV → iH → Prop), G sp sc [] d mX12_count (n + 1) 23 L (.inl a :: r) h Q = (inI a = true ∧ (a = 0 → G sp sc [] d mX12_count n 39 L r h Q) ∧ (¬ (a = 0) → G sp sc [] d mX12_count n 26 L r h Q))) ∧
  (∀ (n d : Nat) (L : List (Option iV)) (st : List iV) (h : iH) (Q : Option iV → iH → Prop), G sp sc [] d mX12_count (n + 1) 26 L st h Q = (match ld L 0 with | some (.inr (.inr (r + 1))) => G sp sc [] d mX12_count n 27 L (.inr (.inr (r + 1)) :: st) h Q | _ => False)) ∧
  (∀ (n d : Nat) (L : List (Option iV)) (r : List iV) (m : Nat) (h : iH) (Q : Option iV → iH → Prop), G sp sc [] d mX12_count (n + 1) 27 L (.inr (.inr (m + 2)) :: r) h Q = (match h.1[m]? with | some (.inl (ci, fs)) => (match lkF 12 9 ci with | some k => (match fs[k]? with | some v => G sp sc [] d mX12_count n 30 L (v :: r) h Q | none => False) | none => False) | _ => False)) ∧
  (∀ (n d : Nat) (L : List (Option iV)) (st : List iV) (h : iH) (Q : Option iV → iH → Prop), G sp sc [] d mX12_count (n + 1) 30 L st h Q = (match ld L 1 with | some (.inl x) => G sp sc [] d mX12_count n 31 L (.inl x :: st) h Q | _ => False)) ∧
  (∀ (n d : Nat) (L : List (Option iV)) (st : List iV) (h : iH) (Q : Option iV → iH → Prop), G sp sc [] d mX12_count (n + 1) 31 L st h Q = G sp sc [] d mX12_count n 32 L (.inl 5 :: st) h Q) ∧
  (∀ (n d : Nat) (L : List (Option iV)) (a : Int) (b : Int) (r : List iV) (h : iH) (Q : Option iV → iH → Prop), G sp sc [] d mX12_count (n + 1) 32 L (.inl b :: .inl a :: r) h Q = G sp sc [] d mX12_count n 33 L (.inl (a - b) :: r) h Q) ∧
  (∀ (n d : Nat) (L : List (Option iV)) (r : List iV) (z0 : iV) (z1 : iV) (h : iH) (Q : Option iV → iH → Prop), G sp sc [] (d + 1) mX12_count (n + 1) 33 L (z1 :: z0 :: r) h Q = (cs r ≤ 8 ∧ Call sp sc d mX12_manySuch [z0, z1] h (fun q h1 => GC sp sc [] (d + 1) mX12_count n 36 L q r h h1 Q))) ∧
  (∀ (n d : Nat) (L : List (Option iV)) (st : List iV) (h : iH) (Q : Option iV → iH → Prop), G sp sc [] d mX12_count (n + 1) 36 L st h Q = G sp sc [] d mX12_count n 40 L st h Q) ∧
  (∀ (n d : Nat) (L : List (Option iV)) (st : List iV) (h : iH) (Q : Option iV → iH → Prop), G sp sc [] d mX12_count (n + 1) 39 L st h Q = G sp sc [] d mX12_count n 40 L (.inl (-1) :: st) h Q) ∧
  (∀ (n d : Nat) (L : List (Option iV)) (a : Int) (h : iH) (Q : Option iV → iH → Prop), G sp sc [] d mX12_count (n + 1) 40 L [.inl a] h Q = Q (some (.inl a)) h) ∧
  lkF 12 9 12 = some 0 := ⟨by intros; exact G_at (by decide +kernel : fetch mX12_count 0 = some (.iload_n 1)),
  by intros; exact G_at (by decide +kernel : fetch mX12_count 1 = some (.iconst 0)),
  by intros; exact G_at (by decide +kernel : fetch mX12_count 2 = some (.iconst 4)),
  by intros; exact G_callS (k := 3) (kd := 0) (by decide +kernel : fetch mX12_count 3 = some (.invokestatic 67)) (by decide +kernel) (by decide +kernel) (by decide +kernel) rfl (by decide),
  by intros; exact G_at (by decide +kernel : fetch mX12_count 6 = some (.ifCond .eq 10)),
  by intros; exact G_at (by decide +kernel : fetch mX12_count 9 = some (.aload_n 0)),
  by intros; exact G_own (by decide +kernel : fetch mX12_count 10 = some (.getfield 9)) (by decide +kernel),
  by intros; exact G_at (by decide +kernel : fetch mX12_count 13 = some (.iload_n 1)),
  by intros; exact G_at (by decide +kernel : fetch mX12_count 14 = some (.iaload)),
  by intros; exact G_reti (by decide +kernel : fetch mX12_count 15 = some (.ireturn)) (by decide +kernel),
  by intros; exact G_at (by decide +kernel : fetch mX12_count 16 = some (.iload_n 1)),
  by intros; exact G_at (by decide +kernel : fetch mX12_count 17 = some (.iconst 5)),
  by intros; exact G_at (by decide +kernel : fetch mX12_count 18 = some (.bipush 7)),
  by intros; exact G_callS (k := 3) (kd := 0) (by decide +kernel : fetch mX12_count 20 = some (.invokestatic 67)) (by decide +kernel) (by decide +kernel) (by decide +kernel) rfl (by decide),
  by intros; exact G_at (by decide +kernel : fetch mX12_count 23 = some (.ifCond .eq 16)),
  by intros; exact G_at (by decide +kernel : fetch mX12_count 26 = some (.aload_n 0)),
  by intros; exact G_own (by decide +kernel : fetch mX12_count 27 = some (.getfield 9)) (by decide +kernel),
  by intros; exact G_at (by decide +kernel : fetch mX12_count 30 = some (.iload_n 1)),
  by intros; exact G_at (by decide +kernel : fetch mX12_count 31 = some (.iconst 5)),
  by intros; exact G_at (by decide +kernel : fetch mX12_count 32 = some (.isub)),
  by intros; exact G_callS (k := 2) (kd := 0) (by decide +kernel : fetch mX12_count 33 = some (.invokestatic 215)) (by decide +kernel) (by decide +kernel) (by decide +kernel) rfl (by decide),
  by intros; exact G_at (by decide +kernel : fetch mX12_count 36 = some (.goto 4)),
  by intros; exact G_at (by decide +kernel : fetch mX12_count 39 = some (.iconst (-1))),
  by intros; exact G_reti (by decide +kernel : fetch mX12_count 40 = some (.ireturn)) (by decide +kernel),
  by decide +kernel⟩
theorem gX12_thrown : (∀ (n d : Nat) (L : List (Option iV)) (st : List iV) (h : iH) (Q : Option iV → iH → Prop), G sp sc [] d mX12_thrown (n + 1) 0 L st h Q = (match ld L 0 with | some (.inr (.inr (r + 1))) => G sp sc [] d mX12_thrown n 1 L (.inr (.inr (r + 1)) :: st) h Q | _ => False)) ∧
  (∀ (n d : Nat) (L : List (Option iV)) (r : List iV) (m : Nat) (h : iH) (Q : Option iV → iH → Prop), G sp sc [] d mX12_thrown (n + 1) 1 L (.inr (.inr (m + 2)) :: r) h Q = (match h.1[m]? with | some (.inl (ci, fs)) => (match lkF 12 292 ci with | some k => (match fs[k]? with | some v => G sp sc [] d mX12_thrown n 4 L (v :: r) h Q | none => False) | none => False) | _ => False)) ∧
  (∀ (n d : Nat) (L : List (Option iV)) (a : Int) (h : iH) (Q : Option iV → iH → Prop), G sp sc [] d mX12_thrown (n + 1) 4 L [.inl a] h Q = Q (some (.inl a)) h) ∧
  lkF 12 292 12 = some 32 := ⟨by intros; exact G_at (by decide +kernel : fetch mX12_thrown 0 = some (.aload_n 0)),
  by intros; exact G_own (by decide +kernel : fetch mX12_thrown 1 = some (.getfield 292)) (by decide +kernel),
  by intros; exact G_reti (by decide +kernel : fetch mX12_thrown 4 = some (.ireturn)) (by decide +kernel),
  by decide +kernel⟩
theorem gX12_isShelf : (∀ (n d : Nat) (L : List (Option iV)) (st : List iV) (h : iH) (Q : Option iV → iH → Prop), G sp sc [] d mX12_isShelf (n + 1) 0 L st h Q = (match ld L 0 with | some (.inl x) => G sp sc [] d mX12_isShelf n 1 L (.inl x :: st) h Q | _ => False)) ∧
  (∀ (n d : Nat) (L : List (Option iV)) (st : List iV) (h : iH) (Q : Option iV → iH → Prop), G sp sc [] d mX12_isShelf (n + 1) 1 L st h Q = G sp sc [] d mX12_isShelf n 2 L (.inl 0 :: st) h Q) ∧
  (∀ (n d : Nat) (L : List (Option iV)) (st : List iV) (h : iH) (Q : Option iV → iH → Prop), G sp sc [] d mX12_isShelf (n + 1) 2 L st h Q = ((-128 ≤ (7 : Int) ∧ (7 : Int) < 128) ∧ G sp sc [] d mX12_isShelf n 4 L (.inl 7 :: st) h Q)) ∧
  (∀ (n d : Nat) (L : List (Option iV)) (r : List iV) (z0 : iV) (z1 : iV) (z2 : iV) (h : iH) (Q : Option iV → iH → Prop), G sp sc [] (d + 1) mX12_isShelf (n + 1) 4 L (z2 :: z1 :: z0 :: r) h Q = (cs r ≤ 8 ∧ Call sp sc d mX12_isIn [z0, z1, z2] h (fun q h1 => GC sp sc [] (d + 1) mX12_isShelf n 7 L q r h h1 Q))) ∧
  (∀ (n d : Nat) (L : List (Option iV)) (a : Int) (h : iH) (Q : Option iV → iH → Prop), G sp sc [] d mX12_isShelf (n + 1) 7 L [.inl a] h Q = ((a = 0 ∨ a = 1) ∧ Q (some (.inl a)) h)) := ⟨by intros; exact G_at (by decide +kernel : fetch mX12_isShelf 0 = some (.iload_n 0)),
  by intros; exact G_at (by decide +kernel : fetch mX12_isShelf 1 = some (.iconst 0)),
  by intros; exact G_at (by decide +kernel : fetch mX12_isShelf 2 = some (.bipush 7)),
  by intros; exact G_callS (k := 3) (kd := 0) (by decide +kernel : fetch mX12_isShelf 4 = some (.invokestatic 67)) (by decide +kernel) (by decide +kernel) (by decide +kernel) rfl (by decide),
  by intros; exact G_retz (by decide +kernel : fetch mX12_isShelf 7 = some (.ireturn)) (by decide +kernel)⟩
theorem gX12_wrongRow : (∀ (n d : Nat) (L : List (Option iV)) (st : List iV) (h : iH) (Q : Option iV → iH → Prop), G sp sc [] d mX12_wrongRow (n + 1) 0 L st h Q = (match ld L 1 with | some (.inl x) => G sp sc [] d mX12_wrongRow n 1 L (.inl x :: st) h Q | _ => False)) ∧
  (∀ (n d : Nat) (L : List (Option iV)) (r : List iV) (z0 : iV) (h : iH) (Q : Option iV → iH → Prop), G sp sc [] (d + 1) mX12_wrongRow (n + 1) 1 L (z0 :: r) h Q = (cs r ≤ 8 ∧ Call sp sc d mX12_isShelf [z0] h (fun q h1 => GC sp sc [] (d + 1) mX12_wrongRow n 4 L q r h h1 Q))) ∧
  (∀ (n d : Nat) (L : List (Option iV)) (a : Int) (r : List iV) (h : iH) (Q : Option iV → iH → Prop), G sp sc [] d mX12_wrongRow (n + 1) 4 L (.inl a :: r) h Q = (inI a = true ∧ (¬ a = 0 → G sp sc [] d mX12_wrongRow n 11 L r h Q) ∧ (¬ (¬ a = 0) → G sp sc [] d mX12_wrongRow n 7 L r h Q))) ∧
  (∀ (n d : Nat) (L : List (Option iV)) (st : List iV) (h : iH) (Q : Option iV → iH → Prop), G sp sc [] d mX12_wrongRow (n + 1) 7 L st h Q = G sp sc [] d mX12_wrongRow n 8 L (.inl (-1) :: st) h Q) ∧
  (∀ (n d : Nat) (L : List (Option iV)) (st : List iV) (h : iH) (Q : Option iV → iH → Prop), G sp sc [] d mX12_wrongRow (n + 1) 8 L st h Q = G sp sc [] d mX12_wrongRow n 55 L st h Q) ∧
  (∀ (n d : Nat) (L : List (Option iV)) (st : List iV) (h : iH) (Q : Option iV → iH → Prop), G sp sc [] d mX12_wrongRow (n + 1) 11 L st h Q = (match ld L 0 with | some (.inr (.inr (r + 1))) => G sp sc [] d mX12_wrongRow n 12 L (.inr (.inr (r + 1)) :: st) h Q | _ => False)) ∧
  (∀ (n d : Nat) (L : List (Option iV)) (r : List iV) (m : Nat) (h : iH) (Q : Option iV → iH → Prop), G sp sc [] d mX12_wrongRow (n + 1) 12 L (.inr (.inr (m + 2)) :: r) h Q = (match h.1[m]? with | some (.inl (ci, fs)) => (match lkF 12 49 ci with | some k => (match fs[k]? with | some v => G sp sc [] d mX12_wrongRow n 15 L (v :: r) h Q | none => False) | none => False) | _ => False)) ∧
  (∀ (n d : Nat) (L : List (Option iV)) (st : List iV) (h : iH) (Q : Option iV → iH → Prop), G sp sc [] d mX12_wrongRow (n + 1) 15 L st h Q = (match ld L 1 with | some (.inl x) => G sp sc [] d mX12_wrongRow n 16 L (.inl x :: st) h Q | _ => False)) ∧
  (∀ (n d : Nat) (L : List (Option iV)) (r : List iV) (j : Int) (m : Nat) (h : iH) (Q : Option iV → iH → Prop), G sp sc [] d mX12_wrongRow (n + 1) 16 L (.inl j :: .inr (.inr (m + 2)) :: r) h Q = (match h.1[m]? with | some (.inr (.inl (0, xs))) => inA j xs.length = true ∧ G sp sc [] d mX12_wrongRow n 17 L (.inl (xs.getD j.toNat 0) :: r) h Q | _ => False)) ∧
  (∀ (n d : Nat) (L : List (Option iV)) (a : Int) (r : List iV) (h : iH) (Q : Option iV → iH → Prop), G sp sc [] d mX12_wrongRow (n + 1) 17 L (.inl a :: r) h Q = (inI a = true ∧ (¬ a = 0 → G sp sc [] d mX12_wrongRow n 25 L r h Q) ∧ (¬ (¬ a = 0) → G sp sc [] d mX12_wrongRow n 20 L r h Q))) ∧
  (∀ (n d : Nat) (L : List (Option iV)) (st : List iV) (h : iH) (Q : Option iV → iH → Prop), G sp sc [] d mX12_wrongRow (n + 1) 20 L st h Q = ((-128 ≤ ((-11) : Int) ∧ ((-11) : Int) < 128) ∧ G sp sc [] d mX12_wrongRow n 22 L (.inl (-11) :: st) h Q)) ∧
  (∀ (n d : Nat) (L : List (Option iV)) (st : List iV) (h : iH) (Q : Option iV → iH → Prop), G sp sc [] d mX12_wrongRow (n + 1) 22 L st h Q = G sp sc [] d mX12_wrongRow n 55 L st h Q) ∧
  (∀ (n d : Nat) (L : List (Option iV)) (st : List iV) (h : iH) (Q : Option iV → iH → Prop), G sp sc [] d mX12_wrongRow (n + 1) 25 L st h Q = (match ld L 0 with | some (.inr (.inr (r + 1))) => G sp sc [] d mX12_wrongRow n 26 L (.inr (.inr (r + 1)) :: st) h Q | _ => False)) ∧
  (∀ (n d : Nat) (L : List (Option iV)) (r : List iV) (m : Nat) (h : iH) (Q : Option iV → iH → Prop), G sp sc [] d mX12_wrongRow (n + 1) 26 L (.inr (.inr (m + 2)) :: r) h Q = (match h.1[m]? with | some (.inl (ci, fs)) => (match lkF 12 49 ci with | some k => (match fs[k]? with | some v => G sp sc [] d mX12_wrongRow n 29 L (v :: r) h Q | none => False) | none => False) | _ => False)) ∧
  (∀ (n d : Nat) (L : List (Option iV)) (st : List iV) (h : iH) (Q : Option iV → iH → Prop), G sp sc [] d mX12_wrongRow (n + 1) 29 L st h Q = (match ld L 1 with | some (.inl x) => G sp sc [] d mX12_wrongRow n 30 L (.inl x :: st) h Q | _ => False)) ∧
  (∀ (n d : Nat) (L : List (Option iV)) (r : List iV) (j : Int) (m : Nat) (h : iH) (Q : Option iV → iH → Prop), G sp sc [] d mX12_wrongRow (n + 1) 30 L (.inl j :: .inr (.inr (m + 2)) :: r) h Q = (match h.1[m]? with | some (.inr (.inl (0, xs))) => inA j xs.length = true ∧ G sp sc [] d mX12_wrongRow n 31 L (.inl (xs.getD j.toNat 0) :: r) h Q | _ => False)) ∧
  (∀ (n d : Nat) (L : List (Option iV)) (st : List iV) (h : iH) (Q : Option iV → iH → Prop), G sp sc [] d mX12_wrongRow (n + 1) 31 L st h Q = G sp sc [] d mX12_wrongRow n 32 L (.inl 2 :: st) h Q) ∧
  (∀ (n d : Nat) (L : List (Option iV)) (a : Int) (b : Int) (r : List iV) (h : iH) (Q : Option iV → iH → Prop), G sp sc [] d mX12_wrongRow (n + 1) 32 L (.inl b :: .inl a :: r) h Q = ((inI a = true ∧ inI b = true) ∧ (¬ a = b → G sp sc [] d mX12_wrongRow n 49 L r h Q) ∧ (¬ (¬ a = b) → G sp sc [] d mX12_wrongRow n 35 L r h Q))) ∧
  (∀ (n d : Nat) (L : List (Option iV)) (st : List iV) (h : iH) (Q : Option iV → iH → Prop), G sp sc [] d mX12_wrongRow (n + 1) 35 L st h Q = (match ld L 2 with | some (.inl x) => G sp sc [] d mX12_wrongRow n 36 L (.inl x :: st) h Q | _ => False)) ∧
  (∀ (n d : Nat) (L : List (Option iV)) (a : Int) (r : List iV) (h : iH) (Q : Option iV → iH → Prop), G sp sc [] d mX12_wrongRow (n + 1) 36 L (.inl a :: r) h Q = (inI a = true ∧ (a < 0 → G sp sc [] d mX12_wrongRow n 54 L r h Q) ∧ (¬ (a < 0) → G sp sc [] d mX12_wrongRow n 39 L r h Q))) ∧
  (∀ (n d : Nat) (L : List (Option iV)) (st : List iV) (h : iH) (Q : Option iV → iH → Prop), G sp sc [] d mX12_wrongRow (n + 1) 39 L st h Q = (match ld L 0 with | some (.inr (.inr (r + 1))) => G sp sc [] d mX12_wrongRow n 40 L (.inr (.inr (r + 1)) :: st) h Q | _ => False)) ∧
  (∀ (n d : Nat) (L : List (Option iV)) (r : List iV) (m : Nat) (h : iH) (Q : Option iV → iH → Prop), G sp sc [] d mX12_wrongRow (n + 1) 40 L (.inr (.inr (m + 2)) :: r) h Q = (match h.1[m]? with | some (.inl (ci, fs)) => (match lkF 12 58 ci with | some k => (match fs[k]? with | some v => G sp sc [] d mX12_wrongRow n 43 L (v :: r) h Q | none => False) | none => False) | _ => False)) ∧
  (∀ (n d : Nat) (L : List (Option iV)) (st : List iV) (h : iH) (Q : Option iV → iH → Prop), G sp sc [] d mX12_wrongRow (n + 1) 43 L st h Q = (match ld L 1 with | some (.inl x) => G sp sc [] d mX12_wrongRow n 44 L (.inl x :: st) h Q | _ => False)) ∧
  (∀ (n d : Nat) (L : List (Option iV)) (r : List iV) (j : Int) (m : Nat) (h : iH) (Q : Option iV → iH → Prop), G sp sc [] d mX12_wrongRow (n + 1) 44 L (.inl j :: .inr (.inr (m + 2)) :: r) h Q = (match h.1[m]? with | some (.inr (.inl (0, xs))) => inA j xs.length = true ∧ G sp sc [] d mX12_wrongRow n 45 L (.inl (xs.getD j.toNat 0) :: r) h Q | _ => False)) ∧
  (∀ (n d : Nat) (L : List (Option iV)) (st : List iV) (h : iH) (Q : Option iV → iH → Prop), G sp sc [] d mX12_wrongRow (n + 1) 45 L st h Q = (match ld L 2 with | some (.inl x) => G sp sc [] d mX12_wrongRow n 46 L (.inl x :: st) h Q | _ => False)) ∧
  (∀ (n d : Nat) (L : List (Option iV)) (a : Int) (b : Int) (r : List iV) (h : iH) (Q : Option iV → iH → Prop), G sp sc [] d mX12_wrongRow (n + 1) 46 L (.inl b :: .inl a :: r) h Q = ((inI a = true ∧ inI b = true) ∧ (a = b → G sp sc [] d mX12_wrongRow n 54 L r h Q) ∧ (¬ (a = b) → G sp sc [] d mX12_wrongRow n 49 L r h Q))) ∧
  (∀ (n d : Nat) (L : List (Option iV)) (st : List iV) (h : iH) (Q : Option iV → iH → Prop), G sp sc [] d mX12_wrongRow (n + 1) 49 L st h Q = ((-128 ≤ ((-12) : Int) ∧ ((-12) : Int) < 128) ∧ G sp sc [] d mX12_wrongRow n 51 L (.inl (-12) :: st) h Q)) ∧
  (∀ (n d : Nat) (L : List (Option iV)) (st : List iV) (h : iH) (Q : Option iV → iH → Prop), G sp sc [] d mX12_wrongRow (n + 1) 51 L st h Q = G sp sc [] d mX12_wrongRow n 55 L st h Q) ∧
  (∀ (n d : Nat) (L : List (Option iV)) (st : List iV) (h : iH) (Q : Option iV → iH → Prop), G sp sc [] d mX12_wrongRow (n + 1) 54 L st h Q = G sp sc [] d mX12_wrongRow n 55 L (.inl 0 :: st) h Q) ∧
  (∀ (n d : Nat) (L : List (Option iV)) (a : Int) (h : iH) (Q : Option iV → iH → Prop), G sp sc [] d mX12_wrongRow (n + 1) 55 L [.inl a] h Q = Q (some (.inl a)) h) ∧
  lkF 12 49 12 = some 26 ∧
  lkF 12 58 12 = some 29 := ⟨by intros; exact G_at (by decide +kernel : fetch mX12_wrongRow 0 = some (.iload_n 1)),
  by intros; exact G_callS (k := 1) (kd := 0) (by decide +kernel : fetch mX12_wrongRow 1 = some (.invokestatic 202)) (by decide +kernel) (by decide +kernel) (by decide +kernel) rfl (by decide),
  by intros; exact G_at (by decide +kernel : fetch mX12_wrongRow 4 = some (.ifCond .ne 7)),
  by intros; exact G_at (by decide +kernel : fetch mX12_wrongRow 7 = some (.iconst (-1))),
  by intros; exact G_at (by decide +kernel : fetch mX12_wrongRow 8 = some (.goto 47)),
  by intros; exact G_at (by decide +kernel : fetch mX12_wrongRow 11 = some (.aload_n 0)),
  by intros; exact G_own (by decide +kernel : fetch mX12_wrongRow 12 = some (.getfield 49)) (by decide +kernel),
  by intros; exact G_at (by decide +kernel : fetch mX12_wrongRow 15 = some (.iload_n 1)),
  by intros; exact G_at (by decide +kernel : fetch mX12_wrongRow 16 = some (.iaload)),
  by intros; exact G_at (by decide +kernel : fetch mX12_wrongRow 17 = some (.ifCond .ne 8)),
  by intros; exact G_at (by decide +kernel : fetch mX12_wrongRow 20 = some (.bipush (-11))),
  by intros; exact G_at (by decide +kernel : fetch mX12_wrongRow 22 = some (.goto 33)),
  by intros; exact G_at (by decide +kernel : fetch mX12_wrongRow 25 = some (.aload_n 0)),
  by intros; exact G_own (by decide +kernel : fetch mX12_wrongRow 26 = some (.getfield 49)) (by decide +kernel),
  by intros; exact G_at (by decide +kernel : fetch mX12_wrongRow 29 = some (.iload_n 1)),
  by intros; exact G_at (by decide +kernel : fetch mX12_wrongRow 30 = some (.iaload)),
  by intros; exact G_at (by decide +kernel : fetch mX12_wrongRow 31 = some (.iconst 2)),
  by intros; exact G_at (by decide +kernel : fetch mX12_wrongRow 32 = some (.if_icmp .ne 17)),
  by intros; exact G_at (by decide +kernel : fetch mX12_wrongRow 35 = some (.iload_n 2)),
  by intros; exact G_at (by decide +kernel : fetch mX12_wrongRow 36 = some (.ifCond .lt 18)),
  by intros; exact G_at (by decide +kernel : fetch mX12_wrongRow 39 = some (.aload_n 0)),
  by intros; exact G_own (by decide +kernel : fetch mX12_wrongRow 40 = some (.getfield 58)) (by decide +kernel),
  by intros; exact G_at (by decide +kernel : fetch mX12_wrongRow 43 = some (.iload_n 1)),
  by intros; exact G_at (by decide +kernel : fetch mX12_wrongRow 44 = some (.iaload)),
  by intros; exact G_at (by decide +kernel : fetch mX12_wrongRow 45 = some (.iload_n 2)),
  by intros; exact G_at (by decide +kernel : fetch mX12_wrongRow 46 = some (.if_icmp .eq 8)),
  by intros; exact G_at (by decide +kernel : fetch mX12_wrongRow 49 = some (.bipush (-12))),
  by intros; exact G_at (by decide +kernel : fetch mX12_wrongRow 51 = some (.goto 4)),
  by intros; exact G_at (by decide +kernel : fetch mX12_wrongRow 54 = some (.iconst 0)),
  by intros; exact G_reti (by decide +kernel : fetch mX12_wrongRow 55 = some (.ireturn)) (by decide +kernel),
  by decide +kernel,
  by decide +kernel⟩
theorem gX12_wrongKept : (∀ (n d : Nat) (L : List (Option iV)) (st : List iV) (h : iH) (Q : Option iV → iH → Prop), G sp sc [] d mX12_wrongKept (n + 1) 0 L st h Q = (match ld L 1 with | some (.inl x) => G sp sc [] d mX12_wrongKept n 1 L (.inl x :: st) h Q | _ => False)) ∧
  (∀ (n d : Nat) (L : List (Option iV)) (r : List iV) (z0 : iV) (h : iH) (Q : Option iV → iH → Prop), G sp sc [] (d + 1) mX12_wrongKept (n + 1) 1 L (z0 :: r) h Q = (cs r ≤ 8 ∧ Call sp sc d mX12_isShelf [z0] h (fun q h1 => GC sp sc [] (d + 1) mX12_wrongKept n 4 L q r h h1 Q))) ∧
  (∀ (n d : Nat) (L : List (Option iV)) (a : Int) (r : List iV) (h : iH) (Q : Option iV → iH → Prop), G sp sc [] d mX12_wrongKept (n + 1) 4 L (.inl a :: r) h Q = (inI a = true ∧ (¬ a = 0 → G sp sc [] d mX12_wrongKept n 11 L r h Q) ∧ (¬ (¬ a = 0) → G sp sc [] d mX12_wrongKept n 7 L r h Q))) ∧
  (∀ (n d : Nat) (L : List (Option iV)) (st : List iV) (h : iH) (Q : Option iV → iH → Prop), G sp sc [] d mX12_wrongKept (n + 1) 7 L st h Q = G sp sc [] d mX12_wrongKept n 8 L (.inl (-1) :: st) h Q) ∧
  (∀ (n d : Nat) (L : List (Option iV)) (st : List iV) (h : iH) (Q : Option iV → iH → Prop), G sp sc [] d mX12_wrongKept (n + 1) 8 L st h Q = G sp sc [] d mX12_wrongKept n 41 L st h Q) ∧
  (∀ (n d : Nat) (L : List (Option iV)) (st : List iV) (h : iH) (Q : Option iV → iH → Prop), G sp sc [] d mX12_wrongKept (n + 1) 11 L st h Q = (match ld L 0 with | some (.inr (.inr (r + 1))) => G sp sc [] d mX12_wrongKept n 12 L (.inr (.inr (r + 1)) :: st) h Q | _ => False)) ∧
  (∀ (n d : Nat) (L : List (Option iV)) (r : List iV) (m : Nat) (h : iH) (Q : Option iV → iH → Prop), G sp sc [] d mX12_wrongKept (n + 1) 12 L (.inr (.inr (m + 2)) :: r) h Q = (match h.1[m]? with | some (.inl (ci, fs)) => (match lkF 12 49 ci with | some k => (match fs[k]? with | some v => G sp sc [] d mX12_wrongKept n 15 L (v :: r) h Q | none => False) | none => False) | _ => False)) ∧
  (∀ (n d : Nat) (L : List (Option iV)) (st : List iV) (h : iH) (Q : Option iV → iH → Prop), G sp sc [] d mX12_wrongKept (n + 1) 15 L st h Q = (match ld L 1 with | some (.inl x) => G sp sc [] d mX12_wrongKept n 16 L (.inl x :: st) h Q | _ => False)) ∧
  (∀ (n d : Nat) (L : List (Option iV)) (r : List iV) (j : Int) (m : Nat) (h : iH) (Q : Option iV → iH → Prop), G sp sc [] d mX12_wrongKept (n + 1) 16 L (.inl j :: .inr (.inr (m + 2)) :: r) h Q = (match h.1[m]? with | some (.inr (.inl (0, xs))) => inA j xs.length = true ∧ G sp sc [] d mX12_wrongKept n 17 L (.inl (xs.getD j.toNat 0) :: r) h Q | _ => False)) ∧
  (∀ (n d : Nat) (L : List (Option iV)) (a : Int) (r : List iV) (h : iH) (Q : Option iV → iH → Prop), G sp sc [] d mX12_wrongKept (n + 1) 17 L (.inl a :: r) h Q = (inI a = true ∧ (¬ a = 0 → G sp sc [] d mX12_wrongKept n 25 L r h Q) ∧ (¬ (¬ a = 0) → G sp sc [] d mX12_wrongKept n 20 L r h Q))) ∧
  (∀ (n d : Nat) (L : List (Option iV)) (st : List iV) (h : iH) (Q : Option iV → iH → Prop), G sp sc [] d mX12_wrongKept (n + 1) 20 L st h Q = ((-128 ≤ ((-11) : Int) ∧ ((-11) : Int) < 128) ∧ G sp sc [] d mX12_wrongKept n 22 L (.inl (-11) :: st) h Q)) ∧
  (∀ (n d : Nat) (L : List (Option iV)) (st : List iV) (h : iH) (Q : Option iV → iH → Prop), G sp sc [] d mX12_wrongKept (n + 1) 22 L st h Q = G sp sc [] d mX12_wrongKept n 41 L st h Q) ∧
  (∀ (n d : Nat) (L : List (Option iV)) (st : List iV) (h : iH) (Q : Option iV → iH → Prop), G sp sc [] d mX12_wrongKept (n + 1) 25 L st h Q = (match ld L 0 with | some (.inr (.inr (r + 1))) => G sp sc [] d mX12_wrongKept n 26 L (.inr (.inr (r + 1)) :: st) h Q | _ => False)) ∧
  (∀ (n d : Nat) (L : List (Option iV)) (r : List iV) (m : Nat) (h : iH) (Q : Option iV → iH → Prop), G sp sc [] d mX12_wrongKept (n + 1) 26 L (.inr (.inr (m + 2)) :: r) h Q = (match h.1[m]? with | some (.inl (ci, fs)) => (match lkF 12 49 ci with | some k => (match fs[k]? with | some v => G sp sc [] d mX12_wrongKept n 29 L (v :: r) h Q | none => False) | none => False) | _ => False)) ∧
  (∀ (n d : Nat) (L : List (Option iV)) (st : List iV) (h : iH) (Q : Option iV → iH → Prop), G sp sc [] d mX12_wrongKept (n + 1) 29 L st h Q = (match ld L 1 with | some (.inl x) => G sp sc [] d mX12_wrongKept n 30 L (.inl x :: st) h Q | _ => False)) ∧
  (∀ (n d : Nat) (L : List (Option iV)) (r : List iV) (j : Int) (m : Nat) (h : iH) (Q : Option iV → iH → Prop), G sp sc [] d mX12_wrongKept (n + 1) 30 L (.inl j :: .inr (.inr (m + 2)) :: r) h Q = (match h.1[m]? with | some (.inr (.inl (0, xs))) => inA j xs.length = true ∧ G sp sc [] d mX12_wrongKept n 31 L (.inl (xs.getD j.toNat 0) :: r) h Q | _ => False)) ∧
  (∀ (n d : Nat) (L : List (Option iV)) (st : List iV) (h : iH) (Q : Option iV → iH → Prop), G sp sc [] d mX12_wrongKept (n + 1) 31 L st h Q = G sp sc [] d mX12_wrongKept n 32 L (.inl 2 :: st) h Q) ∧
  (∀ (n d : Nat) (L : List (Option iV)) (a : Int) (b : Int) (r : List iV) (h : iH) (Q : Option iV → iH → Prop), G sp sc [] d mX12_wrongKept (n + 1) 32 L (.inl b :: .inl a :: r) h Q = ((inI a = true ∧ inI b = true) ∧ (¬ a = b → G sp sc [] d mX12_wrongKept n 40 L r h Q) ∧ (¬ (¬ a = b) → G sp sc [] d mX12_wrongKept n 35 L r h Q))) ∧
  (∀ (n d : Nat) (L : List (Option iV)) (st : List iV) (h : iH) (Q : Option iV → iH → Prop), G sp sc [] d mX12_wrongKept (n + 1) 35 L st h Q = ((-128 ≤ ((-12) : Int) ∧ ((-12) : Int) < 128) ∧ G sp sc [] d mX12_wrongKept n 37 L (.inl (-12) :: st) h Q)) ∧
  (∀ (n d : Nat) (L : List (Option iV)) (st : List iV) (h : iH) (Q : Option iV → iH → Prop), G sp sc [] d mX12_wrongKept (n + 1) 37 L st h Q = G sp sc [] d mX12_wrongKept n 41 L st h Q) ∧
  (∀ (n d : Nat) (L : List (Option iV)) (st : List iV) (h : iH) (Q : Option iV → iH → Prop), G sp sc [] d mX12_wrongKept (n + 1) 40 L st h Q = G sp sc [] d mX12_wrongKept n 41 L (.inl 0 :: st) h Q) ∧
  (∀ (n d : Nat) (L : List (Option iV)) (a : Int) (h : iH) (Q : Option iV → iH → Prop), G sp sc [] d mX12_wrongKept (n + 1) 41 L [.inl a] h Q = Q (some (.inl a)) h) ∧
  lkF 12 49 12 = some 26 := ⟨by intros; exact G_at (by decide +kernel : fetch mX12_wrongKept 0 = some (.iload_n 1)),
  by intros; exact G_callS (k := 1) (kd := 0) (by decide +kernel : fetch mX12_wrongKept 1 = some (.invokestatic 202)) (by decide +kernel) (by decide +kernel) (by decide +kernel) rfl (by decide),
  by intros; exact G_at (by decide +kernel : fetch mX12_wrongKept 4 = some (.ifCond .ne 7)),
  by intros; exact G_at (by decide +kernel : fetch mX12_wrongKept 7 = some (.iconst (-1))),
  by intros; exact G_at (by decide +kernel : fetch mX12_wrongKept 8 = some (.goto 33)),
  by intros; exact G_at (by decide +kernel : fetch mX12_wrongKept 11 = some (.aload_n 0)),
  by intros; exact G_own (by decide +kernel : fetch mX12_wrongKept 12 = some (.getfield 49)) (by decide +kernel),
  by intros; exact G_at (by decide +kernel : fetch mX12_wrongKept 15 = some (.iload_n 1)),
  by intros; exact G_at (by decide +kernel : fetch mX12_wrongKept 16 = some (.iaload)),
  by intros; exact G_at (by decide +kernel : fetch mX12_wrongKept 17 = some (.ifCond .ne 8)),
  by intros; exact G_at (by decide +kernel : fetch mX12_wrongKept 20 = some (.bipush (-11))),
  by intros; exact G_at (by decide +kernel : fetch mX12_wrongKept 22 = some (.goto 19)),
  by intros; exact G_at (by decide +kernel : fetch mX12_wrongKept 25 = some (.aload_n 0)),
  by intros; exact G_own (by decide +kernel : fetch mX12_wrongKept 26 = some (.getfield 49)) (by decide +kernel),
  by intros; exact G_at (by decide +kernel : fetch mX12_wrongKept 29 = some (.iload_n 1)),
  by intros; exact G_at (by decide +kernel : fetch mX12_wrongKept 30 = some (.iaload)),
  by intros; exact G_at (by decide +kernel : fetch mX12_wrongKept 31 = some (.iconst 2)),
  by intros; exact G_at (by decide +kernel : fetch mX12_wrongKept 32 = some (.if_icmp .ne 8)),
  by intros; exact G_at (by decide +kernel : fetch mX12_wrongKept 35 = some (.bipush (-12))),
  by intros; exact G_at (by decide +kernel : fetch mX12_wrongKept 37 = some (.goto 4)),
  by intros; exact G_at (by decide +kernel : fetch mX12_wrongKept 40 = some (.iconst 0)),
  by intros; exact G_reti (by decide +kernel : fetch mX12_wrongKept 41 = some (.ireturn)) (by decide +kernel),
  by decide +kernel⟩
theorem gX12_keep : (∀ (n d : Nat) (L : List (Option iV)) (st : List iV) (h : iH) (Q : Option iV → iH → Prop), G sp sc [] d mX12_keep (n + 1) 0 L st h Q = (match ld L 1 with | some (.inl x) => G sp sc [] d mX12_keep n 1 L (.inl x :: st) h Q | _ => False)) ∧
  (∀ (n d : Nat) (L : List (Option iV)) (r : List iV) (z0 : iV) (h : iH) (Q : Option iV → iH → Prop), G sp sc [] (d + 1) mX12_keep (n + 1) 1 L (z0 :: r) h Q = (cs r ≤ 8 ∧ Call sp sc d mX12_isShelf [z0] h (fun q h1 => GC sp sc [] (d + 1) mX12_keep n 4 L q r h h1 Q))) ∧
  (∀ (n d : Nat) (L : List (Option iV)) (a : Int) (r : List iV) (h : iH) (Q : Option iV → iH → Prop), G sp sc [] d mX12_keep (n + 1) 4 L (.inl a :: r) h Q = (inI a = true ∧ (a = 0 → G sp sc [] d mX12_keep n 41 L r h Q) ∧ (¬ (a = 0) → G sp sc [] d mX12_keep n 7 L r h Q))) ∧
  (∀ (n d : Nat) (L : List (Option iV)) (st : List iV) (h : iH) (Q : Option iV → iH → Prop), G sp sc [] d mX12_keep (n + 1) 7 L st h Q = (match ld L 2 with | some (.inl x) => G sp sc [] d mX12_keep n 8 L (.inl x :: st) h Q | _ => False)) ∧
  (∀ (n d : Nat) (L : List (Option iV)) (st : List iV) (h : iH) (Q : Option iV → iH → Prop), G sp sc [] d mX12_keep (n + 1) 8 L st h Q = G sp sc [] d mX12_keep n 9 L (.inl 0 :: st) h Q) ∧
  (∀ (n d : Nat) (L : List (Option iV)) (st : List iV) (h : iH) (Q : Option iV → iH → Prop), G sp sc [] d mX12_keep (n + 1) 9 L st h Q = G sp sc [] d mX12_keep n 10 L (.inl 1 :: st) h Q) ∧
  (∀ (n d : Nat) (L : List (Option iV)) (r : List iV) (z0 : iV) (z1 : iV) (z2 : iV) (h : iH) (Q : Option iV → iH → Prop), G sp sc [] (d + 1) mX12_keep (n + 1) 10 L (z2 :: z1 :: z0 :: r) h Q = (cs r ≤ 8 ∧ Call sp sc d mX12_isIn [z0, z1, z2] h (fun q h1 => GC sp sc [] (d + 1) mX12_keep n 13 L q r h h1 Q))) ∧
  (∀ (n d : Nat) (L : List (Option iV)) (a : Int) (r : List iV) (h : iH) (Q : Option iV → iH → Prop), G sp sc [] d mX12_keep (n + 1) 13 L (.inl a :: r) h Q = (inI a = true ∧ (a = 0 → G sp sc [] d mX12_keep n 41 L r h Q) ∧ (¬ (a = 0) → G sp sc [] d mX12_keep n 16 L r h Q))) ∧
  (∀ (n d : Nat) (L : List (Option iV)) (st : List iV) (h : iH) (Q : Option iV → iH → Prop), G sp sc [] d mX12_keep (n + 1) 16 L st h Q = (match ld L 2 with | some (.inl x) => G sp sc [] d mX12_keep n 17 L (.inl x :: st) h Q | _ => False)) ∧
  (∀ (n d : Nat) (L : List (Option iV)) (st : List iV) (h : iH) (Q : Option iV → iH → Prop), G sp sc [] d mX12_keep (n + 1) 17 L st h Q = G sp sc [] d mX12_keep n 18 L (.inl 1 :: st) h Q) ∧
  (∀ (n d : Nat) (L : List (Option iV)) (a : Int) (b : Int) (r : List iV) (h : iH) (Q : Option iV → iH → Prop), G sp sc [] d mX12_keep (n + 1) 18 L (.inl b :: .inl a :: r) h Q = ((inI a = true ∧ inI b = true) ∧ (¬ a = b → G sp sc [] d mX12_keep n 43 L r h Q) ∧ (¬ (¬ a = b) → G sp sc [] d mX12_keep n 21 L r h Q))) ∧
  (∀ (n d : Nat) (L : List (Option iV)) (st : List iV) (h : iH) (Q : Option iV → iH → Prop), G sp sc [] d mX12_keep (n + 1) 21 L st h Q = (match ld L 3 with | some (.inl x) => G sp sc [] d mX12_keep n 22 L (.inl x :: st) h Q | _ => False)) ∧
  (∀ (n d : Nat) (L : List (Option iV)) (st : List iV) (h : iH) (Q : Option iV → iH → Prop), G sp sc [] d mX12_keep (n + 1) 22 L st h Q = G sp sc [] d mX12_keep n 23 L (.inl 0 :: st) h Q) ∧
  (∀ (n d : Nat) (L : List (Option iV)) (st : List iV) (h : iH) (Q : Option iV → iH → Prop), G sp sc [] d mX12_keep (n + 1) 23 L st h Q = G sp sc [] d mX12_keep n 24 L (.inl 5 :: st) h Q) ∧
  (∀ (n d : Nat) (L : List (Option iV)) (r : List iV) (z0 : iV) (z1 : iV) (z2 : iV) (h : iH) (Q : Option iV → iH → Prop), G sp sc [] (d + 1) mX12_keep (n + 1) 24 L (z2 :: z1 :: z0 :: r) h Q = (cs r ≤ 8 ∧ Call sp sc d mX12_isIn [z0, z1, z2] h (fun q h1 => GC sp sc [] (d + 1) mX12_keep n 27 L q r h h1 Q))) ∧
  (∀ (n d : Nat) (L : List (Option iV)) (a : Int) (r : List iV) (h : iH) (Q : Option iV → iH → Prop), G sp sc [] d mX12_keep (n + 1) 27 L (.inl a :: r) h Q = (inI a = true ∧ (a = 0 → G sp sc [] d mX12_keep n 41 L r h Q) ∧ (¬ (a = 0) → G sp sc [] d mX12_keep n 30 L r h Q))) ∧
  (∀ (n d : Nat) (L : List (Option iV)) (st : List iV) (h : iH) (Q : Option iV → iH → Prop), G sp sc [] d mX12_keep (n + 1) 30 L st h Q = (match ld L 4 with | some (.inl x) => G sp sc [] d mX12_keep n 32 L (.inl x :: st) h Q | _ => False)) ∧
  (∀ (n d : Nat) (L : List (Option iV)) (st : List iV) (h : iH) (Q : Option iV → iH → Prop), G sp sc [] d mX12_keep (n + 1) 32 L st h Q = G sp sc [] d mX12_keep n 33 L (.inl 0 :: st) h Q) ∧
  (∀ (n d : Nat) (L : List (Option iV)) (st : List iV) (h : iH) (Q : Option iV → iH → Prop), G sp sc [] d mX12_keep (n + 1) 33 L st h Q = ((-128 ≤ (9 : Int) ∧ (9 : Int) < 128) ∧ G sp sc [] d mX12_keep n 35 L (.inl 9 :: st) h Q)) ∧
  (∀ (n d : Nat) (L : List (Option iV)) (r : List iV) (z0 : iV) (z1 : iV) (z2 : iV) (h : iH) (Q : Option iV → iH → Prop), G sp sc [] (d + 1) mX12_keep (n + 1) 35 L (z2 :: z1 :: z0 :: r) h Q = (cs r ≤ 8 ∧ Call sp sc d mX12_isIn [z0, z1, z2] h (fun q h1 => GC sp sc [] (d + 1) mX12_keep n 38 L q r h h1 Q))) ∧
  (∀ (n d : Nat) (L : List (Option iV)) (a : Int) (r : List iV) (h : iH) (Q : Option iV → iH → Prop), G sp sc [] d mX12_keep (n + 1) 38 L (.inl a :: r) h Q = (inI a = true ∧ (¬ a = 0 → G sp sc [] d mX12_keep n 43 L r h Q) ∧ (¬ (¬ a = 0) → G sp sc [] d mX12_keep n 41 L r h Q))) ∧
  (∀ (n d : Nat) (L : List (Option iV)) (st : List iV) (h : iH) (Q : Option iV → iH → Prop), G sp sc [] d mX12_keep (n + 1) 41 L st h Q = G sp sc [] d mX12_keep n 42 L (.inl (-1) :: st) h Q) ∧
  (∀ (n d : Nat) (L : List (Option iV)) (a : Int) (h : iH) (Q : Option iV → iH → Prop), G sp sc [] d mX12_keep (n + 1) 42 L [.inl a] h Q = Q (some (.inl a)) h) ∧
  (∀ (n d : Nat) (L : List (Option iV)) (st : List iV) (h : iH) (Q : Option iV → iH → Prop), G sp sc [] d mX12_keep (n + 1) 43 L st h Q = (match ld L 0 with | some (.inr (.inr (r + 1))) => G sp sc [] d mX12_keep n 44 L (.inr (.inr (r + 1)) :: st) h Q | _ => False)) ∧
  (∀ (n d : Nat) (L : List (Option iV)) (r : List iV) (m : Nat) (h : iH) (Q : Option iV → iH → Prop), G sp sc [] d mX12_keep (n + 1) 44 L (.inr (.inr (m + 2)) :: r) h Q = (match h.1[m]? with | some (.inl (ci, fs)) => (match lkF 12 49 ci with | some k => (match fs[k]? with | some v => G sp sc [] d mX12_keep n 47 L (v :: r) h Q | none => False) | none => False) | _ => False)) ∧
  (∀ (n d : Nat) (L : List (Option iV)) (st : List iV) (h : iH) (Q : Option iV → iH → Prop), G sp sc [] d mX12_keep (n + 1) 47 L st h Q = (match ld L 1 with | some (.inl x) => G sp sc [] d mX12_keep n 48 L (.inl x :: st) h Q | _ => False)) ∧
  (∀ (n d : Nat) (L : List (Option iV)) (st : List iV) (h : iH) (Q : Option iV → iH → Prop), G sp sc [] d mX12_keep (n + 1) 48 L st h Q = (match ld L 2 with | some (.inl x) => G sp sc [] d mX12_keep n 49 L (.inl x :: st) h Q | _ => False)) ∧
  (∀ (n d : Nat) (L : List (Option iV)) (r : List iV) (v : Int) (j : Int) (m : Nat) (h : iH) (Q : Option iV → iH → Prop), G sp sc [] d mX12_keep (n + 1) 49 L (.inl v :: .inl j :: .inr (.inr (m + 2)) :: r) h Q = (match h.1[m]? with | some (.inr (.inl (0, xs))) => inA j xs.length = true ∧ G sp sc [] d mX12_keep n 50 L r (h.1.set m (.inr (.inl (0, xs.set j.toNat v))), h.2) Q | _ => False)) ∧
  (∀ (n d : Nat) (L : List (Option iV)) (st : List iV) (h : iH) (Q : Option iV → iH → Prop), G sp sc [] d mX12_keep (n + 1) 50 L st h Q = (match ld L 0 with | some (.inr (.inr (r + 1))) => G sp sc [] d mX12_keep n 51 L (.inr (.inr (r + 1)) :: st) h Q | _ => False)) ∧
  (∀ (n d : Nat) (L : List (Option iV)) (r : List iV) (m : Nat) (h : iH) (Q : Option iV → iH → Prop), G sp sc [] d mX12_keep (n + 1) 51 L (.inr (.inr (m + 2)) :: r) h Q = (match h.1[m]? with | some (.inl (ci, fs)) => (match lkF 12 52 ci with | some k => (match fs[k]? with | some v => G sp sc [] d mX12_keep n 54 L (v :: r) h Q | none => False) | none => False) | _ => False)) ∧
  (∀ (n d : Nat) (L : List (Option iV)) (st : List iV) (h : iH) (Q : Option iV → iH → Prop), G sp sc [] d mX12_keep (n + 1) 54 L st h Q = (match ld L 1 with | some (.inl x) => G sp sc [] d mX12_keep n 55 L (.inl x :: st) h Q | _ => False)) ∧
  (∀ (n d : Nat) (L : List (Option iV)) (st : List iV) (h : iH) (Q : Option iV → iH → Prop), G sp sc [] d mX12_keep (n + 1) 55 L st h Q = (match ld L 3 with | some (.inl x) => G sp sc [] d mX12_keep n 56 L (.inl x :: st) h Q | _ => False)) ∧
  (∀ (n d : Nat) (L : List (Option iV)) (r : List iV) (v : Int) (j : Int) (m : Nat) (h : iH) (Q : Option iV → iH → Prop), G sp sc [] d mX12_keep (n + 1) 56 L (.inl v :: .inl j :: .inr (.inr (m + 2)) :: r) h Q = (match h.1[m]? with | some (.inr (.inl (0, xs))) => inA j xs.length = true ∧ G sp sc [] d mX12_keep n 57 L r (h.1.set m (.inr (.inl (0, xs.set j.toNat v))), h.2) Q | _ => False)) ∧
  (∀ (n d : Nat) (L : List (Option iV)) (st : List iV) (h : iH) (Q : Option iV → iH → Prop), G sp sc [] d mX12_keep (n + 1) 57 L st h Q = (match ld L 0 with | some (.inr (.inr (r + 1))) => G sp sc [] d mX12_keep n 58 L (.inr (.inr (r + 1)) :: st) h Q | _ => False)) ∧
  (∀ (n d : Nat) (L : List (Option iV)) (r : List iV) (m : Nat) (h : iH) (Q : Option iV → iH → Prop), G sp sc [] d mX12_keep (n + 1) 58 L (.inr (.inr (m + 2)) :: r) h Q = (match h.1[m]? with | some (.inl (ci, fs)) => (match lkF 12 55 ci with | some k => (match fs[k]? with | some v => G sp sc [] d mX12_keep n 61 L (v :: r) h Q | none => False) | none => False) | _ => False)) ∧
  (∀ (n d : Nat) (L : List (Option iV)) (st : List iV) (h : iH) (Q : Option iV → iH → Prop), G sp sc [] d mX12_keep (n + 1) 61 L st h Q = (match ld L 1 with | some (.inl x) => G sp sc [] d mX12_keep n 62 L (.inl x :: st) h Q | _ => False)) ∧
  (∀ (n d : Nat) (L : List (Option iV)) (st : List iV) (h : iH) (Q : Option iV → iH → Prop), G sp sc [] d mX12_keep (n + 1) 62 L st h Q = (match ld L 4 with | some (.inl x) => G sp sc [] d mX12_keep n 64 L (.inl x :: st) h Q | _ => False)) ∧
  (∀ (n d : Nat) (L : List (Option iV)) (r : List iV) (v : Int) (j : Int) (m : Nat) (h : iH) (Q : Option iV → iH → Prop), G sp sc [] d mX12_keep (n + 1) 64 L (.inl v :: .inl j :: .inr (.inr (m + 2)) :: r) h Q = (match h.1[m]? with | some (.inr (.inl (0, xs))) => inA j xs.length = true ∧ G sp sc [] d mX12_keep n 65 L r (h.1.set m (.inr (.inl (0, xs.set j.toNat v))), h.2) Q | _ => False)) ∧
  (∀ (n d : Nat) (L : List (Option iV)) (st : List iV) (h : iH) (Q : Option iV → iH → Prop), G sp sc [] d mX12_keep (n + 1) 65 L st h Q = G sp sc [] d mX12_keep n 66 L (.inl 0 :: st) h Q) ∧
  (∀ (n d : Nat) (L : List (Option iV)) (a : Int) (h : iH) (Q : Option iV → iH → Prop), G sp sc [] d mX12_keep (n + 1) 66 L [.inl a] h Q = Q (some (.inl a)) h) ∧
  lkF 12 49 12 = some 26 ∧
  lkF 12 52 12 = some 27 ∧
  lkF 12 55 12 = some 28 := ⟨by intros; exact G_at (by decide +kernel : fetch mX12_keep 0 = some (.iload_n 1)),
  by intros; exact G_callS (k := 1) (kd := 0) (by decide +kernel : fetch mX12_keep 1 = some (.invokestatic 202)) (by decide +kernel) (by decide +kernel) (by decide +kernel) rfl (by decide),
  by intros; exact G_at (by decide +kernel : fetch mX12_keep 4 = some (.ifCond .eq 37)),
  by intros; exact G_at (by decide +kernel : fetch mX12_keep 7 = some (.iload_n 2)),
  by intros; exact G_at (by decide +kernel : fetch mX12_keep 8 = some (.iconst 0)),
  by intros; exact G_at (by decide +kernel : fetch mX12_keep 9 = some (.iconst 1)),
  by intros; exact G_callS (k := 3) (kd := 0) (by decide +kernel : fetch mX12_keep 10 = some (.invokestatic 67)) (by decide +kernel) (by decide +kernel) (by decide +kernel) rfl (by decide),
  by intros; exact G_at (by decide +kernel : fetch mX12_keep 13 = some (.ifCond .eq 28)),
  by intros; exact G_at (by decide +kernel : fetch mX12_keep 16 = some (.iload_n 2)),
  by intros; exact G_at (by decide +kernel : fetch mX12_keep 17 = some (.iconst 1)),
  by intros; exact G_at (by decide +kernel : fetch mX12_keep 18 = some (.if_icmp .ne 25)),
  by intros; exact G_at (by decide +kernel : fetch mX12_keep 21 = some (.iload_n 3)),
  by intros; exact G_at (by decide +kernel : fetch mX12_keep 22 = some (.iconst 0)),
  by intros; exact G_at (by decide +kernel : fetch mX12_keep 23 = some (.iconst 5)),
  by intros; exact G_callS (k := 3) (kd := 0) (by decide +kernel : fetch mX12_keep 24 = some (.invokestatic 67)) (by decide +kernel) (by decide +kernel) (by decide +kernel) rfl (by decide),
  by intros; exact G_at (by decide +kernel : fetch mX12_keep 27 = some (.ifCond .eq 14)),
  by intros; exact G_at (by decide +kernel : fetch mX12_keep 30 = some (.iload 4)),
  by intros; exact G_at (by decide +kernel : fetch mX12_keep 32 = some (.iconst 0)),
  by intros; exact G_at (by decide +kernel : fetch mX12_keep 33 = some (.bipush 9)),
  by intros; exact G_callS (k := 3) (kd := 0) (by decide +kernel : fetch mX12_keep 35 = some (.invokestatic 67)) (by decide +kernel) (by decide +kernel) (by decide +kernel) rfl (by decide),
  by intros; exact G_at (by decide +kernel : fetch mX12_keep 38 = some (.ifCond .ne 5)),
  by intros; exact G_at (by decide +kernel : fetch mX12_keep 41 = some (.iconst (-1))),
  by intros; exact G_reti (by decide +kernel : fetch mX12_keep 42 = some (.ireturn)) (by decide +kernel),
  by intros; exact G_at (by decide +kernel : fetch mX12_keep 43 = some (.aload_n 0)),
  by intros; exact G_own (by decide +kernel : fetch mX12_keep 44 = some (.getfield 49)) (by decide +kernel),
  by intros; exact G_at (by decide +kernel : fetch mX12_keep 47 = some (.iload_n 1)),
  by intros; exact G_at (by decide +kernel : fetch mX12_keep 48 = some (.iload_n 2)),
  by intros; exact G_at (by decide +kernel : fetch mX12_keep 49 = some (.iastore)),
  by intros; exact G_at (by decide +kernel : fetch mX12_keep 50 = some (.aload_n 0)),
  by intros; exact G_own (by decide +kernel : fetch mX12_keep 51 = some (.getfield 52)) (by decide +kernel),
  by intros; exact G_at (by decide +kernel : fetch mX12_keep 54 = some (.iload_n 1)),
  by intros; exact G_at (by decide +kernel : fetch mX12_keep 55 = some (.iload_n 3)),
  by intros; exact G_at (by decide +kernel : fetch mX12_keep 56 = some (.iastore)),
  by intros; exact G_at (by decide +kernel : fetch mX12_keep 57 = some (.aload_n 0)),
  by intros; exact G_own (by decide +kernel : fetch mX12_keep 58 = some (.getfield 55)) (by decide +kernel),
  by intros; exact G_at (by decide +kernel : fetch mX12_keep 61 = some (.iload_n 1)),
  by intros; exact G_at (by decide +kernel : fetch mX12_keep 62 = some (.iload 4)),
  by intros; exact G_at (by decide +kernel : fetch mX12_keep 64 = some (.iastore)),
  by intros; exact G_at (by decide +kernel : fetch mX12_keep 65 = some (.iconst 0)),
  by intros; exact G_reti (by decide +kernel : fetch mX12_keep 66 = some (.ireturn)) (by decide +kernel),
  by decide +kernel,
  by decide +kernel,
  by decide +kernel⟩
theorem gX12_row : (∀ (n d : Nat) (L : List (Option iV)) (st : List iV) (h : iH) (Q : Option iV → iH → Prop), G sp sc [55] d mX12_row (n + 1) 0 L st h Q = (match ld L 1 with | some (.inl x) => G sp sc [55] d mX12_row n 1 L (.inl x :: st) h Q | _ => False)) ∧
  (∀ (n d : Nat) (L : List (Option iV)) (r : List iV) (z0 : iV) (h : iH) (Q : Option iV → iH → Prop), G sp sc [55] (d + 1) mX12_row (n + 1) 1 L (z0 :: r) h Q = (cs r ≤ 8 ∧ Call sp sc d mX12_isShelf [z0] h (fun q h1 => GC sp sc [55] (d + 1) mX12_row n 4 L q r h h1 Q))) ∧
  (∀ (n d : Nat) (L : List (Option iV)) (a : Int) (r : List iV) (h : iH) (Q : Option iV → iH → Prop), G sp sc [55] d mX12_row (n + 1) 4 L (.inl a :: r) h Q = (inI a = true ∧ (a = 0 → G sp sc [55] d mX12_row n 22 L r h Q) ∧ (¬ (a = 0) → G sp sc [55] d mX12_row n 7 L r h Q))) ∧
  (∀ (n d : Nat) (L : List (Option iV)) (st : List iV) (h : iH) (Q : Option iV → iH → Prop), G sp sc [55] d mX12_row (n + 1) 7 L st h Q = (match ld L 2 with | some (.inl x) => G sp sc [55] d mX12_row n 8 L (.inl x :: st) h Q | _ => False)) ∧
  (∀ (n d : Nat) (L : List (Option iV)) (st : List iV) (h : iH) (Q : Option iV → iH → Prop), G sp sc [55] d mX12_row (n + 1) 8 L st h Q = G sp sc [55] d mX12_row n 9 L (.inl 0 :: st) h Q) ∧
  (∀ (n d : Nat) (L : List (Option iV)) (st : List iV) (h : iH) (Q : Option iV → iH → Prop), G sp sc [55] d mX12_row (n + 1) 9 L st h Q = G sp sc [55] d mX12_row n 10 L (.inl 2 :: st) h Q) ∧
  (∀ (n d : Nat) (L : List (Option iV)) (r : List iV) (z0 : iV) (z1 : iV) (z2 : iV) (h : iH) (Q : Option iV → iH → Prop), G sp sc [55] (d + 1) mX12_row (n + 1) 10 L (z2 :: z1 :: z0 :: r) h Q = (cs r ≤ 8 ∧ Call sp sc d mX12_isIn [z0, z1, z2] h (fun q h1 => GC sp sc [55] (d + 1) mX12_row n 13 L q r h h1 Q))) ∧
  (∀ (n d : Nat) (L : List (Option iV)) (a : Int) (r : List iV) (h : iH) (Q : Option iV → iH → Prop), G sp sc [55] d mX12_row (n + 1) 13 L (.inl a :: r) h Q = (inI a = true ∧ (a = 0 → G sp sc [55] d mX12_row n 22 L r h Q) ∧ (¬ (a = 0) → G sp sc [55] d mX12_row n 16 L r h Q))) ∧
  (∀ (n d : Nat) (L : List (Option iV)) (st : List iV) (h : iH) (Q : Option iV → iH → Prop), G sp sc [55] d mX12_row (n + 1) 16 L st h Q = (match ld L 3 with | some (.inl x) => G sp sc [55] d mX12_row n 17 L (.inl x :: st) h Q | _ => False)) ∧
  (∀ (n d : Nat) (L : List (Option iV)) (st : List iV) (h : iH) (Q : Option iV → iH → Prop), G sp sc [55] d mX12_row (n + 1) 17 L st h Q = ((-128 ≤ (100 : Int) ∧ (100 : Int) < 128) ∧ G sp sc [55] d mX12_row n 19 L (.inl 100 :: st) h Q)) ∧
  (∀ (n d : Nat) (L : List (Option iV)) (a : Int) (b : Int) (r : List iV) (h : iH) (Q : Option iV → iH → Prop), G sp sc [55] d mX12_row (n + 1) 19 L (.inl b :: .inl a :: r) h Q = ((inI a = true ∧ inI b = true) ∧ (a ≤ b → G sp sc [55] d mX12_row n 24 L r h Q) ∧ (¬ (a ≤ b) → G sp sc [55] d mX12_row n 22 L r h Q))) ∧
  (∀ (n d : Nat) (L : List (Option iV)) (st : List iV) (h : iH) (Q : Option iV → iH → Prop), G sp sc [55] d mX12_row (n + 1) 22 L st h Q = G sp sc [55] d mX12_row n 23 L (.inl (-1) :: st) h Q) ∧
  (∀ (n d : Nat) (L : List (Option iV)) (a : Int) (h : iH) (Q : Option iV → iH → Prop), G sp sc [55] d mX12_row (n + 1) 23 L [.inl a] h Q = Q (some (.inl a)) h) ∧
  (∀ (n d : Nat) (L : List (Option iV)) (st : List iV) (h : iH) (Q : Option iV → iH → Prop), G sp sc [55] d mX12_row (n + 1) 24 L st h Q = (match ld L 3 with | some (.inl x) => G sp sc [55] d mX12_row n 25 L (.inl x :: st) h Q | _ => False)) ∧
  (∀ (n d : Nat) (L : List (Option iV)) (a : Int) (r : List iV) (h : iH) (Q : Option iV → iH → Prop), G sp sc [55] d mX12_row (n + 1) 25 L (.inl a :: r) h Q = (inI a = true ∧ (0 ≤ a → G sp sc [55] d mX12_row n 31 L r h Q) ∧ (¬ (0 ≤ a) → G sp sc [55] d mX12_row n 28 L r h Q))) ∧
  (∀ (n d : Nat) (L : List (Option iV)) (st : List iV) (h : iH) (Q : Option iV → iH → Prop), G sp sc [55] d mX12_row (n + 1) 28 L st h Q = ((-128 ≤ ((-14) : Int) ∧ ((-14) : Int) < 128) ∧ G sp sc [55] d mX12_row n 30 L (.inl (-14) :: st) h Q)) ∧
  (∀ (n d : Nat) (L : List (Option iV)) (a : Int) (h : iH) (Q : Option iV → iH → Prop), G sp sc [55] d mX12_row (n + 1) 30 L [.inl a] h Q = Q (some (.inl a)) h) ∧
  (∀ (n d : Nat) (L : List (Option iV)) (st : List iV) (h : iH) (Q : Option iV → iH → Prop), G sp sc [55] d mX12_row (n + 1) 31 L st h Q = (match ld L 0 with | some (.inr (.inr (r + 1))) => G sp sc [55] d mX12_row n 32 L (.inr (.inr (r + 1)) :: st) h Q | _ => False)) ∧
  (∀ (n d : Nat) (L : List (Option iV)) (r : List iV) (m : Nat) (h : iH) (Q : Option iV → iH → Prop), G sp sc [55] d mX12_row (n + 1) 32 L (.inr (.inr (m + 2)) :: r) h Q = (match h.1[m]? with | some (.inl (ci, fs)) => (match lkF 12 49 ci with | some k => (match fs[k]? with | some v => G sp sc [55] d mX12_row n 35 L (v :: r) h Q | none => False) | none => False) | _ => False)) ∧
  (∀ (n d : Nat) (L : List (Option iV)) (st : List iV) (h : iH) (Q : Option iV → iH → Prop), G sp sc [55] d mX12_row (n + 1) 35 L st h Q = (match ld L 1 with | some (.inl x) => G sp sc [55] d mX12_row n 36 L (.inl x :: st) h Q | _ => False)) ∧
  (∀ (n d : Nat) (L : List (Option iV)) (st : List iV) (h : iH) (Q : Option iV → iH → Prop), G sp sc [55] d mX12_row (n + 1) 36 L st h Q = G sp sc [55] d mX12_row n 37 L (.inl 2 :: st) h Q) ∧
  (∀ (n d : Nat) (L : List (Option iV)) (r : List iV) (v : Int) (j : Int) (m : Nat) (h : iH) (Q : Option iV → iH → Prop), G sp sc [55] d mX12_row (n + 1) 37 L (.inl v :: .inl j :: .inr (.inr (m + 2)) :: r) h Q = (match h.1[m]? with | some (.inr (.inl (0, xs))) => inA j xs.length = true ∧ G sp sc [55] d mX12_row n 38 L r (h.1.set m (.inr (.inl (0, xs.set j.toNat v))), h.2) Q | _ => False)) ∧
  (∀ (n d : Nat) (L : List (Option iV)) (st : List iV) (h : iH) (Q : Option iV → iH → Prop), G sp sc [55] d mX12_row (n + 1) 38 L st h Q = (match ld L 0 with | some (.inr (.inr (r + 1))) => G sp sc [55] d mX12_row n 39 L (.inr (.inr (r + 1)) :: st) h Q | _ => False)) ∧
  (∀ (n d : Nat) (L : List (Option iV)) (r : List iV) (m : Nat) (h : iH) (Q : Option iV → iH → Prop), G sp sc [55] d mX12_row (n + 1) 39 L (.inr (.inr (m + 2)) :: r) h Q = (match h.1[m]? with | some (.inl (ci, fs)) => (match lkF 12 58 ci with | some k => (match fs[k]? with | some v => G sp sc [55] d mX12_row n 42 L (v :: r) h Q | none => False) | none => False) | _ => False)) ∧
  (∀ (n d : Nat) (L : List (Option iV)) (st : List iV) (h : iH) (Q : Option iV → iH → Prop), G sp sc [55] d mX12_row (n + 1) 42 L st h Q = (match ld L 1 with | some (.inl x) => G sp sc [55] d mX12_row n 43 L (.inl x :: st) h Q | _ => False)) ∧
  (∀ (n d : Nat) (L : List (Option iV)) (st : List iV) (h : iH) (Q : Option iV → iH → Prop), G sp sc [55] d mX12_row (n + 1) 43 L st h Q = (match ld L 2 with | some (.inl x) => G sp sc [55] d mX12_row n 44 L (.inl x :: st) h Q | _ => False)) ∧
  (∀ (n d : Nat) (L : List (Option iV)) (r : List iV) (v : Int) (j : Int) (m : Nat) (h : iH) (Q : Option iV → iH → Prop), G sp sc [55] d mX12_row (n + 1) 44 L (.inl v :: .inl j :: .inr (.inr (m + 2)) :: r) h Q = (match h.1[m]? with | some (.inr (.inl (0, xs))) => inA j xs.length = true ∧ G sp sc [55] d mX12_row n 45 L r (h.1.set m (.inr (.inl (0, xs.set j.toNat v))), h.2) Q | _ => False)) ∧
  (∀ (n d : Nat) (L : List (Option iV)) (st : List iV) (h : iH) (Q : Option iV → iH → Prop), G sp sc [55] d mX12_row (n + 1) 45 L st h Q = (match ld L 0 with | some (.inr (.inr (r + 1))) => G sp sc [55] d mX12_row n 46 L (.inr (.inr (r + 1)) :: st) h Q | _ => False)) ∧
  (∀ (n d : Nat) (L : List (Option iV)) (r : List iV) (m : Nat) (h : iH) (Q : Option iV → iH → Prop), G sp sc [55] d mX12_row (n + 1) 46 L (.inr (.inr (m + 2)) :: r) h Q = (match h.1[m]? with | some (.inl (ci, fs)) => (match lkF 12 61 ci with | some k => (match fs[k]? with | some v => G sp sc [55] d mX12_row n 49 L (v :: r) h Q | none => False) | none => False) | _ => False)) ∧
  (∀ (n d : Nat) (L : List (Option iV)) (st : List iV) (h : iH) (Q : Option iV → iH → Prop), G sp sc [55] d mX12_row (n + 1) 49 L st h Q = (match ld L 1 with | some (.inl x) => G sp sc [55] d mX12_row n 50 L (.inl x :: st) h Q | _ => False)) ∧
  (∀ (n d : Nat) (L : List (Option iV)) (st : List iV) (h : iH) (Q : Option iV → iH → Prop), G sp sc [55] d mX12_row (n + 1) 50 L st h Q = (match ld L 3 with | some (.inl x) => G sp sc [55] d mX12_row n 51 L (.inl x :: st) h Q | _ => False)) ∧
  (∀ (n d : Nat) (L : List (Option iV)) (r : List iV) (v : Int) (j : Int) (m : Nat) (h : iH) (Q : Option iV → iH → Prop), G sp sc [55] d mX12_row (n + 1) 51 L (.inl v :: .inl j :: .inr (.inr (m + 2)) :: r) h Q = (match h.1[m]? with | some (.inr (.inl (0, xs))) => inA j xs.length = true ∧ G sp sc [55] d mX12_row n 52 L r (h.1.set m (.inr (.inl (0, xs.set j.toNat v))), h.2) Q | _ => False)) ∧
  (∀ (n d : Nat) (L : List (Option iV)) (st : List iV) (h : iH) (Q : Option iV → iH → Prop), G sp sc [55] d mX12_row (n + 1) 52 L st h Q = G sp sc [55] d mX12_row n 53 L (.inl 0 :: st) h Q) ∧
  (∀ (n d : Nat) (L : List (Option iV)) (r : List iV) (x : Int) (h : iH) (Q : Option iV → iH → Prop), G sp sc [55] d mX12_row (n + 1) 53 L (.inl x :: r) h Q = (match st1 L 4 (.inl x) with | some L' => Run sp sc d mX12_row 55 L' r h Q | none => False)) ∧
  (∀ (n d : Nat) (L : List (Option iV)) (st : List iV) (h : iH) (Q : Option iV → iH → Prop), G sp sc [55] d mX12_row (n + 1) 55 L st h Q = (match ld L 4 with | some (.inl x) => G sp sc [55] d mX12_row n 57 L (.inl x :: st) h Q | _ => False)) ∧
  (∀ (n d : Nat) (L : List (Option iV)) (st : List iV) (h : iH) (Q : Option iV → iH → Prop), G sp sc [55] d mX12_row (n + 1) 57 L st h Q = ((-128 ≤ (100 : Int) ∧ (100 : Int) < 128) ∧ G sp sc [55] d mX12_row n 59 L (.inl 100 :: st) h Q)) ∧
  (∀ (n d : Nat) (L : List (Option iV)) (a : Int) (b : Int) (r : List iV) (h : iH) (Q : Option iV → iH → Prop), G sp sc [55] d mX12_row (n + 1) 59 L (.inl b :: .inl a :: r) h Q = ((inI a = true ∧ inI b = true) ∧ (b ≤ a → G sp sc [55] d mX12_row n 81 L r h Q) ∧ (¬ (b ≤ a) → G sp sc [55] d mX12_row n 62 L r h Q))) ∧
  (∀ (n d : Nat) (L : List (Option iV)) (st : List iV) (h : iH) (Q : Option iV → iH → Prop), G sp sc [55] d mX12_row (n + 1) 62 L st h Q = (match ld L 0 with | some (.inr (.inr (r + 1))) => G sp sc [55] d mX12_row n 63 L (.inr (.inr (r + 1)) :: st) h Q | _ => False)) ∧
  (∀ (n d : Nat) (L : List (Option iV)) (r : List iV) (m : Nat) (h : iH) (Q : Option iV → iH → Prop), G sp sc [55] d mX12_row (n + 1) 63 L (.inr (.inr (m + 2)) :: r) h Q = (match h.1[m]? with | some (.inl (ci, fs)) => (match lkF 12 64 ci with | some k => (match fs[k]? with | some v => G sp sc [55] d mX12_row n 66 L (v :: r) h Q | none => False) | none => False) | _ => False)) ∧
  (∀ (n d : Nat) (L : List (Option iV)) (st : List iV) (h : iH) (Q : Option iV → iH → Prop), G sp sc [55] d mX12_row (n + 1) 66 L st h Q = ((-128 ≤ (100 : Int) ∧ (100 : Int) < 128) ∧ G sp sc [55] d mX12_row n 68 L (.inl 100 :: st) h Q)) ∧
  (∀ (n d : Nat) (L : List (Option iV)) (st : List iV) (h : iH) (Q : Option iV → iH → Prop), G sp sc [55] d mX12_row (n + 1) 68 L st h Q = (match ld L 1 with | some (.inl x) => G sp sc [55] d mX12_row n 69 L (.inl x :: st) h Q | _ => False)) ∧
  (∀ (n d : Nat) (L : List (Option iV)) (a : Int) (b : Int) (r : List iV) (h : iH) (Q : Option iV → iH → Prop), G sp sc [55] d mX12_row (n + 1) 69 L (.inl b :: .inl a :: r) h Q = G sp sc [55] d mX12_row n 70 L (.inl (a * b) :: r) h Q) ∧
  (∀ (n d : Nat) (L : List (Option iV)) (st : List iV) (h : iH) (Q : Option iV → iH → Prop), G sp sc [55] d mX12_row (n + 1) 70 L st h Q = (match ld L 4 with | some (.inl x) => G sp sc [55] d mX12_row n 72 L (.inl x :: st) h Q | _ => False)) ∧
  (∀ (n d : Nat) (L : List (Option iV)) (a : Int) (b : Int) (r : List iV) (h : iH) (Q : Option iV → iH → Prop), G sp sc [55] d mX12_row (n + 1) 72 L (.inl b :: .inl a :: r) h Q = G sp sc [55] d mX12_row n 73 L (.inl (a + b) :: r) h Q) ∧
  (∀ (n d : Nat) (L : List (Option iV)) (st : List iV) (h : iH) (Q : Option iV → iH → Prop), G sp sc [55] d mX12_row (n + 1) 73 L st h Q = G sp sc [55] d mX12_row n 74 L (.inl 0 :: st) h Q) ∧
  (∀ (n d : Nat) (L : List (Option iV)) (r : List iV) (v : Int) (j : Int) (m : Nat) (h : iH) (Q : Option iV → iH → Prop), G sp sc [55] d mX12_row (n + 1) 74 L (.inl v :: .inl j :: .inr (.inr (m + 2)) :: r) h Q = (match h.1[m]? with | some (.inr (.inl (0, xs))) => inA j xs.length = true ∧ G sp sc [55] d mX12_row n 75 L r (h.1.set m (.inr (.inl (0, xs.set j.toNat v))), h.2) Q | _ => False)) ∧
  (∀ (n d : Nat) (L : List (Option iV)) (st : List iV) (h : iH) (Q : Option iV → iH → Prop), G sp sc [55] d mX12_row (n + 1) 75 L st h Q = (match ld L 4 with | some (.inl x) => (match st1 L 4 (.inl (x + 1)) with | some L' => G sp sc [55] d mX12_row n 78 L' st h Q | none => False) | _ => False)) ∧
  (∀ (n d : Nat) (L : List (Option iV)) (st : List iV) (h : iH) (Q : Option iV → iH → Prop), G sp sc [55] d mX12_row (n + 1) 78 L st h Q = Run sp sc d mX12_row 55 L st h Q) ∧
  (∀ (n d : Nat) (L : List (Option iV)) (st : List iV) (h : iH) (Q : Option iV → iH → Prop), G sp sc [55] d mX12_row (n + 1) 81 L st h Q = G sp sc [55] d mX12_row n 82 L (.inl 0 :: st) h Q) ∧
  (∀ (n d : Nat) (L : List (Option iV)) (a : Int) (h : iH) (Q : Option iV → iH → Prop), G sp sc [55] d mX12_row (n + 1) 82 L [.inl a] h Q = Q (some (.inl a)) h) ∧
  lkF 12 49 12 = some 26 ∧
  lkF 12 58 12 = some 29 ∧
  lkF 12 61 12 = some 30 ∧
  lkF 12 64 12 = some 31 := ⟨by intros; exact G_at (by decide +kernel : fetch mX12_row 0 = some (.iload_n 1)),
  by intros; exact G_callS (k := 1) (kd := 0) (by decide +kernel : fetch mX12_row 1 = some (.invokestatic 202)) (by decide +kernel) (by decide +kernel) (by decide +kernel) rfl (by decide),
  by intros; exact G_at (by decide +kernel : fetch mX12_row 4 = some (.ifCond .eq 18)),
  by intros; exact G_at (by decide +kernel : fetch mX12_row 7 = some (.iload_n 2)),
  by intros; exact G_at (by decide +kernel : fetch mX12_row 8 = some (.iconst 0)),
  by intros; exact G_at (by decide +kernel : fetch mX12_row 9 = some (.iconst 2)),
  by intros; exact G_callS (k := 3) (kd := 0) (by decide +kernel : fetch mX12_row 10 = some (.invokestatic 67)) (by decide +kernel) (by decide +kernel) (by decide +kernel) rfl (by decide),
  by intros; exact G_at (by decide +kernel : fetch mX12_row 13 = some (.ifCond .eq 9)),
  by intros; exact G_at (by decide +kernel : fetch mX12_row 16 = some (.iload_n 3)),
  by intros; exact G_at (by decide +kernel : fetch mX12_row 17 = some (.bipush 100)),
  by intros; exact G_at (by decide +kernel : fetch mX12_row 19 = some (.if_icmp .le 5)),
  by intros; exact G_at (by decide +kernel : fetch mX12_row 22 = some (.iconst (-1))),
  by intros; exact G_reti (by decide +kernel : fetch mX12_row 23 = some (.ireturn)) (by decide +kernel),
  by intros; exact G_at (by decide +kernel : fetch mX12_row 24 = some (.iload_n 3)),
  by intros; exact G_at (by decide +kernel : fetch mX12_row 25 = some (.ifCond .ge 6)),
  by intros; exact G_at (by decide +kernel : fetch mX12_row 28 = some (.bipush (-14))),
  by intros; exact G_reti (by decide +kernel : fetch mX12_row 30 = some (.ireturn)) (by decide +kernel),
  by intros; exact G_at (by decide +kernel : fetch mX12_row 31 = some (.aload_n 0)),
  by intros; exact G_own (by decide +kernel : fetch mX12_row 32 = some (.getfield 49)) (by decide +kernel),
  by intros; exact G_at (by decide +kernel : fetch mX12_row 35 = some (.iload_n 1)),
  by intros; exact G_at (by decide +kernel : fetch mX12_row 36 = some (.iconst 2)),
  by intros; exact G_at (by decide +kernel : fetch mX12_row 37 = some (.iastore)),
  by intros; exact G_at (by decide +kernel : fetch mX12_row 38 = some (.aload_n 0)),
  by intros; exact G_own (by decide +kernel : fetch mX12_row 39 = some (.getfield 58)) (by decide +kernel),
  by intros; exact G_at (by decide +kernel : fetch mX12_row 42 = some (.iload_n 1)),
  by intros; exact G_at (by decide +kernel : fetch mX12_row 43 = some (.iload_n 2)),
  by intros; exact G_at (by decide +kernel : fetch mX12_row 44 = some (.iastore)),
  by intros; exact G_at (by decide +kernel : fetch mX12_row 45 = some (.aload_n 0)),
  by intros; exact G_own (by decide +kernel : fetch mX12_row 46 = some (.getfield 61)) (by decide +kernel),
  by intros; exact G_at (by decide +kernel : fetch mX12_row 49 = some (.iload_n 1)),
  by intros; exact G_at (by decide +kernel : fetch mX12_row 50 = some (.iload_n 3)),
  by intros; exact G_at (by decide +kernel : fetch mX12_row 51 = some (.iastore)),
  by intros; exact G_at (by decide +kernel : fetch mX12_row 52 = some (.iconst 0)),
  by intros; exact G_at (by decide +kernel : fetch mX12_row 53 = some (.istore 4)),
  by intros; exact G_at (by decide +kernel : fetch mX12_row 55 = some (.iload 4)),
  by intros; exact G_at (by decide +kernel : fetch mX12_row 57 = some (.bipush 100)),
  by intros; exact G_at (by decide +kernel : fetch mX12_row 59 = some (.if_icmp .ge 22)),
  by intros; exact G_at (by decide +kernel : fetch mX12_row 62 = some (.aload_n 0)),
  by intros; exact G_own (by decide +kernel : fetch mX12_row 63 = some (.getfield 64)) (by decide +kernel),
  by intros; exact G_at (by decide +kernel : fetch mX12_row 66 = some (.bipush 100)),
  by intros; exact G_at (by decide +kernel : fetch mX12_row 68 = some (.iload_n 1)),
  by intros; exact G_at (by decide +kernel : fetch mX12_row 69 = some (.imul)),
  by intros; exact G_at (by decide +kernel : fetch mX12_row 70 = some (.iload 4)),
  by intros; exact G_at (by decide +kernel : fetch mX12_row 72 = some (.iadd)),
  by intros; exact G_at (by decide +kernel : fetch mX12_row 73 = some (.iconst 0)),
  by intros; exact G_at (by decide +kernel : fetch mX12_row 74 = some (.iastore)),
  by intros; exact G_at (by decide +kernel : fetch mX12_row 75 = some (.iinc 4 1)),
  by intros; exact G_at (by decide +kernel : fetch mX12_row 78 = some (.goto (-23))),
  by intros; exact G_at (by decide +kernel : fetch mX12_row 81 = some (.iconst 0)),
  by intros; exact G_reti (by decide +kernel : fetch mX12_row 82 = some (.ireturn)) (by decide +kernel),
  by decide +kernel,
  by decide +kernel,
  by decide +kernel,
  by decide +kernel⟩
theorem gX12_put : (∀ (n d : Nat) (L : List (Option iV)) (st : List iV) (h : iH) (Q : Option iV → iH → Prop), G sp sc [] d mX12_put (n + 1) 0 L st h Q = (match ld L 0 with | some (.inr (.inr (r + 1))) => G sp sc [] d mX12_put n 1 L (.inr (.inr (r + 1)) :: st) h Q | _ => False)) ∧
  (∀ (n d : Nat) (L : List (Option iV)) (st : List iV) (h : iH) (Q : Option iV → iH → Prop), G sp sc [] d mX12_put (n + 1) 1 L st h Q = (match ld L 1 with | some (.inl x) => G sp sc [] d mX12_put n 2 L (.inl x :: st) h Q | _ => False)) ∧
  (∀ (n d : Nat) (L : List (Option iV)) (st : List iV) (h : iH) (Q : Option iV → iH → Prop), G sp sc [] d mX12_put (n + 1) 2 L st h Q = G sp sc [] d mX12_put n 3 L (.inl (-1) :: st) h Q) ∧
  (∀ (n d : Nat) (L : List (Option iV)) (r : List iV) (m : Nat) (z0 : iV) (z1 : iV) (h : iH) (Q : Option iV → iH → Prop), G sp sc [] (d + 1) mX12_put (n + 1) 3 L (z1 :: z0 :: .inr (.inr (m + 2)) :: r) h Q = (match h.1[m]? with | some (.inl (ci, _)) => (match lkC 12 184 ci with | some (y1, n1, kd) => (n1 = 2 ∧ (kd = 2 ∨ kd = 3 ∨ kd = 8) ∧ cs r ≤ 8) ∧ Call sp sc d y1 [.inr (.inr (m + 2)), z0, z1] h (fun q h1 => GC sp sc [] (d + 1) mX12_put n 6 L q r h h1 Q) | none => False) | _ => False)) ∧
  (∀ (n d : Nat) (L : List (Option iV)) (r : List iV) (x : Int) (h : iH) (Q : Option iV → iH → Prop), G sp sc [] d mX12_put (n + 1) 6 L (.inl x :: r) h Q = (match st1 L 4 (.inl x) with | some L' => G sp sc [] d mX12_put n 8 L' r h Q | none => False)) ∧
  (∀ (n d : Nat) (L : List (Option iV)) (st : List iV) (h : iH) (Q : Option iV → iH → Prop), G sp sc [] d mX12_put (n + 1) 8 L st h Q = (match ld L 4 with | some (.inl x) => G sp sc [] d mX12_put n 10 L (.inl x :: st) h Q | _ => False)) ∧
  (∀ (n d : Nat) (L : List (Option iV)) (a : Int) (r : List iV) (h : iH) (Q : Option iV → iH → Prop), G sp sc [] d mX12_put (n + 1) 10 L (.inl a :: r) h Q = (inI a = true ∧ (a = 0 → G sp sc [] d mX12_put n 16 L r h Q) ∧ (¬ (a = 0) → G sp sc [] d mX12_put n 13 L r h Q))) ∧
  (∀ (n d : Nat) (L : List (Option iV)) (st : List iV) (h : iH) (Q : Option iV → iH → Prop), G sp sc [] d mX12_put (n + 1) 13 L st h Q = (match ld L 4 with | some (.inl x) => G sp sc [] d mX12_put n 15 L (.inl x :: st) h Q | _ => False)) ∧
  (∀ (n d : Nat) (L : List (Option iV)) (a : Int) (h : iH) (Q : Option iV → iH → Prop), G sp sc [] d mX12_put (n + 1) 15 L [.inl a] h Q = Q (some (.inl a)) h) ∧
  (∀ (n d : Nat) (L : List (Option iV)) (st : List iV) (h : iH) (Q : Option iV → iH → Prop), G sp sc [] d mX12_put (n + 1) 16 L st h Q = (match ld L 2 with | some (.inl x) => G sp sc [] d mX12_put n 17 L (.inl x :: st) h Q | _ => False)) ∧
  (∀ (n d : Nat) (L : List (Option iV)) (st : List iV) (h : iH) (Q : Option iV → iH → Prop), G sp sc [] d mX12_put (n + 1) 17 L st h Q = G sp sc [] d mX12_put n 18 L (.inl 0 :: st) h Q) ∧
  (∀ (n d : Nat) (L : List (Option iV)) (st : List iV) (h : iH) (Q : Option iV → iH → Prop), G sp sc [] d mX12_put (n + 1) 18 L st h Q = (match ld L 0 with | some (.inr (.inr (r + 1))) => G sp sc [] d mX12_put n 19 L (.inr (.inr (r + 1)) :: st) h Q | _ => False)) ∧
  (∀ (n d : Nat) (L : List (Option iV)) (r : List iV) (m : Nat) (h : iH) (Q : Option iV → iH → Prop), G sp sc [] d mX12_put (n + 1) 19 L (.inr (.inr (m + 2)) :: r) h Q = (match h.1[m]? with | some (.inl (ci, fs)) => (match lkF 12 61 ci with | some k => (match fs[k]? with | some v => G sp sc [] d mX12_put n 22 L (v :: r) h Q | none => False) | none => False) | _ => False)) ∧
  (∀ (n d : Nat) (L : List (Option iV)) (st : List iV) (h : iH) (Q : Option iV → iH → Prop), G sp sc [] d mX12_put (n + 1) 22 L st h Q = (match ld L 1 with | some (.inl x) => G sp sc [] d mX12_put n 23 L (.inl x :: st) h Q | _ => False)) ∧
  (∀ (n d : Nat) (L : List (Option iV)) (r : List iV) (j : Int) (m : Nat) (h : iH) (Q : Option iV → iH → Prop), G sp sc [] d mX12_put (n + 1) 23 L (.inl j :: .inr (.inr (m + 2)) :: r) h Q = (match h.1[m]? with | some (.inr (.inl (0, xs))) => inA j xs.length = true ∧ G sp sc [] d mX12_put n 24 L (.inl (xs.getD j.toNat 0) :: r) h Q | _ => False)) ∧
  (∀ (n d : Nat) (L : List (Option iV)) (st : List iV) (h : iH) (Q : Option iV → iH → Prop), G sp sc [] d mX12_put (n + 1) 24 L st h Q = G sp sc [] d mX12_put n 25 L (.inl 1 :: st) h Q) ∧
  (∀ (n d : Nat) (L : List (Option iV)) (a : Int) (b : Int) (r : List iV) (h : iH) (Q : Option iV → iH → Prop), G sp sc [] d mX12_put (n + 1) 25 L (.inl b :: .inl a :: r) h Q = G sp sc [] d mX12_put n 26 L (.inl (a - b) :: r) h Q) ∧
  (∀ (n d : Nat) (L : List (Option iV)) (r : List iV) (z0 : iV) (z1 : iV) (z2 : iV) (h : iH) (Q : Option iV → iH → Prop), G sp sc [] (d + 1) mX12_put (n + 1) 26 L (z2 :: z1 :: z0 :: r) h Q = (cs r ≤ 8 ∧ Call sp sc d mX12_isIn [z0, z1, z2] h (fun q h1 => GC sp sc [] (d + 1) mX12_put n 29 L q r h h1 Q))) ∧
  (∀ (n d : Nat) (L : List (Option iV)) (a : Int) (r : List iV) (h : iH) (Q : Option iV → iH → Prop), G sp sc [] d mX12_put (n + 1) 29 L (.inl a :: r) h Q = (inI a = true ∧ (¬ a = 0 → G sp sc [] d mX12_put n 35 L r h Q) ∧ (¬ (¬ a = 0) → G sp sc [] d mX12_put n 32 L r h Q))) ∧
  (∀ (n d : Nat) (L : List (Option iV)) (st : List iV) (h : iH) (Q : Option iV → iH → Prop), G sp sc [] d mX12_put (n + 1) 32 L st h Q = ((-128 ≤ ((-13) : Int) ∧ ((-13) : Int) < 128) ∧ G sp sc [] d mX12_put n 34 L (.inl (-13) :: st) h Q)) ∧
  (∀ (n d : Nat) (L : List (Option iV)) (a : Int) (h : iH) (Q : Option iV → iH → Prop), G sp sc [] d mX12_put (n + 1) 34 L [.inl a] h Q = Q (some (.inl a)) h) ∧
  (∀ (n d : Nat) (L : List (Option iV)) (st : List iV) (h : iH) (Q : Option iV → iH → Prop), G sp sc [] d mX12_put (n + 1) 35 L st h Q = (match ld L 0 with | some (.inr (.inr (r + 1))) => G sp sc [] d mX12_put n 36 L (.inr (.inr (r + 1)) :: st) h Q | _ => False)) ∧
  (∀ (n d : Nat) (L : List (Option iV)) (r : List iV) (m : Nat) (h : iH) (Q : Option iV → iH → Prop), G sp sc [] d mX12_put (n + 1) 36 L (.inr (.inr (m + 2)) :: r) h Q = (match h.1[m]? with | some (.inl (ci, fs)) => (match lkF 12 64 ci with | some k => (match fs[k]? with | some v => G sp sc [] d mX12_put n 39 L (v :: r) h Q | none => False) | none => False) | _ => False)) ∧
  (∀ (n d : Nat) (L : List (Option iV)) (st : List iV) (h : iH) (Q : Option iV → iH → Prop), G sp sc [] d mX12_put (n + 1) 39 L st h Q = ((-128 ≤ (100 : Int) ∧ (100 : Int) < 128) ∧ G sp sc [] d mX12_put n 41 L (.inl 100 :: st) h Q)) ∧
  (∀ (n d : Nat) (L : List (Option iV)) (st : List iV) (h : iH) (Q : Option iV → iH → Prop), G sp sc [] d mX12_put (n + 1) 41 L st h Q = (match ld L 1 with | some (.inl x) => G sp sc [] d mX12_put n 42 L (.inl x :: st) h Q | _ => False)) ∧
  (∀ (n d : Nat) (L : List (Option iV)) (a : Int) (b : Int) (r : List iV) (h : iH) (Q : Option iV → iH → Prop), G sp sc [] d mX12_put (n + 1) 42 L (.inl b :: .inl a :: r) h Q = G sp sc [] d mX12_put n 43 L (.inl (a * b) :: r) h Q) ∧
  (∀ (n d : Nat) (L : List (Option iV)) (st : List iV) (h : iH) (Q : Option iV → iH → Prop), G sp sc [] d mX12_put (n + 1) 43 L st h Q = (match ld L 2 with | some (.inl x) => G sp sc [] d mX12_put n 44 L (.inl x :: st) h Q | _ => False)) ∧
  (∀ (n d : Nat) (L : List (Option iV)) (a : Int) (b : Int) (r : List iV) (h : iH) (Q : Option iV → iH → Prop), G sp sc [] d mX12_put (n + 1) 44 L (.inl b :: .inl a :: r) h Q = G sp sc [] d mX12_put n 45 L (.inl (a + b) :: r) h Q) ∧
  (∀ (n d : Nat) (L : List (Option iV)) (st : List iV) (h : iH) (Q : Option iV → iH → Prop), G sp sc [] d mX12_put (n + 1) 45 L st h Q = (match ld L 0 with | some (.inr (.inr (r + 1))) => G sp sc [] d mX12_put n 46 L (.inr (.inr (r + 1)) :: st) h Q | _ => False)) ∧
  (∀ (n d : Nat) (L : List (Option iV)) (r : List iV) (m : Nat) (h : iH) (Q : Option iV → iH → Prop), G sp sc [] d mX12_put (n + 1) 46 L (.inr (.inr (m + 2)) :: r) h Q = (match h.1[m]? with | some (.inl (ci, fs)) => (match lkF 12 58 ci with | some k => (match fs[k]? with | some v => G sp sc [] d mX12_put n 49 L (v :: r) h Q | none => False) | none => False) | _ => False)) ∧
  (∀ (n d : Nat) (L : List (Option iV)) (st : List iV) (h : iH) (Q : Option iV → iH → Prop), G sp sc [] d mX12_put (n + 1) 49 L st h Q = (match ld L 1 with | some (.inl x) => G sp sc [] d mX12_put n 50 L (.inl x :: st) h Q | _ => False)) ∧
  (∀ (n d : Nat) (L : List (Option iV)) (r : List iV) (j : Int) (m : Nat) (h : iH) (Q : Option iV → iH → Prop), G sp sc [] d mX12_put (n + 1) 50 L (.inl j :: .inr (.inr (m + 2)) :: r) h Q = (match h.1[m]? with | some (.inr (.inl (0, xs))) => inA j xs.length = true ∧ G sp sc [] d mX12_put n 51 L (.inl (xs.getD j.toNat 0) :: r) h Q | _ => False)) ∧
  (∀ (n d : Nat) (L : List (Option iV)) (a : Int) (r : List iV) (h : iH) (Q : Option iV → iH → Prop), G sp sc [] d mX12_put (n + 1) 51 L (.inl a :: r) h Q = (inI a = true ∧ (¬ a = 0 → G sp sc [] d mX12_put n 59 L r h Q) ∧ (¬ (¬ a = 0) → G sp sc [] d mX12_put n 54 L r h Q))) ∧
  (∀ (n d : Nat) (L : List (Option iV)) (st : List iV) (h : iH) (Q : Option iV → iH → Prop), G sp sc [] d mX12_put (n + 1) 54 L st h Q = (match ld L 3 with | some (.inl x) => G sp sc [] d mX12_put n 55 L (.inl x :: st) h Q | _ => False)) ∧
  (∀ (n d : Nat) (L : List (Option iV)) (a : Int) (r : List iV) (h : iH) (Q : Option iV → iH → Prop), G sp sc [] d mX12_put (n + 1) 55 L (.inl a :: r) h Q = G sp sc [] d mX12_put n 56 L (.inl (w8 a) :: r) h Q) ∧
  (∀ (n d : Nat) (L : List (Option iV)) (st : List iV) (h : iH) (Q : Option iV → iH → Prop), G sp sc [] d mX12_put (n + 1) 56 L st h Q = G sp sc [] d mX12_put n 60 L st h Q) ∧
  (∀ (n d : Nat) (L : List (Option iV)) (st : List iV) (h : iH) (Q : Option iV → iH → Prop), G sp sc [] d mX12_put (n + 1) 59 L st h Q = (match ld L 3 with | some (.inl x) => G sp sc [] d mX12_put n 60 L (.inl x :: st) h Q | _ => False)) ∧
  (∀ (n d : Nat) (L : List (Option iV)) (r : List iV) (v : Int) (j : Int) (m : Nat) (h : iH) (Q : Option iV → iH → Prop), G sp sc [] d mX12_put (n + 1) 60 L (.inl v :: .inl j :: .inr (.inr (m + 2)) :: r) h Q = (match h.1[m]? with | some (.inr (.inl (0, xs))) => inA j xs.length = true ∧ G sp sc [] d mX12_put n 61 L r (h.1.set m (.inr (.inl (0, xs.set j.toNat v))), h.2) Q | _ => False)) ∧
  (∀ (n d : Nat) (L : List (Option iV)) (st : List iV) (h : iH) (Q : Option iV → iH → Prop), G sp sc [] d mX12_put (n + 1) 61 L st h Q = G sp sc [] d mX12_put n 62 L (.inl 0 :: st) h Q) ∧
  (∀ (n d : Nat) (L : List (Option iV)) (a : Int) (h : iH) (Q : Option iV → iH → Prop), G sp sc [] d mX12_put (n + 1) 62 L [.inl a] h Q = Q (some (.inl a)) h) ∧
  lkC 12 184 12 = some (mX12_wrongRow, 2, 2) ∧
  lkF 12 58 12 = some 29 ∧
  lkF 12 61 12 = some 30 ∧
  lkF 12 64 12 = some 31 := ⟨by intros; exact G_at (by decide +kernel : fetch mX12_put 0 = some (.aload_n 0)),
  by intros; exact G_at (by decide +kernel : fetch mX12_put 1 = some (.iload_n 1)),
  by intros; exact G_at (by decide +kernel : fetch mX12_put 2 = some (.iconst (-1))),
  by intros; exact G_callV (by decide +kernel : fetch mX12_put 3 = some (.invokevirtual 184)) (by decide +kernel) (by decide +kernel) rfl,
  by intros; exact G_at (by decide +kernel : fetch mX12_put 6 = some (.istore 4)),
  by intros; exact G_at (by decide +kernel : fetch mX12_put 8 = some (.iload 4)),
  by intros; exact G_at (by decide +kernel : fetch mX12_put 10 = some (.ifCond .eq 6)),
  by intros; exact G_at (by decide +kernel : fetch mX12_put 13 = some (.iload 4)),
  by intros; exact G_reti (by decide +kernel : fetch mX12_put 15 = some (.ireturn)) (by decide +kernel),
  by intros; exact G_at (by decide +kernel : fetch mX12_put 16 = some (.iload_n 2)),
  by intros; exact G_at (by decide +kernel : fetch mX12_put 17 = some (.iconst 0)),
  by intros; exact G_at (by decide +kernel : fetch mX12_put 18 = some (.aload_n 0)),
  by intros; exact G_own (by decide +kernel : fetch mX12_put 19 = some (.getfield 61)) (by decide +kernel),
  by intros; exact G_at (by decide +kernel : fetch mX12_put 22 = some (.iload_n 1)),
  by intros; exact G_at (by decide +kernel : fetch mX12_put 23 = some (.iaload)),
  by intros; exact G_at (by decide +kernel : fetch mX12_put 24 = some (.iconst 1)),
  by intros; exact G_at (by decide +kernel : fetch mX12_put 25 = some (.isub)),
  by intros; exact G_callS (k := 3) (kd := 0) (by decide +kernel : fetch mX12_put 26 = some (.invokestatic 67)) (by decide +kernel) (by decide +kernel) (by decide +kernel) rfl (by decide),
  by intros; exact G_at (by decide +kernel : fetch mX12_put 29 = some (.ifCond .ne 6)),
  by intros; exact G_at (by decide +kernel : fetch mX12_put 32 = some (.bipush (-13))),
  by intros; exact G_reti (by decide +kernel : fetch mX12_put 34 = some (.ireturn)) (by decide +kernel),
  by intros; exact G_at (by decide +kernel : fetch mX12_put 35 = some (.aload_n 0)),
  by intros; exact G_own (by decide +kernel : fetch mX12_put 36 = some (.getfield 64)) (by decide +kernel),
  by intros; exact G_at (by decide +kernel : fetch mX12_put 39 = some (.bipush 100)),
  by intros; exact G_at (by decide +kernel : fetch mX12_put 41 = some (.iload_n 1)),
  by intros; exact G_at (by decide +kernel : fetch mX12_put 42 = some (.imul)),
  by intros; exact G_at (by decide +kernel : fetch mX12_put 43 = some (.iload_n 2)),
  by intros; exact G_at (by decide +kernel : fetch mX12_put 44 = some (.iadd)),
  by intros; exact G_at (by decide +kernel : fetch mX12_put 45 = some (.aload_n 0)),
  by intros; exact G_own (by decide +kernel : fetch mX12_put 46 = some (.getfield 58)) (by decide +kernel),
  by intros; exact G_at (by decide +kernel : fetch mX12_put 49 = some (.iload_n 1)),
  by intros; exact G_at (by decide +kernel : fetch mX12_put 50 = some (.iaload)),
  by intros; exact G_at (by decide +kernel : fetch mX12_put 51 = some (.ifCond .ne 8)),
  by intros; exact G_at (by decide +kernel : fetch mX12_put 54 = some (.iload_n 3)),
  by intros; exact G_at (by decide +kernel : fetch mX12_put 55 = some (.i2b)),
  by intros; exact G_at (by decide +kernel : fetch mX12_put 56 = some (.goto 4)),
  by intros; exact G_at (by decide +kernel : fetch mX12_put 59 = some (.iload_n 3)),
  by intros; exact G_at (by decide +kernel : fetch mX12_put 60 = some (.iastore)),
  by intros; exact G_at (by decide +kernel : fetch mX12_put 61 = some (.iconst 0)),
  by intros; exact G_reti (by decide +kernel : fetch mX12_put 62 = some (.ireturn)) (by decide +kernel),
  by decide +kernel,
  by decide +kernel,
  by decide +kernel,
  by decide +kernel⟩
theorem gX12_element : (∀ (n d : Nat) (L : List (Option iV)) (st : List iV) (h : iH) (Q : Option iV → iH → Prop), G sp sc [] d mX12_element (n + 1) 0 L st h Q = (match ld L 0 with | some (.inr (.inr (r + 1))) => G sp sc [] d mX12_element n 1 L (.inr (.inr (r + 1)) :: st) h Q | _ => False)) ∧
  (∀ (n d : Nat) (L : List (Option iV)) (st : List iV) (h : iH) (Q : Option iV → iH → Prop), G sp sc [] d mX12_element (n + 1) 1 L st h Q = (match ld L 1 with | some (.inl x) => G sp sc [] d mX12_element n 2 L (.inl x :: st) h Q | _ => False)) ∧
  (∀ (n d : Nat) (L : List (Option iV)) (r : List iV) (z0 : iV) (h : iH) (Q : Option iV → iH → Prop), G sp sc [] (d + 1) mX12_element (n + 1) 2 L (z0 :: r) h Q = (cs r ≤ 8 ∧ Call sp sc d mX12_isShelf [z0] h (fun q h1 => GC sp sc [] (d + 1) mX12_element n 5 L q r h h1 Q))) ∧
  (∀ (n d : Nat) (L : List (Option iV)) (a : Int) (r : List iV) (h : iH) (Q : Option iV → iH → Prop), G sp sc [] d mX12_element (n + 1) 5 L (.inl a :: r) h Q = (inI a = true ∧ (¬ a = 0 → G sp sc [] d mX12_element n 12 L r h Q) ∧ (¬ (¬ a = 0) → G sp sc [] d mX12_element n 8 L r h Q))) ∧
  (∀ (n d : Nat) (L : List (Option iV)) (st : List iV) (h : iH) (Q : Option iV → iH → Prop), G sp sc [] d mX12_element (n + 1) 8 L st h Q = G sp sc [] d mX12_element n 9 L (.inl 1 :: st) h Q) ∧
  (∀ (n d : Nat) (L : List (Option iV)) (st : List iV) (h : iH) (Q : Option iV → iH → Prop), G sp sc [] d mX12_element (n + 1) 9 L st h Q = G sp sc [] d mX12_element n 43 L st h Q) ∧
  (∀ (n d : Nat) (L : List (Option iV)) (st : List iV) (h : iH) (Q : Option iV → iH → Prop), G sp sc [] d mX12_element (n + 1) 12 L st h Q = (match ld L 0 with | some (.inr (.inr (r + 1))) => G sp sc [] d mX12_element n 13 L (.inr (.inr (r + 1)) :: st) h Q | _ => False)) ∧
  (∀ (n d : Nat) (L : List (Option iV)) (r : List iV) (m : Nat) (h : iH) (Q : Option iV → iH → Prop), G sp sc [] d mX12_element (n + 1) 13 L (.inr (.inr (m + 2)) :: r) h Q = (match h.1[m]? with | some (.inl (ci, fs)) => (match lkF 12 49 ci with | some k => (match fs[k]? with | some v => G sp sc [] d mX12_element n 16 L (v :: r) h Q | none => False) | none => False) | _ => False)) ∧
  (∀ (n d : Nat) (L : List (Option iV)) (st : List iV) (h : iH) (Q : Option iV → iH → Prop), G sp sc [] d mX12_element (n + 1) 16 L st h Q = (match ld L 1 with | some (.inl x) => G sp sc [] d mX12_element n 17 L (.inl x :: st) h Q | _ => False)) ∧
  (∀ (n d : Nat) (L : List (Option iV)) (r : List iV) (j : Int) (m : Nat) (h : iH) (Q : Option iV → iH → Prop), G sp sc [] d mX12_element (n + 1) 17 L (.inl j :: .inr (.inr (m + 2)) :: r) h Q = (match h.1[m]? with | some (.inr (.inl (0, xs))) => inA j xs.length = true ∧ G sp sc [] d mX12_element n 18 L (.inl (xs.getD j.toNat 0) :: r) h Q | _ => False)) ∧
  (∀ (n d : Nat) (L : List (Option iV)) (st : List iV) (h : iH) (Q : Option iV → iH → Prop), G sp sc [] d mX12_element (n + 1) 18 L st h Q = G sp sc [] d mX12_element n 19 L (.inl 2 :: st) h Q) ∧
  (∀ (n d : Nat) (L : List (Option iV)) (a : Int) (b : Int) (r : List iV) (h : iH) (Q : Option iV → iH → Prop), G sp sc [] d mX12_element (n + 1) 19 L (.inl b :: .inl a :: r) h Q = ((inI a = true ∧ inI b = true) ∧ (¬ a = b → G sp sc [] d mX12_element n 38 L r h Q) ∧ (¬ (¬ a = b) → G sp sc [] d mX12_element n 22 L r h Q))) ∧
  (∀ (n d : Nat) (L : List (Option iV)) (st : List iV) (h : iH) (Q : Option iV → iH → Prop), G sp sc [] d mX12_element (n + 1) 22 L st h Q = (match ld L 2 with | some (.inl x) => G sp sc [] d mX12_element n 23 L (.inl x :: st) h Q | _ => False)) ∧
  (∀ (n d : Nat) (L : List (Option iV)) (st : List iV) (h : iH) (Q : Option iV → iH → Prop), G sp sc [] d mX12_element (n + 1) 23 L st h Q = G sp sc [] d mX12_element n 24 L (.inl 0 :: st) h Q) ∧
  (∀ (n d : Nat) (L : List (Option iV)) (st : List iV) (h : iH) (Q : Option iV → iH → Prop), G sp sc [] d mX12_element (n + 1) 24 L st h Q = (match ld L 0 with | some (.inr (.inr (r + 1))) => G sp sc [] d mX12_element n 25 L (.inr (.inr (r + 1)) :: st) h Q | _ => False)) ∧
  (∀ (n d : Nat) (L : List (Option iV)) (r : List iV) (m : Nat) (h : iH) (Q : Option iV → iH → Prop), G sp sc [] d mX12_element (n + 1) 25 L (.inr (.inr (m + 2)) :: r) h Q = (match h.1[m]? with | some (.inl (ci, fs)) => (match lkF 12 61 ci with | some k => (match fs[k]? with | some v => G sp sc [] d mX12_element n 28 L (v :: r) h Q | none => False) | none => False) | _ => False)) ∧
  (∀ (n d : Nat) (L : List (Option iV)) (st : List iV) (h : iH) (Q : Option iV → iH → Prop), G sp sc [] d mX12_element (n + 1) 28 L st h Q = (match ld L 1 with | some (.inl x) => G sp sc [] d mX12_element n 29 L (.inl x :: st) h Q | _ => False)) ∧
  (∀ (n d : Nat) (L : List (Option iV)) (r : List iV) (j : Int) (m : Nat) (h : iH) (Q : Option iV → iH → Prop), G sp sc [] d mX12_element (n + 1) 29 L (.inl j :: .inr (.inr (m + 2)) :: r) h Q = (match h.1[m]? with | some (.inr (.inl (0, xs))) => inA j xs.length = true ∧ G sp sc [] d mX12_element n 30 L (.inl (xs.getD j.toNat 0) :: r) h Q | _ => False)) ∧
  (∀ (n d : Nat) (L : List (Option iV)) (st : List iV) (h : iH) (Q : Option iV → iH → Prop), G sp sc [] d mX12_element (n + 1) 30 L st h Q = G sp sc [] d mX12_element n 31 L (.inl 1 :: st) h Q) ∧
  (∀ (n d : Nat) (L : List (Option iV)) (a : Int) (b : Int) (r : List iV) (h : iH) (Q : Option iV → iH → Prop), G sp sc [] d mX12_element (n + 1) 31 L (.inl b :: .inl a :: r) h Q = G sp sc [] d mX12_element n 32 L (.inl (a - b) :: r) h Q) ∧
  (∀ (n d : Nat) (L : List (Option iV)) (r : List iV) (z0 : iV) (z1 : iV) (z2 : iV) (h : iH) (Q : Option iV → iH → Prop), G sp sc [] (d + 1) mX12_element (n + 1) 32 L (z2 :: z1 :: z0 :: r) h Q = (cs r ≤ 8 ∧ Call sp sc d mX12_isIn [z0, z1, z2] h (fun q h1 => GC sp sc [] (d + 1) mX12_element n 35 L q r h h1 Q))) ∧
  (∀ (n d : Nat) (L : List (Option iV)) (a : Int) (r : List iV) (h : iH) (Q : Option iV → iH → Prop), G sp sc [] d mX12_element (n + 1) 35 L (.inl a :: r) h Q = (inI a = true ∧ (¬ a = 0 → G sp sc [] d mX12_element n 42 L r h Q) ∧ (¬ (¬ a = 0) → G sp sc [] d mX12_element n 38 L r h Q))) ∧
  (∀ (n d : Nat) (L : List (Option iV)) (st : List iV) (h : iH) (Q : Option iV → iH → Prop), G sp sc [] d mX12_element (n + 1) 38 L st h Q = G sp sc [] d mX12_element n 39 L (.inl 2 :: st) h Q) ∧
  (∀ (n d : Nat) (L : List (Option iV)) (st : List iV) (h : iH) (Q : Option iV → iH → Prop), G sp sc [] d mX12_element (n + 1) 39 L st h Q = G sp sc [] d mX12_element n 43 L st h Q) ∧
  (∀ (n d : Nat) (L : List (Option iV)) (st : List iV) (h : iH) (Q : Option iV → iH → Prop), G sp sc [] d mX12_element (n + 1) 42 L st h Q = G sp sc [] d mX12_element n 43 L (.inl 0 :: st) h Q) ∧
  (∀ (n d : Nat) (L : List (Option iV)) (r : List iV) (v : iV) (m : Nat) (h : iH) (Q : Option iV → iH → Prop), G sp sc [] d mX12_element (n + 1) 43 L (v :: .inr (.inr (m + 2)) :: r) h Q = (match h.1[m]? with | some (.inl (ci, fs)) => (match lkF 12 292 ci with | some k => (fitV (tyT ci k) v = true ∧ k < fs.length ∧ pOK 12 false ci k = true) ∧ G sp sc [] d mX12_element n 46 L r (h.1.set m (.inl (ci, fs.set k v)), h.2) Q | none => False) | _ => False)) ∧
  (∀ (n d : Nat) (L : List (Option iV)) (st : List iV) (h : iH) (Q : Option iV → iH → Prop), G sp sc [] d mX12_element (n + 1) 46 L st h Q = (match ld L 0 with | some (.inr (.inr (r + 1))) => G sp sc [] d mX12_element n 47 L (.inr (.inr (r + 1)) :: st) h Q | _ => False)) ∧
  (∀ (n d : Nat) (L : List (Option iV)) (r : List iV) (m : Nat) (h : iH) (Q : Option iV → iH → Prop), G sp sc [] d mX12_element (n + 1) 47 L (.inr (.inr (m + 2)) :: r) h Q = (match h.1[m]? with | some (.inl (ci, fs)) => (match lkF 12 292 ci with | some k => (match fs[k]? with | some v => G sp sc [] d mX12_element n 50 L (v :: r) h Q | none => False) | none => False) | _ => False)) ∧
  (∀ (n d : Nat) (L : List (Option iV)) (a : Int) (r : List iV) (h : iH) (Q : Option iV → iH → Prop), G sp sc [] d mX12_element (n + 1) 50 L (.inl a :: r) h Q = (inI a = true ∧ (¬ a = 0 → G sp sc [] d mX12_element n 68 L r h Q) ∧ (¬ (¬ a = 0) → G sp sc [] d mX12_element n 53 L r h Q))) ∧
  (∀ (n d : Nat) (L : List (Option iV)) (st : List iV) (h : iH) (Q : Option iV → iH → Prop), G sp sc [] d mX12_element (n + 1) 53 L st h Q = (match ld L 0 with | some (.inr (.inr (r + 1))) => G sp sc [] d mX12_element n 54 L (.inr (.inr (r + 1)) :: st) h Q | _ => False)) ∧
  (∀ (n d : Nat) (L : List (Option iV)) (r : List iV) (m : Nat) (h : iH) (Q : Option iV → iH → Prop), G sp sc [] d mX12_element (n + 1) 54 L (.inr (.inr (m + 2)) :: r) h Q = (match h.1[m]? with | some (.inl (ci, fs)) => (match lkF 12 64 ci with | some k => (match fs[k]? with | some v => G sp sc [] d mX12_element n 57 L (v :: r) h Q | none => False) | none => False) | _ => False)) ∧
  (∀ (n d : Nat) (L : List (Option iV)) (st : List iV) (h : iH) (Q : Option iV → iH → Prop), G sp sc [] d mX12_element (n + 1) 57 L st h Q = ((-128 ≤ (100 : Int) ∧ (100 : Int) < 128) ∧ G sp sc [] d mX12_element n 59 L (.inl 100 :: st) h Q)) ∧
  (∀ (n d : Nat) (L : List (Option iV)) (st : List iV) (h : iH) (Q : Option iV → iH → Prop), G sp sc [] d mX12_element (n + 1) 59 L st h Q = (match ld L 1 with | some (.inl x) => G sp sc [] d mX12_element n 60 L (.inl x :: st) h Q | _ => False)) ∧
  (∀ (n d : Nat) (L : List (Option iV)) (a : Int) (b : Int) (r : List iV) (h : iH) (Q : Option iV → iH → Prop), G sp sc [] d mX12_element (n + 1) 60 L (.inl b :: .inl a :: r) h Q = G sp sc [] d mX12_element n 61 L (.inl (a * b) :: r) h Q) ∧
  (∀ (n d : Nat) (L : List (Option iV)) (st : List iV) (h : iH) (Q : Option iV → iH → Prop), G sp sc [] d mX12_element (n + 1) 61 L st h Q = (match ld L 2 with | some (.inl x) => G sp sc [] d mX12_element n 62 L (.inl x :: st) h Q | _ => False)) ∧
  (∀ (n d : Nat) (L : List (Option iV)) (a : Int) (b : Int) (r : List iV) (h : iH) (Q : Option iV → iH → Prop), G sp sc [] d mX12_element (n + 1) 62 L (.inl b :: .inl a :: r) h Q = G sp sc [] d mX12_element n 63 L (.inl (a + b) :: r) h Q) ∧
  (∀ (n d : Nat) (L : List (Option iV)) (r : List iV) (j : Int) (m : Nat) (h : iH) (Q : Option iV → iH → Prop), G sp sc [] d mX12_element (n + 1) 63 L (.inl j :: .inr (.inr (m + 2)) :: r) h Q = (match h.1[m]? with | some (.inr (.inl (0, xs))) => inA j xs.length = true ∧ G sp sc [] d mX12_element n 64 L (.inl (xs.getD j.toNat 0) :: r) h Q | _ => False)) ∧
  (∀ (n d : Nat) (L : List (Option iV)) (a : Int) (r : List iV) (h : iH) (Q : Option iV → iH → Prop), G sp sc [] d mX12_element (n + 1) 64 L (.inl a :: r) h Q = (inI a = true ∧ G sp sc [] d mX12_element n 65 L (.inr (.inl a) :: r) h Q)) ∧
  (∀ (n d : Nat) (L : List (Option iV)) (st : List iV) (h : iH) (Q : Option iV → iH → Prop), G sp sc [] d mX12_element (n + 1) 65 L st h Q = G sp sc [] d mX12_element n 69 L st h Q) ∧
  (∀ (n d : Nat) (L : List (Option iV)) (st : List iV) (h : iH) (Q : Option iV → iH → Prop), G sp sc [] d mX12_element (n + 1) 68 L st h Q = G sp sc [] d mX12_element n 69 L (.inr (.inl ((0 : Fin 2).val : Int)) :: st) h Q) ∧
  (∀ (n d : Nat) (L : List (Option iV)) (a : Int) (h : iH) (Q : Option iV → iH → Prop), G sp sc [] d mX12_element (n + 1) 69 L [.inr (.inl a)] h Q = Q (some (.inr (.inl a))) h) ∧
  lkF 12 292 12 = some 32 ∧
  lkF 12 49 12 = some 26 ∧
  lkF 12 61 12 = some 30 ∧
  lkF 12 64 12 = some 31 ∧
  pOK 12 false 12 32 = true := ⟨by intros; exact G_at (by decide +kernel : fetch mX12_element 0 = some (.aload_n 0)),
  by intros; exact G_at (by decide +kernel : fetch mX12_element 1 = some (.iload_n 1)),
  by intros; exact G_callS (k := 1) (kd := 0) (by decide +kernel : fetch mX12_element 2 = some (.invokestatic 202)) (by decide +kernel) (by decide +kernel) (by decide +kernel) rfl (by decide),
  by intros; exact G_at (by decide +kernel : fetch mX12_element 5 = some (.ifCond .ne 7)),
  by intros; exact G_at (by decide +kernel : fetch mX12_element 8 = some (.iconst 1)),
  by intros; exact G_at (by decide +kernel : fetch mX12_element 9 = some (.goto 34)),
  by intros; exact G_at (by decide +kernel : fetch mX12_element 12 = some (.aload_n 0)),
  by intros; exact G_own (by decide +kernel : fetch mX12_element 13 = some (.getfield 49)) (by decide +kernel),
  by intros; exact G_at (by decide +kernel : fetch mX12_element 16 = some (.iload_n 1)),
  by intros; exact G_at (by decide +kernel : fetch mX12_element 17 = some (.iaload)),
  by intros; exact G_at (by decide +kernel : fetch mX12_element 18 = some (.iconst 2)),
  by intros; exact G_at (by decide +kernel : fetch mX12_element 19 = some (.if_icmp .ne 19)),
  by intros; exact G_at (by decide +kernel : fetch mX12_element 22 = some (.iload_n 2)),
  by intros; exact G_at (by decide +kernel : fetch mX12_element 23 = some (.iconst 0)),
  by intros; exact G_at (by decide +kernel : fetch mX12_element 24 = some (.aload_n 0)),
  by intros; exact G_own (by decide +kernel : fetch mX12_element 25 = some (.getfield 61)) (by decide +kernel),
  by intros; exact G_at (by decide +kernel : fetch mX12_element 28 = some (.iload_n 1)),
  by intros; exact G_at (by decide +kernel : fetch mX12_element 29 = some (.iaload)),
  by intros; exact G_at (by decide +kernel : fetch mX12_element 30 = some (.iconst 1)),
  by intros; exact G_at (by decide +kernel : fetch mX12_element 31 = some (.isub)),
  by intros; exact G_callS (k := 3) (kd := 0) (by decide +kernel : fetch mX12_element 32 = some (.invokestatic 67)) (by decide +kernel) (by decide +kernel) (by decide +kernel) rfl (by decide),
  by intros; exact G_at (by decide +kernel : fetch mX12_element 35 = some (.ifCond .ne 7)),
  by intros; exact G_at (by decide +kernel : fetch mX12_element 38 = some (.iconst 2)),
  by intros; exact G_at (by decide +kernel : fetch mX12_element 39 = some (.goto 4)),
  by intros; exact G_at (by decide +kernel : fetch mX12_element 42 = some (.iconst 0)),
  by intros; exact G_ownW (by decide +kernel : fetch mX12_element 43 = some (.putfield 292)) (by decide +kernel) (by decide +kernel),
  by intros; exact G_at (by decide +kernel : fetch mX12_element 46 = some (.aload_n 0)),
  by intros; exact G_own (by decide +kernel : fetch mX12_element 47 = some (.getfield 292)) (by decide +kernel),
  by intros; exact G_at (by decide +kernel : fetch mX12_element 50 = some (.ifCond .ne 18)),
  by intros; exact G_at (by decide +kernel : fetch mX12_element 53 = some (.aload_n 0)),
  by intros; exact G_own (by decide +kernel : fetch mX12_element 54 = some (.getfield 64)) (by decide +kernel),
  by intros; exact G_at (by decide +kernel : fetch mX12_element 57 = some (.bipush 100)),
  by intros; exact G_at (by decide +kernel : fetch mX12_element 59 = some (.iload_n 1)),
  by intros; exact G_at (by decide +kernel : fetch mX12_element 60 = some (.imul)),
  by intros; exact G_at (by decide +kernel : fetch mX12_element 61 = some (.iload_n 2)),
  by intros; exact G_at (by decide +kernel : fetch mX12_element 62 = some (.iadd)),
  by intros; exact G_at (by decide +kernel : fetch mX12_element 63 = some (.iaload)),
  by intros; exact G_at (by decide +kernel : fetch mX12_element 64 = some (.i2l)),
  by intros; exact G_at (by decide +kernel : fetch mX12_element 65 = some (.goto 4)),
  by intros; exact G_at (by decide +kernel : fetch mX12_element 68 = some (.lconst 0)),
  by intros; exact G_retl (by decide +kernel : fetch mX12_element 69 = some (.lreturn)) (by decide +kernel),
  by decide +kernel,
  by decide +kernel,
  by decide +kernel,
  by decide +kernel,
  by decide +kernel⟩
theorem gX12_copy : (∀ (n d : Nat) (L : List (Option iV)) (st : List iV) (h : iH) (Q : Option iV → iH → Prop), G sp sc [122] d mX12_copy (n + 1) 0 L st h Q = (match ld L 1 with | some (.inl x) => G sp sc [122] d mX12_copy n 1 L (.inl x :: st) h Q | _ => False)) ∧
  (∀ (n d : Nat) (L : List (Option iV)) (r : List iV) (z0 : iV) (h : iH) (Q : Option iV → iH → Prop), G sp sc [122] (d + 1) mX12_copy (n + 1) 1 L (z0 :: r) h Q = (cs r ≤ 8 ∧ Call sp sc d mX12_isShelf [z0] h (fun q h1 => GC sp sc [122] (d + 1) mX12_copy n 4 L q r h h1 Q))) ∧
  (∀ (n d : Nat) (L : List (Option iV)) (a : Int) (r : List iV) (h : iH) (Q : Option iV → iH → Prop), G sp sc [122] d mX12_copy (n + 1) 4 L (.inl a :: r) h Q = (inI a = true ∧ (a = 0 → G sp sc [122] d mX12_copy n 14 L r h Q) ∧ (¬ (a = 0) → G sp sc [122] d mX12_copy n 7 L r h Q))) ∧
  (∀ (n d : Nat) (L : List (Option iV)) (st : List iV) (h : iH) (Q : Option iV → iH → Prop), G sp sc [122] d mX12_copy (n + 1) 7 L st h Q = (match ld L 3 with | some (.inl x) => G sp sc [122] d mX12_copy n 8 L (.inl x :: st) h Q | _ => False)) ∧
  (∀ (n d : Nat) (L : List (Option iV)) (r : List iV) (z0 : iV) (h : iH) (Q : Option iV → iH → Prop), G sp sc [122] (d + 1) mX12_copy (n + 1) 8 L (z0 :: r) h Q = (cs r ≤ 8 ∧ Call sp sc d mX12_isShelf [z0] h (fun q h1 => GC sp sc [122] (d + 1) mX12_copy n 11 L q r h h1 Q))) ∧
  (∀ (n d : Nat) (L : List (Option iV)) (a : Int) (r : List iV) (h : iH) (Q : Option iV → iH → Prop), G sp sc [122] d mX12_copy (n + 1) 11 L (.inl a :: r) h Q = (inI a = true ∧ (¬ a = 0 → G sp sc [122] d mX12_copy n 16 L r h Q) ∧ (¬ (¬ a = 0) → G sp sc [122] d mX12_copy n 14 L r h Q))) ∧
  (∀ (n d : Nat) (L : List (Option iV)) (st : List iV) (h : iH) (Q : Option iV → iH → Prop), G sp sc [122] d mX12_copy (n + 1) 14 L st h Q = G sp sc [122] d mX12_copy n 15 L (.inl (-1) :: st) h Q) ∧
  (∀ (n d : Nat) (L : List (Option iV)) (a : Int) (h : iH) (Q : Option iV → iH → Prop), G sp sc [122] d mX12_copy (n + 1) 15 L [.inl a] h Q = Q (some (.inl a)) h) ∧
  (∀ (n d : Nat) (L : List (Option iV)) (st : List iV) (h : iH) (Q : Option iV → iH → Prop), G sp sc [122] d mX12_copy (n + 1) 16 L st h Q = (match ld L 0 with | some (.inr (.inr (r + 1))) => G sp sc [122] d mX12_copy n 17 L (.inr (.inr (r + 1)) :: st) h Q | _ => False)) ∧
  (∀ (n d : Nat) (L : List (Option iV)) (r : List iV) (m : Nat) (h : iH) (Q : Option iV → iH → Prop), G sp sc [122] d mX12_copy (n + 1) 17 L (.inr (.inr (m + 2)) :: r) h Q = (match h.1[m]? with | some (.inl (ci, fs)) => (match lkF 12 49 ci with | some k => (match fs[k]? with | some v => G sp sc [122] d mX12_copy n 20 L (v :: r) h Q | none => False) | none => False) | _ => False)) ∧
  (∀ (n d : Nat) (L : List (Option iV)) (st : List iV) (h : iH) (Q : Option iV → iH → Prop), G sp sc [122] d mX12_copy (n + 1) 20 L st h Q = (match ld L 1 with | some (.inl x) => G sp sc [122] d mX12_copy n 21 L (.inl x :: st) h Q | _ => False)) ∧
  (∀ (n d : Nat) (L : List (Option iV)) (r : List iV) (j : Int) (m : Nat) (h : iH) (Q : Option iV → iH → Prop), G sp sc [122] d mX12_copy (n + 1) 21 L (.inl j :: .inr (.inr (m + 2)) :: r) h Q = (match h.1[m]? with | some (.inr (.inl (0, xs))) => inA j xs.length = true ∧ G sp sc [122] d mX12_copy n 22 L (.inl (xs.getD j.toNat 0) :: r) h Q | _ => False)) ∧
  (∀ (n d : Nat) (L : List (Option iV)) (a : Int) (r : List iV) (h : iH) (Q : Option iV → iH → Prop), G sp sc [122] d mX12_copy (n + 1) 22 L (.inl a :: r) h Q = (inI a = true ∧ (a = 0 → G sp sc [122] d mX12_copy n 34 L r h Q) ∧ (¬ (a = 0) → G sp sc [122] d mX12_copy n 25 L r h Q))) ∧
  (∀ (n d : Nat) (L : List (Option iV)) (st : List iV) (h : iH) (Q : Option iV → iH → Prop), G sp sc [122] d mX12_copy (n + 1) 25 L st h Q = (match ld L 0 with | some (.inr (.inr (r + 1))) => G sp sc [122] d mX12_copy n 26 L (.inr (.inr (r + 1)) :: st) h Q | _ => False)) ∧
  (∀ (n d : Nat) (L : List (Option iV)) (r : List iV) (m : Nat) (h : iH) (Q : Option iV → iH → Prop), G sp sc [122] d mX12_copy (n + 1) 26 L (.inr (.inr (m + 2)) :: r) h Q = (match h.1[m]? with | some (.inl (ci, fs)) => (match lkF 12 49 ci with | some k => (match fs[k]? with | some v => G sp sc [122] d mX12_copy n 29 L (v :: r) h Q | none => False) | none => False) | _ => False)) ∧
  (∀ (n d : Nat) (L : List (Option iV)) (st : List iV) (h : iH) (Q : Option iV → iH → Prop), G sp sc [122] d mX12_copy (n + 1) 29 L st h Q = (match ld L 3 with | some (.inl x) => G sp sc [122] d mX12_copy n 30 L (.inl x :: st) h Q | _ => False)) ∧
  (∀ (n d : Nat) (L : List (Option iV)) (r : List iV) (j : Int) (m : Nat) (h : iH) (Q : Option iV → iH → Prop), G sp sc [122] d mX12_copy (n + 1) 30 L (.inl j :: .inr (.inr (m + 2)) :: r) h Q = (match h.1[m]? with | some (.inr (.inl (0, xs))) => inA j xs.length = true ∧ G sp sc [122] d mX12_copy n 31 L (.inl (xs.getD j.toNat 0) :: r) h Q | _ => False)) ∧
  (∀ (n d : Nat) (L : List (Option iV)) (a : Int) (r : List iV) (h : iH) (Q : Option iV → iH → Prop), G sp sc [122] d mX12_copy (n + 1) 31 L (.inl a :: r) h Q = (inI a = true ∧ (¬ a = 0 → G sp sc [122] d mX12_copy n 37 L r h Q) ∧ (¬ (¬ a = 0) → G sp sc [122] d mX12_copy n 34 L r h Q))) ∧
  (∀ (n d : Nat) (L : List (Option iV)) (st : List iV) (h : iH) (Q : Option iV → iH → Prop), G sp sc [122] d mX12_copy (n + 1) 34 L st h Q = ((-128 ≤ ((-11) : Int) ∧ ((-11) : Int) < 128) ∧ G sp sc [122] d mX12_copy n 36 L (.inl (-11) :: st) h Q)) ∧
  (∀ (n d : Nat) (L : List (Option iV)) (a : Int) (h : iH) (Q : Option iV → iH → Prop), G sp sc [122] d mX12_copy (n + 1) 36 L [.inl a] h Q = Q (some (.inl a)) h) ∧
  (∀ (n d : Nat) (L : List (Option iV)) (st : List iV) (h : iH) (Q : Option iV → iH → Prop), G sp sc [122] d mX12_copy (n + 1) 37 L st h Q = (match ld L 0 with | some (.inr (.inr (r + 1))) => G sp sc [122] d mX12_copy n 38 L (.inr (.inr (r + 1)) :: st) h Q | _ => False)) ∧
  (∀ (n d : Nat) (L : List (Option iV)) (r : List iV) (m : Nat) (h : iH) (Q : Option iV → iH → Prop), G sp sc [122] d mX12_copy (n + 1) 38 L (.inr (.inr (m + 2)) :: r) h Q = (match h.1[m]? with | some (.inl (ci, fs)) => (match lkF 12 49 ci with | some k => (match fs[k]? with | some v => G sp sc [122] d mX12_copy n 41 L (v :: r) h Q | none => False) | none => False) | _ => False)) ∧
  (∀ (n d : Nat) (L : List (Option iV)) (st : List iV) (h : iH) (Q : Option iV → iH → Prop), G sp sc [122] d mX12_copy (n + 1) 41 L st h Q = (match ld L 1 with | some (.inl x) => G sp sc [122] d mX12_copy n 42 L (.inl x :: st) h Q | _ => False)) ∧
  (∀ (n d : Nat) (L : List (Option iV)) (r : List iV) (j : Int) (m : Nat) (h : iH) (Q : Option iV → iH → Prop), G sp sc [122] d mX12_copy (n + 1) 42 L (.inl j :: .inr (.inr (m + 2)) :: r) h Q = (match h.1[m]? with | some (.inr (.inl (0, xs))) => inA j xs.length = true ∧ G sp sc [122] d mX12_copy n 43 L (.inl (xs.getD j.toNat 0) :: r) h Q | _ => False)) ∧
  (∀ (n d : Nat) (L : List (Option iV)) (st : List iV) (h : iH) (Q : Option iV → iH → Prop), G sp sc [122] d mX12_copy (n + 1) 43 L st h Q = G sp sc [122] d mX12_copy n 44 L (.inl 2 :: st) h Q) ∧
  (∀ (n d : Nat) (L : List (Option iV)) (a : Int) (b : Int) (r : List iV) (h : iH) (Q : Option iV → iH → Prop), G sp sc [122] d mX12_copy (n + 1) 44 L (.inl b :: .inl a :: r) h Q = ((inI a = true ∧ inI b = true) ∧ (¬ a = b → G sp sc [122] d mX12_copy n 72 L r h Q) ∧ (¬ (¬ a = b) → G sp sc [122] d mX12_copy n 47 L r h Q))) ∧
  (∀ (n d : Nat) (L : List (Option iV)) (st : List iV) (h : iH) (Q : Option iV → iH → Prop), G sp sc [122] d mX12_copy (n + 1) 47 L st h Q = (match ld L 0 with | some (.inr (.inr (r + 1))) => G sp sc [122] d mX12_copy n 48 L (.inr (.inr (r + 1)) :: st) h Q | _ => False)) ∧
  (∀ (n d : Nat) (L : List (Option iV)) (r : List iV) (m : Nat) (h : iH) (Q : Option iV → iH → Prop), G sp sc [122] d mX12_copy (n + 1) 48 L (.inr (.inr (m + 2)) :: r) h Q = (match h.1[m]? with | some (.inl (ci, fs)) => (match lkF 12 49 ci with | some k => (match fs[k]? with | some v => G sp sc [122] d mX12_copy n 51 L (v :: r) h Q | none => False) | none => False) | _ => False)) ∧
  (∀ (n d : Nat) (L : List (Option iV)) (st : List iV) (h : iH) (Q : Option iV → iH → Prop), G sp sc [122] d mX12_copy (n + 1) 51 L st h Q = (match ld L 3 with | some (.inl x) => G sp sc [122] d mX12_copy n 52 L (.inl x :: st) h Q | _ => False)) ∧
  (∀ (n d : Nat) (L : List (Option iV)) (r : List iV) (j : Int) (m : Nat) (h : iH) (Q : Option iV → iH → Prop), G sp sc [122] d mX12_copy (n + 1) 52 L (.inl j :: .inr (.inr (m + 2)) :: r) h Q = (match h.1[m]? with | some (.inr (.inl (0, xs))) => inA j xs.length = true ∧ G sp sc [122] d mX12_copy n 53 L (.inl (xs.getD j.toNat 0) :: r) h Q | _ => False)) ∧
  (∀ (n d : Nat) (L : List (Option iV)) (st : List iV) (h : iH) (Q : Option iV → iH → Prop), G sp sc [122] d mX12_copy (n + 1) 53 L st h Q = G sp sc [122] d mX12_copy n 54 L (.inl 2 :: st) h Q) ∧
  (∀ (n d : Nat) (L : List (Option iV)) (a : Int) (b : Int) (r : List iV) (h : iH) (Q : Option iV → iH → Prop), G sp sc [122] d mX12_copy (n + 1) 54 L (.inl b :: .inl a :: r) h Q = ((inI a = true ∧ inI b = true) ∧ (¬ a = b → G sp sc [122] d mX12_copy n 72 L r h Q) ∧ (¬ (¬ a = b) → G sp sc [122] d mX12_copy n 57 L r h Q))) ∧
  (∀ (n d : Nat) (L : List (Option iV)) (st : List iV) (h : iH) (Q : Option iV → iH → Prop), G sp sc [122] d mX12_copy (n + 1) 57 L st h Q = (match ld L 0 with | some (.inr (.inr (r + 1))) => G sp sc [122] d mX12_copy n 58 L (.inr (.inr (r + 1)) :: st) h Q | _ => False)) ∧
  (∀ (n d : Nat) (L : List (Option iV)) (r : List iV) (m : Nat) (h : iH) (Q : Option iV → iH → Prop), G sp sc [122] d mX12_copy (n + 1) 58 L (.inr (.inr (m + 2)) :: r) h Q = (match h.1[m]? with | some (.inl (ci, fs)) => (match lkF 12 58 ci with | some k => (match fs[k]? with | some v => G sp sc [122] d mX12_copy n 61 L (v :: r) h Q | none => False) | none => False) | _ => False)) ∧
  (∀ (n d : Nat) (L : List (Option iV)) (st : List iV) (h : iH) (Q : Option iV → iH → Prop), G sp sc [122] d mX12_copy (n + 1) 61 L st h Q = (match ld L 1 with | some (.inl x) => G sp sc [122] d mX12_copy n 62 L (.inl x :: st) h Q | _ => False)) ∧
  (∀ (n d : Nat) (L : List (Option iV)) (r : List iV) (j : Int) (m : Nat) (h : iH) (Q : Option iV → iH → Prop), G sp sc [122] d mX12_copy (n + 1) 62 L (.inl j :: .inr (.inr (m + 2)) :: r) h Q = (match h.1[m]? with | some (.inr (.inl (0, xs))) => inA j xs.length = true ∧ G sp sc [122] d mX12_copy n 63 L (.inl (xs.getD j.toNat 0) :: r) h Q | _ => False)) ∧
  (∀ (n d : Nat) (L : List (Option iV)) (st : List iV) (h : iH) (Q : Option iV → iH → Prop), G sp sc [122] d mX12_copy (n + 1) 63 L st h Q = (match ld L 0 with | some (.inr (.inr (r + 1))) => G sp sc [122] d mX12_copy n 64 L (.inr (.inr (r + 1)) :: st) h Q | _ => False)) ∧
  (∀ (n d : Nat) (L : List (Option iV)) (r : List iV) (m : Nat) (h : iH) (Q : Option iV → iH → Prop), G sp sc [122] d mX12_copy (n + 1) 64 L (.inr (.inr (m + 2)) :: r) h Q = (match h.1[m]? with | some (.inl (ci, fs)) => (match lkF 12 58 ci with | some k => (match fs[k]? with | some v => G sp sc [122] d mX12_copy n 67 L (v :: r) h Q | none => False) | none => False) | _ => False)) ∧
  (∀ (n d : Nat) (L : List (Option iV)) (st : List iV) (h : iH) (Q : Option iV → iH → Prop), G sp sc [122] d mX12_copy (n + 1) 67 L st h Q = (match ld L 3 with | some (.inl x) => G sp sc [122] d mX12_copy n 68 L (.inl x :: st) h Q | _ => False)) ∧
  (∀ (n d : Nat) (L : List (Option iV)) (r : List iV) (j : Int) (m : Nat) (h : iH) (Q : Option iV → iH → Prop), G sp sc [122] d mX12_copy (n + 1) 68 L (.inl j :: .inr (.inr (m + 2)) :: r) h Q = (match h.1[m]? with | some (.inr (.inl (0, xs))) => inA j xs.length = true ∧ G sp sc [122] d mX12_copy n 69 L (.inl (xs.getD j.toNat 0) :: r) h Q | _ => False)) ∧
  (∀ (n d : Nat) (L : List (Option iV)) (a : Int) (b : Int) (r : List iV) (h : iH) (Q : Option iV → iH → Prop), G sp sc [122] d mX12_copy (n + 1) 69 L (.inl b :: .inl a :: r) h Q = ((inI a = true ∧ inI b = true) ∧ (a = b → G sp sc [122] d mX12_copy n 75 L r h Q) ∧ (¬ (a = b) → G sp sc [122] d mX12_copy n 72 L r h Q))) ∧
  (∀ (n d : Nat) (L : List (Option iV)) (st : List iV) (h : iH) (Q : Option iV → iH → Prop), G sp sc [122] d mX12_copy (n + 1) 72 L st h Q = ((-128 ≤ ((-12) : Int) ∧ ((-12) : Int) < 128) ∧ G sp sc [122] d mX12_copy n 74 L (.inl (-12) :: st) h Q)) ∧
  (∀ (n d : Nat) (L : List (Option iV)) (a : Int) (h : iH) (Q : Option iV → iH → Prop), G sp sc [122] d mX12_copy (n + 1) 74 L [.inl a] h Q = Q (some (.inl a)) h) ∧
  (∀ (n d : Nat) (L : List (Option iV)) (st : List iV) (h : iH) (Q : Option iV → iH → Prop), G sp sc [122] d mX12_copy (n + 1) 75 L st h Q = (match ld L 5 with | some (.inl x) => G sp sc [122] d mX12_copy n 77 L (.inl x :: st) h Q | _ => False)) ∧
  (∀ (n d : Nat) (L : List (Option iV)) (a : Int) (r : List iV) (h : iH) (Q : Option iV → iH → Prop), G sp sc [122] d mX12_copy (n + 1) 77 L (.inl a :: r) h Q = (inI a = true ∧ (a < 0 → G sp sc [122] d mX12_copy n 116 L r h Q) ∧ (¬ (a < 0) → G sp sc [122] d mX12_copy n 80 L r h Q))) ∧
  (∀ (n d : Nat) (L : List (Option iV)) (st : List iV) (h : iH) (Q : Option iV → iH → Prop), G sp sc [122] d mX12_copy (n + 1) 80 L st h Q = (match ld L 2 with | some (.inl x) => G sp sc [122] d mX12_copy n 81 L (.inl x :: st) h Q | _ => False)) ∧
  (∀ (n d : Nat) (L : List (Option iV)) (a : Int) (r : List iV) (h : iH) (Q : Option iV → iH → Prop), G sp sc [122] d mX12_copy (n + 1) 81 L (.inl a :: r) h Q = (inI a = true ∧ (a < 0 → G sp sc [122] d mX12_copy n 116 L r h Q) ∧ (¬ (a < 0) → G sp sc [122] d mX12_copy n 84 L r h Q))) ∧
  (∀ (n d : Nat) (L : List (Option iV)) (st : List iV) (h : iH) (Q : Option iV → iH → Prop), G sp sc [122] d mX12_copy (n + 1) 84 L st h Q = (match ld L 4 with | some (.inl x) => G sp sc [122] d mX12_copy n 86 L (.inl x :: st) h Q | _ => False)) ∧
  (∀ (n d : Nat) (L : List (Option iV)) (a : Int) (r : List iV) (h : iH) (Q : Option iV → iH → Prop), G sp sc [122] d mX12_copy (n + 1) 86 L (.inl a :: r) h Q = (inI a = true ∧ (a < 0 → G sp sc [122] d mX12_copy n 116 L r h Q) ∧ (¬ (a < 0) → G sp sc [122] d mX12_copy n 89 L r h Q))) ∧
  (∀ (n d : Nat) (L : List (Option iV)) (st : List iV) (h : iH) (Q : Option iV → iH → Prop), G sp sc [122] d mX12_copy (n + 1) 89 L st h Q = (match ld L 5 with | some (.inl x) => G sp sc [122] d mX12_copy n 91 L (.inl x :: st) h Q | _ => False)) ∧
  (∀ (n d : Nat) (L : List (Option iV)) (st : List iV) (h : iH) (Q : Option iV → iH → Prop), G sp sc [122] d mX12_copy (n + 1) 91 L st h Q = (match ld L 0 with | some (.inr (.inr (r + 1))) => G sp sc [122] d mX12_copy n 92 L (.inr (.inr (r + 1)) :: st) h Q | _ => False)) ∧
  (∀ (n d : Nat) (L : List (Option iV)) (r : List iV) (m : Nat) (h : iH) (Q : Option iV → iH → Prop), G sp sc [122] d mX12_copy (n + 1) 92 L (.inr (.inr (m + 2)) :: r) h Q = (match h.1[m]? with | some (.inl (ci, fs)) => (match lkF 12 61 ci with | some k => (match fs[k]? with | some v => G sp sc [122] d mX12_copy n 95 L (v :: r) h Q | none => False) | none => False) | _ => False)) ∧
  (∀ (n d : Nat) (L : List (Option iV)) (st : List iV) (h : iH) (Q : Option iV → iH → Prop), G sp sc [122] d mX12_copy (n + 1) 95 L st h Q = (match ld L 1 with | some (.inl x) => G sp sc [122] d mX12_copy n 96 L (.inl x :: st) h Q | _ => False)) ∧
  (∀ (n d : Nat) (L : List (Option iV)) (r : List iV) (j : Int) (m : Nat) (h : iH) (Q : Option iV → iH → Prop), G sp sc [122] d mX12_copy (n + 1) 96 L (.inl j :: .inr (.inr (m + 2)) :: r) h Q = (match h.1[m]? with | some (.inr (.inl (0, xs))) => inA j xs.length = true ∧ G sp sc [122] d mX12_copy n 97 L (.inl (xs.getD j.toNat 0) :: r) h Q | _ => False)) ∧
  (∀ (n d : Nat) (L : List (Option iV)) (st : List iV) (h : iH) (Q : Option iV → iH → Prop), G sp sc [122] d mX12_copy (n + 1) 97 L st h Q = (match ld L 2 with | some (.inl x) => G sp sc [122] d mX12_copy n 98 L (.inl x :: st) h Q | _ => False)) ∧
  (∀ (n d : Nat) (L : List (Option iV)) (a : Int) (b : Int) (r : List iV) (h : iH) (Q : Option iV → iH → Prop), G sp sc [122] d mX12_copy (n + 1) 98 L (.inl b :: .inl a :: r) h Q = G sp sc [122] d mX12_copy n 99 L (.inl (a - b) :: r) h Q) ∧
  (∀ (n d : Nat) (L : List (Option iV)) (a : Int) (b : Int) (r : List iV) (h : iH) (Q : Option iV → iH → Prop), G sp sc [122] d mX12_copy (n + 1) 99 L (.inl b :: .inl a :: r) h Q = ((inI a = true ∧ inI b = true) ∧ (b < a → G sp sc [122] d mX12_copy n 116 L r h Q) ∧ (¬ (b < a) → G sp sc [122] d mX12_copy n 102 L r h Q))) ∧
  (∀ (n d : Nat) (L : List (Option iV)) (st : List iV) (h : iH) (Q : Option iV → iH → Prop), G sp sc [122] d mX12_copy (n + 1) 102 L st h Q = (match ld L 5 with | some (.inl x) => G sp sc [122] d mX12_copy n 104 L (.inl x :: st) h Q | _ => False)) ∧
  (∀ (n d : Nat) (L : List (Option iV)) (st : List iV) (h : iH) (Q : Option iV → iH → Prop), G sp sc [122] d mX12_copy (n + 1) 104 L st h Q = (match ld L 0 with | some (.inr (.inr (r + 1))) => G sp sc [122] d mX12_copy n 105 L (.inr (.inr (r + 1)) :: st) h Q | _ => False)) ∧
  (∀ (n d : Nat) (L : List (Option iV)) (r : List iV) (m : Nat) (h : iH) (Q : Option iV → iH → Prop), G sp sc [122] d mX12_copy (n + 1) 105 L (.inr (.inr (m + 2)) :: r) h Q = (match h.1[m]? with | some (.inl (ci, fs)) => (match lkF 12 61 ci with | some k => (match fs[k]? with | some v => G sp sc [122] d mX12_copy n 108 L (v :: r) h Q | none => False) | none => False) | _ => False)) ∧
  (∀ (n d : Nat) (L : List (Option iV)) (st : List iV) (h : iH) (Q : Option iV → iH → Prop), G sp sc [122] d mX12_copy (n + 1) 108 L st h Q = (match ld L 3 with | some (.inl x) => G sp sc [122] d mX12_copy n 109 L (.inl x :: st) h Q | _ => False)) ∧
  (∀ (n d : Nat) (L : List (Option iV)) (r : List iV) (j : Int) (m : Nat) (h : iH) (Q : Option iV → iH → Prop), G sp sc [122] d mX12_copy (n + 1) 109 L (.inl j :: .inr (.inr (m + 2)) :: r) h Q = (match h.1[m]? with | some (.inr (.inl (0, xs))) => inA j xs.length = true ∧ G sp sc [122] d mX12_copy n 110 L (.inl (xs.getD j.toNat 0) :: r) h Q | _ => False)) ∧
  (∀ (n d : Nat) (L : List (Option iV)) (st : List iV) (h : iH) (Q : Option iV → iH → Prop), G sp sc [122] d mX12_copy (n + 1) 110 L st h Q = (match ld L 4 with | some (.inl x) => G sp sc [122] d mX12_copy n 112 L (.inl x :: st) h Q | _ => False)) ∧
  (∀ (n d : Nat) (L : List (Option iV)) (a : Int) (b : Int) (r : List iV) (h : iH) (Q : Option iV → iH → Prop), G sp sc [122] d mX12_copy (n + 1) 112 L (.inl b :: .inl a :: r) h Q = G sp sc [122] d mX12_copy n 113 L (.inl (a - b) :: r) h Q) ∧
  (∀ (n d : Nat) (L : List (Option iV)) (a : Int) (b : Int) (r : List iV) (h : iH) (Q : Option iV → iH → Prop), G sp sc [122] d mX12_copy (n + 1) 113 L (.inl b :: .inl a :: r) h Q = ((inI a = true ∧ inI b = true) ∧ (a ≤ b → G sp sc [122] d mX12_copy n 119 L r h Q) ∧ (¬ (a ≤ b) → G sp sc [122] d mX12_copy n 116 L r h Q))) ∧
  (∀ (n d : Nat) (L : List (Option iV)) (st : List iV) (h : iH) (Q : Option iV → iH → Prop), G sp sc [122] d mX12_copy (n + 1) 116 L st h Q = ((-128 ≤ ((-13) : Int) ∧ ((-13) : Int) < 128) ∧ G sp sc [122] d mX12_copy n 118 L (.inl (-13) :: st) h Q)) ∧
  (∀ (n d : Nat) (L : List (Option iV)) (a : Int) (h : iH) (Q : Option iV → iH → Prop), G sp sc [122] d mX12_copy (n + 1) 118 L [.inl a] h Q = Q (some (.inl a)) h) ∧
  (∀ (n d : Nat) (L : List (Option iV)) (st : List iV) (h : iH) (Q : Option iV → iH → Prop), G sp sc [122] d mX12_copy (n + 1) 119 L st h Q = G sp sc [122] d mX12_copy n 120 L (.inl 0 :: st) h Q) ∧
  (∀ (n d : Nat) (L : List (Option iV)) (r : List iV) (x : Int) (h : iH) (Q : Option iV → iH → Prop), G sp sc [122] d mX12_copy (n + 1) 120 L (.inl x :: r) h Q = (match st1 L 6 (.inl x) with | some L' => Run sp sc d mX12_copy 122 L' r h Q | none => False)) ∧
  (∀ (n d : Nat) (L : List (Option iV)) (st : List iV) (h : iH) (Q : Option iV → iH → Prop), G sp sc [122] d mX12_copy (n + 1) 122 L st h Q = (match ld L 6 with | some (.inl x) => G sp sc [122] d mX12_copy n 124 L (.inl x :: st) h Q | _ => False)) ∧
  (∀ (n d : Nat) (L : List (Option iV)) (st : List iV) (h : iH) (Q : Option iV → iH → Prop), G sp sc [122] d mX12_copy (n + 1) 124 L st h Q = (match ld L 5 with | some (.inl x) => G sp sc [122] d mX12_copy n 126 L (.inl x :: st) h Q | _ => False)) ∧
  (∀ (n d : Nat) (L : List (Option iV)) (a : Int) (b : Int) (r : List iV) (h : iH) (Q : Option iV → iH → Prop), G sp sc [122] d mX12_copy (n + 1) 126 L (.inl b :: .inl a :: r) h Q = ((inI a = true ∧ inI b = true) ∧ (b ≤ a → G sp sc [122] d mX12_copy n 184 L r h Q) ∧ (¬ (b ≤ a) → G sp sc [122] d mX12_copy n 129 L r h Q))) ∧
  (∀ (n d : Nat) (L : List (Option iV)) (st : List iV) (h : iH) (Q : Option iV → iH → Prop), G sp sc [122] d mX12_copy (n + 1) 129 L st h Q = (match ld L 2 with | some (.inl x) => G sp sc [122] d mX12_copy n 130 L (.inl x :: st) h Q | _ => False)) ∧
  (∀ (n d : Nat) (L : List (Option iV)) (st : List iV) (h : iH) (Q : Option iV → iH → Prop), G sp sc [122] d mX12_copy (n + 1) 130 L st h Q = (match ld L 4 with | some (.inl x) => G sp sc [122] d mX12_copy n 132 L (.inl x :: st) h Q | _ => False)) ∧
  (∀ (n d : Nat) (L : List (Option iV)) (a : Int) (b : Int) (r : List iV) (h : iH) (Q : Option iV → iH → Prop), G sp sc [122] d mX12_copy (n + 1) 132 L (.inl b :: .inl a :: r) h Q = ((inI a = true ∧ inI b = true) ∧ (a ≤ b → G sp sc [122] d mX12_copy n 140 L r h Q) ∧ (¬ (a ≤ b) → G sp sc [122] d mX12_copy n 135 L r h Q))) ∧
  (∀ (n d : Nat) (L : List (Option iV)) (st : List iV) (h : iH) (Q : Option iV → iH → Prop), G sp sc [122] d mX12_copy (n + 1) 135 L st h Q = (match ld L 6 with | some (.inl x) => G sp sc [122] d mX12_copy n 137 L (.inl x :: st) h Q | _ => False)) ∧
  (∀ (n d : Nat) (L : List (Option iV)) (st : List iV) (h : iH) (Q : Option iV → iH → Prop), G sp sc [122] d mX12_copy (n + 1) 137 L st h Q = G sp sc [122] d mX12_copy n 147 L st h Q) ∧
  (∀ (n d : Nat) (L : List (Option iV)) (st : List iV) (h : iH) (Q : Option iV → iH → Prop), G sp sc [122] d mX12_copy (n + 1) 140 L st h Q = (match ld L 5 with | some (.inl x) => G sp sc [122] d mX12_copy n 142 L (.inl x :: st) h Q | _ => False)) ∧
  (∀ (n d : Nat) (L : List (Option iV)) (st : List iV) (h : iH) (Q : Option iV → iH → Prop), G sp sc [122] d mX12_copy (n + 1) 142 L st h Q = G sp sc [122] d mX12_copy n 143 L (.inl 1 :: st) h Q) ∧
  (∀ (n d : Nat) (L : List (Option iV)) (a : Int) (b : Int) (r : List iV) (h : iH) (Q : Option iV → iH → Prop), G sp sc [122] d mX12_copy (n + 1) 143 L (.inl b :: .inl a :: r) h Q = G sp sc [122] d mX12_copy n 144 L (.inl (a - b) :: r) h Q) ∧
  (∀ (n d : Nat) (L : List (Option iV)) (st : List iV) (h : iH) (Q : Option iV → iH → Prop), G sp sc [122] d mX12_copy (n + 1) 144 L st h Q = (match ld L 6 with | some (.inl x) => G sp sc [122] d mX12_copy n 146 L (.inl x :: st) h Q | _ => False)) ∧
  (∀ (n d : Nat) (L : List (Option iV)) (a : Int) (b : Int) (r : List iV) (h : iH) (Q : Option iV → iH → Prop), G sp sc [122] d mX12_copy (n + 1) 146 L (.inl b :: .inl a :: r) h Q = G sp sc [122] d mX12_copy n 147 L (.inl (a - b) :: r) h Q) ∧
  (∀ (n d : Nat) (L : List (Option iV)) (r : List iV) (x : Int) (h : iH) (Q : Option iV → iH → Prop), G sp sc [122] d mX12_copy (n + 1) 147 L (.inl x :: r) h Q = (match st1 L 7 (.inl x) with | some L' => G sp sc [122] d mX12_copy n 149 L' r h Q | none => False)) ∧
  (∀ (n d : Nat) (L : List (Option iV)) (st : List iV) (h : iH) (Q : Option iV → iH → Prop), G sp sc [122] d mX12_copy (n + 1) 149 L st h Q = (match ld L 0 with | some (.inr (.inr (r + 1))) => G sp sc [122] d mX12_copy n 150 L (.inr (.inr (r + 1)) :: st) h Q | _ => False)) ∧
  (∀ (n d : Nat) (L : List (Option iV)) (r : List iV) (m : Nat) (h : iH) (Q : Option iV → iH → Prop), G sp sc [122] d mX12_copy (n + 1) 150 L (.inr (.inr (m + 2)) :: r) h Q = (match h.1[m]? with | some (.inl (ci, fs)) => (match lkF 12 64 ci with | some k => (match fs[k]? with | some v => G sp sc [122] d mX12_copy n 153 L (v :: r) h Q | none => False) | none => False) | _ => False)) ∧
  (∀ (n d : Nat) (L : List (Option iV)) (st : List iV) (h : iH) (Q : Option iV → iH → Prop), G sp sc [122] d mX12_copy (n + 1) 153 L st h Q = ((-128 ≤ (100 : Int) ∧ (100 : Int) < 128) ∧ G sp sc [122] d mX12_copy n 155 L (.inl 100 :: st) h Q)) ∧
  (∀ (n d : Nat) (L : List (Option iV)) (st : List iV) (h : iH) (Q : Option iV → iH → Prop), G sp sc [122] d mX12_copy (n + 1) 155 L st h Q = (match ld L 3 with | some (.inl x) => G sp sc [122] d mX12_copy n 156 L (.inl x :: st) h Q | _ => False)) ∧
  (∀ (n d : Nat) (L : List (Option iV)) (a : Int) (b : Int) (r : List iV) (h : iH) (Q : Option iV → iH → Prop), G sp sc [122] d mX12_copy (n + 1) 156 L (.inl b :: .inl a :: r) h Q = G sp sc [122] d mX12_copy n 157 L (.inl (a * b) :: r) h Q) ∧
  (∀ (n d : Nat) (L : List (Option iV)) (st : List iV) (h : iH) (Q : Option iV → iH → Prop), G sp sc [122] d mX12_copy (n + 1) 157 L st h Q = (match ld L 4 with | some (.inl x) => G sp sc [122] d mX12_copy n 159 L (.inl x :: st) h Q | _ => False)) ∧
  (∀ (n d : Nat) (L : List (Option iV)) (a : Int) (b : Int) (r : List iV) (h : iH) (Q : Option iV → iH → Prop), G sp sc [122] d mX12_copy (n + 1) 159 L (.inl b :: .inl a :: r) h Q = G sp sc [122] d mX12_copy n 160 L (.inl (a + b) :: r) h Q) ∧
  (∀ (n d : Nat) (L : List (Option iV)) (st : List iV) (h : iH) (Q : Option iV → iH → Prop), G sp sc [122] d mX12_copy (n + 1) 160 L st h Q = (match ld L 7 with | some (.inl x) => G sp sc [122] d mX12_copy n 162 L (.inl x :: st) h Q | _ => False)) ∧
  (∀ (n d : Nat) (L : List (Option iV)) (a : Int) (b : Int) (r : List iV) (h : iH) (Q : Option iV → iH → Prop), G sp sc [122] d mX12_copy (n + 1) 162 L (.inl b :: .inl a :: r) h Q = G sp sc [122] d mX12_copy n 163 L (.inl (a + b) :: r) h Q) ∧
  (∀ (n d : Nat) (L : List (Option iV)) (st : List iV) (h : iH) (Q : Option iV → iH → Prop), G sp sc [122] d mX12_copy (n + 1) 163 L st h Q = (match ld L 0 with | some (.inr (.inr (r + 1))) => G sp sc [122] d mX12_copy n 164 L (.inr (.inr (r + 1)) :: st) h Q | _ => False)) ∧
  (∀ (n d : Nat) (L : List (Option iV)) (r : List iV) (m : Nat) (h : iH) (Q : Option iV → iH → Prop), G sp sc [122] d mX12_copy (n + 1) 164 L (.inr (.inr (m + 2)) :: r) h Q = (match h.1[m]? with | some (.inl (ci, fs)) => (match lkF 12 64 ci with | some k => (match fs[k]? with | some v => G sp sc [122] d mX12_copy n 167 L (v :: r) h Q | none => False) | none => False) | _ => False)) ∧
  (∀ (n d : Nat) (L : List (Option iV)) (st : List iV) (h : iH) (Q : Option iV → iH → Prop), G sp sc [122] d mX12_copy (n + 1) 167 L st h Q = ((-128 ≤ (100 : Int) ∧ (100 : Int) < 128) ∧ G sp sc [122] d mX12_copy n 169 L (.inl 100 :: st) h Q)) ∧
  (∀ (n d : Nat) (L : List (Option iV)) (st : List iV) (h : iH) (Q : Option iV → iH → Prop), G sp sc [122] d mX12_copy (n + 1) 169 L st h Q = (match ld L 1 with | some (.inl x) => G sp sc [122] d mX12_copy n 170 L (.inl x :: st) h Q | _ => False)) ∧
  (∀ (n d : Nat) (L : List (Option iV)) (a : Int) (b : Int) (r : List iV) (h : iH) (Q : Option iV → iH → Prop), G sp sc [122] d mX12_copy (n + 1) 170 L (.inl b :: .inl a :: r) h Q = G sp sc [122] d mX12_copy n 171 L (.inl (a * b) :: r) h Q) ∧
  (∀ (n d : Nat) (L : List (Option iV)) (st : List iV) (h : iH) (Q : Option iV → iH → Prop), G sp sc [122] d mX12_copy (n + 1) 171 L st h Q = (match ld L 2 with | some (.inl x) => G sp sc [122] d mX12_copy n 172 L (.inl x :: st) h Q | _ => False)) ∧
  (∀ (n d : Nat) (L : List (Option iV)) (a : Int) (b : Int) (r : List iV) (h : iH) (Q : Option iV → iH → Prop), G sp sc [122] d mX12_copy (n + 1) 172 L (.inl b :: .inl a :: r) h Q = G sp sc [122] d mX12_copy n 173 L (.inl (a + b) :: r) h Q) ∧
  (∀ (n d : Nat) (L : List (Option iV)) (st : List iV) (h : iH) (Q : Option iV → iH → Prop), G sp sc [122] d mX12_copy (n + 1) 173 L st h Q = (match ld L 7 with | some (.inl x) => G sp sc [122] d mX12_copy n 175 L (.inl x :: st) h Q | _ => False)) ∧
  (∀ (n d : Nat) (L : List (Option iV)) (a : Int) (b : Int) (r : List iV) (h : iH) (Q : Option iV → iH → Prop), G sp sc [122] d mX12_copy (n + 1) 175 L (.inl b :: .inl a :: r) h Q = G sp sc [122] d mX12_copy n 176 L (.inl (a + b) :: r) h Q) ∧
  (∀ (n d : Nat) (L : List (Option iV)) (r : List iV) (j : Int) (m : Nat) (h : iH) (Q : Option iV → iH → Prop), G sp sc [122] d mX12_copy (n + 1) 176 L (.inl j :: .inr (.inr (m + 2)) :: r) h Q = (match h.1[m]? with | some (.inr (.inl (0, xs))) => inA j xs.length = true ∧ G sp sc [122] d mX12_copy n 177 L (.inl (xs.getD j.toNat 0) :: r) h Q | _ => False)) ∧
  (∀ (n d : Nat) (L : List (Option iV)) (r : List iV) (v : Int) (j : Int) (m : Nat) (h : iH) (Q : Option iV → iH → Prop), G sp sc [122] d mX12_copy (n + 1) 177 L (.inl v :: .inl j :: .inr (.inr (m + 2)) :: r) h Q = (match h.1[m]? with | some (.inr (.inl (0, xs))) => inA j xs.length = true ∧ G sp sc [122] d mX12_copy n 178 L r (h.1.set m (.inr (.inl (0, xs.set j.toNat v))), h.2) Q | _ => False)) ∧
  (∀ (n d : Nat) (L : List (Option iV)) (st : List iV) (h : iH) (Q : Option iV → iH → Prop), G sp sc [122] d mX12_copy (n + 1) 178 L st h Q = (match ld L 6 with | some (.inl x) => (match st1 L 6 (.inl (x + 1)) with | some L' => G sp sc [122] d mX12_copy n 181 L' st h Q | none => False) | _ => False)) ∧
  (∀ (n d : Nat) (L : List (Option iV)) (st : List iV) (h : iH) (Q : Option iV → iH → Prop), G sp sc [122] d mX12_copy (n + 1) 181 L st h Q = Run sp sc d mX12_copy 122 L st h Q) ∧
  (∀ (n d : Nat) (L : List (Option iV)) (st : List iV) (h : iH) (Q : Option iV → iH → Prop), G sp sc [122] d mX12_copy (n + 1) 184 L st h Q = (match ld L 5 with | some (.inl x) => G sp sc [122] d mX12_copy n 186 L (.inl x :: st) h Q | _ => False)) ∧
  (∀ (n d : Nat) (L : List (Option iV)) (a : Int) (h : iH) (Q : Option iV → iH → Prop), G sp sc [122] d mX12_copy (n + 1) 186 L [.inl a] h Q = Q (some (.inl a)) h) ∧
  lkF 12 49 12 = some 26 ∧
  lkF 12 58 12 = some 29 ∧
  lkF 12 61 12 = some 30 ∧
  lkF 12 64 12 = some 31 := ⟨by intros; exact G_at (by decide +kernel : fetch mX12_copy 0 = some (.iload_n 1)),
  by intros; exact G_callS (k := 1) (kd := 0) (by decide +kernel : fetch mX12_copy 1 = some (.invokestatic 202)) (by decide +kernel) (by decide +kernel) (by decide +kernel) rfl (by decide),
  by intros; exact G_at (by decide +kernel : fetch mX12_copy 4 = some (.ifCond .eq 10)),
  by intros; exact G_at (by decide +kernel : fetch mX12_copy 7 = some (.iload_n 3)),
  by intros; exact G_callS (k := 1) (kd := 0) (by decide +kernel : fetch mX12_copy 8 = some (.invokestatic 202)) (by decide +kernel) (by decide +kernel) (by decide +kernel) rfl (by decide),
  by intros; exact G_at (by decide +kernel : fetch mX12_copy 11 = some (.ifCond .ne 5)),
  by intros; exact G_at (by decide +kernel : fetch mX12_copy 14 = some (.iconst (-1))),
  by intros; exact G_reti (by decide +kernel : fetch mX12_copy 15 = some (.ireturn)) (by decide +kernel),
  by intros; exact G_at (by decide +kernel : fetch mX12_copy 16 = some (.aload_n 0)),
  by intros; exact G_own (by decide +kernel : fetch mX12_copy 17 = some (.getfield 49)) (by decide +kernel),
  by intros; exact G_at (by decide +kernel : fetch mX12_copy 20 = some (.iload_n 1)),
  by intros; exact G_at (by decide +kernel : fetch mX12_copy 21 = some (.iaload)),
  by intros; exact G_at (by decide +kernel : fetch mX12_copy 22 = some (.ifCond .eq 12)),
  by intros; exact G_at (by decide +kernel : fetch mX12_copy 25 = some (.aload_n 0)),
  by intros; exact G_own (by decide +kernel : fetch mX12_copy 26 = some (.getfield 49)) (by decide +kernel),
  by intros; exact G_at (by decide +kernel : fetch mX12_copy 29 = some (.iload_n 3)),
  by intros; exact G_at (by decide +kernel : fetch mX12_copy 30 = some (.iaload)),
  by intros; exact G_at (by decide +kernel : fetch mX12_copy 31 = some (.ifCond .ne 6)),
  by intros; exact G_at (by decide +kernel : fetch mX12_copy 34 = some (.bipush (-11))),
  by intros; exact G_reti (by decide +kernel : fetch mX12_copy 36 = some (.ireturn)) (by decide +kernel),
  by intros; exact G_at (by decide +kernel : fetch mX12_copy 37 = some (.aload_n 0)),
  by intros; exact G_own (by decide +kernel : fetch mX12_copy 38 = some (.getfield 49)) (by decide +kernel),
  by intros; exact G_at (by decide +kernel : fetch mX12_copy 41 = some (.iload_n 1)),
  by intros; exact G_at (by decide +kernel : fetch mX12_copy 42 = some (.iaload)),
  by intros; exact G_at (by decide +kernel : fetch mX12_copy 43 = some (.iconst 2)),
  by intros; exact G_at (by decide +kernel : fetch mX12_copy 44 = some (.if_icmp .ne 28)),
  by intros; exact G_at (by decide +kernel : fetch mX12_copy 47 = some (.aload_n 0)),
  by intros; exact G_own (by decide +kernel : fetch mX12_copy 48 = some (.getfield 49)) (by decide +kernel),
  by intros; exact G_at (by decide +kernel : fetch mX12_copy 51 = some (.iload_n 3)),
  by intros; exact G_at (by decide +kernel : fetch mX12_copy 52 = some (.iaload)),
  by intros; exact G_at (by decide +kernel : fetch mX12_copy 53 = some (.iconst 2)),
  by intros; exact G_at (by decide +kernel : fetch mX12_copy 54 = some (.if_icmp .ne 18)),
  by intros; exact G_at (by decide +kernel : fetch mX12_copy 57 = some (.aload_n 0)),
  by intros; exact G_own (by decide +kernel : fetch mX12_copy 58 = some (.getfield 58)) (by decide +kernel),
  by intros; exact G_at (by decide +kernel : fetch mX12_copy 61 = some (.iload_n 1)),
  by intros; exact G_at (by decide +kernel : fetch mX12_copy 62 = some (.iaload)),
  by intros; exact G_at (by decide +kernel : fetch mX12_copy 63 = some (.aload_n 0)),
  by intros; exact G_own (by decide +kernel : fetch mX12_copy 64 = some (.getfield 58)) (by decide +kernel),
  by intros; exact G_at (by decide +kernel : fetch mX12_copy 67 = some (.iload_n 3)),
  by intros; exact G_at (by decide +kernel : fetch mX12_copy 68 = some (.iaload)),
  by intros; exact G_at (by decide +kernel : fetch mX12_copy 69 = some (.if_icmp .eq 6)),
  by intros; exact G_at (by decide +kernel : fetch mX12_copy 72 = some (.bipush (-12))),
  by intros; exact G_reti (by decide +kernel : fetch mX12_copy 74 = some (.ireturn)) (by decide +kernel),
  by intros; exact G_at (by decide +kernel : fetch mX12_copy 75 = some (.iload 5)),
  by intros; exact G_at (by decide +kernel : fetch mX12_copy 77 = some (.ifCond .lt 39)),
  by intros; exact G_at (by decide +kernel : fetch mX12_copy 80 = some (.iload_n 2)),
  by intros; exact G_at (by decide +kernel : fetch mX12_copy 81 = some (.ifCond .lt 35)),
  by intros; exact G_at (by decide +kernel : fetch mX12_copy 84 = some (.iload 4)),
  by intros; exact G_at (by decide +kernel : fetch mX12_copy 86 = some (.ifCond .lt 30)),
  by intros; exact G_at (by decide +kernel : fetch mX12_copy 89 = some (.iload 5)),
  by intros; exact G_at (by decide +kernel : fetch mX12_copy 91 = some (.aload_n 0)),
  by intros; exact G_own (by decide +kernel : fetch mX12_copy 92 = some (.getfield 61)) (by decide +kernel),
  by intros; exact G_at (by decide +kernel : fetch mX12_copy 95 = some (.iload_n 1)),
  by intros; exact G_at (by decide +kernel : fetch mX12_copy 96 = some (.iaload)),
  by intros; exact G_at (by decide +kernel : fetch mX12_copy 97 = some (.iload_n 2)),
  by intros; exact G_at (by decide +kernel : fetch mX12_copy 98 = some (.isub)),
  by intros; exact G_at (by decide +kernel : fetch mX12_copy 99 = some (.if_icmp .gt 17)),
  by intros; exact G_at (by decide +kernel : fetch mX12_copy 102 = some (.iload 5)),
  by intros; exact G_at (by decide +kernel : fetch mX12_copy 104 = some (.aload_n 0)),
  by intros; exact G_own (by decide +kernel : fetch mX12_copy 105 = some (.getfield 61)) (by decide +kernel),
  by intros; exact G_at (by decide +kernel : fetch mX12_copy 108 = some (.iload_n 3)),
  by intros; exact G_at (by decide +kernel : fetch mX12_copy 109 = some (.iaload)),
  by intros; exact G_at (by decide +kernel : fetch mX12_copy 110 = some (.iload 4)),
  by intros; exact G_at (by decide +kernel : fetch mX12_copy 112 = some (.isub)),
  by intros; exact G_at (by decide +kernel : fetch mX12_copy 113 = some (.if_icmp .le 6)),
  by intros; exact G_at (by decide +kernel : fetch mX12_copy 116 = some (.bipush (-13))),
  by intros; exact G_reti (by decide +kernel : fetch mX12_copy 118 = some (.ireturn)) (by decide +kernel),
  by intros; exact G_at (by decide +kernel : fetch mX12_copy 119 = some (.iconst 0)),
  by intros; exact G_at (by decide +kernel : fetch mX12_copy 120 = some (.istore 6)),
  by intros; exact G_at (by decide +kernel : fetch mX12_copy 122 = some (.iload 6)),
  by intros; exact G_at (by decide +kernel : fetch mX12_copy 124 = some (.iload 5)),
  by intros; exact G_at (by decide +kernel : fetch mX12_copy 126 = some (.if_icmp .ge 58)),
  by intros; exact G_at (by decide +kernel : fetch mX12_copy 129 = some (.iload_n 2)),
  by intros; exact G_at (by decide +kernel : fetch mX12_copy 130 = some (.iload 4)),
  by intros; exact G_at (by decide +kernel : fetch mX12_copy 132 = some (.if_icmp .le 8)),
  by intros; exact G_at (by decide +kernel : fetch mX12_copy 135 = some (.iload 6)),
  by intros; exact G_at (by decide +kernel : fetch mX12_copy 137 = some (.goto 10)),
  by intros; exact G_at (by decide +kernel : fetch mX12_copy 140 = some (.iload 5)),
  by intros; exact G_at (by decide +kernel : fetch mX12_copy 142 = some (.iconst 1)),
  by intros; exact G_at (by decide +kernel : fetch mX12_copy 143 = some (.isub)),
  by intros; exact G_at (by decide +kernel : fetch mX12_copy 144 = some (.iload 6)),
  by intros; exact G_at (by decide +kernel : fetch mX12_copy 146 = some (.isub)),
  by intros; exact G_at (by decide +kernel : fetch mX12_copy 147 = some (.istore 7)),
  by intros; exact G_at (by decide +kernel : fetch mX12_copy 149 = some (.aload_n 0)),
  by intros; exact G_own (by decide +kernel : fetch mX12_copy 150 = some (.getfield 64)) (by decide +kernel),
  by intros; exact G_at (by decide +kernel : fetch mX12_copy 153 = some (.bipush 100)),
  by intros; exact G_at (by decide +kernel : fetch mX12_copy 155 = some (.iload_n 3)),
  by intros; exact G_at (by decide +kernel : fetch mX12_copy 156 = some (.imul)),
  by intros; exact G_at (by decide +kernel : fetch mX12_copy 157 = some (.iload 4)),
  by intros; exact G_at (by decide +kernel : fetch mX12_copy 159 = some (.iadd)),
  by intros; exact G_at (by decide +kernel : fetch mX12_copy 160 = some (.iload 7)),
  by intros; exact G_at (by decide +kernel : fetch mX12_copy 162 = some (.iadd)),
  by intros; exact G_at (by decide +kernel : fetch mX12_copy 163 = some (.aload_n 0)),
  by intros; exact G_own (by decide +kernel : fetch mX12_copy 164 = some (.getfield 64)) (by decide +kernel),
  by intros; exact G_at (by decide +kernel : fetch mX12_copy 167 = some (.bipush 100)),
  by intros; exact G_at (by decide +kernel : fetch mX12_copy 169 = some (.iload_n 1)),
  by intros; exact G_at (by decide +kernel : fetch mX12_copy 170 = some (.imul)),
  by intros; exact G_at (by decide +kernel : fetch mX12_copy 171 = some (.iload_n 2)),
  by intros; exact G_at (by decide +kernel : fetch mX12_copy 172 = some (.iadd)),
  by intros; exact G_at (by decide +kernel : fetch mX12_copy 173 = some (.iload 7)),
  by intros; exact G_at (by decide +kernel : fetch mX12_copy 175 = some (.iadd)),
  by intros; exact G_at (by decide +kernel : fetch mX12_copy 176 = some (.iaload)),
  by intros; exact G_at (by decide +kernel : fetch mX12_copy 177 = some (.iastore)),
  by intros; exact G_at (by decide +kernel : fetch mX12_copy 178 = some (.iinc 6 1)),
  by intros; exact G_at (by decide +kernel : fetch mX12_copy 181 = some (.goto (-59))),
  by intros; exact G_at (by decide +kernel : fetch mX12_copy 184 = some (.iload 5)),
  by intros; exact G_reti (by decide +kernel : fetch mX12_copy 186 = some (.ireturn)) (by decide +kernel),
  by decide +kernel,
  by decide +kernel,
  by decide +kernel,
  by decide +kernel⟩
theorem gX12_costBy : (∀ (n d : Nat) (L : List (Option iV)) (st : List iV) (h : iH) (Q : Option iV → iH → Prop), G sp sc [] d mX12_costBy (n + 1) 0 L st h Q = (match ld L 0 with | some (.inl x) => G sp sc [] d mX12_costBy n 1 L (.inl x :: st) h Q | _ => False)) ∧
  (∀ (n d : Nat) (L : List (Option iV)) (a : Int) (r : List iV) (h : iH) (Q : Option iV → iH → Prop), G sp sc [] d mX12_costBy (n + 1) 1 L (.inl a :: r) h Q = (inI a = true ∧ ((a < 1 ∨ 5 < a) → G sp sc [] d mX12_costBy n 65 L r h Q) ∧ (¬ (a < 1 ∨ 5 < a) → (match (#[35, 38, 40, 49, 60] : Array Int)[(a - (1 : Int)).toNat]? with | some off => (match jmp 1 off with | some q => GK sp sc [] d mX12_costBy n q L r h Q | none => False) | none => False)))) ∧
  (∀ (n d : Nat) (L : List (Option iV)) (st : List iV) (h : iH) (Q : Option iV → iH → Prop), G sp sc [] d mX12_costBy (n + 1) 36 L st h Q = ((-128 ≤ (7 : Int) ∧ (7 : Int) < 128) ∧ G sp sc [] d mX12_costBy n 38 L (.inl 7 :: st) h Q)) ∧
  (∀ (n d : Nat) (L : List (Option iV)) (a : Int) (h : iH) (Q : Option iV → iH → Prop), G sp sc [] d mX12_costBy (n + 1) 38 L [.inl a] h Q = Q (some (.inl a)) h) ∧
  (∀ (n d : Nat) (L : List (Option iV)) (st : List iV) (h : iH) (Q : Option iV → iH → Prop), G sp sc [] d mX12_costBy (n + 1) 39 L st h Q = G sp sc [] d mX12_costBy n 40 L (.inl 2 :: st) h Q) ∧
  (∀ (n d : Nat) (L : List (Option iV)) (a : Int) (h : iH) (Q : Option iV → iH → Prop), G sp sc [] d mX12_costBy (n + 1) 40 L [.inl a] h Q = Q (some (.inl a)) h) ∧
  (∀ (n d : Nat) (L : List (Option iV)) (st : List iV) (h : iH) (Q : Option iV → iH → Prop), G sp sc [] d mX12_costBy (n + 1) 41 L st h Q = ((-128 ≤ (7 : Int) ∧ (7 : Int) < 128) ∧ G sp sc [] d mX12_costBy n 43 L (.inl 7 :: st) h Q)) ∧
  (∀ (n d : Nat) (L : List (Option iV)) (st : List iV) (h : iH) (Q : Option iV → iH → Prop), G sp sc [] d mX12_costBy (n + 1) 43 L st h Q = G sp sc [] d mX12_costBy n 44 L (.inl 3 :: st) h Q) ∧
  (∀ (n d : Nat) (L : List (Option iV)) (st : List iV) (h : iH) (Q : Option iV → iH → Prop), G sp sc [] d mX12_costBy (n + 1) 44 L st h Q = (match ld L 1 with | some (.inl x) => G sp sc [] d mX12_costBy n 45 L (.inl x :: st) h Q | _ => False)) ∧
  (∀ (n d : Nat) (L : List (Option iV)) (r : List iV) (z0 : iV) (z1 : iV) (h : iH) (Q : Option iV → iH → Prop), G sp sc [] (d + 1) mX12_costBy (n + 1) 45 L (z1 :: z0 :: r) h Q = (cs r ≤ 8 ∧ Call sp sc d mX12_sulksBy [z0, z1] h (fun q h1 => GC sp sc [] (d + 1) mX12_costBy n 48 L q r h h1 Q))) ∧
  (∀ (n d : Nat) (L : List (Option iV)) (a : Int) (b : Int) (r : List iV) (h : iH) (Q : Option iV → iH → Prop), G sp sc [] d mX12_costBy (n + 1) 48 L (.inl b :: .inl a :: r) h Q = G sp sc [] d mX12_costBy n 49 L (.inl (a + b) :: r) h Q) ∧
  (∀ (n d : Nat) (L : List (Option iV)) (a : Int) (h : iH) (Q : Option iV → iH → Prop), G sp sc [] d mX12_costBy (n + 1) 49 L [.inl a] h Q = Q (some (.inl a)) h) ∧
  (∀ (n d : Nat) (L : List (Option iV)) (st : List iV) (h : iH) (Q : Option iV → iH → Prop), G sp sc [] d mX12_costBy (n + 1) 50 L st h Q = G sp sc [] d mX12_costBy n 51 L (.inl 2 :: st) h Q) ∧
  (∀ (n d : Nat) (L : List (Option iV)) (st : List iV) (h : iH) (Q : Option iV → iH → Prop), G sp sc [] d mX12_costBy (n + 1) 51 L st h Q = ((-128 ≤ (7 : Int) ∧ (7 : Int) < 128) ∧ G sp sc [] d mX12_costBy n 53 L (.inl 7 :: st) h Q)) ∧
  (∀ (n d : Nat) (L : List (Option iV)) (st : List iV) (h : iH) (Q : Option iV → iH → Prop), G sp sc [] d mX12_costBy (n + 1) 53 L st h Q = G sp sc [] d mX12_costBy n 54 L (.inl 4 :: st) h Q) ∧
  (∀ (n d : Nat) (L : List (Option iV)) (st : List iV) (h : iH) (Q : Option iV → iH → Prop), G sp sc [] d mX12_costBy (n + 1) 54 L st h Q = (match ld L 1 with | some (.inl x) => G sp sc [] d mX12_costBy n 55 L (.inl x :: st) h Q | _ => False)) ∧
  (∀ (n d : Nat) (L : List (Option iV)) (r : List iV) (z0 : iV) (z1 : iV) (h : iH) (Q : Option iV → iH → Prop), G sp sc [] (d + 1) mX12_costBy (n + 1) 55 L (z1 :: z0 :: r) h Q = (cs r ≤ 8 ∧ Call sp sc d mX12_sulksBy [z0, z1] h (fun q h1 => GC sp sc [] (d + 1) mX12_costBy n 58 L q r h h1 Q))) ∧
  (∀ (n d : Nat) (L : List (Option iV)) (a : Int) (b : Int) (r : List iV) (h : iH) (Q : Option iV → iH → Prop), G sp sc [] d mX12_costBy (n + 1) 58 L (.inl b :: .inl a :: r) h Q = G sp sc [] d mX12_costBy n 59 L (.inl (a + b) :: r) h Q) ∧
  (∀ (n d : Nat) (L : List (Option iV)) (a : Int) (b : Int) (r : List iV) (h : iH) (Q : Option iV → iH → Prop), G sp sc [] d mX12_costBy (n + 1) 59 L (.inl b :: .inl a :: r) h Q = G sp sc [] d mX12_costBy n 60 L (.inl (a * b) :: r) h Q) ∧
  (∀ (n d : Nat) (L : List (Option iV)) (a : Int) (h : iH) (Q : Option iV → iH → Prop), G sp sc [] d mX12_costBy (n + 1) 60 L [.inl a] h Q = Q (some (.inl a)) h) ∧
  (∀ (n d : Nat) (L : List (Option iV)) (st : List iV) (h : iH) (Q : Option iV → iH → Prop), G sp sc [] d mX12_costBy (n + 1) 61 L st h Q = G sp sc [] d mX12_costBy n 62 L (.inl 5 :: st) h Q) ∧
  (∀ (n d : Nat) (L : List (Option iV)) (st : List iV) (h : iH) (Q : Option iV → iH → Prop), G sp sc [] d mX12_costBy (n + 1) 62 L st h Q = (match ld L 1 with | some (.inl x) => G sp sc [] d mX12_costBy n 63 L (.inl x :: st) h Q | _ => False)) ∧
  (∀ (n d : Nat) (L : List (Option iV)) (a : Int) (b : Int) (r : List iV) (h : iH) (Q : Option iV → iH → Prop), G sp sc [] d mX12_costBy (n + 1) 63 L (.inl b :: .inl a :: r) h Q = G sp sc [] d mX12_costBy n 64 L (.inl (a + b) :: r) h Q) ∧
  (∀ (n d : Nat) (L : List (Option iV)) (a : Int) (h : iH) (Q : Option iV → iH → Prop), G sp sc [] d mX12_costBy (n + 1) 64 L [.inl a] h Q = Q (some (.inl a)) h) ∧
  (∀ (n d : Nat) (L : List (Option iV)) (st : List iV) (h : iH) (Q : Option iV → iH → Prop), G sp sc [] d mX12_costBy (n + 1) 65 L st h Q = G sp sc [] d mX12_costBy n 66 L (.inl 5 :: st) h Q) ∧
  (∀ (n d : Nat) (L : List (Option iV)) (a : Int) (h : iH) (Q : Option iV → iH → Prop), G sp sc [] d mX12_costBy (n + 1) 66 L [.inl a] h Q = Q (some (.inl a)) h) := ⟨by intros; exact G_at (by decide +kernel : fetch mX12_costBy 0 = some (.iload_n 0)),
  by intros; exact G_at (by decide +kernel : fetch mX12_costBy 1 = some (.tableswitch 64 1 5 #[35, 38, 40, 49, 60])),
  by intros; exact G_at (by decide +kernel : fetch mX12_costBy 36 = some (.bipush 7)),
  by intros; exact G_reti (by decide +kernel : fetch mX12_costBy 38 = some (.ireturn)) (by decide +kernel),
  by intros; exact G_at (by decide +kernel : fetch mX12_costBy 39 = some (.iconst 2)),
  by intros; exact G_reti (by decide +kernel : fetch mX12_costBy 40 = some (.ireturn)) (by decide +kernel),
  by intros; exact G_at (by decide +kernel : fetch mX12_costBy 41 = some (.bipush 7)),
  by intros; exact G_at (by decide +kernel : fetch mX12_costBy 43 = some (.iconst 3)),
  by intros; exact G_at (by decide +kernel : fetch mX12_costBy 44 = some (.iload_n 1)),
  by intros; exact G_callS (k := 2) (kd := 0) (by decide +kernel : fetch mX12_costBy 45 = some (.invokestatic 102)) (by decide +kernel) (by decide +kernel) (by decide +kernel) rfl (by decide),
  by intros; exact G_at (by decide +kernel : fetch mX12_costBy 48 = some (.iadd)),
  by intros; exact G_reti (by decide +kernel : fetch mX12_costBy 49 = some (.ireturn)) (by decide +kernel),
  by intros; exact G_at (by decide +kernel : fetch mX12_costBy 50 = some (.iconst 2)),
  by intros; exact G_at (by decide +kernel : fetch mX12_costBy 51 = some (.bipush 7)),
  by intros; exact G_at (by decide +kernel : fetch mX12_costBy 53 = some (.iconst 4)),
  by intros; exact G_at (by decide +kernel : fetch mX12_costBy 54 = some (.iload_n 1)),
  by intros; exact G_callS (k := 2) (kd := 0) (by decide +kernel : fetch mX12_costBy 55 = some (.invokestatic 102)) (by decide +kernel) (by decide +kernel) (by decide +kernel) rfl (by decide),
  by intros; exact G_at (by decide +kernel : fetch mX12_costBy 58 = some (.iadd)),
  by intros; exact G_at (by decide +kernel : fetch mX12_costBy 59 = some (.imul)),
  by intros; exact G_reti (by decide +kernel : fetch mX12_costBy 60 = some (.ireturn)) (by decide +kernel),
  by intros; exact G_at (by decide +kernel : fetch mX12_costBy 61 = some (.iconst 5)),
  by intros; exact G_at (by decide +kernel : fetch mX12_costBy 62 = some (.iload_n 1)),
  by intros; exact G_at (by decide +kernel : fetch mX12_costBy 63 = some (.iadd)),
  by intros; exact G_reti (by decide +kernel : fetch mX12_costBy 64 = some (.ireturn)) (by decide +kernel),
  by intros; exact G_at (by decide +kernel : fetch mX12_costBy 65 = some (.iconst 5)),
  by intros; exact G_reti (by decide +kernel : fetch mX12_costBy 66 = some (.ireturn)) (by decide +kernel)⟩
theorem gX12_cost : (∀ (n d : Nat) (L : List (Option iV)) (st : List iV) (h : iH) (Q : Option iV → iH → Prop), G sp sc [] d mX12_cost (n + 1) 0 L st h Q = (match ld L 0 with | some (.inr (.inr (r + 1))) => G sp sc [] d mX12_cost n 1 L (.inr (.inr (r + 1)) :: st) h Q | _ => False)) ∧
  (∀ (n d : Nat) (L : List (Option iV)) (st : List iV) (h : iH) (Q : Option iV → iH → Prop), G sp sc [] d mX12_cost (n + 1) 1 L st h Q = (match ld L 1 with | some (.inl x) => G sp sc [] d mX12_cost n 2 L (.inl x :: st) h Q | _ => False)) ∧
  (∀ (n d : Nat) (L : List (Option iV)) (r : List iV) (m : Nat) (z0 : iV) (h : iH) (Q : Option iV → iH → Prop), G sp sc [] (d + 1) mX12_cost (n + 1) 2 L (z0 :: .inr (.inr (m + 2)) :: r) h Q = (match h.1[m]? with | some (.inl (ci, _)) => (match lkC 12 205 ci with | some (y1, n1, kd) => (n1 = 1 ∧ (kd = 2 ∨ kd = 3 ∨ kd = 8) ∧ cs r ≤ 8) ∧ Call sp sc d y1 [.inr (.inr (m + 2)), z0] h (fun q h1 => GC sp sc [] (d + 1) mX12_cost n 5 L q r h h1 Q) | none => False) | _ => False)) ∧
  (∀ (n d : Nat) (L : List (Option iV)) (r : List iV) (x : Int) (h : iH) (Q : Option iV → iH → Prop), G sp sc [] d mX12_cost (n + 1) 5 L (.inl x :: r) h Q = (match st1 L 2 (.inl x) with | some L' => G sp sc [] d mX12_cost n 6 L' r h Q | none => False)) ∧
  (∀ (n d : Nat) (L : List (Option iV)) (st : List iV) (h : iH) (Q : Option iV → iH → Prop), G sp sc [] d mX12_cost (n + 1) 6 L st h Q = (match ld L 2 with | some (.inl x) => G sp sc [] d mX12_cost n 7 L (.inl x :: st) h Q | _ => False)) ∧
  (∀ (n d : Nat) (L : List (Option iV)) (a : Int) (r : List iV) (h : iH) (Q : Option iV → iH → Prop), G sp sc [] d mX12_cost (n + 1) 7 L (.inl a :: r) h Q = (inI a = true ∧ (a = 0 → G sp sc [] d mX12_cost n 14 L r h Q) ∧ (¬ (a = 0) → G sp sc [] d mX12_cost n 10 L r h Q))) ∧
  (∀ (n d : Nat) (L : List (Option iV)) (st : List iV) (h : iH) (Q : Option iV → iH → Prop), G sp sc [] d mX12_cost (n + 1) 10 L st h Q = (match ld L 2 with | some (.inl x) => G sp sc [] d mX12_cost n 11 L (.inl x :: st) h Q | _ => False)) ∧
  (∀ (n d : Nat) (L : List (Option iV)) (st : List iV) (h : iH) (Q : Option iV → iH → Prop), G sp sc [] d mX12_cost (n + 1) 11 L st h Q = G sp sc [] d mX12_cost n 29 L st h Q) ∧
  (∀ (n d : Nat) (L : List (Option iV)) (st : List iV) (h : iH) (Q : Option iV → iH → Prop), G sp sc [] d mX12_cost (n + 1) 14 L st h Q = (match ld L 0 with | some (.inr (.inr (r + 1))) => G sp sc [] d mX12_cost n 15 L (.inr (.inr (r + 1)) :: st) h Q | _ => False)) ∧
  (∀ (n d : Nat) (L : List (Option iV)) (r : List iV) (m : Nat) (h : iH) (Q : Option iV → iH → Prop), G sp sc [] d mX12_cost (n + 1) 15 L (.inr (.inr (m + 2)) :: r) h Q = (match h.1[m]? with | some (.inl (ci, fs)) => (match lkF 12 52 ci with | some k => (match fs[k]? with | some v => G sp sc [] d mX12_cost n 18 L (v :: r) h Q | none => False) | none => False) | _ => False)) ∧
  (∀ (n d : Nat) (L : List (Option iV)) (st : List iV) (h : iH) (Q : Option iV → iH → Prop), G sp sc [] d mX12_cost (n + 1) 18 L st h Q = (match ld L 1 with | some (.inl x) => G sp sc [] d mX12_cost n 19 L (.inl x :: st) h Q | _ => False)) ∧
  (∀ (n d : Nat) (L : List (Option iV)) (r : List iV) (j : Int) (m : Nat) (h : iH) (Q : Option iV → iH → Prop), G sp sc [] d mX12_cost (n + 1) 19 L (.inl j :: .inr (.inr (m + 2)) :: r) h Q = (match h.1[m]? with | some (.inr (.inl (0, xs))) => inA j xs.length = true ∧ G sp sc [] d mX12_cost n 20 L (.inl (xs.getD j.toNat 0) :: r) h Q | _ => False)) ∧
  (∀ (n d : Nat) (L : List (Option iV)) (st : List iV) (h : iH) (Q : Option iV → iH → Prop), G sp sc [] d mX12_cost (n + 1) 20 L st h Q = (match ld L 0 with | some (.inr (.inr (r + 1))) => G sp sc [] d mX12_cost n 21 L (.inr (.inr (r + 1)) :: st) h Q | _ => False)) ∧
  (∀ (n d : Nat) (L : List (Option iV)) (r : List iV) (m : Nat) (h : iH) (Q : Option iV → iH → Prop), G sp sc [] d mX12_cost (n + 1) 21 L (.inr (.inr (m + 2)) :: r) h Q = (match h.1[m]? with | some (.inl (ci, fs)) => (match lkF 12 55 ci with | some k => (match fs[k]? with | some v => G sp sc [] d mX12_cost n 24 L (v :: r) h Q | none => False) | none => False) | _ => False)) ∧
  (∀ (n d : Nat) (L : List (Option iV)) (st : List iV) (h : iH) (Q : Option iV → iH → Prop), G sp sc [] d mX12_cost (n + 1) 24 L st h Q = (match ld L 1 with | some (.inl x) => G sp sc [] d mX12_cost n 25 L (.inl x :: st) h Q | _ => False)) ∧
  (∀ (n d : Nat) (L : List (Option iV)) (r : List iV) (j : Int) (m : Nat) (h : iH) (Q : Option iV → iH → Prop), G sp sc [] d mX12_cost (n + 1) 25 L (.inl j :: .inr (.inr (m + 2)) :: r) h Q = (match h.1[m]? with | some (.inr (.inl (0, xs))) => inA j xs.length = true ∧ G sp sc [] d mX12_cost n 26 L (.inl (xs.getD j.toNat 0) :: r) h Q | _ => False)) ∧
  (∀ (n d : Nat) (L : List (Option iV)) (r : List iV) (z0 : iV) (z1 : iV) (h : iH) (Q : Option iV → iH → Prop), G sp sc [] (d + 1) mX12_cost (n + 1) 26 L (z1 :: z0 :: r) h Q = (cs r ≤ 8 ∧ Call sp sc d mX12_costBy [z0, z1] h (fun q h1 => GC sp sc [] (d + 1) mX12_cost n 29 L q r h h1 Q))) ∧
  (∀ (n d : Nat) (L : List (Option iV)) (a : Int) (h : iH) (Q : Option iV → iH → Prop), G sp sc [] d mX12_cost (n + 1) 29 L [.inl a] h Q = Q (some (.inl a)) h) ∧
  lkC 12 205 12 = some (mX12_wrongKept, 1, 2) ∧
  lkF 12 52 12 = some 27 ∧
  lkF 12 55 12 = some 28 := ⟨by intros; exact G_at (by decide +kernel : fetch mX12_cost 0 = some (.aload_n 0)),
  by intros; exact G_at (by decide +kernel : fetch mX12_cost 1 = some (.iload_n 1)),
  by intros; exact G_callV (by decide +kernel : fetch mX12_cost 2 = some (.invokevirtual 205)) (by decide +kernel) (by decide +kernel) rfl,
  by intros; exact G_at (by decide +kernel : fetch mX12_cost 5 = some (.istore_n 2)),
  by intros; exact G_at (by decide +kernel : fetch mX12_cost 6 = some (.iload_n 2)),
  by intros; exact G_at (by decide +kernel : fetch mX12_cost 7 = some (.ifCond .eq 7)),
  by intros; exact G_at (by decide +kernel : fetch mX12_cost 10 = some (.iload_n 2)),
  by intros; exact G_at (by decide +kernel : fetch mX12_cost 11 = some (.goto 18)),
  by intros; exact G_at (by decide +kernel : fetch mX12_cost 14 = some (.aload_n 0)),
  by intros; exact G_own (by decide +kernel : fetch mX12_cost 15 = some (.getfield 52)) (by decide +kernel),
  by intros; exact G_at (by decide +kernel : fetch mX12_cost 18 = some (.iload_n 1)),
  by intros; exact G_at (by decide +kernel : fetch mX12_cost 19 = some (.iaload)),
  by intros; exact G_at (by decide +kernel : fetch mX12_cost 20 = some (.aload_n 0)),
  by intros; exact G_own (by decide +kernel : fetch mX12_cost 21 = some (.getfield 55)) (by decide +kernel),
  by intros; exact G_at (by decide +kernel : fetch mX12_cost 24 = some (.iload_n 1)),
  by intros; exact G_at (by decide +kernel : fetch mX12_cost 25 = some (.iaload)),
  by intros; exact G_callS (k := 2) (kd := 0) (by decide +kernel : fetch mX12_cost 26 = some (.invokestatic 295)) (by decide +kernel) (by decide +kernel) (by decide +kernel) rfl (by decide),
  by intros; exact G_reti (by decide +kernel : fetch mX12_cost 29 = some (.ireturn)) (by decide +kernel),
  by decide +kernel,
  by decide +kernel,
  by decide +kernel⟩
theorem gX12_toss : (∀ (n d : Nat) (L : List (Option iV)) (st : List iV) (h : iH) (Q : Option iV → iH → Prop), G sp sc [] d mX12_toss (n + 1) 0 L st h Q = (match ld L 0 with | some (.inr (.inr (r + 1))) => G sp sc [] d mX12_toss n 1 L (.inr (.inr (r + 1)) :: st) h Q | _ => False)) ∧
  (∀ (n d : Nat) (L : List (Option iV)) (st : List iV) (h : iH) (Q : Option iV → iH → Prop), G sp sc [] d mX12_toss (n + 1) 1 L st h Q = (match ld L 1 with | some (.inl x) => G sp sc [] d mX12_toss n 2 L (.inl x :: st) h Q | _ => False)) ∧
  (∀ (n d : Nat) (L : List (Option iV)) (r : List iV) (m : Nat) (z0 : iV) (h : iH) (Q : Option iV → iH → Prop), G sp sc [] (d + 1) mX12_toss (n + 1) 2 L (z0 :: .inr (.inr (m + 2)) :: r) h Q = (match h.1[m]? with | some (.inl (ci, _)) => (match lkC 12 205 ci with | some (y1, n1, kd) => (n1 = 1 ∧ (kd = 2 ∨ kd = 3 ∨ kd = 8) ∧ cs r ≤ 8) ∧ Call sp sc d y1 [.inr (.inr (m + 2)), z0] h (fun q h1 => GC sp sc [] (d + 1) mX12_toss n 5 L q r h h1 Q) | none => False) | _ => False)) ∧
  (∀ (n d : Nat) (L : List (Option iV)) (r : List iV) (x : Int) (h : iH) (Q : Option iV → iH → Prop), G sp sc [] d mX12_toss (n + 1) 5 L (.inl x :: r) h Q = (match st1 L 2 (.inl x) with | some L' => G sp sc [] d mX12_toss n 6 L' r h Q | none => False)) ∧
  (∀ (n d : Nat) (L : List (Option iV)) (st : List iV) (h : iH) (Q : Option iV → iH → Prop), G sp sc [] d mX12_toss (n + 1) 6 L st h Q = (match ld L 2 with | some (.inl x) => G sp sc [] d mX12_toss n 7 L (.inl x :: st) h Q | _ => False)) ∧
  (∀ (n d : Nat) (L : List (Option iV)) (a : Int) (r : List iV) (h : iH) (Q : Option iV → iH → Prop), G sp sc [] d mX12_toss (n + 1) 7 L (.inl a :: r) h Q = (inI a = true ∧ (a = 0 → G sp sc [] d mX12_toss n 12 L r h Q) ∧ (¬ (a = 0) → G sp sc [] d mX12_toss n 10 L r h Q))) ∧
  (∀ (n d : Nat) (L : List (Option iV)) (st : List iV) (h : iH) (Q : Option iV → iH → Prop), G sp sc [] d mX12_toss (n + 1) 10 L st h Q = (match ld L 2 with | some (.inl x) => G sp sc [] d mX12_toss n 11 L (.inl x :: st) h Q | _ => False)) ∧
  (∀ (n d : Nat) (L : List (Option iV)) (a : Int) (h : iH) (Q : Option iV → iH → Prop), G sp sc [] d mX12_toss (n + 1) 11 L [.inl a] h Q = Q (some (.inl a)) h) ∧
  (∀ (n d : Nat) (L : List (Option iV)) (st : List iV) (h : iH) (Q : Option iV → iH → Prop), G sp sc [] d mX12_toss (n + 1) 12 L st h Q = (match ld L 0 with | some (.inr (.inr (r + 1))) => G sp sc [] d mX12_toss n 13 L (.inr (.inr (r + 1)) :: st) h Q | _ => False)) ∧
  (∀ (n d : Nat) (L : List (Option iV)) (r : List iV) (m : Nat) (h : iH) (Q : Option iV → iH → Prop), G sp sc [] d mX12_toss (n + 1) 13 L (.inr (.inr (m + 2)) :: r) h Q = (match h.1[m]? with | some (.inl (ci, fs)) => (match lkF 12 52 ci with | some k => (match fs[k]? with | some v => G sp sc [] d mX12_toss n 16 L (v :: r) h Q | none => False) | none => False) | _ => False)) ∧
  (∀ (n d : Nat) (L : List (Option iV)) (st : List iV) (h : iH) (Q : Option iV → iH → Prop), G sp sc [] d mX12_toss (n + 1) 16 L st h Q = (match ld L 1 with | some (.inl x) => G sp sc [] d mX12_toss n 17 L (.inl x :: st) h Q | _ => False)) ∧
  (∀ (n d : Nat) (L : List (Option iV)) (r : List iV) (j : Int) (m : Nat) (h : iH) (Q : Option iV → iH → Prop), G sp sc [] d mX12_toss (n + 1) 17 L (.inl j :: .inr (.inr (m + 2)) :: r) h Q = (match h.1[m]? with | some (.inr (.inl (0, xs))) => inA j xs.length = true ∧ G sp sc [] d mX12_toss n 18 L (.inl (xs.getD j.toNat 0) :: r) h Q | _ => False)) ∧
  (∀ (n d : Nat) (L : List (Option iV)) (r : List iV) (x : Int) (h : iH) (Q : Option iV → iH → Prop), G sp sc [] d mX12_toss (n + 1) 18 L (.inl x :: r) h Q = (match st1 L 3 (.inl x) with | some L' => G sp sc [] d mX12_toss n 19 L' r h Q | none => False)) ∧
  (∀ (n d : Nat) (L : List (Option iV)) (st : List iV) (h : iH) (Q : Option iV → iH → Prop), G sp sc [] d mX12_toss (n + 1) 19 L st h Q = (match ld L 0 with | some (.inr (.inr (r + 1))) => G sp sc [] d mX12_toss n 20 L (.inr (.inr (r + 1)) :: st) h Q | _ => False)) ∧
  (∀ (n d : Nat) (L : List (Option iV)) (r : List iV) (m : Nat) (h : iH) (Q : Option iV → iH → Prop), G sp sc [] d mX12_toss (n + 1) 20 L (.inr (.inr (m + 2)) :: r) h Q = (match h.1[m]? with | some (.inl (ci, fs)) => (match lkF 12 55 ci with | some k => (match fs[k]? with | some v => G sp sc [] d mX12_toss n 23 L (v :: r) h Q | none => False) | none => False) | _ => False)) ∧
  (∀ (n d : Nat) (L : List (Option iV)) (st : List iV) (h : iH) (Q : Option iV → iH → Prop), G sp sc [] d mX12_toss (n + 1) 23 L st h Q = (match ld L 1 with | some (.inl x) => G sp sc [] d mX12_toss n 24 L (.inl x :: st) h Q | _ => False)) ∧
  (∀ (n d : Nat) (L : List (Option iV)) (r : List iV) (j : Int) (m : Nat) (h : iH) (Q : Option iV → iH → Prop), G sp sc [] d mX12_toss (n + 1) 24 L (.inl j :: .inr (.inr (m + 2)) :: r) h Q = (match h.1[m]? with | some (.inr (.inl (0, xs))) => inA j xs.length = true ∧ G sp sc [] d mX12_toss n 25 L (.inl (xs.getD j.toNat 0) :: r) h Q | _ => False)) ∧
  (∀ (n d : Nat) (L : List (Option iV)) (r : List iV) (x : Int) (h : iH) (Q : Option iV → iH → Prop), G sp sc [] d mX12_toss (n + 1) 25 L (.inl x :: r) h Q = (match st1 L 4 (.inl x) with | some L' => G sp sc [] d mX12_toss n 27 L' r h Q | none => False)) ∧
  (∀ (n d : Nat) (L : List (Option iV)) (st : List iV) (h : iH) (Q : Option iV → iH → Prop), G sp sc [] d mX12_toss (n + 1) 27 L st h Q = (match ld L 3 with | some (.inl x) => G sp sc [] d mX12_toss n 28 L (.inl x :: st) h Q | _ => False)) ∧
  (∀ (n d : Nat) (L : List (Option iV)) (st : List iV) (h : iH) (Q : Option iV → iH → Prop), G sp sc [] d mX12_toss (n + 1) 28 L st h Q = G sp sc [] d mX12_toss n 29 L (.inl 5 :: st) h Q) ∧
  (∀ (n d : Nat) (L : List (Option iV)) (a : Int) (b : Int) (r : List iV) (h : iH) (Q : Option iV → iH → Prop), G sp sc [] d mX12_toss (n + 1) 29 L (.inl b :: .inl a :: r) h Q = ((inI a = true ∧ inI b = true) ∧ (a = b → G sp sc [] d mX12_toss n 37 L r h Q) ∧ (¬ (a = b) → G sp sc [] d mX12_toss n 32 L r h Q))) ∧
  (∀ (n d : Nat) (L : List (Option iV)) (st : List iV) (h : iH) (Q : Option iV → iH → Prop), G sp sc [] d mX12_toss (n + 1) 32 L st h Q = (match ld L 4 with | some (.inl x) => G sp sc [] d mX12_toss n 34 L (.inl x :: st) h Q | _ => False)) ∧
  (∀ (n d : Nat) (L : List (Option iV)) (a : Int) (r : List iV) (h : iH) (Q : Option iV → iH → Prop), G sp sc [] d mX12_toss (n + 1) 34 L (.inl a :: r) h Q = (inI a = true ∧ (¬ a = 0 → G sp sc [] d mX12_toss n 40 L r h Q) ∧ (¬ (¬ a = 0) → G sp sc [] d mX12_toss n 37 L r h Q))) ∧
  (∀ (n d : Nat) (L : List (Option iV)) (st : List iV) (h : iH) (Q : Option iV → iH → Prop), G sp sc [] d mX12_toss (n + 1) 37 L st h Q = ((-128 ≤ ((-15) : Int) ∧ ((-15) : Int) < 128) ∧ G sp sc [] d mX12_toss n 39 L (.inl (-15) :: st) h Q)) ∧
  (∀ (n d : Nat) (L : List (Option iV)) (a : Int) (h : iH) (Q : Option iV → iH → Prop), G sp sc [] d mX12_toss (n + 1) 39 L [.inl a] h Q = Q (some (.inl a)) h) ∧
  (∀ (n d : Nat) (L : List (Option iV)) (st : List iV) (h : iH) (Q : Option iV → iH → Prop), G sp sc [] d mX12_toss (n + 1) 40 L st h Q = (match ld L 3 with | some (.inl x) => G sp sc [] d mX12_toss n 41 L (.inl x :: st) h Q | _ => False)) ∧
  (∀ (n d : Nat) (L : List (Option iV)) (st : List iV) (h : iH) (Q : Option iV → iH → Prop), G sp sc [] d mX12_toss (n + 1) 41 L st h Q = G sp sc [] d mX12_toss n 42 L (.inl 4 :: st) h Q) ∧
  (∀ (n d : Nat) (L : List (Option iV)) (a : Int) (b : Int) (r : List iV) (h : iH) (Q : Option iV → iH → Prop), G sp sc [] d mX12_toss (n + 1) 42 L (.inl b :: .inl a :: r) h Q = ((inI a = true ∧ inI b = true) ∧ (¬ a = b → G sp sc [] d mX12_toss n 58 L r h Q) ∧ (¬ (¬ a = b) → G sp sc [] d mX12_toss n 45 L r h Q))) ∧
  (∀ (n d : Nat) (L : List (Option iV)) (st : List iV) (h : iH) (Q : Option iV → iH → Prop), G sp sc [] d mX12_toss (n + 1) 45 L st h Q = ((-32768 ≤ (200 : Int) ∧ (200 : Int) < 32768) ∧ G sp sc [] d mX12_toss n 48 L (.inl 200 :: st) h Q)) ∧
  (∀ (n d : Nat) (L : List (Option iV)) (st : List iV) (h : iH) (Q : Option iV → iH → Prop), G sp sc [] d mX12_toss (n + 1) 48 L st h Q = (match ld L 3 with | some (.inl x) => G sp sc [] d mX12_toss n 49 L (.inl x :: st) h Q | _ => False)) ∧
  (∀ (n d : Nat) (L : List (Option iV)) (st : List iV) (h : iH) (Q : Option iV → iH → Prop), G sp sc [] d mX12_toss (n + 1) 49 L st h Q = (match ld L 4 with | some (.inl x) => G sp sc [] d mX12_toss n 51 L (.inl x :: st) h Q | _ => False)) ∧
  (∀ (n d : Nat) (L : List (Option iV)) (r : List iV) (z0 : iV) (z1 : iV) (h : iH) (Q : Option iV → iH → Prop), G sp sc [] (d + 1) mX12_toss (n + 1) 51 L (z1 :: z0 :: r) h Q = (cs r ≤ 8 ∧ Call sp sc d mX12_costBy [z0, z1] h (fun q h1 => GC sp sc [] (d + 1) mX12_toss n 54 L q r h h1 Q))) ∧
  (∀ (n d : Nat) (L : List (Option iV)) (a : Int) (b : Int) (r : List iV) (h : iH) (Q : Option iV → iH → Prop), G sp sc [] d mX12_toss (n + 1) 54 L (.inl b :: .inl a :: r) h Q = G sp sc [] d mX12_toss n 55 L (.inl (a + b) :: r) h Q) ∧
  (∀ (n d : Nat) (L : List (Option iV)) (st : List iV) (h : iH) (Q : Option iV → iH → Prop), G sp sc [] d mX12_toss (n + 1) 55 L st h Q = G sp sc [] d mX12_toss n 73 L st h Q) ∧
  (∀ (n d : Nat) (L : List (Option iV)) (st : List iV) (h : iH) (Q : Option iV → iH → Prop), G sp sc [] d mX12_toss (n + 1) 58 L st h Q = (match ld L 3 with | some (.inl x) => G sp sc [] d mX12_toss n 59 L (.inl x :: st) h Q | _ => False)) ∧
  (∀ (n d : Nat) (L : List (Option iV)) (st : List iV) (h : iH) (Q : Option iV → iH → Prop), G sp sc [] d mX12_toss (n + 1) 59 L st h Q = G sp sc [] d mX12_toss n 60 L (.inl 3 :: st) h Q) ∧
  (∀ (n d : Nat) (L : List (Option iV)) (a : Int) (b : Int) (r : List iV) (h : iH) (Q : Option iV → iH → Prop), G sp sc [] d mX12_toss (n + 1) 60 L (.inl b :: .inl a :: r) h Q = ((inI a = true ∧ inI b = true) ∧ (¬ a = b → G sp sc [] d mX12_toss n 71 L r h Q) ∧ (¬ (¬ a = b) → G sp sc [] d mX12_toss n 63 L r h Q))) ∧
  (∀ (n d : Nat) (L : List (Option iV)) (st : List iV) (h : iH) (Q : Option iV → iH → Prop), G sp sc [] d mX12_toss (n + 1) 63 L st h Q = ((-128 ≤ (100 : Int) ∧ (100 : Int) < 128) ∧ G sp sc [] d mX12_toss n 65 L (.inl 100 :: st) h Q)) ∧
  (∀ (n d : Nat) (L : List (Option iV)) (st : List iV) (h : iH) (Q : Option iV → iH → Prop), G sp sc [] d mX12_toss (n + 1) 65 L st h Q = (match ld L 4 with | some (.inl x) => G sp sc [] d mX12_toss n 67 L (.inl x :: st) h Q | _ => False)) ∧
  (∀ (n d : Nat) (L : List (Option iV)) (a : Int) (b : Int) (r : List iV) (h : iH) (Q : Option iV → iH → Prop), G sp sc [] d mX12_toss (n + 1) 67 L (.inl b :: .inl a :: r) h Q = G sp sc [] d mX12_toss n 68 L (.inl (a + b) :: r) h Q) ∧
  (∀ (n d : Nat) (L : List (Option iV)) (st : List iV) (h : iH) (Q : Option iV → iH → Prop), G sp sc [] d mX12_toss (n + 1) 68 L st h Q = G sp sc [] d mX12_toss n 73 L st h Q) ∧
  (∀ (n d : Nat) (L : List (Option iV)) (st : List iV) (h : iH) (Q : Option iV → iH → Prop), G sp sc [] d mX12_toss (n + 1) 71 L st h Q = (match ld L 4 with | some (.inl x) => G sp sc [] d mX12_toss n 73 L (.inl x :: st) h Q | _ => False)) ∧
  (∀ (n d : Nat) (L : List (Option iV)) (a : Int) (h : iH) (Q : Option iV → iH → Prop), G sp sc [] d mX12_toss (n + 1) 73 L [.inl a] h Q = Q (some (.inl a)) h) ∧
  lkC 12 205 12 = some (mX12_wrongKept, 1, 2) ∧
  lkF 12 52 12 = some 27 ∧
  lkF 12 55 12 = some 28 := ⟨by intros; exact G_at (by decide +kernel : fetch mX12_toss 0 = some (.aload_n 0)),
  by intros; exact G_at (by decide +kernel : fetch mX12_toss 1 = some (.iload_n 1)),
  by intros; exact G_callV (by decide +kernel : fetch mX12_toss 2 = some (.invokevirtual 205)) (by decide +kernel) (by decide +kernel) rfl,
  by intros; exact G_at (by decide +kernel : fetch mX12_toss 5 = some (.istore_n 2)),
  by intros; exact G_at (by decide +kernel : fetch mX12_toss 6 = some (.iload_n 2)),
  by intros; exact G_at (by decide +kernel : fetch mX12_toss 7 = some (.ifCond .eq 5)),
  by intros; exact G_at (by decide +kernel : fetch mX12_toss 10 = some (.iload_n 2)),
  by intros; exact G_reti (by decide +kernel : fetch mX12_toss 11 = some (.ireturn)) (by decide +kernel),
  by intros; exact G_at (by decide +kernel : fetch mX12_toss 12 = some (.aload_n 0)),
  by intros; exact G_own (by decide +kernel : fetch mX12_toss 13 = some (.getfield 52)) (by decide +kernel),
  by intros; exact G_at (by decide +kernel : fetch mX12_toss 16 = some (.iload_n 1)),
  by intros; exact G_at (by decide +kernel : fetch mX12_toss 17 = some (.iaload)),
  by intros; exact G_at (by decide +kernel : fetch mX12_toss 18 = some (.istore_n 3)),
  by intros; exact G_at (by decide +kernel : fetch mX12_toss 19 = some (.aload_n 0)),
  by intros; exact G_own (by decide +kernel : fetch mX12_toss 20 = some (.getfield 55)) (by decide +kernel),
  by intros; exact G_at (by decide +kernel : fetch mX12_toss 23 = some (.iload_n 1)),
  by intros; exact G_at (by decide +kernel : fetch mX12_toss 24 = some (.iaload)),
  by intros; exact G_at (by decide +kernel : fetch mX12_toss 25 = some (.istore 4)),
  by intros; exact G_at (by decide +kernel : fetch mX12_toss 27 = some (.iload_n 3)),
  by intros; exact G_at (by decide +kernel : fetch mX12_toss 28 = some (.iconst 5)),
  by intros; exact G_at (by decide +kernel : fetch mX12_toss 29 = some (.if_icmp .eq 8)),
  by intros; exact G_at (by decide +kernel : fetch mX12_toss 32 = some (.iload 4)),
  by intros; exact G_at (by decide +kernel : fetch mX12_toss 34 = some (.ifCond .ne 6)),
  by intros; exact G_at (by decide +kernel : fetch mX12_toss 37 = some (.bipush (-15))),
  by intros; exact G_reti (by decide +kernel : fetch mX12_toss 39 = some (.ireturn)) (by decide +kernel),
  by intros; exact G_at (by decide +kernel : fetch mX12_toss 40 = some (.iload_n 3)),
  by intros; exact G_at (by decide +kernel : fetch mX12_toss 41 = some (.iconst 4)),
  by intros; exact G_at (by decide +kernel : fetch mX12_toss 42 = some (.if_icmp .ne 16)),
  by intros; exact G_at (by decide +kernel : fetch mX12_toss 45 = some (.sipush 200)),
  by intros; exact G_at (by decide +kernel : fetch mX12_toss 48 = some (.iload_n 3)),
  by intros; exact G_at (by decide +kernel : fetch mX12_toss 49 = some (.iload 4)),
  by intros; exact G_callS (k := 2) (kd := 0) (by decide +kernel : fetch mX12_toss 51 = some (.invokestatic 295)) (by decide +kernel) (by decide +kernel) (by decide +kernel) rfl (by decide),
  by intros; exact G_at (by decide +kernel : fetch mX12_toss 54 = some (.iadd)),
  by intros; exact G_at (by decide +kernel : fetch mX12_toss 55 = some (.goto 18)),
  by intros; exact G_at (by decide +kernel : fetch mX12_toss 58 = some (.iload_n 3)),
  by intros; exact G_at (by decide +kernel : fetch mX12_toss 59 = some (.iconst 3)),
  by intros; exact G_at (by decide +kernel : fetch mX12_toss 60 = some (.if_icmp .ne 11)),
  by intros; exact G_at (by decide +kernel : fetch mX12_toss 63 = some (.bipush 100)),
  by intros; exact G_at (by decide +kernel : fetch mX12_toss 65 = some (.iload 4)),
  by intros; exact G_at (by decide +kernel : fetch mX12_toss 67 = some (.iadd)),
  by intros; exact G_at (by decide +kernel : fetch mX12_toss 68 = some (.goto 5)),
  by intros; exact G_at (by decide +kernel : fetch mX12_toss 71 = some (.iload 4)),
  by intros; exact G_reti (by decide +kernel : fetch mX12_toss 73 = some (.ireturn)) (by decide +kernel),
  by decide +kernel,
  by decide +kernel,
  by decide +kernel⟩
end GG
