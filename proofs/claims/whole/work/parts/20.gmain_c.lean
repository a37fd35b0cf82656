section GG
variable {sp : Nat → List iV → iH → Option (Option iV × iH)} {sc : List Int}
theorem gX11_copy : (∀ (n d : Nat) (L : List (Option iV)) (st : List iV) (h : iH) (Q : Option iV → iH → Prop), G sp sc [] d mX11_copy (n + 1) 0 L st h Q = (match ld L 1 with | some (.inl x) => G sp sc [] d mX11_copy n 1 L (.inl x :: st) h Q | _ => False)) ∧
  (∀ (n d : Nat) (L : List (Option iV)) (r : List iV) (z0 : iV) (h : iH) (Q : Option iV → iH → Prop), G sp sc [] (d + 1) mX11_copy (n + 1) 1 L (z0 :: r) h Q = (cs r ≤ 8 ∧ Call sp sc d mX11_isShelf [z0] h (fun q h1 => GC sp sc [] (d + 1) mX11_copy n 4 L q r h h1 Q))) ∧
  (∀ (n d : Nat) (L : List (Option iV)) (a : Int) (r : List iV) (h : iH) (Q : Option iV → iH → Prop), G sp sc [] d mX11_copy (n + 1) 4 L (.inl a :: r) h Q = (inI a = true ∧ (a = 0 → G sp sc [] d mX11_copy n 14 L r h Q) ∧ (¬ (a = 0) → G sp sc [] d mX11_copy n 7 L r h Q))) ∧
  (∀ (n d : Nat) (L : List (Option iV)) (st : List iV) (h : iH) (Q : Option iV → iH → Prop), G sp sc [] d mX11_copy (n + 1) 7 L st h Q = (match ld L 3 with | some (.inl x) => G sp sc [] d mX11_copy n 8 L (.inl x :: st) h Q | _ => False)) ∧
  (∀ (n d : Nat) (L : List (Option iV)) (r : List iV) (z0 : iV) (h : iH) (Q : Option iV → iH → Prop), G sp sc [] (d + 1) mX11_copy (n + 1) 8 L (z0 :: r) h Q = (cs r ≤ 8 ∧ Call sp sc d mX11_isShelf [z0] h (fun q h1 => GC sp sc [] (d + 1) mX11_copy n 11 L q r h h1 Q))) ∧
  (∀ (n d : Nat) (L : List (Option iV)) (a : Int) (r : List iV) (h : iH) (Q : Option iV → iH → Prop), G sp sc [] d mX11_copy (n + 1) 11 L (.inl a :: r) h Q = (inI a = true ∧ (¬ a = 0 → G sp sc [] d mX11_copy n 16 L r h Q) ∧ (¬ (¬ a = 0) → G sp sc [] d mX11_copy n 14 L r h Q))) ∧
  (∀ (n d : Nat) (L : List (Option iV)) (st : List iV) (h : iH) (Q : Option iV → iH → Prop), G sp sc [] d mX11_copy (n + 1) 14 L st h Q = G sp sc [] d mX11_copy n 15 L (.inl (-1) :: st) h Q) ∧
  (∀ (n d : Nat) (L : List (Option iV)) (a : Int) (h : iH) (Q : Option iV → iH → Prop), G sp sc [] d mX11_copy (n + 1) 15 L [.inl a] h Q = Q (some (.inl a)) h) ∧
  (∀ (n d : Nat) (L : List (Option iV)) (st : List iV) (h : iH) (Q : Option iV → iH → Prop), G sp sc [] d mX11_copy (n + 1) 16 L st h Q = (match ld L 0 with | some (.inr (.inr (r + 1))) => G sp sc [] d mX11_copy n 17 L (.inr (.inr (r + 1)) :: st) h Q | _ => False)) ∧
  (∀ (n d : Nat) (L : List (Option iV)) (r : List iV) (m : Nat) (h : iH) (Q : Option iV → iH → Prop), G sp sc [] d mX11_copy (n + 1) 17 L (.inr (.inr (m + 2)) :: r) h Q = (match h.1[m]? with | some (.inl (ci, fs)) => (match lkF 11 63 ci with | some k => (match fs[k]? with | some v => G sp sc [] d mX11_copy n 20 L (v :: r) h Q | none => False) | none => False) | _ => False)) ∧
  (∀ (n d : Nat) (L : List (Option iV)) (st : List iV) (h : iH) (Q : Option iV → iH → Prop), G sp sc [] d mX11_copy (n + 1) 20 L st h Q = (match ld L 1 with | some (.inl x) => G sp sc [] d mX11_copy n 21 L (.inl x :: st) h Q | _ => False)) ∧
  (∀ (n d : Nat) (L : List (Option iV)) (r : List iV) (j : Int) (m : Nat) (h : iH) (Q : Option iV → iH → Prop), G sp sc [] d mX11_copy (n + 1) 21 L (.inl j :: .inr (.inr (m + 2)) :: r) h Q = (match h.1[m]? with | some (.inr (.inr (t, rs))) => (inA j rs.length = true ∧ 3 ≤ t ∧ t < 6) ∧ G sp sc [] d mX11_copy n 22 L (.inr (.inr (rs.getD j.toNat 0)) :: r) h Q | _ => False)) ∧
  (∀ (n d : Nat) (L : List (Option iV)) (r : List iV) (x : Nat) (h : iH) (Q : Option iV → iH → Prop), G sp sc [] d mX11_copy (n + 1) 22 L (.inr (.inr (x + 1)) :: r) h Q = (match st1 L 6 (.inr (.inr (x + 1))) with | some L' => G sp sc [] d mX11_copy n 24 L' r h Q | none => False)) ∧
  (∀ (n d : Nat) (L : List (Option iV)) (st : List iV) (h : iH) (Q : Option iV → iH → Prop), G sp sc [] d mX11_copy (n + 1) 24 L st h Q = (match ld L 0 with | some (.inr (.inr (r + 1))) => G sp sc [] d mX11_copy n 25 L (.inr (.inr (r + 1)) :: st) h Q | _ => False)) ∧
  (∀ (n d : Nat) (L : List (Option iV)) (r : List iV) (m : Nat) (h : iH) (Q : Option iV → iH → Prop), G sp sc [] d mX11_copy (n + 1) 25 L (.inr (.inr (m + 2)) :: r) h Q = (match h.1[m]? with | some (.inl (ci, fs)) => (match lkF 11 63 ci with | some k => (match fs[k]? with | some v => G sp sc [] d mX11_copy n 28 L (v :: r) h Q | none => False) | none => False) | _ => False)) ∧
  (∀ (n d : Nat) (L : List (Option iV)) (st : List iV) (h : iH) (Q : Option iV → iH → Prop), G sp sc [] d mX11_copy (n + 1) 28 L st h Q = (match ld L 3 with | some (.inl x) => G sp sc [] d mX11_copy n 29 L (.inl x :: st) h Q | _ => False)) ∧
  (∀ (n d : Nat) (L : List (Option iV)) (r : List iV) (j : Int) (m : Nat) (h : iH) (Q : Option iV → iH → Prop), G sp sc [] d mX11_copy (n + 1) 29 L (.inl j :: .inr (.inr (m + 2)) :: r) h Q = (match h.1[m]? with | some (.inr (.inr (t, rs))) => (inA j rs.length = true ∧ 3 ≤ t ∧ t < 6) ∧ G sp sc [] d mX11_copy n 30 L (.inr (.inr (rs.getD j.toNat 0)) :: r) h Q | _ => False)) ∧
  (∀ (n d : Nat) (L : List (Option iV)) (r : List iV) (x : Nat) (h : iH) (Q : Option iV → iH → Prop), G sp sc [] d mX11_copy (n + 1) 30 L (.inr (.inr (x + 1)) :: r) h Q = (match st1 L 7 (.inr (.inr (x + 1))) with | some L' => G sp sc [] d mX11_copy n 32 L' r h Q | none => False)) ∧
  (∀ (n d : Nat) (L : List (Option iV)) (st : List iV) (h : iH) (Q : Option iV → iH → Prop), G sp sc [] d mX11_copy (n + 1) 32 L st h Q = (match ld L 6 with | some (.inr (.inr (r + 1))) => G sp sc [] d mX11_copy n 34 L (.inr (.inr (r + 1)) :: st) h Q | _ => False)) ∧
  (∀ (n d : Nat) (L : List (Option iV)) (r : List iV) (m : Nat) (h : iH) (Q : Option iV → iH → Prop), G sp sc [] d mX11_copy (n + 1) 34 L (.inr (.inr (m + 2)) :: r) h Q = (match h.1[m]? with | some (.inl (ci, fs)) => (match lkF 11 79 ci with | some k => (match fs[k]? with | some v => G sp sc [] d mX11_copy n 37 L (v :: r) h Q | none => False) | none => False) | _ => False)) ∧
  (∀ (n d : Nat) (L : List (Option iV)) (a : Int) (r : List iV) (h : iH) (Q : Option iV → iH → Prop), G sp sc [] d mX11_copy (n + 1) 37 L (.inl a :: r) h Q = (inI a = true ∧ (a = 0 → G sp sc [] d mX11_copy n 48 L r h Q) ∧ (¬ (a = 0) → G sp sc [] d mX11_copy n 40 L r h Q))) ∧
  (∀ (n d : Nat) (L : List (Option iV)) (st : List iV) (h : iH) (Q : Option iV → iH → Prop), G sp sc [] d mX11_copy (n + 1) 40 L st h Q = (match ld L 7 with | some (.inr (.inr (r + 1))) => G sp sc [] d mX11_copy n 42 L (.inr (.inr (r + 1)) :: st) h Q | _ => False)) ∧
  (∀ (n d : Nat) (L : List (Option iV)) (r : List iV) (m : Nat) (h : iH) (Q : Option iV → iH → Prop), G sp sc [] d mX11_copy (n + 1) 42 L (.inr (.inr (m + 2)) :: r) h Q = (match h.1[m]? with | some (.inl (ci, fs)) => (match lkF 11 79 ci with | some k => (match fs[k]? with | some v => G sp sc [] d mX11_copy n 45 L (v :: r) h Q | none => False) | none => False) | _ => False)) ∧
  (∀ (n d : Nat) (L : List (Option iV)) (a : Int) (r : List iV) (h : iH) (Q : Option iV → iH → Prop), G sp sc [] d mX11_copy (n + 1) 45 L (.inl a :: r) h Q = (inI a = true ∧ (¬ a = 0 → G sp sc [] d mX11_copy n 51 L r h Q) ∧ (¬ (¬ a = 0) → G sp sc [] d mX11_copy n 48 L r h Q))) ∧
  (∀ (n d : Nat) (L : List (Option iV)) (st : List iV) (h : iH) (Q : Option iV → iH → Prop), G sp sc [] d mX11_copy (n + 1) 48 L st h Q = ((-128 ≤ ((-11) : Int) ∧ ((-11) : Int) < 128) ∧ G sp sc [] d mX11_copy n 50 L (.inl (-11) :: st) h Q)) ∧
  (∀ (n d : Nat) (L : List (Option iV)) (a : Int) (h : iH) (Q : Option iV → iH → Prop), G sp sc [] d mX11_copy (n + 1) 50 L [.inl a] h Q = Q (some (.inl a)) h) ∧
  (∀ (n d : Nat) (L : List (Option iV)) (st : List iV) (h : iH) (Q : Option iV → iH → Prop), G sp sc [] d mX11_copy (n + 1) 51 L st h Q = (match ld L 6 with | some (.inr (.inr (r + 1))) => G sp sc [] d mX11_copy n 53 L (.inr (.inr (r + 1)) :: st) h Q | _ => False)) ∧
  (∀ (n d : Nat) (L : List (Option iV)) (r : List iV) (m : Nat) (h : iH) (Q : Option iV → iH → Prop), G sp sc [] d mX11_copy (n + 1) 53 L (.inr (.inr (m + 2)) :: r) h Q = (match h.1[m]? with | some (.inl (ci, fs)) => (match lkF 11 79 ci with | some k => (match fs[k]? with | some v => G sp sc [] d mX11_copy n 56 L (v :: r) h Q | none => False) | none => False) | _ => False)) ∧
  (∀ (n d : Nat) (L : List (Option iV)) (st : List iV) (h : iH) (Q : Option iV → iH → Prop), G sp sc [] d mX11_copy (n + 1) 56 L st h Q = G sp sc [] d mX11_copy n 57 L (.inl 2 :: st) h Q) ∧
  (∀ (n d : Nat) (L : List (Option iV)) (a : Int) (b : Int) (r : List iV) (h : iH) (Q : Option iV → iH → Prop), G sp sc [] d mX11_copy (n + 1) 57 L (.inl b :: .inl a :: r) h Q = ((inI a = true ∧ inI b = true) ∧ (¬ a = b → G sp sc [] d mX11_copy n 82 L r h Q) ∧ (¬ (¬ a = b) → G sp sc [] d mX11_copy n 60 L r h Q))) ∧
  (∀ (n d : Nat) (L : List (Option iV)) (st : List iV) (h : iH) (Q : Option iV → iH → Prop), G sp sc [] d mX11_copy (n + 1) 60 L st h Q = (match ld L 7 with | some (.inr (.inr (r + 1))) => G sp sc [] d mX11_copy n 62 L (.inr (.inr (r + 1)) :: st) h Q | _ => False)) ∧
  (∀ (n d : Nat) (L : List (Option iV)) (r : List iV) (m : Nat) (h : iH) (Q : Option iV → iH → Prop), G sp sc [] d mX11_copy (n + 1) 62 L (.inr (.inr (m + 2)) :: r) h Q = (match h.1[m]? with | some (.inl (ci, fs)) => (match lkF 11 79 ci with | some k => (match fs[k]? with | some v => G sp sc [] d mX11_copy n 65 L (v :: r) h Q | none => False) | none => False) | _ => False)) ∧
  (∀ (n d : Nat) (L : List (Option iV)) (st : List iV) (h : iH) (Q : Option iV → iH → Prop), G sp sc [] d mX11_copy (n + 1) 65 L st h Q = G sp sc [] d mX11_copy n 66 L (.inl 2 :: st) h Q) ∧
  (∀ (n d : Nat) (L : List (Option iV)) (a : Int) (b : Int) (r : List iV) (h : iH) (Q : Option iV → iH → Prop), G sp sc [] d mX11_copy (n + 1) 66 L (.inl b :: .inl a :: r) h Q = ((inI a = true ∧ inI b = true) ∧ (¬ a = b → G sp sc [] d mX11_copy n 82 L r h Q) ∧ (¬ (¬ a = b) → G sp sc [] d mX11_copy n 69 L r h Q))) ∧
  (∀ (n d : Nat) (L : List (Option iV)) (st : List iV) (h : iH) (Q : Option iV → iH → Prop), G sp sc [] d mX11_copy (n + 1) 69 L st h Q = (match ld L 6 with | some (.inr (.inr (r + 1))) => G sp sc [] d mX11_copy n 71 L (.inr (.inr (r + 1)) :: st) h Q | _ => False)) ∧
  (∀ (n d : Nat) (L : List (Option iV)) (r : List iV) (m : Nat) (h : iH) (Q : Option iV → iH → Prop), G sp sc [] d mX11_copy (n + 1) 71 L (.inr (.inr (m + 2)) :: r) h Q = (match h.1[m]? with | some (.inl (ci, fs)) => (match lkF 11 83 ci with | some k => (match fs[k]? with | some v => G sp sc [] d mX11_copy n 74 L (v :: r) h Q | none => False) | none => False) | _ => False)) ∧
  (∀ (n d : Nat) (L : List (Option iV)) (st : List iV) (h : iH) (Q : Option iV → iH → Prop), G sp sc [] d mX11_copy (n + 1) 74 L st h Q = (match ld L 7 with | some (.inr (.inr (r + 1))) => G sp sc [] d mX11_copy n 76 L (.inr (.inr (r + 1)) :: st) h Q | _ => False)) ∧
  (∀ (n d : Nat) (L : List (Option iV)) (r : List iV) (m : Nat) (h : iH) (Q : Option iV → iH → Prop), G sp sc [] d mX11_copy (n + 1) 76 L (.inr (.inr (m + 2)) :: r) h Q = (match h.1[m]? with | some (.inl (ci, fs)) => (match lkF 11 83 ci with | some k => (match fs[k]? with | some v => G sp sc [] d mX11_copy n 79 L (v :: r) h Q | none => False) | none => False) | _ => False)) ∧
  (∀ (n d : Nat) (L : List (Option iV)) (a : Int) (b : Int) (r : List iV) (h : iH) (Q : Option iV → iH → Prop), G sp sc [] d mX11_copy (n + 1) 79 L (.inl b :: .inl a :: r) h Q = ((inI a = true ∧ inI b = true) ∧ (a = b → G sp sc [] d mX11_copy n 85 L r h Q) ∧ (¬ (a = b) → G sp sc [] d mX11_copy n 82 L r h Q))) ∧
  (∀ (n d : Nat) (L : List (Option iV)) (st : List iV) (h : iH) (Q : Option iV → iH → Prop), G sp sc [] d mX11_copy (n + 1) 82 L st h Q = ((-128 ≤ ((-12) : Int) ∧ ((-12) : Int) < 128) ∧ G sp sc [] d mX11_copy n 84 L (.inl (-12) :: st) h Q)) ∧
  (∀ (n d : Nat) (L : List (Option iV)) (a : Int) (h : iH) (Q : Option iV → iH → Prop), G sp sc [] d mX11_copy (n + 1) 84 L [.inl a] h Q = Q (some (.inl a)) h) ∧
  (∀ (n d : Nat) (L : List (Option iV)) (st : List iV) (h : iH) (Q : Option iV → iH → Prop), G sp sc [] d mX11_copy (n + 1) 85 L st h Q = (match ld L 6 with | some (.inr (.inr (r + 1))) => G sp sc [] d mX11_copy n 87 L (.inr (.inr (r + 1)) :: st) h Q | _ => False)) ∧
  (∀ (n d : Nat) (L : List (Option iV)) (st : List iV) (h : iH) (Q : Option iV → iH → Prop), G sp sc [] d mX11_copy (n + 1) 87 L st h Q = (match ld L 2 with | some (.inl x) => G sp sc [] d mX11_copy n 88 L (.inl x :: st) h Q | _ => False)) ∧
  (∀ (n d : Nat) (L : List (Option iV)) (st : List iV) (h : iH) (Q : Option iV → iH → Prop), G sp sc [] d mX11_copy (n + 1) 88 L st h Q = (match ld L 5 with | some (.inl x) => G sp sc [] d mX11_copy n 90 L (.inl x :: st) h Q | _ => False)) ∧
  (∀ (n d : Nat) (L : List (Option iV)) (r : List iV) (m : Nat) (z0 : iV) (z1 : iV) (h : iH) (Q : Option iV → iH → Prop), G sp sc [] (d + 1) mX11_copy (n + 1) 90 L (z1 :: z0 :: .inr (.inr (m + 2)) :: r) h Q = (match h.1[m]? with | some (.inl (ci, _)) => (match lkC 11 359 ci with | some (y1, n1, kd) => (n1 = 2 ∧ (kd = 2 ∨ kd = 3 ∨ kd = 8) ∧ cs r ≤ 8) ∧ Call sp sc d y1 [.inr (.inr (m + 2)), z0, z1] h (fun q h1 => GC sp sc [] (d + 1) mX11_copy n 93 L q r h h1 Q) | none => False) | _ => False)) ∧
  (∀ (n d : Nat) (L : List (Option iV)) (a : Int) (r : List iV) (h : iH) (Q : Option iV → iH → Prop), G sp sc [] d mX11_copy (n + 1) 93 L (.inl a :: r) h Q = (inI a = true ∧ (a = 0 → G sp sc [] d mX11_copy n 108 L r h Q) ∧ (¬ (a = 0) → G sp sc [] d mX11_copy n 96 L r h Q))) ∧
  (∀ (n d : Nat) (L : List (Option iV)) (st : List iV) (h : iH) (Q : Option iV → iH → Prop), G sp sc [] d mX11_copy (n + 1) 96 L st h Q = (match ld L 7 with | some (.inr (.inr (r + 1))) => G sp sc [] d mX11_copy n 98 L (.inr (.inr (r + 1)) :: st) h Q | _ => False)) ∧
  (∀ (n d : Nat) (L : List (Option iV)) (st : List iV) (h : iH) (Q : Option iV → iH → Prop), G sp sc [] d mX11_copy (n + 1) 98 L st h Q = (match ld L 4 with | some (.inl x) => G sp sc [] d mX11_copy n 100 L (.inl x :: st) h Q | _ => False)) ∧
  (∀ (n d : Nat) (L : List (Option iV)) (st : List iV) (h : iH) (Q : Option iV → iH → Prop), G sp sc [] d mX11_copy (n + 1) 100 L st h Q = (match ld L 5 with | some (.inl x) => G sp sc [] d mX11_copy n 102 L (.inl x :: st) h Q | _ => False)) ∧
  (∀ (n d : Nat) (L : List (Option iV)) (r : List iV) (m : Nat) (z0 : iV) (z1 : iV) (h : iH) (Q : Option iV → iH → Prop), G sp sc [] (d + 1) mX11_copy (n + 1) 102 L (z1 :: z0 :: .inr (.inr (m + 2)) :: r) h Q = (match h.1[m]? with | some (.inl (ci, _)) => (match lkC 11 359 ci with | some (y1, n1, kd) => (n1 = 2 ∧ (kd = 2 ∨ kd = 3 ∨ kd = 8) ∧ cs r ≤ 8) ∧ Call sp sc d y1 [.inr (.inr (m + 2)), z0, z1] h (fun q h1 => GC sp sc [] (d + 1) mX11_copy n 105 L q r h h1 Q) | none => False) | _ => False)) ∧
  (∀ (n d : Nat) (L : List (Option iV)) (a : Int) (r : List iV) (h : iH) (Q : Option iV → iH → Prop), G sp sc [] d mX11_copy (n + 1) 105 L (.inl a :: r) h Q = (inI a = true ∧ (¬ a = 0 → G sp sc [] d mX11_copy n 111 L r h Q) ∧ (¬ (¬ a = 0) → G sp sc [] d mX11_copy n 108 L r h Q))) ∧
  (∀ (n d : Nat) (L : List (Option iV)) (st : List iV) (h : iH) (Q : Option iV → iH → Prop), G sp sc [] d mX11_copy (n + 1) 108 L st h Q = ((-128 ≤ ((-13) : Int) ∧ ((-13) : Int) < 128) ∧ G sp sc [] d mX11_copy n 110 L (.inl (-13) :: st) h Q)) ∧
  (∀ (n d : Nat) (L : List (Option iV)) (a : Int) (h : iH) (Q : Option iV → iH → Prop), G sp sc [] d mX11_copy (n + 1) 110 L [.inl a] h Q = Q (some (.inl a)) h) ∧
  (∀ (n d : Nat) (L : List (Option iV)) (st : List iV) (h : iH) (Q : Option iV → iH → Prop), G sp sc [] d mX11_copy (n + 1) 111 L st h Q = (match ld L 6 with | some (.inr (.inr (r + 1))) => G sp sc [] d mX11_copy n 113 L (.inr (.inr (r + 1)) :: st) h Q | _ => False)) ∧
  (∀ (n d : Nat) (L : List (Option iV)) (r : List iV) (m : Nat) (h : iH) (Q : Option iV → iH → Prop), G sp sc [] d mX11_copy (n + 1) 113 L (.inr (.inr (m + 2)) :: r) h Q = (match h.1[m]? with | some (.inl (ci, fs)) => (match lkF 11 273 ci with | some k => (match fs[k]? with | some v => G sp sc [] d mX11_copy n 116 L (v :: r) h Q | none => False) | none => False) | _ => False)) ∧
  (∀ (n d : Nat) (L : List (Option iV)) (st : List iV) (h : iH) (Q : Option iV → iH → Prop), G sp sc [] d mX11_copy (n + 1) 116 L st h Q = (match ld L 2 with | some (.inl x) => G sp sc [] d mX11_copy n 117 L (.inl x :: st) h Q | _ => False)) ∧
  (∀ (n d : Nat) (L : List (Option iV)) (st : List iV) (h : iH) (Q : Option iV → iH → Prop), G sp sc [] d mX11_copy (n + 1) 117 L st h Q = (match ld L 7 with | some (.inr (.inr (r + 1))) => G sp sc [] d mX11_copy n 119 L (.inr (.inr (r + 1)) :: st) h Q | _ => False)) ∧
  (∀ (n d : Nat) (L : List (Option iV)) (r : List iV) (m : Nat) (h : iH) (Q : Option iV → iH → Prop), G sp sc [] d mX11_copy (n + 1) 119 L (.inr (.inr (m + 2)) :: r) h Q = (match h.1[m]? with | some (.inl (ci, fs)) => (match lkF 11 273 ci with | some k => (match fs[k]? with | some v => G sp sc [] d mX11_copy n 122 L (v :: r) h Q | none => False) | none => False) | _ => False)) ∧
  (∀ (n d : Nat) (L : List (Option iV)) (st : List iV) (h : iH) (Q : Option iV → iH → Prop), G sp sc [] d mX11_copy (n + 1) 122 L st h Q = (match ld L 4 with | some (.inl x) => G sp sc [] d mX11_copy n 124 L (.inl x :: st) h Q | _ => False)) ∧
  (∀ (n d : Nat) (L : List (Option iV)) (st : List iV) (h : iH) (Q : Option iV → iH → Prop), G sp sc [] d mX11_copy (n + 1) 124 L st h Q = (match ld L 5 with | some (.inl x) => G sp sc [] d mX11_copy n 126 L (.inl x :: st) h Q | _ => False)) ∧
  (∀ (n d : Nat) (L : List (Option iV)) (st : List iV) (h : iH) (Q : Option iV → iH → Prop), G sp sc [] d mX11_copy (n + 1) 129 L st h Q = (match ld L 5 with | some (.inl x) => G sp sc [] d mX11_copy n 131 L (.inl x :: st) h Q | _ => False)) ∧
  (∀ (n d : Nat) (L : List (Option iV)) (a : Int) (h : iH) (Q : Option iV → iH → Prop), G sp sc [] d mX11_copy (n + 1) 131 L [.inl a] h Q = Q (some (.inl a)) h) ∧
  lkC 11 359 5 = some (mX5_hasPlaces, 2, 2) ∧
  lkF 11 273 5 = some 4 ∧
  lkF 11 63 11 = some 1 ∧
  lkF 11 79 5 = some 0 ∧
  lkF 11 83 5 = some 2 := ⟨by intros; exact G_at (by decide +kernel : fetch mX11_copy 0 = some (.iload_n 1)),
  by intros; exact G_callS (k := 1) (kd := 0) (by decide +kernel : fetch mX11_copy 1 = some (.invokestatic 75)) (by decide +kernel) (by decide +kernel) (by decide +kernel) rfl (by decide),
  by intros; exact G_at (by decide +kernel : fetch mX11_copy 4 = some (.ifCond .eq 10)),
  by intros; exact G_at (by decide +kernel : fetch mX11_copy 7 = some (.iload_n 3)),
  by intros; exact G_callS (k := 1) (kd := 0) (by decide +kernel : fetch mX11_copy 8 = some (.invokestatic 75)) (by decide +kernel) (by decide +kernel) (by decide +kernel) rfl (by decide),
  by intros; exact G_at (by decide +kernel : fetch mX11_copy 11 = some (.ifCond .ne 5)),
  by intros; exact G_at (by decide +kernel : fetch mX11_copy 14 = some (.iconst (-1))),
  by intros; exact G_reti (by decide +kernel : fetch mX11_copy 15 = some (.ireturn)) (by decide +kernel),
  by intros; exact G_at (by decide +kernel : fetch mX11_copy 16 = some (.aload_n 0)),
  by intros; exact G_own (by decide +kernel : fetch mX11_copy 17 = some (.getfield 63)) (by decide +kernel),
  by intros; exact G_at (by decide +kernel : fetch mX11_copy 20 = some (.iload_n 1)),
  by intros; exact G_at (by decide +kernel : fetch mX11_copy 21 = some (.aaload)),
  by intros; exact G_at (by decide +kernel : fetch mX11_copy 22 = some (.astore 6)),
  by intros; exact G_at (by decide +kernel : fetch mX11_copy 24 = some (.aload_n 0)),
  by intros; exact G_own (by decide +kernel : fetch mX11_copy 25 = some (.getfield 63)) (by decide +kernel),
  by intros; exact G_at (by decide +kernel : fetch mX11_copy 28 = some (.iload_n 3)),
  by intros; exact G_at (by decide +kernel : fetch mX11_copy 29 = some (.aaload)),
  by intros; exact G_at (by decide +kernel : fetch mX11_copy 30 = some (.astore 7)),
  by intros; exact G_at (by decide +kernel : fetch mX11_copy 32 = some (.aload 6)),
  by intros; exact G_own (by decide +kernel : fetch mX11_copy 34 = some (.getfield 79)) (by decide +kernel),
  by intros; exact G_at (by decide +kernel : fetch mX11_copy 37 = some (.ifCond .eq 11)),
  by intros; exact G_at (by decide +kernel : fetch mX11_copy 40 = some (.aload 7)),
  by intros; exact G_own (by decide +kernel : fetch mX11_copy 42 = some (.getfield 79)) (by decide +kernel),
  by intros; exact G_at (by decide +kernel : fetch mX11_copy 45 = some (.ifCond .ne 6)),
  by intros; exact G_at (by decide +kernel : fetch mX11_copy 48 = some (.bipush (-11))),
  by intros; exact G_reti (by decide +kernel : fetch mX11_copy 50 = some (.ireturn)) (by decide +kernel),
  by intros; exact G_at (by decide +kernel : fetch mX11_copy 51 = some (.aload 6)),
  by intros; exact G_own (by decide +kernel : fetch mX11_copy 53 = some (.getfield 79)) (by decide +kernel),
  by intros; exact G_at (by decide +kernel : fetch mX11_copy 56 = some (.iconst 2)),
  by intros; exact G_at (by decide +kernel : fetch mX11_copy 57 = some (.if_icmp .ne 25)),
  by intros; exact G_at (by decide +kernel : fetch mX11_copy 60 = some (.aload 7)),
  by intros; exact G_own (by decide +kernel : fetch mX11_copy 62 = some (.getfield 79)) (by decide +kernel),
  by intros; exact G_at (by decide +kernel : fetch mX11_copy 65 = some (.iconst 2)),
  by intros; exact G_at (by decide +kernel : fetch mX11_copy 66 = some (.if_icmp .ne 16)),
  by intros; exact G_at (by decide +kernel : fetch mX11_copy 69 = some (.aload 6)),
  by intros; exact G_own (by decide +kernel : fetch mX11_copy 71 = some (.getfield 83)) (by decide +kernel),
  by intros; exact G_at (by decide +kernel : fetch mX11_copy 74 = some (.aload 7)),
  by intros; exact G_own (by decide +kernel : fetch mX11_copy 76 = some (.getfield 83)) (by decide +kernel),
  by intros; exact G_at (by decide +kernel : fetch mX11_copy 79 = some (.if_icmp .eq 6)),
  by intros; exact G_at (by decide +kernel : fetch mX11_copy 82 = some (.bipush (-12))),
  by intros; exact G_reti (by decide +kernel : fetch mX11_copy 84 = some (.ireturn)) (by decide +kernel),
  by intros; exact G_at (by decide +kernel : fetch mX11_copy 85 = some (.aload 6)),
  by intros; exact G_at (by decide +kernel : fetch mX11_copy 87 = some (.iload_n 2)),
  by intros; exact G_at (by decide +kernel : fetch mX11_copy 88 = some (.iload 5)),
  by intros; exact G_callV (by decide +kernel : fetch mX11_copy 90 = some (.invokevirtual 359)) (by decide +kernel) (by decide +kernel) rfl,
  by intros; exact G_at (by decide +kernel : fetch mX11_copy 93 = some (.ifCond .eq 15)),
  by intros; exact G_at (by decide +kernel : fetch mX11_copy 96 = some (.aload 7)),
  by intros; exact G_at (by decide +kernel : fetch mX11_copy 98 = some (.iload 4)),
  by intros; exact G_at (by decide +kernel : fetch mX11_copy 100 = some (.iload 5)),
  by intros; exact G_callV (by decide +kernel : fetch mX11_copy 102 = some (.invokevirtual 359)) (by decide +kernel) (by decide +kernel) rfl,
  by intros; exact G_at (by decide +kernel : fetch mX11_copy 105 = some (.ifCond .ne 6)),
  by intros; exact G_at (by decide +kernel : fetch mX11_copy 108 = some (.bipush (-13))),
  by intros; exact G_reti (by decide +kernel : fetch mX11_copy 110 = some (.ireturn)) (by decide +kernel),
  by intros; exact G_at (by decide +kernel : fetch mX11_copy 111 = some (.aload 6)),
  by intros; exact G_own (by decide +kernel : fetch mX11_copy 113 = some (.getfield 273)) (by decide +kernel),
  by intros; exact G_at (by decide +kernel : fetch mX11_copy 116 = some (.iload_n 2)),
  by intros; exact G_at (by decide +kernel : fetch mX11_copy 117 = some (.aload 7)),
  by intros; exact G_own (by decide +kernel : fetch mX11_copy 119 = some (.getfield 273)) (by decide +kernel),
  by intros; exact G_at (by decide +kernel : fetch mX11_copy 122 = some (.iload 4)),
  by intros; exact G_at (by decide +kernel : fetch mX11_copy 124 = some (.iload 5)),
  by intros; exact G_at (by decide +kernel : fetch mX11_copy 129 = some (.iload 5)),
  by intros; exact G_reti (by decide +kernel : fetch mX11_copy 131 = some (.ireturn)) (by decide +kernel),
  by decide +kernel,
  by decide +kernel,
  by decide +kernel,
  by decide +kernel,
  by decide +kernel⟩
theorem gX11_cost : (∀ (n d : Nat) (L : List (Option iV)) (st : List iV) (h : iH) (Q : Option iV → iH → Prop), G sp sc [] d mX11_cost (n + 1) 0 L st h Q = (match ld L 1 with | some (.inl x) => G sp sc [] d mX11_cost n 1 L (.inl x :: st) h Q | _ => False)) ∧
  (∀ (n d : Nat) (L : List (Option iV)) (r : List iV) (z0 : iV) (h : iH) (Q : Option iV → iH → Prop), G sp sc [] (d + 1) mX11_cost (n + 1) 1 L (z0 :: r) h Q = (cs r ≤ 8 ∧ Call sp sc d mX11_isShelf [z0] h (fun q h1 => GC sp sc [] (d + 1) mX11_cost n 4 L q r h h1 Q))) ∧
  (∀ (n d : Nat) (L : List (Option iV)) (a : Int) (r : List iV) (h : iH) (Q : Option iV → iH → Prop), G sp sc [] d mX11_cost (n + 1) 4 L (.inl a :: r) h Q = (inI a = true ∧ (¬ a = 0 → G sp sc [] d mX11_cost n 9 L r h Q) ∧ (¬ (¬ a = 0) → G sp sc [] d mX11_cost n 7 L r h Q))) ∧
  (∀ (n d : Nat) (L : List (Option iV)) (st : List iV) (h : iH) (Q : Option iV → iH → Prop), G sp sc [] d mX11_cost (n + 1) 7 L st h Q = G sp sc [] d mX11_cost n 8 L (.inl (-1) :: st) h Q) ∧
  (∀ (n d : Nat) (L : List (Option iV)) (a : Int) (h : iH) (Q : Option iV → iH → Prop), G sp sc [] d mX11_cost (n + 1) 8 L [.inl a] h Q = Q (some (.inl a)) h) ∧
  (∀ (n d : Nat) (L : List (Option iV)) (st : List iV) (h : iH) (Q : Option iV → iH → Prop), G sp sc [] d mX11_cost (n + 1) 9 L st h Q = (match ld L 0 with | some (.inr (.inr (r + 1))) => G sp sc [] d mX11_cost n 10 L (.inr (.inr (r + 1)) :: st) h Q | _ => False)) ∧
  (∀ (n d : Nat) (L : List (Option iV)) (r : List iV) (m : Nat) (h : iH) (Q : Option iV → iH → Prop), G sp sc [] d mX11_cost (n + 1) 10 L (.inr (.inr (m + 2)) :: r) h Q = (match h.1[m]? with | some (.inl (ci, fs)) => (match lkF 11 63 ci with | some k => (match fs[k]? with | some v => G sp sc [] d mX11_cost n 13 L (v :: r) h Q | none => False) | none => False) | _ => False)) ∧
  (∀ (n d : Nat) (L : List (Option iV)) (st : List iV) (h : iH) (Q : Option iV → iH → Prop), G sp sc [] d mX11_cost (n + 1) 13 L st h Q = (match ld L 1 with | some (.inl x) => G sp sc [] d mX11_cost n 14 L (.inl x :: st) h Q | _ => False)) ∧
  (∀ (n d : Nat) (L : List (Option iV)) (r : List iV) (j : Int) (m : Nat) (h : iH) (Q : Option iV → iH → Prop), G sp sc [] d mX11_cost (n + 1) 14 L (.inl j :: .inr (.inr (m + 2)) :: r) h Q = (match h.1[m]? with | some (.inr (.inr (t, rs))) => (inA j rs.length = true ∧ 3 ≤ t ∧ t < 6) ∧ G sp sc [] d mX11_cost n 15 L (.inr (.inr (rs.getD j.toNat 0)) :: r) h Q | _ => False)) ∧
  (∀ (n d : Nat) (L : List (Option iV)) (r : List iV) (m : Nat) (h : iH) (Q : Option iV → iH → Prop), G sp sc [] (d + 1) mX11_cost (n + 1) 15 L (.inr (.inr (m + 2)) :: r) h Q = (match h.1[m]? with | some (.inl (ci, _)) => (match lkC 11 155 ci with | some (y1, n1, kd) => (n1 = 0 ∧ (kd = 2 ∨ kd = 3 ∨ kd = 8) ∧ cs r ≤ 8) ∧ Call sp sc d y1 [.inr (.inr (m + 2))] h (fun q h1 => GC sp sc [] (d + 1) mX11_cost n 18 L q r h h1 Q) | none => False) | _ => False)) ∧
  (∀ (n d : Nat) (L : List (Option iV)) (r : List iV) (x : Int) (h : iH) (Q : Option iV → iH → Prop), G sp sc [] d mX11_cost (n + 1) 18 L (.inl x :: r) h Q = (match st1 L 2 (.inl x) with | some L' => G sp sc [] d mX11_cost n 19 L' r h Q | none => False)) ∧
  (∀ (n d : Nat) (L : List (Option iV)) (st : List iV) (h : iH) (Q : Option iV → iH → Prop), G sp sc [] d mX11_cost (n + 1) 19 L st h Q = (match ld L 2 with | some (.inl x) => G sp sc [] d mX11_cost n 20 L (.inl x :: st) h Q | _ => False)) ∧
  (∀ (n d : Nat) (L : List (Option iV)) (a : Int) (r : List iV) (h : iH) (Q : Option iV → iH → Prop), G sp sc [] d mX11_cost (n + 1) 20 L (.inl a :: r) h Q = (inI a = true ∧ (a = 0 → G sp sc [] d mX11_cost n 27 L r h Q) ∧ (¬ (a = 0) → G sp sc [] d mX11_cost n 23 L r h Q))) ∧
  (∀ (n d : Nat) (L : List (Option iV)) (st : List iV) (h : iH) (Q : Option iV → iH → Prop), G sp sc [] d mX11_cost (n + 1) 23 L st h Q = (match ld L 2 with | some (.inl x) => G sp sc [] d mX11_cost n 24 L (.inl x :: st) h Q | _ => False)) ∧
  (∀ (n d : Nat) (L : List (Option iV)) (st : List iV) (h : iH) (Q : Option iV → iH → Prop), G sp sc [] d mX11_cost (n + 1) 24 L st h Q = G sp sc [] d mX11_cost n 39 L st h Q) ∧
  (∀ (n d : Nat) (L : List (Option iV)) (st : List iV) (h : iH) (Q : Option iV → iH → Prop), G sp sc [] d mX11_cost (n + 1) 27 L st h Q = (match ld L 0 with | some (.inr (.inr (r + 1))) => G sp sc [] d mX11_cost n 28 L (.inr (.inr (r + 1)) :: st) h Q | _ => False)) ∧
  (∀ (n d : Nat) (L : List (Option iV)) (r : List iV) (m : Nat) (h : iH) (Q : Option iV → iH → Prop), G sp sc [] d mX11_cost (n + 1) 28 L (.inr (.inr (m + 2)) :: r) h Q = (match h.1[m]? with | some (.inl (ci, fs)) => (match lkF 11 63 ci with | some k => (match fs[k]? with | some v => G sp sc [] d mX11_cost n 31 L (v :: r) h Q | none => False) | none => False) | _ => False)) ∧
  (∀ (n d : Nat) (L : List (Option iV)) (st : List iV) (h : iH) (Q : Option iV → iH → Prop), G sp sc [] d mX11_cost (n + 1) 31 L st h Q = (match ld L 1 with | some (.inl x) => G sp sc [] d mX11_cost n 32 L (.inl x :: st) h Q | _ => False)) ∧
  (∀ (n d : Nat) (L : List (Option iV)) (r : List iV) (j : Int) (m : Nat) (h : iH) (Q : Option iV → iH → Prop), G sp sc [] d mX11_cost (n + 1) 32 L (.inl j :: .inr (.inr (m + 2)) :: r) h Q = (match h.1[m]? with | some (.inr (.inr (t, rs))) => (inA j rs.length = true ∧ 3 ≤ t ∧ t < 6) ∧ G sp sc [] d mX11_cost n 33 L (.inr (.inr (rs.getD j.toNat 0)) :: r) h Q | _ => False)) ∧
  (∀ (n d : Nat) (L : List (Option iV)) (r : List iV) (m : Nat) (h : iH) (Q : Option iV → iH → Prop), G sp sc [] d mX11_cost (n + 1) 33 L (.inr (.inr (m + 2)) :: r) h Q = (match h.1[m]? with | some (.inl (ci, fs)) => (match lkF 11 158 ci with | some k => (match fs[k]? with | some v => G sp sc [] d mX11_cost n 36 L (v :: r) h Q | none => False) | none => False) | _ => False)) ∧
  (∀ (n d : Nat) (L : List (Option iV)) (r : List iV) (m : Nat) (h : iH) (Q : Option iV → iH → Prop), G sp sc [] (d + 1) mX11_cost (n + 1) 36 L (.inr (.inr (m + 2)) :: r) h Q = (match h.1[m]? with | some (.inl (ci, _)) => (match lkC 11 368 ci with | some (y1, n1, kd) => (n1 = 0 ∧ (kd = 2 ∨ kd = 3 ∨ kd = 8) ∧ cs r ≤ 8) ∧ Call sp sc d y1 [.inr (.inr (m + 2))] h (fun q h1 => GC sp sc [] (d + 1) mX11_cost n 39 L q r h h1 Q) | none => False) | _ => False)) ∧
  (∀ (n d : Nat) (L : List (Option iV)) (a : Int) (h : iH) (Q : Option iV → iH → Prop), G sp sc [] d mX11_cost (n + 1) 39 L [.inl a] h Q = Q (some (.inl a)) h) ∧
  lkC 11 155 5 = some (mX5_refusalAsNature, 0, 2) ∧
  lkC 11 368 0 = some (mX0_price, 0, 3) ∧
  lkC 11 368 1 = some (mX1_price, 0, 3) ∧
  lkC 11 368 3 = some (mX3_price, 0, 3) ∧
  lkC 11 368 6 = some (mX6_price, 0, 2) ∧
  lkC 11 368 7 = some (mX7_price, 0, 3) ∧
  lkC 11 368 9 = some (mX9_price, 0, 3) ∧
  lkF 11 158 5 = some 1 ∧
  lkF 11 63 11 = some 1 := ⟨by intros; exact G_at (by decide +kernel : fetch mX11_cost 0 = some (.iload_n 1)),
  by intros; exact G_callS (k := 1) (kd := 0) (by decide +kernel : fetch mX11_cost 1 = some (.invokestatic 75)) (by decide +kernel) (by decide +kernel) (by decide +kernel) rfl (by decide),
  by intros; exact G_at (by decide +kernel : fetch mX11_cost 4 = some (.ifCond .ne 5)),
  by intros; exact G_at (by decide +kernel : fetch mX11_cost 7 = some (.iconst (-1))),
  by intros; exact G_reti (by decide +kernel : fetch mX11_cost 8 = some (.ireturn)) (by decide +kernel),
  by intros; exact G_at (by decide +kernel : fetch mX11_cost 9 = some (.aload_n 0)),
  by intros; exact G_own (by decide +kernel : fetch mX11_cost 10 = some (.getfield 63)) (by decide +kernel),
  by intros; exact G_at (by decide +kernel : fetch mX11_cost 13 = some (.iload_n 1)),
  by intros; exact G_at (by decide +kernel : fetch mX11_cost 14 = some (.aaload)),
  by intros; exact G_callV (by decide +kernel : fetch mX11_cost 15 = some (.invokevirtual 155)) (by decide +kernel) (by decide +kernel) rfl,
  by intros; exact G_at (by decide +kernel : fetch mX11_cost 18 = some (.istore_n 2)),
  by intros; exact G_at (by decide +kernel : fetch mX11_cost 19 = some (.iload_n 2)),
  by intros; exact G_at (by decide +kernel : fetch mX11_cost 20 = some (.ifCond .eq 7)),
  by intros; exact G_at (by decide +kernel : fetch mX11_cost 23 = some (.iload_n 2)),
  by intros; exact G_at (by decide +kernel : fetch mX11_cost 24 = some (.goto 15)),
  by intros; exact G_at (by decide +kernel : fetch mX11_cost 27 = some (.aload_n 0)),
  by intros; exact G_own (by decide +kernel : fetch mX11_cost 28 = some (.getfield 63)) (by decide +kernel),
  by intros; exact G_at (by decide +kernel : fetch mX11_cost 31 = some (.iload_n 1)),
  by intros; exact G_at (by decide +kernel : fetch mX11_cost 32 = some (.aaload)),
  by intros; exact G_own (by decide +kernel : fetch mX11_cost 33 = some (.getfield 158)) (by decide +kernel),
  by intros; exact G_callV (by decide +kernel : fetch mX11_cost 36 = some (.invokevirtual 368)) (by decide +kernel) (by decide +kernel) rfl,
  by intros; exact G_reti (by decide +kernel : fetch mX11_cost 39 = some (.ireturn)) (by decide +kernel),
  by decide +kernel,
  by decide +kernel,
  by decide +kernel,
  by decide +kernel,
  by decide +kernel,
  by decide +kernel,
  by decide +kernel,
  by decide +kernel,
  by decide +kernel⟩
theorem gX11_toss : (∀ (n d : Nat) (L : List (Option iV)) (st : List iV) (h : iH) (Q : Option iV → iH → Prop), G sp sc [] d mX11_toss (n + 1) 0 L st h Q = (match ld L 1 with | some (.inl x) => G sp sc [] d mX11_toss n 1 L (.inl x :: st) h Q | _ => False)) ∧
  (∀ (n d : Nat) (L : List (Option iV)) (r : List iV) (z0 : iV) (h : iH) (Q : Option iV → iH → Prop), G sp sc [] (d + 1) mX11_toss (n + 1) 1 L (z0 :: r) h Q = (cs r ≤ 8 ∧ Call sp sc d mX11_isShelf [z0] h (fun q h1 => GC sp sc [] (d + 1) mX11_toss n 4 L q r h h1 Q))) ∧
  (∀ (n d : Nat) (L : List (Option iV)) (a : Int) (r : List iV) (h : iH) (Q : Option iV → iH → Prop), G sp sc [] d mX11_toss (n + 1) 4 L (.inl a :: r) h Q = (inI a = true ∧ (¬ a = 0 → G sp sc [] d mX11_toss n 9 L r h Q) ∧ (¬ (¬ a = 0) → G sp sc [] d mX11_toss n 7 L r h Q))) ∧
  (∀ (n d : Nat) (L : List (Option iV)) (st : List iV) (h : iH) (Q : Option iV → iH → Prop), G sp sc [] d mX11_toss (n + 1) 7 L st h Q = G sp sc [] d mX11_toss n 8 L (.inl (-1) :: st) h Q) ∧
  (∀ (n d : Nat) (L : List (Option iV)) (a : Int) (h : iH) (Q : Option iV → iH → Prop), G sp sc [] d mX11_toss (n + 1) 8 L [.inl a] h Q = Q (some (.inl a)) h) ∧
  (∀ (n d : Nat) (L : List (Option iV)) (st : List iV) (h : iH) (Q : Option iV → iH → Prop), G sp sc [] d mX11_toss (n + 1) 9 L st h Q = (match ld L 0 with | some (.inr (.inr (r + 1))) => G sp sc [] d mX11_toss n 10 L (.inr (.inr (r + 1)) :: st) h Q | _ => False)) ∧
  (∀ (n d : Nat) (L : List (Option iV)) (r : List iV) (m : Nat) (h : iH) (Q : Option iV → iH → Prop), G sp sc [] d mX11_toss (n + 1) 10 L (.inr (.inr (m + 2)) :: r) h Q = (match h.1[m]? with | some (.inl (ci, fs)) => (match lkF 11 63 ci with | some k => (match fs[k]? with | some v => G sp sc [] d mX11_toss n 13 L (v :: r) h Q | none => False) | none => False) | _ => False)) ∧
  (∀ (n d : Nat) (L : List (Option iV)) (st : List iV) (h : iH) (Q : Option iV → iH → Prop), G sp sc [] d mX11_toss (n + 1) 13 L st h Q = (match ld L 1 with | some (.inl x) => G sp sc [] d mX11_toss n 14 L (.inl x :: st) h Q | _ => False)) ∧
  (∀ (n d : Nat) (L : List (Option iV)) (r : List iV) (j : Int) (m : Nat) (h : iH) (Q : Option iV → iH → Prop), G sp sc [] d mX11_toss (n + 1) 14 L (.inl j :: .inr (.inr (m + 2)) :: r) h Q = (match h.1[m]? with | some (.inr (.inr (t, rs))) => (inA j rs.length = true ∧ 3 ≤ t ∧ t < 6) ∧ G sp sc [] d mX11_toss n 15 L (.inr (.inr (rs.getD j.toNat 0)) :: r) h Q | _ => False)) ∧
  (∀ (n d : Nat) (L : List (Option iV)) (r : List iV) (m : Nat) (h : iH) (Q : Option iV → iH → Prop), G sp sc [] (d + 1) mX11_toss (n + 1) 15 L (.inr (.inr (m + 2)) :: r) h Q = (match h.1[m]? with | some (.inl (ci, _)) => (match lkC 11 155 ci with | some (y1, n1, kd) => (n1 = 0 ∧ (kd = 2 ∨ kd = 3 ∨ kd = 8) ∧ cs r ≤ 8) ∧ Call sp sc d y1 [.inr (.inr (m + 2))] h (fun q h1 => GC sp sc [] (d + 1) mX11_toss n 18 L q r h h1 Q) | none => False) | _ => False)) ∧
  (∀ (n d : Nat) (L : List (Option iV)) (r : List iV) (x : Int) (h : iH) (Q : Option iV → iH → Prop), G sp sc [] d mX11_toss (n + 1) 18 L (.inl x :: r) h Q = (match st1 L 2 (.inl x) with | some L' => G sp sc [] d mX11_toss n 19 L' r h Q | none => False)) ∧
  (∀ (n d : Nat) (L : List (Option iV)) (st : List iV) (h : iH) (Q : Option iV → iH → Prop), G sp sc [] d mX11_toss (n + 1) 19 L st h Q = (match ld L 2 with | some (.inl x) => G sp sc [] d mX11_toss n 20 L (.inl x :: st) h Q | _ => False)) ∧
  (∀ (n d : Nat) (L : List (Option iV)) (a : Int) (r : List iV) (h : iH) (Q : Option iV → iH → Prop), G sp sc [] d mX11_toss (n + 1) 20 L (.inl a :: r) h Q = (inI a = true ∧ (a = 0 → G sp sc [] d mX11_toss n 25 L r h Q) ∧ (¬ (a = 0) → G sp sc [] d mX11_toss n 23 L r h Q))) ∧
  (∀ (n d : Nat) (L : List (Option iV)) (st : List iV) (h : iH) (Q : Option iV → iH → Prop), G sp sc [] d mX11_toss (n + 1) 23 L st h Q = (match ld L 2 with | some (.inl x) => G sp sc [] d mX11_toss n 24 L (.inl x :: st) h Q | _ => False)) ∧
  (∀ (n d : Nat) (L : List (Option iV)) (a : Int) (h : iH) (Q : Option iV → iH → Prop), G sp sc [] d mX11_toss (n + 1) 24 L [.inl a] h Q = Q (some (.inl a)) h) ∧
  (∀ (n d : Nat) (L : List (Option iV)) (st : List iV) (h : iH) (Q : Option iV → iH → Prop), G sp sc [] d mX11_toss (n + 1) 25 L st h Q = (match ld L 0 with | some (.inr (.inr (r + 1))) => G sp sc [] d mX11_toss n 26 L (.inr (.inr (r + 1)) :: st) h Q | _ => False)) ∧
  (∀ (n d : Nat) (L : List (Option iV)) (r : List iV) (m : Nat) (h : iH) (Q : Option iV → iH → Prop), G sp sc [] d mX11_toss (n + 1) 26 L (.inr (.inr (m + 2)) :: r) h Q = (match h.1[m]? with | some (.inl (ci, fs)) => (match lkF 11 63 ci with | some k => (match fs[k]? with | some v => G sp sc [] d mX11_toss n 29 L (v :: r) h Q | none => False) | none => False) | _ => False)) ∧
  (∀ (n d : Nat) (L : List (Option iV)) (st : List iV) (h : iH) (Q : Option iV → iH → Prop), G sp sc [] d mX11_toss (n + 1) 29 L st h Q = (match ld L 1 with | some (.inl x) => G sp sc [] d mX11_toss n 30 L (.inl x :: st) h Q | _ => False)) ∧
  (∀ (n d : Nat) (L : List (Option iV)) (r : List iV) (j : Int) (m : Nat) (h : iH) (Q : Option iV → iH → Prop), G sp sc [] d mX11_toss (n + 1) 30 L (.inl j :: .inr (.inr (m + 2)) :: r) h Q = (match h.1[m]? with | some (.inr (.inr (t, rs))) => (inA j rs.length = true ∧ 3 ≤ t ∧ t < 6) ∧ G sp sc [] d mX11_toss n 31 L (.inr (.inr (rs.getD j.toNat 0)) :: r) h Q | _ => False)) ∧
  (∀ (n d : Nat) (L : List (Option iV)) (r : List iV) (m : Nat) (h : iH) (Q : Option iV → iH → Prop), G sp sc [] d mX11_toss (n + 1) 31 L (.inr (.inr (m + 2)) :: r) h Q = (match h.1[m]? with | some (.inl (ci, fs)) => (match lkF 11 158 ci with | some k => (match fs[k]? with | some v => G sp sc [] d mX11_toss n 34 L (v :: r) h Q | none => False) | none => False) | _ => False)) ∧
  (∀ (n d : Nat) (L : List (Option iV)) (r : List iV) (x : Nat) (h : iH) (Q : Option iV → iH → Prop), G sp sc [] d mX11_toss (n + 1) 34 L (.inr (.inr (x + 1)) :: r) h Q = (match st1 L 3 (.inr (.inr (x + 1))) with | some L' => G sp sc [] d mX11_toss n 35 L' r h Q | none => False)) ∧
  (∀ (n d : Nat) (L : List (Option iV)) (st : List iV) (h : iH) (Q : Option iV → iH → Prop), G sp sc [] d mX11_toss (n + 1) 35 L st h Q = (match ld L 3 with | some (.inr (.inr (r + 1))) => G sp sc [] d mX11_toss n 36 L (.inr (.inr (r + 1)) :: st) h Q | _ => False)) ∧
  (∀ (n d : Nat) (L : List (Option iV)) (r : List iV) (m : Nat) (h : iH) (Q : Option iV → iH → Prop), G sp sc [] (d + 1) mX11_toss (n + 1) 36 L (.inr (.inr (m + 2)) :: r) h Q = (match h.1[m]? with | some (.inl (ci, _)) => (match lkC 11 371 ci with | some (y1, n1, kd) => (n1 = 0 ∧ (kd = 2 ∨ kd = 3 ∨ kd = 8) ∧ cs r ≤ 8) ∧ Call sp sc d y1 [.inr (.inr (m + 2))] h (fun q h1 => GC sp sc [] (d + 1) mX11_toss n 39 L q r h h1 Q) | none => False) | _ => False)) ∧
  (∀ (n d : Nat) (L : List (Option iV)) (st : List iV) (h : iH) (Q : Option iV → iH → Prop), G sp sc [] d mX11_toss (n + 1) 39 L st h Q = G sp sc [] d mX11_toss n 70 L st h Q) ∧
  (∀ (n d : Nat) (L : List (Option iV)) (r : List iV) (x : Nat) (h : iH) (Q : Option iV → iH → Prop), G sp sc [] d mX11_toss (n + 1) 42 L (.inr (.inr (x + 1)) :: r) h Q = (match st1 L 4 (.inr (.inr (x + 1))) with | some L' => G sp sc [] d mX11_toss n 44 L' r h Q | none => False)) ∧
  (∀ (n d : Nat) (L : List (Option iV)) (st : List iV) (h : iH) (Q : Option iV → iH → Prop), G sp sc [] d mX11_toss (n + 1) 44 L st h Q = ((-32768 ≤ (200 : Int) ∧ (200 : Int) < 32768) ∧ G sp sc [] d mX11_toss n 47 L (.inl 200 :: st) h Q)) ∧
  (∀ (n d : Nat) (L : List (Option iV)) (st : List iV) (h : iH) (Q : Option iV → iH → Prop), G sp sc [] d mX11_toss (n + 1) 47 L st h Q = (match ld L 3 with | some (.inr (.inr (r + 1))) => G sp sc [] d mX11_toss n 48 L (.inr (.inr (r + 1)) :: st) h Q | _ => False)) ∧
  (∀ (n d : Nat) (L : List (Option iV)) (r : List iV) (m : Nat) (h : iH) (Q : Option iV → iH → Prop), G sp sc [] (d + 1) mX11_toss (n + 1) 48 L (.inr (.inr (m + 2)) :: r) h Q = (match h.1[m]? with | some (.inl (ci, _)) => (match lkC 11 368 ci with | some (y1, n1, kd) => (n1 = 0 ∧ (kd = 2 ∨ kd = 3 ∨ kd = 8) ∧ cs r ≤ 8) ∧ Call sp sc d y1 [.inr (.inr (m + 2))] h (fun q h1 => GC sp sc [] (d + 1) mX11_toss n 51 L q r h h1 Q) | none => False) | _ => False)) ∧
  (∀ (n d : Nat) (L : List (Option iV)) (a : Int) (b : Int) (r : List iV) (h : iH) (Q : Option iV → iH → Prop), G sp sc [] d mX11_toss (n + 1) 51 L (.inl b :: .inl a :: r) h Q = G sp sc [] d mX11_toss n 52 L (.inl (a + b) :: r) h Q) ∧
  (∀ (n d : Nat) (L : List (Option iV)) (a : Int) (h : iH) (Q : Option iV → iH → Prop), G sp sc [] d mX11_toss (n + 1) 52 L [.inl a] h Q = Q (some (.inl a)) h) ∧
  (∀ (n d : Nat) (L : List (Option iV)) (r : List iV) (x : Nat) (h : iH) (Q : Option iV → iH → Prop), G sp sc [] d mX11_toss (n + 1) 53 L (.inr (.inr (x + 1)) :: r) h Q = (match st1 L 4 (.inr (.inr (x + 1))) with | some L' => G sp sc [] d mX11_toss n 55 L' r h Q | none => False)) ∧
  (∀ (n d : Nat) (L : List (Option iV)) (st : List iV) (h : iH) (Q : Option iV → iH → Prop), G sp sc [] d mX11_toss (n + 1) 55 L st h Q = ((-128 ≤ (100 : Int) ∧ (100 : Int) < 128) ∧ G sp sc [] d mX11_toss n 57 L (.inl 100 :: st) h Q)) ∧
  (∀ (n d : Nat) (L : List (Option iV)) (st : List iV) (h : iH) (Q : Option iV → iH → Prop), G sp sc [] d mX11_toss (n + 1) 57 L st h Q = (match ld L 3 with | some (.inr (.inr (r + 1))) => G sp sc [] d mX11_toss n 58 L (.inr (.inr (r + 1)) :: st) h Q | _ => False)) ∧
  (∀ (n d : Nat) (L : List (Option iV)) (r : List iV) (m : Nat) (h : iH) (Q : Option iV → iH → Prop), G sp sc [] d mX11_toss (n + 1) 58 L (.inr (.inr (m + 2)) :: r) h Q = (match h.1[m]? with | some (.inl (ci, fs)) => (match lkF 11 125 ci with | some k => (match fs[k]? with | some v => G sp sc [] d mX11_toss n 61 L (v :: r) h Q | none => False) | none => False) | _ => False)) ∧
  (∀ (n d : Nat) (L : List (Option iV)) (a : Int) (b : Int) (r : List iV) (h : iH) (Q : Option iV → iH → Prop), G sp sc [] d mX11_toss (n + 1) 61 L (.inl b :: .inl a :: r) h Q = G sp sc [] d mX11_toss n 62 L (.inl (a + b) :: r) h Q) ∧
  (∀ (n d : Nat) (L : List (Option iV)) (a : Int) (h : iH) (Q : Option iV → iH → Prop), G sp sc [] d mX11_toss (n + 1) 62 L [.inl a] h Q = Q (some (.inl a)) h) ∧
  (∀ (n d : Nat) (L : List (Option iV)) (r : List iV) (x : Nat) (h : iH) (Q : Option iV → iH → Prop), G sp sc [] d mX11_toss (n + 1) 63 L (.inr (.inr (x + 1)) :: r) h Q = (match st1 L 4 (.inr (.inr (x + 1))) with | some L' => G sp sc [] d mX11_toss n 65 L' r h Q | none => False)) ∧
  (∀ (n d : Nat) (L : List (Option iV)) (st : List iV) (h : iH) (Q : Option iV → iH → Prop), G sp sc [] d mX11_toss (n + 1) 65 L st h Q = (match ld L 3 with | some (.inr (.inr (r + 1))) => G sp sc [] d mX11_toss n 66 L (.inr (.inr (r + 1)) :: st) h Q | _ => False)) ∧
  (∀ (n d : Nat) (L : List (Option iV)) (r : List iV) (m : Nat) (h : iH) (Q : Option iV → iH → Prop), G sp sc [] d mX11_toss (n + 1) 66 L (.inr (.inr (m + 2)) :: r) h Q = (match h.1[m]? with | some (.inl (ci, fs)) => (match lkF 11 125 ci with | some k => (match fs[k]? with | some v => G sp sc [] d mX11_toss n 69 L (v :: r) h Q | none => False) | none => False) | _ => False)) ∧
  (∀ (n d : Nat) (L : List (Option iV)) (a : Int) (h : iH) (Q : Option iV → iH → Prop), G sp sc [] d mX11_toss (n + 1) 69 L [.inl a] h Q = Q (some (.inl a)) h) ∧
  (∀ (n d : Nat) (L : List (Option iV)) (st : List iV) (h : iH) (Q : Option iV → iH → Prop), G sp sc [] d mX11_toss (n + 1) 70 L st h Q = ((-128 ≤ ((-15) : Int) ∧ ((-15) : Int) < 128) ∧ G sp sc [] d mX11_toss n 72 L (.inl (-15) :: st) h Q)) ∧
  (∀ (n d : Nat) (L : List (Option iV)) (a : Int) (h : iH) (Q : Option iV → iH → Prop), G sp sc [] d mX11_toss (n + 1) 72 L [.inl a] h Q = Q (some (.inl a)) h) ∧
  lkC 11 155 5 = some (mX5_refusalAsNature, 0, 2) ∧
  lkC 11 368 0 = some (mX0_price, 0, 3) ∧
  lkC 11 368 1 = some (mX1_price, 0, 3) ∧
  lkC 11 368 3 = some (mX3_price, 0, 3) ∧
  lkC 11 368 6 = some (mX6_price, 0, 2) ∧
  lkC 11 368 7 = some (mX7_price, 0, 3) ∧
  lkC 11 368 9 = some (mX9_price, 0, 3) ∧
  lkC 11 371 0 = some (mX6_fail, 0, 3) ∧
  lkC 11 371 1 = some (mX1_fail, 0, 3) ∧
  lkC 11 371 3 = some (mX3_fail, 0, 3) ∧
  lkC 11 371 6 = some (mX6_fail, 0, 2) ∧
  lkC 11 371 7 = some (mX7_fail, 0, 3) ∧
  lkC 11 371 9 = some (mX6_fail, 0, 3) ∧
  lkF 11 125 0 = some 0 ∧
  lkF 11 125 1 = some 0 ∧
  lkF 11 125 3 = some 0 ∧
  lkF 11 125 6 = some 0 ∧
  lkF 11 125 7 = some 0 ∧
  lkF 11 125 9 = some 0 ∧
  lkF 11 158 5 = some 1 ∧
  lkF 11 63 11 = some 1 := ⟨by intros; exact G_at (by decide +kernel : fetch mX11_toss 0 = some (.iload_n 1)),
  by intros; exact G_callS (k := 1) (kd := 0) (by decide +kernel : fetch mX11_toss 1 = some (.invokestatic 75)) (by decide +kernel) (by decide +kernel) (by decide +kernel) rfl (by decide),
  by intros; exact G_at (by decide +kernel : fetch mX11_toss 4 = some (.ifCond .ne 5)),
  by intros; exact G_at (by decide +kernel : fetch mX11_toss 7 = some (.iconst (-1))),
  by intros; exact G_reti (by decide +kernel : fetch mX11_toss 8 = some (.ireturn)) (by decide +kernel),
  by intros; exact G_at (by decide +kernel : fetch mX11_toss 9 = some (.aload_n 0)),
  by intros; exact G_own (by decide +kernel : fetch mX11_toss 10 = some (.getfield 63)) (by decide +kernel),
  by intros; exact G_at (by decide +kernel : fetch mX11_toss 13 = some (.iload_n 1)),
  by intros; exact G_at (by decide +kernel : fetch mX11_toss 14 = some (.aaload)),
  by intros; exact G_callV (by decide +kernel : fetch mX11_toss 15 = some (.invokevirtual 155)) (by decide +kernel) (by decide +kernel) rfl,
  by intros; exact G_at (by decide +kernel : fetch mX11_toss 18 = some (.istore_n 2)),
  by intros; exact G_at (by decide +kernel : fetch mX11_toss 19 = some (.iload_n 2)),
  by intros; exact G_at (by decide +kernel : fetch mX11_toss 20 = some (.ifCond .eq 5)),
  by intros; exact G_at (by decide +kernel : fetch mX11_toss 23 = some (.iload_n 2)),
  by intros; exact G_reti (by decide +kernel : fetch mX11_toss 24 = some (.ireturn)) (by decide +kernel),
  by intros; exact G_at (by decide +kernel : fetch mX11_toss 25 = some (.aload_n 0)),
  by intros; exact G_own (by decide +kernel : fetch mX11_toss 26 = some (.getfield 63)) (by decide +kernel),
  by intros; exact G_at (by decide +kernel : fetch mX11_toss 29 = some (.iload_n 1)),
  by intros; exact G_at (by decide +kernel : fetch mX11_toss 30 = some (.aaload)),
  by intros; exact G_own (by decide +kernel : fetch mX11_toss 31 = some (.getfield 158)) (by decide +kernel),
  by intros; exact G_at (by decide +kernel : fetch mX11_toss 34 = some (.astore_n 3)),
  by intros; exact G_at (by decide +kernel : fetch mX11_toss 35 = some (.aload_n 3)),
  by intros; exact G_callV (by decide +kernel : fetch mX11_toss 36 = some (.invokevirtual 371)) (by decide +kernel) (by decide +kernel) rfl,
  by intros; exact G_at (by decide +kernel : fetch mX11_toss 39 = some (.goto 31)),
  by intros; exact G_at (by decide +kernel : fetch mX11_toss 42 = some (.astore 4)),
  by intros; exact G_at (by decide +kernel : fetch mX11_toss 44 = some (.sipush 200)),
  by intros; exact G_at (by decide +kernel : fetch mX11_toss 47 = some (.aload_n 3)),
  by intros; exact G_callV (by decide +kernel : fetch mX11_toss 48 = some (.invokevirtual 368)) (by decide +kernel) (by decide +kernel) rfl,
  by intros; exact G_at (by decide +kernel : fetch mX11_toss 51 = some (.iadd)),
  by intros; exact G_reti (by decide +kernel : fetch mX11_toss 52 = some (.ireturn)) (by decide +kernel),
  by intros; exact G_at (by decide +kernel : fetch mX11_toss 53 = some (.astore 4)),
  by intros; exact G_at (by decide +kernel : fetch mX11_toss 55 = some (.bipush 100)),
  by intros; exact G_at (by decide +kernel : fetch mX11_toss 57 = some (.aload_n 3)),
  by intros; exact G_own (by decide +kernel : fetch mX11_toss 58 = some (.getfield 125)) (by decide +kernel),
  by intros; exact G_at (by decide +kernel : fetch mX11_toss 61 = some (.iadd)),
  by intros; exact G_reti (by decide +kernel : fetch mX11_toss 62 = some (.ireturn)) (by decide +kernel),
  by intros; exact G_at (by decide +kernel : fetch mX11_toss 63 = some (.astore 4)),
  by intros; exact G_at (by decide +kernel : fetch mX11_toss 65 = some (.aload_n 3)),
  by intros; exact G_own (by decide +kernel : fetch mX11_toss 66 = some (.getfield 125)) (by decide +kernel),
  by intros; exact G_reti (by decide +kernel : fetch mX11_toss 69 = some (.ireturn)) (by decide +kernel),
  by intros; exact G_at (by decide +kernel : fetch mX11_toss 70 = some (.bipush (-15))),
  by intros; exact G_reti (by decide +kernel : fetch mX11_toss 72 = some (.ireturn)) (by decide +kernel),
  by decide +kernel,
  by decide +kernel,
  by decide +kernel,
  by decide +kernel,
  by decide +kernel,
  by decide +kernel,
  by decide +kernel,
  by decide +kernel,
  by decide +kernel,
  by decide +kernel,
  by decide +kernel,
  by decide +kernel,
  by decide +kernel,
  by decide +kernel,
  by decide +kernel,
  by decide +kernel,
  by decide +kernel,
  by decide +kernel,
  by decide +kernel,
  by decide +kernel,
  by decide +kernel⟩
theorem gX11_isSide : (∀ (n d : Nat) (L : List (Option iV)) (st : List iV) (h : iH) (Q : Option iV → iH → Prop), G sp sc [] d mX11_isSide (n + 1) 0 L st h Q = (match ld L 0 with | some (.inl x) => G sp sc [] d mX11_isSide n 1 L (.inl x :: st) h Q | _ => False)) ∧
  (∀ (n d : Nat) (L : List (Option iV)) (a : Int) (r : List iV) (h : iH) (Q : Option iV → iH → Prop), G sp sc [] d mX11_isSide (n + 1) 1 L (.inl a :: r) h Q = (inI a = true ∧ (a = 0 → G sp sc [] d mX11_isSide n 9 L r h Q) ∧ (¬ (a = 0) → G sp sc [] d mX11_isSide n 4 L r h Q))) ∧
  (∀ (n d : Nat) (L : List (Option iV)) (st : List iV) (h : iH) (Q : Option iV → iH → Prop), G sp sc [] d mX11_isSide (n + 1) 4 L st h Q = (match ld L 0 with | some (.inl x) => G sp sc [] d mX11_isSide n 5 L (.inl x :: st) h Q | _ => False)) ∧
  (∀ (n d : Nat) (L : List (Option iV)) (st : List iV) (h : iH) (Q : Option iV → iH → Prop), G sp sc [] d mX11_isSide (n + 1) 5 L st h Q = G sp sc [] d mX11_isSide n 6 L (.inl 1 :: st) h Q) ∧
  (∀ (n d : Nat) (L : List (Option iV)) (a : Int) (b : Int) (r : List iV) (h : iH) (Q : Option iV → iH → Prop), G sp sc [] d mX11_isSide (n + 1) 6 L (.inl b :: .inl a :: r) h Q = ((inI a = true ∧ inI b = true) ∧ (¬ a = b → G sp sc [] d mX11_isSide n 13 L r h Q) ∧ (¬ (¬ a = b) → G sp sc [] d mX11_isSide n 9 L r h Q))) ∧
  (∀ (n d : Nat) (L : List (Option iV)) (st : List iV) (h : iH) (Q : Option iV → iH → Prop), G sp sc [] d mX11_isSide (n + 1) 9 L st h Q = G sp sc [] d mX11_isSide n 10 L (.inl 1 :: st) h Q) ∧
  (∀ (n d : Nat) (L : List (Option iV)) (st : List iV) (h : iH) (Q : Option iV → iH → Prop), G sp sc [] d mX11_isSide (n + 1) 10 L st h Q = G sp sc [] d mX11_isSide n 14 L st h Q) ∧
  (∀ (n d : Nat) (L : List (Option iV)) (st : List iV) (h : iH) (Q : Option iV → iH → Prop), G sp sc [] d mX11_isSide (n + 1) 13 L st h Q = G sp sc [] d mX11_isSide n 14 L (.inl 0 :: st) h Q) ∧
  (∀ (n d : Nat) (L : List (Option iV)) (a : Int) (h : iH) (Q : Option iV → iH → Prop), G sp sc [] d mX11_isSide (n + 1) 14 L [.inl a] h Q = ((a = 0 ∨ a = 1) ∧ Q (some (.inl a)) h)) := ⟨by intros; exact G_at (by decide +kernel : fetch mX11_isSide 0 = some (.iload_n 0)),
  by intros; exact G_at (by decide +kernel : fetch mX11_isSide 1 = some (.ifCond .eq 8)),
  by intros; exact G_at (by decide +kernel : fetch mX11_isSide 4 = some (.iload_n 0)),
  by intros; exact G_at (by decide +kernel : fetch mX11_isSide 5 = some (.iconst 1)),
  by intros; exact G_at (by decide +kernel : fetch mX11_isSide 6 = some (.if_icmp .ne 7)),
  by intros; exact G_at (by decide +kernel : fetch mX11_isSide 9 = some (.iconst 1)),
  by intros; exact G_at (by decide +kernel : fetch mX11_isSide 10 = some (.goto 4)),
  by intros; exact G_at (by decide +kernel : fetch mX11_isSide 13 = some (.iconst 0)),
  by intros; exact G_retz (by decide +kernel : fetch mX11_isSide 14 = some (.ireturn)) (by decide +kernel)⟩
theorem gX11_isShelf : (∀ (n d : Nat) (L : List (Option iV)) (st : List iV) (h : iH) (Q : Option iV → iH → Prop), G sp sc [] d mX11_isShelf (n + 1) 0 L st h Q = (match ld L 0 with | some (.inl x) => G sp sc [] d mX11_isShelf n 1 L (.inl x :: st) h Q | _ => False)) ∧
  (∀ (n d : Nat) (L : List (Option iV)) (a : Int) (r : List iV) (h : iH) (Q : Option iV → iH → Prop), G sp sc [] d mX11_isShelf (n + 1) 1 L (.inl a :: r) h Q = (inI a = true ∧ (a < 0 → G sp sc [] d mX11_isShelf n 14 L r h Q) ∧ (¬ (a < 0) → G sp sc [] d mX11_isShelf n 4 L r h Q))) ∧
  (∀ (n d : Nat) (L : List (Option iV)) (st : List iV) (h : iH) (Q : Option iV → iH → Prop), G sp sc [] d mX11_isShelf (n + 1) 4 L st h Q = (match ld L 0 with | some (.inl x) => G sp sc [] d mX11_isShelf n 5 L (.inl x :: st) h Q | _ => False)) ∧
  (∀ (n d : Nat) (L : List (Option iV)) (st : List iV) (h : iH) (Q : Option iV → iH → Prop), G sp sc [] d mX11_isShelf (n + 1) 5 L st h Q = ((-128 ≤ (8 : Int) ∧ (8 : Int) < 128) ∧ G sp sc [] d mX11_isShelf n 7 L (.inl 8 :: st) h Q)) ∧
  (∀ (n d : Nat) (L : List (Option iV)) (a : Int) (b : Int) (r : List iV) (h : iH) (Q : Option iV → iH → Prop), G sp sc [] d mX11_isShelf (n + 1) 7 L (.inl b :: .inl a :: r) h Q = ((inI a = true ∧ inI b = true) ∧ (b ≤ a → G sp sc [] d mX11_isShelf n 14 L r h Q) ∧ (¬ (b ≤ a) → G sp sc [] d mX11_isShelf n 10 L r h Q))) ∧
  (∀ (n d : Nat) (L : List (Option iV)) (st : List iV) (h : iH) (Q : Option iV → iH → Prop), G sp sc [] d mX11_isShelf (n + 1) 10 L st h Q = G sp sc [] d mX11_isShelf n 11 L (.inl 1 :: st) h Q) ∧
  (∀ (n d : Nat) (L : List (Option iV)) (st : List iV) (h : iH) (Q : Option iV → iH → Prop), G sp sc [] d mX11_isShelf (n + 1) 11 L st h Q = G sp sc [] d mX11_isShelf n 15 L st h Q) ∧
  (∀ (n d : Nat) (L : List (Option iV)) (st : List iV) (h : iH) (Q : Option iV → iH → Prop), G sp sc [] d mX11_isShelf (n + 1) 14 L st h Q = G sp sc [] d mX11_isShelf n 15 L (.inl 0 :: st) h Q) ∧
  (∀ (n d : Nat) (L : List (Option iV)) (a : Int) (h : iH) (Q : Option iV → iH → Prop), G sp sc [] d mX11_isShelf (n + 1) 15 L [.inl a] h Q = ((a = 0 ∨ a = 1) ∧ Q (some (.inl a)) h)) := ⟨by intros; exact G_at (by decide +kernel : fetch mX11_isShelf 0 = some (.iload_n 0)),
  by intros; exact G_at (by decide +kernel : fetch mX11_isShelf 1 = some (.ifCond .lt 13)),
  by intros; exact G_at (by decide +kernel : fetch mX11_isShelf 4 = some (.iload_n 0)),
  by intros; exact G_at (by decide +kernel : fetch mX11_isShelf 5 = some (.bipush 8)),
  by intros; exact G_at (by decide +kernel : fetch mX11_isShelf 7 = some (.if_icmp .ge 7)),
  by intros; exact G_at (by decide +kernel : fetch mX11_isShelf 10 = some (.iconst 1)),
  by intros; exact G_at (by decide +kernel : fetch mX11_isShelf 11 = some (.goto 4)),
  by intros; exact G_at (by decide +kernel : fetch mX11_isShelf 14 = some (.iconst 0)),
  by intros; exact G_retz (by decide +kernel : fetch mX11_isShelf 15 = some (.ireturn)) (by decide +kernel)⟩
theorem gX11_isDeed : (∀ (n d : Nat) (L : List (Option iV)) (st : List iV) (h : iH) (Q : Option iV → iH → Prop), G sp sc [] d mX11_isDeed (n + 1) 0 L st h Q = (match ld L 0 with | some (.inl x) => G sp sc [] d mX11_isDeed n 1 L (.inl x :: st) h Q | _ => False)) ∧
  (∀ (n d : Nat) (L : List (Option iV)) (a : Int) (r : List iV) (h : iH) (Q : Option iV → iH → Prop), G sp sc [] d mX11_isDeed (n + 1) 1 L (.inl a :: r) h Q = (inI a = true ∧ (a < 0 → G sp sc [] d mX11_isDeed n 14 L r h Q) ∧ (¬ (a < 0) → G sp sc [] d mX11_isDeed n 4 L r h Q))) ∧
  (∀ (n d : Nat) (L : List (Option iV)) (st : List iV) (h : iH) (Q : Option iV → iH → Prop), G sp sc [] d mX11_isDeed (n + 1) 4 L st h Q = (match ld L 0 with | some (.inl x) => G sp sc [] d mX11_isDeed n 5 L (.inl x :: st) h Q | _ => False)) ∧
  (∀ (n d : Nat) (L : List (Option iV)) (st : List iV) (h : iH) (Q : Option iV → iH → Prop), G sp sc [] d mX11_isDeed (n + 1) 5 L st h Q = ((-128 ≤ (6 : Int) ∧ (6 : Int) < 128) ∧ G sp sc [] d mX11_isDeed n 7 L (.inl 6 :: st) h Q)) ∧
  (∀ (n d : Nat) (L : List (Option iV)) (a : Int) (b : Int) (r : List iV) (h : iH) (Q : Option iV → iH → Prop), G sp sc [] d mX11_isDeed (n + 1) 7 L (.inl b :: .inl a :: r) h Q = ((inI a = true ∧ inI b = true) ∧ (b ≤ a → G sp sc [] d mX11_isDeed n 14 L r h Q) ∧ (¬ (b ≤ a) → G sp sc [] d mX11_isDeed n 10 L r h Q))) ∧
  (∀ (n d : Nat) (L : List (Option iV)) (st : List iV) (h : iH) (Q : Option iV → iH → Prop), G sp sc [] d mX11_isDeed (n + 1) 10 L st h Q = G sp sc [] d mX11_isDeed n 11 L (.inl 1 :: st) h Q) ∧
  (∀ (n d : Nat) (L : List (Option iV)) (st : List iV) (h : iH) (Q : Option iV → iH → Prop), G sp sc [] d mX11_isDeed (n + 1) 11 L st h Q = G sp sc [] d mX11_isDeed n 15 L st h Q) ∧
  (∀ (n d : Nat) (L : List (Option iV)) (st : List iV) (h : iH) (Q : Option iV → iH → Prop), G sp sc [] d mX11_isDeed (n + 1) 14 L st h Q = G sp sc [] d mX11_isDeed n 15 L (.inl 0 :: st) h Q) ∧
  (∀ (n d : Nat) (L : List (Option iV)) (a : Int) (h : iH) (Q : Option iV → iH → Prop), G sp sc [] d mX11_isDeed (n + 1) 15 L [.inl a] h Q = ((a = 0 ∨ a = 1) ∧ Q (some (.inl a)) h)) := ⟨by intros; exact G_at (by decide +kernel : fetch mX11_isDeed 0 = some (.iload_n 0)),
  by intros; exact G_at (by decide +kernel : fetch mX11_isDeed 1 = some (.ifCond .lt 13)),
  by intros; exact G_at (by decide +kernel : fetch mX11_isDeed 4 = some (.iload_n 0)),
  by intros; exact G_at (by decide +kernel : fetch mX11_isDeed 5 = some (.bipush 6)),
  by intros; exact G_at (by decide +kernel : fetch mX11_isDeed 7 = some (.if_icmp .ge 7)),
  by intros; exact G_at (by decide +kernel : fetch mX11_isDeed 10 = some (.iconst 1)),
  by intros; exact G_at (by decide +kernel : fetch mX11_isDeed 11 = some (.goto 4)),
  by intros; exact G_at (by decide +kernel : fetch mX11_isDeed 14 = some (.iconst 0)),
  by intros; exact G_retz (by decide +kernel : fetch mX11_isDeed 15 = some (.ireturn)) (by decide +kernel)⟩
theorem gX11_isKind : (∀ (n d : Nat) (L : List (Option iV)) (st : List iV) (h : iH) (Q : Option iV → iH → Prop), G sp sc [] d mX11_isKind (n + 1) 0 L st h Q = (match ld L 0 with | some (.inl x) => G sp sc [] d mX11_isKind n 1 L (.inl x :: st) h Q | _ => False)) ∧
  (∀ (n d : Nat) (L : List (Option iV)) (a : Int) (r : List iV) (h : iH) (Q : Option iV → iH → Prop), G sp sc [] d mX11_isKind (n + 1) 1 L (.inl a :: r) h Q = (inI a = true ∧ (a < 0 → G sp sc [] d mX11_isKind n 14 L r h Q) ∧ (¬ (a < 0) → G sp sc [] d mX11_isKind n 4 L r h Q))) ∧
  (∀ (n d : Nat) (L : List (Option iV)) (st : List iV) (h : iH) (Q : Option iV → iH → Prop), G sp sc [] d mX11_isKind (n + 1) 4 L st h Q = (match ld L 0 with | some (.inl x) => G sp sc [] d mX11_isKind n 5 L (.inl x :: st) h Q | _ => False)) ∧
  (∀ (n d : Nat) (L : List (Option iV)) (st : List iV) (h : iH) (Q : Option iV → iH → Prop), G sp sc [] d mX11_isKind (n + 1) 5 L st h Q = ((-128 ≤ (6 : Int) ∧ (6 : Int) < 128) ∧ G sp sc [] d mX11_isKind n 7 L (.inl 6 :: st) h Q)) ∧
  (∀ (n d : Nat) (L : List (Option iV)) (a : Int) (b : Int) (r : List iV) (h : iH) (Q : Option iV → iH → Prop), G sp sc [] d mX11_isKind (n + 1) 7 L (.inl b :: .inl a :: r) h Q = ((inI a = true ∧ inI b = true) ∧ (b ≤ a → G sp sc [] d mX11_isKind n 14 L r h Q) ∧ (¬ (b ≤ a) → G sp sc [] d mX11_isKind n 10 L r h Q))) ∧
  (∀ (n d : Nat) (L : List (Option iV)) (st : List iV) (h : iH) (Q : Option iV → iH → Prop), G sp sc [] d mX11_isKind (n + 1) 10 L st h Q = G sp sc [] d mX11_isKind n 11 L (.inl 1 :: st) h Q) ∧
  (∀ (n d : Nat) (L : List (Option iV)) (st : List iV) (h : iH) (Q : Option iV → iH → Prop), G sp sc [] d mX11_isKind (n + 1) 11 L st h Q = G sp sc [] d mX11_isKind n 15 L st h Q) ∧
  (∀ (n d : Nat) (L : List (Option iV)) (st : List iV) (h : iH) (Q : Option iV → iH → Prop), G sp sc [] d mX11_isKind (n + 1) 14 L st h Q = G sp sc [] d mX11_isKind n 15 L (.inl 0 :: st) h Q) ∧
  (∀ (n d : Nat) (L : List (Option iV)) (a : Int) (h : iH) (Q : Option iV → iH → Prop), G sp sc [] d mX11_isKind (n + 1) 15 L [.inl a] h Q = ((a = 0 ∨ a = 1) ∧ Q (some (.inl a)) h)) := ⟨by intros; exact G_at (by decide +kernel : fetch mX11_isKind 0 = some (.iload_n 0)),
  by intros; exact G_at (by decide +kernel : fetch mX11_isKind 1 = some (.ifCond .lt 13)),
  by intros; exact G_at (by decide +kernel : fetch mX11_isKind 4 = some (.iload_n 0)),
  by intros; exact G_at (by decide +kernel : fetch mX11_isKind 5 = some (.bipush 6)),
  by intros; exact G_at (by decide +kernel : fetch mX11_isKind 7 = some (.if_icmp .ge 7)),
  by intros; exact G_at (by decide +kernel : fetch mX11_isKind 10 = some (.iconst 1)),
  by intros; exact G_at (by decide +kernel : fetch mX11_isKind 11 = some (.goto 4)),
  by intros; exact G_at (by decide +kernel : fetch mX11_isKind 14 = some (.iconst 0)),
  by intros; exact G_retz (by decide +kernel : fetch mX11_isKind 15 = some (.ireturn)) (by decide +kernel)⟩
theorem gX11_isMindSpan : (∀ (n d : Nat) (L : List (Option iV)) (st : List iV) (h : iH) (Q : Option iV → iH → Prop), G sp sc [] d mX11_isMindSpan (n + 1) 0 L st h Q = (match ld L 0 with | some (.inl x) => G sp sc [] d mX11_isMindSpan n 1 L (.inl x :: st) h Q | _ => False)) ∧
  (∀ (n d : Nat) (L : List (Option iV)) (a : Int) (r : List iV) (h : iH) (Q : Option iV → iH → Prop), G sp sc [] d mX11_isMindSpan (n + 1) 1 L (.inl a :: r) h Q = (inI a = true ∧ (a < 0 → G sp sc [] d mX11_isMindSpan n 14 L r h Q) ∧ (¬ (a < 0) → G sp sc [] d mX11_isMindSpan n 4 L r h Q))) ∧
  (∀ (n d : Nat) (L : List (Option iV)) (st : List iV) (h : iH) (Q : Option iV → iH → Prop), G sp sc [] d mX11_isMindSpan (n + 1) 4 L st h Q = (match ld L 0 with | some (.inl x) => G sp sc [] d mX11_isMindSpan n 5 L (.inl x :: st) h Q | _ => False)) ∧
  (∀ (n d : Nat) (L : List (Option iV)) (st : List iV) (h : iH) (Q : Option iV → iH → Prop), G sp sc [] d mX11_isMindSpan (n + 1) 5 L st h Q = ((-128 ≤ (60 : Int) ∧ (60 : Int) < 128) ∧ G sp sc [] d mX11_isMindSpan n 7 L (.inl 60 :: st) h Q)) ∧
  (∀ (n d : Nat) (L : List (Option iV)) (a : Int) (b : Int) (r : List iV) (h : iH) (Q : Option iV → iH → Prop), G sp sc [] d mX11_isMindSpan (n + 1) 7 L (.inl b :: .inl a :: r) h Q = ((inI a = true ∧ inI b = true) ∧ (b < a → G sp sc [] d mX11_isMindSpan n 14 L r h Q) ∧ (¬ (b < a) → G sp sc [] d mX11_isMindSpan n 10 L r h Q))) ∧
  (∀ (n d : Nat) (L : List (Option iV)) (st : List iV) (h : iH) (Q : Option iV → iH → Prop), G sp sc [] d mX11_isMindSpan (n + 1) 10 L st h Q = G sp sc [] d mX11_isMindSpan n 11 L (.inl 1 :: st) h Q) ∧
  (∀ (n d : Nat) (L : List (Option iV)) (st : List iV) (h : iH) (Q : Option iV → iH → Prop), G sp sc [] d mX11_isMindSpan (n + 1) 11 L st h Q = G sp sc [] d mX11_isMindSpan n 15 L st h Q) ∧
  (∀ (n d : Nat) (L : List (Option iV)) (st : List iV) (h : iH) (Q : Option iV → iH → Prop), G sp sc [] d mX11_isMindSpan (n + 1) 14 L st h Q = G sp sc [] d mX11_isMindSpan n 15 L (.inl 0 :: st) h Q) ∧
  (∀ (n d : Nat) (L : List (Option iV)) (a : Int) (h : iH) (Q : Option iV → iH → Prop), G sp sc [] d mX11_isMindSpan (n + 1) 15 L [.inl a] h Q = ((a = 0 ∨ a = 1) ∧ Q (some (.inl a)) h)) := ⟨by intros; exact G_at (by decide +kernel : fetch mX11_isMindSpan 0 = some (.iload_n 0)),
  by intros; exact G_at (by decide +kernel : fetch mX11_isMindSpan 1 = some (.ifCond .lt 13)),
  by intros; exact G_at (by decide +kernel : fetch mX11_isMindSpan 4 = some (.iload_n 0)),
  by intros; exact G_at (by decide +kernel : fetch mX11_isMindSpan 5 = some (.bipush 60)),
  by intros; exact G_at (by decide +kernel : fetch mX11_isMindSpan 7 = some (.if_icmp .gt 7)),
  by intros; exact G_at (by decide +kernel : fetch mX11_isMindSpan 10 = some (.iconst 1)),
  by intros; exact G_at (by decide +kernel : fetch mX11_isMindSpan 11 = some (.goto 4)),
  by intros; exact G_at (by decide +kernel : fetch mX11_isMindSpan 14 = some (.iconst 0)),
  by intros; exact G_retz (by decide +kernel : fetch mX11_isMindSpan 15 = some (.ireturn)) (by decide +kernel)⟩
theorem gX11_orNone : (∀ (n d : Nat) (L : List (Option iV)) (st : List iV) (h : iH) (Q : Option iV → iH → Prop), G sp sc [] d mX11_orNone (n + 1) 0 L st h Q = (match ld L 0 with | some (.inl x) => G sp sc [] d mX11_orNone n 1 L (.inl x :: st) h Q | _ => False)) ∧
  (∀ (n d : Nat) (L : List (Option iV)) (st : List iV) (h : iH) (Q : Option iV → iH → Prop), G sp sc [] d mX11_orNone (n + 1) 1 L st h Q = G sp sc [] d mX11_orNone n 2 L (.inl (-1) :: st) h Q) ∧
  (∀ (n d : Nat) (L : List (Option iV)) (a : Int) (b : Int) (r : List iV) (h : iH) (Q : Option iV → iH → Prop), G sp sc [] d mX11_orNone (n + 1) 2 L (.inl b :: .inl a :: r) h Q = ((inI a = true ∧ inI b = true) ∧ (¬ a = b → G sp sc [] d mX11_orNone n 10 L r h Q) ∧ (¬ (¬ a = b) → G sp sc [] d mX11_orNone n 5 L r h Q))) ∧
  (∀ (n d : Nat) (L : List (Option iV)) (st : List iV) (h : iH) (Q : Option iV → iH → Prop), G sp sc [] d mX11_orNone (n + 1) 5 L st h Q = ((-128 ≤ ((-4) : Int) ∧ ((-4) : Int) < 128) ∧ G sp sc [] d mX11_orNone n 7 L (.inl (-4) :: st) h Q)) ∧
  (∀ (n d : Nat) (L : List (Option iV)) (st : List iV) (h : iH) (Q : Option iV → iH → Prop), G sp sc [] d mX11_orNone (n + 1) 7 L st h Q = G sp sc [] d mX11_orNone n 11 L st h Q) ∧
  (∀ (n d : Nat) (L : List (Option iV)) (st : List iV) (h : iH) (Q : Option iV → iH → Prop), G sp sc [] d mX11_orNone (n + 1) 10 L st h Q = (match ld L 0 with | some (.inl x) => G sp sc [] d mX11_orNone n 11 L (.inl x :: st) h Q | _ => False)) ∧
  (∀ (n d : Nat) (L : List (Option iV)) (a : Int) (h : iH) (Q : Option iV → iH → Prop), G sp sc [] d mX11_orNone (n + 1) 11 L [.inl a] h Q = Q (some (.inl a)) h) := ⟨by intros; exact G_at (by decide +kernel : fetch mX11_orNone 0 = some (.iload_n 0)),
  by intros; exact G_at (by decide +kernel : fetch mX11_orNone 1 = some (.iconst (-1))),
  by intros; exact G_at (by decide +kernel : fetch mX11_orNone 2 = some (.if_icmp .ne 8)),
  by intros; exact G_at (by decide +kernel : fetch mX11_orNone 5 = some (.bipush (-4))),
  by intros; exact G_at (by decide +kernel : fetch mX11_orNone 7 = some (.goto 4)),
  by intros; exact G_at (by decide +kernel : fetch mX11_orNone 10 = some (.iload_n 0)),
  by intros; exact G_reti (by decide +kernel : fetch mX11_orNone 11 = some (.ireturn)) (by decide +kernel)⟩
theorem gX11_isDigit : (∀ (n d : Nat) (L : List (Option iV)) (st : List iV) (h : iH) (Q : Option iV → iH → Prop), G sp sc [] d mX11_isDigit (n + 1) 0 L st h Q = (match ld L 0 with | some (.inl x) => G sp sc [] d mX11_isDigit n 1 L (.inl x :: st) h Q | _ => False)) ∧
  (∀ (n d : Nat) (L : List (Option iV)) (st : List iV) (h : iH) (Q : Option iV → iH → Prop), G sp sc [] d mX11_isDigit (n + 1) 1 L st h Q = ((-128 ≤ (48 : Int) ∧ (48 : Int) < 128) ∧ G sp sc [] d mX11_isDigit n 3 L (.inl 48 :: st) h Q)) ∧
  (∀ (n d : Nat) (L : List (Option iV)) (a : Int) (b : Int) (r : List iV) (h : iH) (Q : Option iV → iH → Prop), G sp sc [] d mX11_isDigit (n + 1) 3 L (.inl b :: .inl a :: r) h Q = ((inI a = true ∧ inI b = true) ∧ (a < b → G sp sc [] d mX11_isDigit n 16 L r h Q) ∧ (¬ (a < b) → G sp sc [] d mX11_isDigit n 6 L r h Q))) ∧
  (∀ (n d : Nat) (L : List (Option iV)) (st : List iV) (h : iH) (Q : Option iV → iH → Prop), G sp sc [] d mX11_isDigit (n + 1) 6 L st h Q = (match ld L 0 with | some (.inl x) => G sp sc [] d mX11_isDigit n 7 L (.inl x :: st) h Q | _ => False)) ∧
  (∀ (n d : Nat) (L : List (Option iV)) (st : List iV) (h : iH) (Q : Option iV → iH → Prop), G sp sc [] d mX11_isDigit (n + 1) 7 L st h Q = ((-128 ≤ (57 : Int) ∧ (57 : Int) < 128) ∧ G sp sc [] d mX11_isDigit n 9 L (.inl 57 :: st) h Q)) ∧
  (∀ (n d : Nat) (L : List (Option iV)) (a : Int) (b : Int) (r : List iV) (h : iH) (Q : Option iV → iH → Prop), G sp sc [] d mX11_isDigit (n + 1) 9 L (.inl b :: .inl a :: r) h Q = ((inI a = true ∧ inI b = true) ∧ (b < a → G sp sc [] d mX11_isDigit n 16 L r h Q) ∧ (¬ (b < a) → G sp sc [] d mX11_isDigit n 12 L r h Q))) ∧
  (∀ (n d : Nat) (L : List (Option iV)) (st : List iV) (h : iH) (Q : Option iV → iH → Prop), G sp sc [] d mX11_isDigit (n + 1) 12 L st h Q = G sp sc [] d mX11_isDigit n 13 L (.inl 1 :: st) h Q) ∧
  (∀ (n d : Nat) (L : List (Option iV)) (st : List iV) (h : iH) (Q : Option iV → iH → Prop), G sp sc [] d mX11_isDigit (n + 1) 13 L st h Q = G sp sc [] d mX11_isDigit n 17 L st h Q) ∧
  (∀ (n d : Nat) (L : List (Option iV)) (st : List iV) (h : iH) (Q : Option iV → iH → Prop), G sp sc [] d mX11_isDigit (n + 1) 16 L st h Q = G sp sc [] d mX11_isDigit n 17 L (.inl 0 :: st) h Q) ∧
  (∀ (n d : Nat) (L : List (Option iV)) (a : Int) (h : iH) (Q : Option iV → iH → Prop), G sp sc [] d mX11_isDigit (n + 1) 17 L [.inl a] h Q = ((a = 0 ∨ a = 1) ∧ Q (some (.inl a)) h)) := ⟨by intros; exact G_at (by decide +kernel : fetch mX11_isDigit 0 = some (.iload_n 0)),
  by intros; exact G_at (by decide +kernel : fetch mX11_isDigit 1 = some (.bipush 48)),
  by intros; exact G_at (by decide +kernel : fetch mX11_isDigit 3 = some (.if_icmp .lt 13)),
  by intros; exact G_at (by decide +kernel : fetch mX11_isDigit 6 = some (.iload_n 0)),
  by intros; exact G_at (by decide +kernel : fetch mX11_isDigit 7 = some (.bipush 57)),
  by intros; exact G_at (by decide +kernel : fetch mX11_isDigit 9 = some (.if_icmp .gt 7)),
  by intros; exact G_at (by decide +kernel : fetch mX11_isDigit 12 = some (.iconst 1)),
  by intros; exact G_at (by decide +kernel : fetch mX11_isDigit 13 = some (.goto 4)),
  by intros; exact G_at (by decide +kernel : fetch mX11_isDigit 16 = some (.iconst 0)),
  by intros; exact G_retz (by decide +kernel : fetch mX11_isDigit 17 = some (.ireturn)) (by decide +kernel)⟩
theorem gX11_digitsBehind : (∀ (n d : Nat) (L : List (Option iV)) (st : List iV) (h : iH) (Q : Option iV → iH → Prop), G sp sc [] d mX11_digitsBehind (n + 1) 0 L st h Q = (match ld L 0 with | some (.inl x) => G sp sc [] d mX11_digitsBehind n 1 L (.inl x :: st) h Q | _ => False)) ∧
  (∀ (n d : Nat) (L : List (Option iV)) (a : Int) (r : List iV) (h : iH) (Q : Option iV → iH → Prop), G sp sc [] d mX11_digitsBehind (n + 1) 1 L (.inl a :: r) h Q = (inI a = true ∧ ((a < 97 ∨ 121 < a) → G sp sc [] d mX11_digitsBehind n 122 L r h Q) ∧ (¬ (a < 97 ∨ 121 < a) → (match (#[115, 121, 115, 117, 121, 121, 121, 121, 121, 121, 121, 119, 115, 121, 121, 121, 121, 121, 115, 121, 121, 121, 115, 121, 115] : Array Int)[(a - (97 : Int)).toNat]? with | some off => (match jmp 1 off with | some q => GK sp sc [] d mX11_digitsBehind n q L r h Q | none => False) | none => False)))) ∧
  (∀ (n d : Nat) (L : List (Option iV)) (st : List iV) (h : iH) (Q : Option iV → iH → Prop), G sp sc [] d mX11_digitsBehind (n + 1) 116 L st h Q = G sp sc [] d mX11_digitsBehind n 117 L (.inl 2 :: st) h Q) ∧
  (∀ (n d : Nat) (L : List (Option iV)) (a : Int) (h : iH) (Q : Option iV → iH → Prop), G sp sc [] d mX11_digitsBehind (n + 1) 117 L [.inl a] h Q = Q (some (.inl a)) h) ∧
  (∀ (n d : Nat) (L : List (Option iV)) (st : List iV) (h : iH) (Q : Option iV → iH → Prop), G sp sc [] d mX11_digitsBehind (n + 1) 118 L st h Q = G sp sc [] d mX11_digitsBehind n 119 L (.inl 3 :: st) h Q) ∧
  (∀ (n d : Nat) (L : List (Option iV)) (a : Int) (h : iH) (Q : Option iV → iH → Prop), G sp sc [] d mX11_digitsBehind (n + 1) 119 L [.inl a] h Q = Q (some (.inl a)) h) ∧
  (∀ (n d : Nat) (L : List (Option iV)) (st : List iV) (h : iH) (Q : Option iV → iH → Prop), G sp sc [] d mX11_digitsBehind (n + 1) 120 L st h Q = G sp sc [] d mX11_digitsBehind n 121 L (.inl 5 :: st) h Q) ∧
  (∀ (n d : Nat) (L : List (Option iV)) (a : Int) (h : iH) (Q : Option iV → iH → Prop), G sp sc [] d mX11_digitsBehind (n + 1) 121 L [.inl a] h Q = Q (some (.inl a)) h) ∧
  (∀ (n d : Nat) (L : List (Option iV)) (st : List iV) (h : iH) (Q : Option iV → iH → Prop), G sp sc [] d mX11_digitsBehind (n + 1) 122 L st h Q = G sp sc [] d mX11_digitsBehind n 123 L (.inl (-1) :: st) h Q) ∧
  (∀ (n d : Nat) (L : List (Option iV)) (a : Int) (h : iH) (Q : Option iV → iH → Prop), G sp sc [] d mX11_digitsBehind (n + 1) 123 L [.inl a] h Q = Q (some (.inl a)) h) := ⟨by intros; exact G_at (by decide +kernel : fetch mX11_digitsBehind 0 = some (.iload_n 0)),
  by intros; exact G_at (by decide +kernel : fetch mX11_digitsBehind 1 = some (.tableswitch 121 97 121 #[115, 121, 115, 117, 121, 121, 121, 121, 121, 121, 121, 119, 115, 121, 121, 121, 121, 121, 115, 121, 121, 121, 115, 121, 115])),
  by intros; exact G_at (by decide +kernel : fetch mX11_digitsBehind 116 = some (.iconst 2)),
  by intros; exact G_reti (by decide +kernel : fetch mX11_digitsBehind 117 = some (.ireturn)) (by decide +kernel),
  by intros; exact G_at (by decide +kernel : fetch mX11_digitsBehind 118 = some (.iconst 3)),
  by intros; exact G_reti (by decide +kernel : fetch mX11_digitsBehind 119 = some (.ireturn)) (by decide +kernel),
  by intros; exact G_at (by decide +kernel : fetch mX11_digitsBehind 120 = some (.iconst 5)),
  by intros; exact G_reti (by decide +kernel : fetch mX11_digitsBehind 121 = some (.ireturn)) (by decide +kernel),
  by intros; exact G_at (by decide +kernel : fetch mX11_digitsBehind 122 = some (.iconst (-1))),
  by intros; exact G_reti (by decide +kernel : fetch mX11_digitsBehind 123 = some (.ireturn)) (by decide +kernel)⟩
theorem gX11_firstBadByte : (∀ (n d : Nat) (L : List (Option iV)) (st : List iV) (h : iH) (Q : Option iV → iH → Prop), G sp sc [2, 19] d mX11_firstBadByte (n + 1) 0 L st h Q = G sp sc [2, 19] d mX11_firstBadByte n 1 L (.inl 0 :: st) h Q) ∧
  (∀ (n d : Nat) (L : List (Option iV)) (r : List iV) (x : Int) (h : iH) (Q : Option iV → iH → Prop), G sp sc [2, 19] d mX11_firstBadByte (n + 1) 1 L (.inl x :: r) h Q = (match st1 L 1 (.inl x) with | some L' => Run sp sc d mX11_firstBadByte 2 L' r h Q | none => False)) ∧
  (∀ (n d : Nat) (L : List (Option iV)) (st : List iV) (h : iH) (Q : Option iV → iH → Prop), G sp sc [2, 19] d mX11_firstBadByte (n + 1) 2 L st h Q = (match ld L 0 with | some (.inr (.inr (r + 1))) => G sp sc [2, 19] d mX11_firstBadByte n 3 L (.inr (.inr (r + 1)) :: st) h Q | _ => False)) ∧
  (∀ (n d : Nat) (L : List (Option iV)) (st : List iV) (h : iH) (Q : Option iV → iH → Prop), G sp sc [2, 19] d mX11_firstBadByte (n + 1) 3 L st h Q = (match ld L 1 with | some (.inl x) => G sp sc [2, 19] d mX11_firstBadByte n 4 L (.inl x :: st) h Q | _ => False)) ∧
  (∀ (n d : Nat) (L : List (Option iV)) (r : List iV) (m : Nat) (z0 : iV) (h : iH) (Q : Option iV → iH → Prop), G sp sc [2, 19] (d + 1) mX11_firstBadByte (n + 1) 4 L (z0 :: .inr (.inr (m + 2)) :: r) h Q = (match h.1[m]? with | some (.inl (ci, _)) => (match lkC 11 96 ci with | some (y1, n1, kd) => (n1 = 1 ∧ (kd = 2 ∨ kd = 3 ∨ kd = 8) ∧ cs r ≤ 8) ∧ Call sp sc d y1 [.inr (.inr (m + 2)), z0] h (fun q h1 => GC sp sc [2, 19] (d + 1) mX11_firstBadByte n 7 L q r h h1 Q) | none => False) | _ => False)) ∧
  (∀ (n d : Nat) (L : List (Option iV)) (r : List iV) (z0 : iV) (h : iH) (Q : Option iV → iH → Prop), G sp sc [2, 19] (d + 1) mX11_firstBadByte (n + 1) 7 L (z0 :: r) h Q = (cs r ≤ 8 ∧ Call sp sc d mX11_digitsBehind [z0] h (fun q h1 => GC sp sc [2, 19] (d + 1) mX11_firstBadByte n 10 L q r h h1 Q))) ∧
  (∀ (n d : Nat) (L : List (Option iV)) (r : List iV) (x : Int) (h : iH) (Q : Option iV → iH → Prop), G sp sc [2, 19] d mX11_firstBadByte (n + 1) 10 L (.inl x :: r) h Q = (match st1 L 2 (.inl x) with | some L' => G sp sc [2, 19] d mX11_firstBadByte n 11 L' r h Q | none => False)) ∧
  (∀ (n d : Nat) (L : List (Option iV)) (st : List iV) (h : iH) (Q : Option iV → iH → Prop), G sp sc [2, 19] d mX11_firstBadByte (n + 1) 11 L st h Q = (match ld L 2 with | some (.inl x) => G sp sc [2, 19] d mX11_firstBadByte n 12 L (.inl x :: st) h Q | _ => False)) ∧
  (∀ (n d : Nat) (L : List (Option iV)) (a : Int) (r : List iV) (h : iH) (Q : Option iV → iH → Prop), G sp sc [2, 19] d mX11_firstBadByte (n + 1) 12 L (.inl a :: r) h Q = (inI a = true ∧ (0 ≤ a → G sp sc [2, 19] d mX11_firstBadByte n 17 L r h Q) ∧ (¬ (0 ≤ a) → G sp sc [2, 19] d mX11_firstBadByte n 15 L r h Q))) ∧
  (∀ (n d : Nat) (L : List (Option iV)) (st : List iV) (h : iH) (Q : Option iV → iH → Prop), G sp sc [2, 19] d mX11_firstBadByte (n + 1) 15 L st h Q = (match ld L 1 with | some (.inl x) => G sp sc [2, 19] d mX11_firstBadByte n 16 L (.inl x :: st) h Q | _ => False)) ∧
  (∀ (n d : Nat) (L : List (Option iV)) (a : Int) (h : iH) (Q : Option iV → iH → Prop), G sp sc [2, 19] d mX11_firstBadByte (n + 1) 16 L [.inl a] h Q = Q (some (.inl a)) h) ∧
  (∀ (n d : Nat) (L : List (Option iV)) (st : List iV) (h : iH) (Q : Option iV → iH → Prop), G sp sc [2, 19] d mX11_firstBadByte (n + 1) 17 L st h Q = G sp sc [2, 19] d mX11_firstBadByte n 18 L (.inl 1 :: st) h Q) ∧
  (∀ (n d : Nat) (L : List (Option iV)) (r : List iV) (x : Int) (h : iH) (Q : Option iV → iH → Prop), G sp sc [2, 19] d mX11_firstBadByte (n + 1) 18 L (.inl x :: r) h Q = (match st1 L 3 (.inl x) with | some L' => Run sp sc d mX11_firstBadByte 19 L' r h Q | none => False)) ∧
  (∀ (n d : Nat) (L : List (Option iV)) (st : List iV) (h : iH) (Q : Option iV → iH → Prop), G sp sc [2, 19] d mX11_firstBadByte (n + 1) 19 L st h Q = (match ld L 3 with | some (.inl x) => G sp sc [2, 19] d mX11_firstBadByte n 20 L (.inl x :: st) h Q | _ => False)) ∧
  (∀ (n d : Nat) (L : List (Option iV)) (st : List iV) (h : iH) (Q : Option iV → iH → Prop), G sp sc [2, 19] d mX11_firstBadByte (n + 1) 20 L st h Q = (match ld L 2 with | some (.inl x) => G sp sc [2, 19] d mX11_firstBadByte n 21 L (.inl x :: st) h Q | _ => False)) ∧
  (∀ (n d : Nat) (L : List (Option iV)) (a : Int) (b : Int) (r : List iV) (h : iH) (Q : Option iV → iH → Prop), G sp sc [2, 19] d mX11_firstBadByte (n + 1) 21 L (.inl b :: .inl a :: r) h Q = ((inI a = true ∧ inI b = true) ∧ (b < a → G sp sc [2, 19] d mX11_firstBadByte n 47 L r h Q) ∧ (¬ (b < a) → G sp sc [2, 19] d mX11_firstBadByte n 24 L r h Q))) ∧
  (∀ (n d : Nat) (L : List (Option iV)) (st : List iV) (h : iH) (Q : Option iV → iH → Prop), G sp sc [2, 19] d mX11_firstBadByte (n + 1) 24 L st h Q = (match ld L 0 with | some (.inr (.inr (r + 1))) => G sp sc [2, 19] d mX11_firstBadByte n 25 L (.inr (.inr (r + 1)) :: st) h Q | _ => False)) ∧
  (∀ (n d : Nat) (L : List (Option iV)) (st : List iV) (h : iH) (Q : Option iV → iH → Prop), G sp sc [2, 19] d mX11_firstBadByte (n + 1) 25 L st h Q = (match ld L 1 with | some (.inl x) => G sp sc [2, 19] d mX11_firstBadByte n 26 L (.inl x :: st) h Q | _ => False)) ∧
  (∀ (n d : Nat) (L : List (Option iV)) (st : List iV) (h : iH) (Q : Option iV → iH → Prop), G sp sc [2, 19] d mX11_firstBadByte (n + 1) 26 L st h Q = (match ld L 3 with | some (.inl x) => G sp sc [2, 19] d mX11_firstBadByte n 27 L (.inl x :: st) h Q | _ => False)) ∧
  (∀ (n d : Nat) (L : List (Option iV)) (a : Int) (b : Int) (r : List iV) (h : iH) (Q : Option iV → iH → Prop), G sp sc [2, 19] d mX11_firstBadByte (n + 1) 27 L (.inl b :: .inl a :: r) h Q = G sp sc [2, 19] d mX11_firstBadByte n 28 L (.inl (a + b) :: r) h Q) ∧
  (∀ (n d : Nat) (L : List (Option iV)) (r : List iV) (m : Nat) (z0 : iV) (h : iH) (Q : Option iV → iH → Prop), G sp sc [2, 19] (d + 1) mX11_firstBadByte (n + 1) 28 L (z0 :: .inr (.inr (m + 2)) :: r) h Q = (match h.1[m]? with | some (.inl (ci, _)) => (match lkC 11 96 ci with | some (y1, n1, kd) => (n1 = 1 ∧ (kd = 2 ∨ kd = 3 ∨ kd = 8) ∧ cs r ≤ 8) ∧ Call sp sc d y1 [.inr (.inr (m + 2)), z0] h (fun q h1 => GC sp sc [2, 19] (d + 1) mX11_firstBadByte n 31 L q r h h1 Q) | none => False) | _ => False)) ∧
  (∀ (n d : Nat) (L : List (Option iV)) (r : List iV) (z0 : iV) (h : iH) (Q : Option iV → iH → Prop), G sp sc [2, 19] (d + 1) mX11_firstBadByte (n + 1) 31 L (z0 :: r) h Q = (cs r ≤ 8 ∧ Call sp sc d mX11_isDigit [z0] h (fun q h1 => GC sp sc [2, 19] (d + 1) mX11_firstBadByte n 34 L q r h h1 Q))) ∧
  (∀ (n d : Nat) (L : List (Option iV)) (a : Int) (r : List iV) (h : iH) (Q : Option iV → iH → Prop), G sp sc [2, 19] d mX11_firstBadByte (n + 1) 34 L (.inl a :: r) h Q = (inI a = true ∧ (¬ a = 0 → G sp sc [2, 19] d mX11_firstBadByte n 41 L r h Q) ∧ (¬ (¬ a = 0) → G sp sc [2, 19] d mX11_firstBadByte n 37 L r h Q))) ∧
  (∀ (n d : Nat) (L : List (Option iV)) (st : List iV) (h : iH) (Q : Option iV → iH → Prop), G sp sc [2, 19] d mX11_firstBadByte (n + 1) 37 L st h Q = (match ld L 1 with | some (.inl x) => G sp sc [2, 19] d mX11_firstBadByte n 38 L (.inl x :: st) h Q | _ => False)) ∧
  (∀ (n d : Nat) (L : List (Option iV)) (st : List iV) (h : iH) (Q : Option iV → iH → Prop), G sp sc [2, 19] d mX11_firstBadByte (n + 1) 38 L st h Q = (match ld L 3 with | some (.inl x) => G sp sc [2, 19] d mX11_firstBadByte n 39 L (.inl x :: st) h Q | _ => False)) ∧
  (∀ (n d : Nat) (L : List (Option iV)) (a : Int) (b : Int) (r : List iV) (h : iH) (Q : Option iV → iH → Prop), G sp sc [2, 19] d mX11_firstBadByte (n + 1) 39 L (.inl b :: .inl a :: r) h Q = G sp sc [2, 19] d mX11_firstBadByte n 40 L (.inl (a + b) :: r) h Q) ∧
  (∀ (n d : Nat) (L : List (Option iV)) (a : Int) (h : iH) (Q : Option iV → iH → Prop), G sp sc [2, 19] d mX11_firstBadByte (n + 1) 40 L [.inl a] h Q = Q (some (.inl a)) h) ∧
  (∀ (n d : Nat) (L : List (Option iV)) (st : List iV) (h : iH) (Q : Option iV → iH → Prop), G sp sc [2, 19] d mX11_firstBadByte (n + 1) 41 L st h Q = (match ld L 3 with | some (.inl x) => (match st1 L 3 (.inl (x + 1)) with | some L' => G sp sc [2, 19] d mX11_firstBadByte n 44 L' st h Q | none => False) | _ => False)) ∧
  (∀ (n d : Nat) (L : List (Option iV)) (st : List iV) (h : iH) (Q : Option iV → iH → Prop), G sp sc [2, 19] d mX11_firstBadByte (n + 1) 44 L st h Q = Run sp sc d mX11_firstBadByte 19 L st h Q) ∧
  (∀ (n d : Nat) (L : List (Option iV)) (st : List iV) (h : iH) (Q : Option iV → iH → Prop), G sp sc [2, 19] d mX11_firstBadByte (n + 1) 47 L st h Q = (match ld L 0 with | some (.inr (.inr (r + 1))) => G sp sc [2, 19] d mX11_firstBadByte n 48 L (.inr (.inr (r + 1)) :: st) h Q | _ => False)) ∧
  (∀ (n d : Nat) (L : List (Option iV)) (st : List iV) (h : iH) (Q : Option iV → iH → Prop), G sp sc [2, 19] d mX11_firstBadByte (n + 1) 48 L st h Q = (match ld L 1 with | some (.inl x) => G sp sc [2, 19] d mX11_firstBadByte n 49 L (.inl x :: st) h Q | _ => False)) ∧
  (∀ (n d : Nat) (L : List (Option iV)) (st : List iV) (h : iH) (Q : Option iV → iH → Prop), G sp sc [2, 19] d mX11_firstBadByte (n + 1) 49 L st h Q = (match ld L 2 with | some (.inl x) => G sp sc [2, 19] d mX11_firstBadByte n 50 L (.inl x :: st) h Q | _ => False)) ∧
  (∀ (n d : Nat) (L : List (Option iV)) (a : Int) (b : Int) (r : List iV) (h : iH) (Q : Option iV → iH → Prop), G sp sc [2, 19] d mX11_firstBadByte (n + 1) 50 L (.inl b :: .inl a :: r) h Q = G sp sc [2, 19] d mX11_firstBadByte n 51 L (.inl (a + b) :: r) h Q) ∧
  (∀ (n d : Nat) (L : List (Option iV)) (st : List iV) (h : iH) (Q : Option iV → iH → Prop), G sp sc [2, 19] d mX11_firstBadByte (n + 1) 51 L st h Q = G sp sc [2, 19] d mX11_firstBadByte n 52 L (.inl 1 :: st) h Q) ∧
  (∀ (n d : Nat) (L : List (Option iV)) (a : Int) (b : Int) (r : List iV) (h : iH) (Q : Option iV → iH → Prop), G sp sc [2, 19] d mX11_firstBadByte (n + 1) 52 L (.inl b :: .inl a :: r) h Q = G sp sc [2, 19] d mX11_firstBadByte n 53 L (.inl (a + b) :: r) h Q) ∧
  (∀ (n d : Nat) (L : List (Option iV)) (r : List iV) (m : Nat) (z0 : iV) (h : iH) (Q : Option iV → iH → Prop), G sp sc [2, 19] (d + 1) mX11_firstBadByte (n + 1) 53 L (z0 :: .inr (.inr (m + 2)) :: r) h Q = (match h.1[m]? with | some (.inl (ci, _)) => (match lkC 11 96 ci with | some (y1, n1, kd) => (n1 = 1 ∧ (kd = 2 ∨ kd = 3 ∨ kd = 8) ∧ cs r ≤ 8) ∧ Call sp sc d y1 [.inr (.inr (m + 2)), z0] h (fun q h1 => GC sp sc [2, 19] (d + 1) mX11_firstBadByte n 56 L q r h h1 Q) | none => False) | _ => False)) ∧
  (∀ (n d : Nat) (L : List (Option iV)) (st : List iV) (h : iH) (Q : Option iV → iH → Prop), G sp sc [2, 19] d mX11_firstBadByte (n + 1) 56 L st h Q = ((-128 ≤ (59 : Int) ∧ (59 : Int) < 128) ∧ G sp sc [2, 19] d mX11_firstBadByte n 58 L (.inl 59 :: st) h Q)) ∧
  (∀ (n d : Nat) (L : List (Option iV)) (a : Int) (b : Int) (r : List iV) (h : iH) (Q : Option iV → iH → Prop), G sp sc [2, 19] d mX11_firstBadByte (n + 1) 58 L (.inl b :: .inl a :: r) h Q = ((inI a = true ∧ inI b = true) ∧ (a = b → G sp sc [2, 19] d mX11_firstBadByte n 67 L r h Q) ∧ (¬ (a = b) → G sp sc [2, 19] d mX11_firstBadByte n 61 L r h Q))) ∧
  (∀ (n d : Nat) (L : List (Option iV)) (st : List iV) (h : iH) (Q : Option iV → iH → Prop), G sp sc [2, 19] d mX11_firstBadByte (n + 1) 61 L st h Q = (match ld L 1 with | some (.inl x) => G sp sc [2, 19] d mX11_firstBadByte n 62 L (.inl x :: st) h Q | _ => False)) ∧
  (∀ (n d : Nat) (L : List (Option iV)) (st : List iV) (h : iH) (Q : Option iV → iH → Prop), G sp sc [2, 19] d mX11_firstBadByte (n + 1) 62 L st h Q = (match ld L 2 with | some (.inl x) => G sp sc [2, 19] d mX11_firstBadByte n 63 L (.inl x :: st) h Q | _ => False)) ∧
  (∀ (n d : Nat) (L : List (Option iV)) (a : Int) (b : Int) (r : List iV) (h : iH) (Q : Option iV → iH → Prop), G sp sc [2, 19] d mX11_firstBadByte (n + 1) 63 L (.inl b :: .inl a :: r) h Q = G sp sc [2, 19] d mX11_firstBadByte n 64 L (.inl (a + b) :: r) h Q) ∧
  (∀ (n d : Nat) (L : List (Option iV)) (st : List iV) (h : iH) (Q : Option iV → iH → Prop), G sp sc [2, 19] d mX11_firstBadByte (n + 1) 64 L st h Q = G sp sc [2, 19] d mX11_firstBadByte n 65 L (.inl 1 :: st) h Q) ∧
  (∀ (n d : Nat) (L : List (Option iV)) (a : Int) (b : Int) (r : List iV) (h : iH) (Q : Option iV → iH → Prop), G sp sc [2, 19] d mX11_firstBadByte (n + 1) 65 L (.inl b :: .inl a :: r) h Q = G sp sc [2, 19] d mX11_firstBadByte n 66 L (.inl (a + b) :: r) h Q) ∧
  (∀ (n d : Nat) (L : List (Option iV)) (a : Int) (h : iH) (Q : Option iV → iH → Prop), G sp sc [2, 19] d mX11_firstBadByte (n + 1) 66 L [.inl a] h Q = Q (some (.inl a)) h) ∧
  (∀ (n d : Nat) (L : List (Option iV)) (st : List iV) (h : iH) (Q : Option iV → iH → Prop), G sp sc [2, 19] d mX11_firstBadByte (n + 1) 67 L st h Q = (match ld L 1 with | some (.inl x) => G sp sc [2, 19] d mX11_firstBadByte n 68 L (.inl x :: st) h Q | _ => False)) ∧
  (∀ (n d : Nat) (L : List (Option iV)) (st : List iV) (h : iH) (Q : Option iV → iH → Prop), G sp sc [2, 19] d mX11_firstBadByte (n + 1) 68 L st h Q = (match ld L 2 with | some (.inl x) => G sp sc [2, 19] d mX11_firstBadByte n 69 L (.inl x :: st) h Q | _ => False)) ∧
  (∀ (n d : Nat) (L : List (Option iV)) (st : List iV) (h : iH) (Q : Option iV → iH → Prop), G sp sc [2, 19] d mX11_firstBadByte (n + 1) 69 L st h Q = G sp sc [2, 19] d mX11_firstBadByte n 70 L (.inl 2 :: st) h Q) ∧
  (∀ (n d : Nat) (L : List (Option iV)) (a : Int) (b : Int) (r : List iV) (h : iH) (Q : Option iV → iH → Prop), G sp sc [2, 19] d mX11_firstBadByte (n + 1) 70 L (.inl b :: .inl a :: r) h Q = G sp sc [2, 19] d mX11_firstBadByte n 71 L (.inl (a + b) :: r) h Q) ∧
  (∀ (n d : Nat) (L : List (Option iV)) (a : Int) (b : Int) (r : List iV) (h : iH) (Q : Option iV → iH → Prop), G sp sc [2, 19] d mX11_firstBadByte (n + 1) 71 L (.inl b :: .inl a :: r) h Q = G sp sc [2, 19] d mX11_firstBadByte n 72 L (.inl (a + b) :: r) h Q) ∧
  (∀ (n d : Nat) (L : List (Option iV)) (r : List iV) (x : Int) (h : iH) (Q : Option iV → iH → Prop), G sp sc [2, 19] d mX11_firstBadByte (n + 1) 72 L (.inl x :: r) h Q = (match st1 L 1 (.inl x) with | some L' => G sp sc [2, 19] d mX11_firstBadByte n 73 L' r h Q | none => False)) ∧
  (∀ (n d : Nat) (L : List (Option iV)) (st : List iV) (h : iH) (Q : Option iV → iH → Prop), G sp sc [2, 19] d mX11_firstBadByte (n + 1) 73 L st h Q = (match ld L 1 with | some (.inl x) => G sp sc [2, 19] d mX11_firstBadByte n 74 L (.inl x :: st) h Q | _ => False)) ∧
  (∀ (n d : Nat) (L : List (Option iV)) (st : List iV) (h : iH) (Q : Option iV → iH → Prop), G sp sc [2, 19] d mX11_firstBadByte (n + 1) 74 L st h Q = (match ld L 0 with | some (.inr (.inr (r + 1))) => G sp sc [2, 19] d mX11_firstBadByte n 75 L (.inr (.inr (r + 1)) :: st) h Q | _ => False)) ∧
  (∀ (n d : Nat) (L : List (Option iV)) (r : List iV) (m : Nat) (h : iH) (Q : Option iV → iH → Prop), G sp sc [2, 19] d mX11_firstBadByte (n + 1) 75 L (.inr (.inr (m + 2)) :: r) h Q = (match h.1[m]? with | some (.inl (ci, fs)) => (match lkF 11 93 ci with | some k => (match fs[k]? with | some v => G sp sc [2, 19] d mX11_firstBadByte n 78 L (v :: r) h Q | none => False) | none => False) | _ => False)) ∧
  (∀ (n d : Nat) (L : List (Option iV)) (a : Int) (b : Int) (r : List iV) (h : iH) (Q : Option iV → iH → Prop), G sp sc [2, 19] d mX11_firstBadByte (n + 1) 78 L (.inl b :: .inl a :: r) h Q = ((inI a = true ∧ inI b = true) ∧ (a < b → Run sp sc d mX11_firstBadByte 2 L r h Q) ∧ (¬ (a < b) → G sp sc [2, 19] d mX11_firstBadByte n 81 L r h Q))) ∧
  (∀ (n d : Nat) (L : List (Option iV)) (st : List iV) (h : iH) (Q : Option iV → iH → Prop), G sp sc [2, 19] d mX11_firstBadByte (n + 1) 81 L st h Q = G sp sc [2, 19] d mX11_firstBadByte n 82 L (.inl (-1) :: st) h Q) ∧
  (∀ (n d : Nat) (L : List (Option iV)) (a : Int) (h : iH) (Q : Option iV → iH → Prop), G sp sc [2, 19] d mX11_firstBadByte (n + 1) 82 L [.inl a] h Q = Q (some (.inl a)) h) ∧
  lkC 11 96 5 = some (mX5_byteAt, 1, 2) ∧
  lkF 11 93 5 = some 3 := ⟨by intros; exact G_at (by decide +kernel : fetch mX11_firstBadByte 0 = some (.iconst 0)),
  by intros; exact G_at (by decide +kernel : fetch mX11_firstBadByte 1 = some (.istore_n 1)),
  by intros; exact G_at (by decide +kernel : fetch mX11_firstBadByte 2 = some (.aload_n 0)),
  by intros; exact G_at (by decide +kernel : fetch mX11_firstBadByte 3 = some (.iload_n 1)),
  by intros; exact G_callV (by decide +kernel : fetch mX11_firstBadByte 4 = some (.invokevirtual 96)) (by decide +kernel) (by decide +kernel) rfl,
  by intros; exact G_callS (k := 1) (kd := 0) (by decide +kernel : fetch mX11_firstBadByte 7 = some (.invokestatic 100)) (by decide +kernel) (by decide +kernel) (by decide +kernel) rfl (by decide),
  by intros; exact G_at (by decide +kernel : fetch mX11_firstBadByte 10 = some (.istore_n 2)),
  by intros; exact G_at (by decide +kernel : fetch mX11_firstBadByte 11 = some (.iload_n 2)),
  by intros; exact G_at (by decide +kernel : fetch mX11_firstBadByte 12 = some (.ifCond .ge 5)),
  by intros; exact G_at (by decide +kernel : fetch mX11_firstBadByte 15 = some (.iload_n 1)),
  by intros; exact G_reti (by decide +kernel : fetch mX11_firstBadByte 16 = some (.ireturn)) (by decide +kernel),
  by intros; exact G_at (by decide +kernel : fetch mX11_firstBadByte 17 = some (.iconst 1)),
  by intros; exact G_at (by decide +kernel : fetch mX11_firstBadByte 18 = some (.istore_n 3)),
  by intros; exact G_at (by decide +kernel : fetch mX11_firstBadByte 19 = some (.iload_n 3)),
  by intros; exact G_at (by decide +kernel : fetch mX11_firstBadByte 20 = some (.iload_n 2)),
  by intros; exact G_at (by decide +kernel : fetch mX11_firstBadByte 21 = some (.if_icmp .gt 26)),
  by intros; exact G_at (by decide +kernel : fetch mX11_firstBadByte 24 = some (.aload_n 0)),
  by intros; exact G_at (by decide +kernel : fetch mX11_firstBadByte 25 = some (.iload_n 1)),
  by intros; exact G_at (by decide +kernel : fetch mX11_firstBadByte 26 = some (.iload_n 3)),
  by intros; exact G_at (by decide +kernel : fetch mX11_firstBadByte 27 = some (.iadd)),
  by intros; exact G_callV (by decide +kernel : fetch mX11_firstBadByte 28 = some (.invokevirtual 96)) (by decide +kernel) (by decide +kernel) rfl,
  by intros; exact G_callS (k := 1) (kd := 0) (by decide +kernel : fetch mX11_firstBadByte 31 = some (.invokestatic 376)) (by decide +kernel) (by decide +kernel) (by decide +kernel) rfl (by decide),
  by intros; exact G_at (by decide +kernel : fetch mX11_firstBadByte 34 = some (.ifCond .ne 7)),
  by intros; exact G_at (by decide +kernel : fetch mX11_firstBadByte 37 = some (.iload_n 1)),
  by intros; exact G_at (by decide +kernel : fetch mX11_firstBadByte 38 = some (.iload_n 3)),
  by intros; exact G_at (by decide +kernel : fetch mX11_firstBadByte 39 = some (.iadd)),
  by intros; exact G_reti (by decide +kernel : fetch mX11_firstBadByte 40 = some (.ireturn)) (by decide +kernel),
  by intros; exact G_at (by decide +kernel : fetch mX11_firstBadByte 41 = some (.iinc 3 1)),
  by intros; exact G_at (by decide +kernel : fetch mX11_firstBadByte 44 = some (.goto (-25))),
  by intros; exact G_at (by decide +kernel : fetch mX11_firstBadByte 47 = some (.aload_n 0)),
  by intros; exact G_at (by decide +kernel : fetch mX11_firstBadByte 48 = some (.iload_n 1)),
  by intros; exact G_at (by decide +kernel : fetch mX11_firstBadByte 49 = some (.iload_n 2)),
  by intros; exact G_at (by decide +kernel : fetch mX11_firstBadByte 50 = some (.iadd)),
  by intros; exact G_at (by decide +kernel : fetch mX11_firstBadByte 51 = some (.iconst 1)),
  by intros; exact G_at (by decide +kernel : fetch mX11_firstBadByte 52 = some (.iadd)),
  by intros; exact G_callV (by decide +kernel : fetch mX11_firstBadByte 53 = some (.invokevirtual 96)) (by decide +kernel) (by decide +kernel) rfl,
  by intros; exact G_at (by decide +kernel : fetch mX11_firstBadByte 56 = some (.bipush 59)),
  by intros; exact G_at (by decide +kernel : fetch mX11_firstBadByte 58 = some (.if_icmp .eq 9)),
  by intros; exact G_at (by decide +kernel : fetch mX11_firstBadByte 61 = some (.iload_n 1)),
  by intros; exact G_at (by decide +kernel : fetch mX11_firstBadByte 62 = some (.iload_n 2)),
  by intros; exact G_at (by decide +kernel : fetch mX11_firstBadByte 63 = some (.iadd)),
  by intros; exact G_at (by decide +kernel : fetch mX11_firstBadByte 64 = some (.iconst 1)),
  by intros; exact G_at (by decide +kernel : fetch mX11_firstBadByte 65 = some (.iadd)),
  by intros; exact G_reti (by decide +kernel : fetch mX11_firstBadByte 66 = some (.ireturn)) (by decide +kernel),
  by intros; exact G_at (by decide +kernel : fetch mX11_firstBadByte 67 = some (.iload_n 1)),
  by intros; exact G_at (by decide +kernel : fetch mX11_firstBadByte 68 = some (.iload_n 2)),
  by intros; exact G_at (by decide +kernel : fetch mX11_firstBadByte 69 = some (.iconst 2)),
  by intros; exact G_at (by decide +kernel : fetch mX11_firstBadByte 70 = some (.iadd)),
  by intros; exact G_at (by decide +kernel : fetch mX11_firstBadByte 71 = some (.iadd)),
  by intros; exact G_at (by decide +kernel : fetch mX11_firstBadByte 72 = some (.istore_n 1)),
  by intros; exact G_at (by decide +kernel : fetch mX11_firstBadByte 73 = some (.iload_n 1)),
  by intros; exact G_at (by decide +kernel : fetch mX11_firstBadByte 74 = some (.aload_n 0)),
  by intros; exact G_own (by decide +kernel : fetch mX11_firstBadByte 75 = some (.getfield 93)) (by decide +kernel),
  by intros; exact G_at (by decide +kernel : fetch mX11_firstBadByte 78 = some (.if_icmp .lt (-76))),
  by intros; exact G_at (by decide +kernel : fetch mX11_firstBadByte 81 = some (.iconst (-1))),
  by intros; exact G_reti (by decide +kernel : fetch mX11_firstBadByte 82 = some (.ireturn)) (by decide +kernel),
  by decide +kernel,
  by decide +kernel⟩
theorem gX11_doStatement : (∀ (n d : Nat) (L : List (Option iV)) (st : List iV) (h : iH) (Q : Option iV → iH → Prop), G sp sc [] d mX11_doStatement (n + 1) 0 L st h Q = (match ld L 0 with | some (.inr (.inr (r + 1))) => G sp sc [] d mX11_doStatement n 1 L (.inr (.inr (r + 1)) :: st) h Q | _ => False)) ∧
  (∀ (n d : Nat) (L : List (Option iV)) (r : List iV) (m : Nat) (h : iH) (Q : Option iV → iH → Prop), G sp sc [] d mX11_doStatement (n + 1) 1 L (.inr (.inr (m + 2)) :: r) h Q = (match h.1[m]? with | some (.inl (ci, fs)) => (match lkF 11 38 ci with | some k => (match fs[k]? with | some v => G sp sc [] d mX11_doStatement n 4 L (v :: r) h Q | none => False) | none => False) | _ => False)) ∧
  (∀ (n d : Nat) (L : List (Option iV)) (r : List iV) (m : Nat) (h : iH) (Q : Option iV → iH → Prop), G sp sc [] d mX11_doStatement (n + 1) 4 L (.inr (.inr (m + 2)) :: r) h Q = (match h.1[m]? with | some (.inl (ci, fs)) => (match lkF 11 107 ci with | some k => (match fs[k]? with | some v => G sp sc [] d mX11_doStatement n 7 L (v :: r) h Q | none => False) | none => False) | _ => False)) ∧
  (∀ (n d : Nat) (L : List (Option iV)) (r : List iV) (x : Nat) (h : iH) (Q : Option iV → iH → Prop), G sp sc [] d mX11_doStatement (n + 1) 7 L (.inr (.inr (x + 1)) :: r) h Q = (match st1 L 3 (.inr (.inr (x + 1))) with | some L' => G sp sc [] d mX11_doStatement n 8 L' r h Q | none => False)) ∧
  (∀ (n d : Nat) (L : List (Option iV)) (st : List iV) (h : iH) (Q : Option iV → iH → Prop), G sp sc [] d mX11_doStatement (n + 1) 8 L st h Q = (match ld L 1 with | some (.inr (.inr (r + 1))) => G sp sc [] d mX11_doStatement n 9 L (.inr (.inr (r + 1)) :: st) h Q | _ => False)) ∧
  (∀ (n d : Nat) (L : List (Option iV)) (st : List iV) (h : iH) (Q : Option iV → iH → Prop), G sp sc [] d mX11_doStatement (n + 1) 9 L st h Q = (match ld L 2 with | some (.inl x) => G sp sc [] d mX11_doStatement n 10 L (.inl x :: st) h Q | _ => False)) ∧
  (∀ (n d : Nat) (L : List (Option iV)) (st : List iV) (h : iH) (Q : Option iV → iH → Prop), G sp sc [] d mX11_doStatement (n + 1) 10 L st h Q = G sp sc [] d mX11_doStatement n 11 L (.inl 1 :: st) h Q) ∧
  (∀ (n d : Nat) (L : List (Option iV)) (a : Int) (b : Int) (r : List iV) (h : iH) (Q : Option iV → iH → Prop), G sp sc [] d mX11_doStatement (n + 1) 11 L (.inl b :: .inl a :: r) h Q = G sp sc [] d mX11_doStatement n 12 L (.inl (a + b) :: r) h Q) ∧
  (∀ (n d : Nat) (L : List (Option iV)) (r : List iV) (m : Nat) (z0 : iV) (h : iH) (Q : Option iV → iH → Prop), G sp sc [] (d + 1) mX11_doStatement (n + 1) 12 L (z0 :: .inr (.inr (m + 2)) :: r) h Q = (match h.1[m]? with | some (.inl (ci, _)) => (match lkC 11 379 ci with | some (y1, n1, kd) => (n1 = 1 ∧ (kd = 2 ∨ kd = 3 ∨ kd = 8) ∧ cs r ≤ 8) ∧ Call sp sc d y1 [.inr (.inr (m + 2)), z0] h (fun q h1 => GC sp sc [] (d + 1) mX11_doStatement n 15 L q r h h1 Q) | none => False) | _ => False)) ∧
  (∀ (n d : Nat) (L : List (Option iV)) (r : List iV) (x : Int) (h : iH) (Q : Option iV → iH → Prop), G sp sc [] d mX11_doStatement (n + 1) 15 L (.inl x :: r) h Q = (match st1 L 4 (.inl x) with | some L' => G sp sc [] d mX11_doStatement n 17 L' r h Q | none => False)) ∧
  (∀ (n d : Nat) (L : List (Option iV)) (st : List iV) (h : iH) (Q : Option iV → iH → Prop), G sp sc [] d mX11_doStatement (n + 1) 17 L st h Q = (match ld L 1 with | some (.inr (.inr (r + 1))) => G sp sc [] d mX11_doStatement n 18 L (.inr (.inr (r + 1)) :: st) h Q | _ => False)) ∧
  (∀ (n d : Nat) (L : List (Option iV)) (st : List iV) (h : iH) (Q : Option iV → iH → Prop), G sp sc [] d mX11_doStatement (n + 1) 18 L st h Q = (match ld L 2 with | some (.inl x) => G sp sc [] d mX11_doStatement n 19 L (.inl x :: st) h Q | _ => False)) ∧
  (∀ (n d : Nat) (L : List (Option iV)) (st : List iV) (h : iH) (Q : Option iV → iH → Prop), G sp sc [] d mX11_doStatement (n + 1) 19 L st h Q = G sp sc [] d mX11_doStatement n 20 L (.inl 2 :: st) h Q) ∧
  (∀ (n d : Nat) (L : List (Option iV)) (a : Int) (b : Int) (r : List iV) (h : iH) (Q : Option iV → iH → Prop), G sp sc [] d mX11_doStatement (n + 1) 20 L (.inl b :: .inl a :: r) h Q = G sp sc [] d mX11_doStatement n 21 L (.inl (a + b) :: r) h Q) ∧
  (∀ (n d : Nat) (L : List (Option iV)) (r : List iV) (m : Nat) (z0 : iV) (h : iH) (Q : Option iV → iH → Prop), G sp sc [] (d + 1) mX11_doStatement (n + 1) 21 L (z0 :: .inr (.inr (m + 2)) :: r) h Q = (match h.1[m]? with | some (.inl (ci, _)) => (match lkC 11 379 ci with | some (y1, n1, kd) => (n1 = 1 ∧ (kd = 2 ∨ kd = 3 ∨ kd = 8) ∧ cs r ≤ 8) ∧ Call sp sc d y1 [.inr (.inr (m + 2)), z0] h (fun q h1 => GC sp sc [] (d + 1) mX11_doStatement n 24 L q r h h1 Q) | none => False) | _ => False)) ∧
  (∀ (n d : Nat) (L : List (Option iV)) (r : List iV) (x : Int) (h : iH) (Q : Option iV → iH → Prop), G sp sc [] d mX11_doStatement (n + 1) 24 L (.inl x :: r) h Q = (match st1 L 5 (.inl x) with | some L' => G sp sc [] d mX11_doStatement n 26 L' r h Q | none => False)) ∧
  (∀ (n d : Nat) (L : List (Option iV)) (st : List iV) (h : iH) (Q : Option iV → iH → Prop), G sp sc [] d mX11_doStatement (n + 1) 26 L st h Q = (match ld L 1 with | some (.inr (.inr (r + 1))) => G sp sc [] d mX11_doStatement n 27 L (.inr (.inr (r + 1)) :: st) h Q | _ => False)) ∧
  (∀ (n d : Nat) (L : List (Option iV)) (st : List iV) (h : iH) (Q : Option iV → iH → Prop), G sp sc [] d mX11_doStatement (n + 1) 27 L st h Q = (match ld L 2 with | some (.inl x) => G sp sc [] d mX11_doStatement n 28 L (.inl x :: st) h Q | _ => False)) ∧
  (∀ (n d : Nat) (L : List (Option iV)) (st : List iV) (h : iH) (Q : Option iV → iH → Prop), G sp sc [] d mX11_doStatement (n + 1) 28 L st h Q = G sp sc [] d mX11_doStatement n 29 L (.inl 3 :: st) h Q) ∧
  (∀ (n d : Nat) (L : List (Option iV)) (a : Int) (b : Int) (r : List iV) (h : iH) (Q : Option iV → iH → Prop), G sp sc [] d mX11_doStatement (n + 1) 29 L (.inl b :: .inl a :: r) h Q = G sp sc [] d mX11_doStatement n 30 L (.inl (a + b) :: r) h Q) ∧
  (∀ (n d : Nat) (L : List (Option iV)) (r : List iV) (m : Nat) (z0 : iV) (h : iH) (Q : Option iV → iH → Prop), G sp sc [] (d + 1) mX11_doStatement (n + 1) 30 L (z0 :: .inr (.inr (m + 2)) :: r) h Q = (match h.1[m]? with | some (.inl (ci, _)) => (match lkC 11 379 ci with | some (y1, n1, kd) => (n1 = 1 ∧ (kd = 2 ∨ kd = 3 ∨ kd = 8) ∧ cs r ≤ 8) ∧ Call sp sc d y1 [.inr (.inr (m + 2)), z0] h (fun q h1 => GC sp sc [] (d + 1) mX11_doStatement n 33 L q r h h1 Q) | none => False) | _ => False)) ∧
  (∀ (n d : Nat) (L : List (Option iV)) (r : List iV) (x : Int) (h : iH) (Q : Option iV → iH → Prop), G sp sc [] d mX11_doStatement (n + 1) 33 L (.inl x :: r) h Q = (match st1 L 6 (.inl x) with | some L' => G sp sc [] d mX11_doStatement n 35 L' r h Q | none => False)) ∧
  (∀ (n d : Nat) (L : List (Option iV)) (st : List iV) (h : iH) (Q : Option iV → iH → Prop), G sp sc [] d mX11_doStatement (n + 1) 35 L st h Q = ((-128 ≤ (10 : Int) ∧ (10 : Int) < 128) ∧ G sp sc [] d mX11_doStatement n 37 L (.inl 10 :: st) h Q)) ∧
  (∀ (n d : Nat) (L : List (Option iV)) (st : List iV) (h : iH) (Q : Option iV → iH → Prop), G sp sc [] d mX11_doStatement (n + 1) 37 L st h Q = (match ld L 4 with | some (.inl x) => G sp sc [] d mX11_doStatement n 39 L (.inl x :: st) h Q | _ => False)) ∧
  (∀ (n d : Nat) (L : List (Option iV)) (a : Int) (b : Int) (r : List iV) (h : iH) (Q : Option iV → iH → Prop), G sp sc [] d mX11_doStatement (n + 1) 39 L (.inl b :: .inl a :: r) h Q = G sp sc [] d mX11_doStatement n 40 L (.inl (a * b) :: r) h Q) ∧
  (∀ (n d : Nat) (L : List (Option iV)) (st : List iV) (h : iH) (Q : Option iV → iH → Prop), G sp sc [] d mX11_doStatement (n + 1) 40 L st h Q = (match ld L 5 with | some (.inl x) => G sp sc [] d mX11_doStatement n 42 L (.inl x :: st) h Q | _ => False)) ∧
  (∀ (n d : Nat) (L : List (Option iV)) (a : Int) (b : Int) (r : List iV) (h : iH) (Q : Option iV → iH → Prop), G sp sc [] d mX11_doStatement (n + 1) 42 L (.inl b :: .inl a :: r) h Q = G sp sc [] d mX11_doStatement n 43 L (.inl (a + b) :: r) h Q) ∧
  (∀ (n d : Nat) (L : List (Option iV)) (r : List iV) (x : Int) (h : iH) (Q : Option iV → iH → Prop), G sp sc [] d mX11_doStatement (n + 1) 43 L (.inl x :: r) h Q = (match st1 L 7 (.inl x) with | some L' => G sp sc [] d mX11_doStatement n 45 L' r h Q | none => False)) ∧
  (∀ (n d : Nat) (L : List (Option iV)) (st : List iV) (h : iH) (Q : Option iV → iH → Prop), G sp sc [] d mX11_doStatement (n + 1) 45 L st h Q = (match ld L 1 with | some (.inr (.inr (r + 1))) => G sp sc [] d mX11_doStatement n 46 L (.inr (.inr (r + 1)) :: st) h Q | _ => False)) ∧
  (∀ (n d : Nat) (L : List (Option iV)) (st : List iV) (h : iH) (Q : Option iV → iH → Prop), G sp sc [] d mX11_doStatement (n + 1) 46 L st h Q = (match ld L 2 with | some (.inl x) => G sp sc [] d mX11_doStatement n 47 L (.inl x :: st) h Q | _ => False)) ∧
  (∀ (n d : Nat) (L : List (Option iV)) (r : List iV) (m : Nat) (z0 : iV) (h : iH) (Q : Option iV → iH → Prop), G sp sc [] (d + 1) mX11_doStatement (n + 1) 47 L (z0 :: .inr (.inr (m + 2)) :: r) h Q = (match h.1[m]? with | some (.inl (ci, _)) => (match lkC 11 96 ci with | some (y1, n1, kd) => (n1 = 1 ∧ (kd = 2 ∨ kd = 3 ∨ kd = 8) ∧ cs r ≤ 8) ∧ Call sp sc d y1 [.inr (.inr (m + 2)), z0] h (fun q h1 => GC sp sc [] (d + 1) mX11_doStatement n 50 L q r h h1 Q) | none => False) | _ => False)) ∧
  (∀ (n d : Nat) (L : List (Option iV)) (a : Int) (r : List iV) (h : iH) (Q : Option iV → iH → Prop), G sp sc [] d mX11_doStatement (n + 1) 50 L (.inl a :: r) h Q = (inI a = true ∧ ((a < 97 ∨ 121 < a) → G sp sc [] d mX11_doStatement n 406 L r h Q) ∧ (¬ (a < 97 ∨ 121 < a) → (match (#[282, 356, 265, 229, 356, 356, 356, 356, 356, 356, 356, 184, 114, 356, 356, 356, 356, 356, 309, 356, 356, 356, 149, 356, 317] : Array Int)[(a - (97 : Int)).toNat]? with | some off => (match jmp 50 off with | some q => GK sp sc [] d mX11_doStatement n q L r h Q | none => False) | none => False)))) ∧
  (∀ (n d : Nat) (L : List (Option iV)) (st : List iV) (h : iH) (Q : Option iV → iH → Prop), G sp sc [] d mX11_doStatement (n + 1) 164 L st h Q = (match ld L 4 with | some (.inl x) => G sp sc [] d mX11_doStatement n 166 L (.inl x :: st) h Q | _ => False)) ∧
  (∀ (n d : Nat) (L : List (Option iV)) (r : List iV) (z0 : iV) (h : iH) (Q : Option iV → iH → Prop), G sp sc [] (d + 1) mX11_doStatement (n + 1) 166 L (z0 :: r) h Q = (cs r ≤ 8 ∧ Call sp sc d mX11_isKind [z0] h (fun q h1 => GC sp sc [] (d + 1) mX11_doStatement n 169 L q r h h1 Q))) ∧
  (∀ (n d : Nat) (L : List (Option iV)) (a : Int) (r : List iV) (h : iH) (Q : Option iV → iH → Prop), G sp sc [] d mX11_doStatement (n + 1) 169 L (.inl a :: r) h Q = (inI a = true ∧ (a = 0 → G sp sc [] d mX11_doStatement n 197 L r h Q) ∧ (¬ (a = 0) → G sp sc [] d mX11_doStatement n 172 L r h Q))) ∧
  (∀ (n d : Nat) (L : List (Option iV)) (st : List iV) (h : iH) (Q : Option iV → iH → Prop), G sp sc [] d mX11_doStatement (n + 1) 172 L st h Q = (match ld L 3 with | some (.inr (.inr (r + 1))) => G sp sc [] d mX11_doStatement n 173 L (.inr (.inr (r + 1)) :: st) h Q | _ => False)) ∧
  (∀ (n d : Nat) (L : List (Option iV)) (st : List iV) (h : iH) (Q : Option iV → iH → Prop), G sp sc [] d mX11_doStatement (n + 1) 173 L st h Q = G sp sc [] d mX11_doStatement n 174 L (.inl 0 :: st) h Q) ∧
  (∀ (n d : Nat) (L : List (Option iV)) (st : List iV) (h : iH) (Q : Option iV → iH → Prop), G sp sc [] d mX11_doStatement (n + 1) 174 L st h Q = (match ld L 0 with | some (.inr (.inr (r + 1))) => G sp sc [] d mX11_doStatement n 175 L (.inr (.inr (r + 1)) :: st) h Q | _ => False)) ∧
  (∀ (n d : Nat) (L : List (Option iV)) (r : List iV) (m : Nat) (h : iH) (Q : Option iV → iH → Prop), G sp sc [] d mX11_doStatement (n + 1) 175 L (.inr (.inr (m + 2)) :: r) h Q = (match h.1[m]? with | some (.inl (ci, fs)) => (match lkF 11 42 ci with | some k => (match fs[k]? with | some v => G sp sc [] d mX11_doStatement n 178 L (v :: r) h Q | none => False) | none => False) | _ => False)) ∧
  (∀ (n d : Nat) (L : List (Option iV)) (st : List iV) (h : iH) (Q : Option iV → iH → Prop), G sp sc [] d mX11_doStatement (n + 1) 178 L st h Q = (match ld L 4 with | some (.inl x) => G sp sc [] d mX11_doStatement n 180 L (.inl x :: st) h Q | _ => False)) ∧
  (∀ (n d : Nat) (L : List (Option iV)) (st : List iV) (h : iH) (Q : Option iV → iH → Prop), G sp sc [] d mX11_doStatement (n + 1) 180 L st h Q = ((-128 ≤ (10 : Int) ∧ (10 : Int) < 128) ∧ G sp sc [] d mX11_doStatement n 182 L (.inl 10 :: st) h Q)) ∧
  (∀ (n d : Nat) (L : List (Option iV)) (a : Int) (b : Int) (r : List iV) (h : iH) (Q : Option iV → iH → Prop), G sp sc [] d mX11_doStatement (n + 1) 182 L (.inl b :: .inl a :: r) h Q = G sp sc [] d mX11_doStatement n 183 L (.inl (a * b) :: r) h Q) ∧
  (∀ (n d : Nat) (L : List (Option iV)) (st : List iV) (h : iH) (Q : Option iV → iH → Prop), G sp sc [] d mX11_doStatement (n + 1) 183 L st h Q = (match ld L 5 with | some (.inl x) => G sp sc [] d mX11_doStatement n 185 L (.inl x :: st) h Q | _ => False)) ∧
  (∀ (n d : Nat) (L : List (Option iV)) (a : Int) (b : Int) (r : List iV) (h : iH) (Q : Option iV → iH → Prop), G sp sc [] d mX11_doStatement (n + 1) 185 L (.inl b :: .inl a :: r) h Q = G sp sc [] d mX11_doStatement n 186 L (.inl (a + b) :: r) h Q) ∧
  (∀ (n d : Nat) (L : List (Option iV)) (r : List iV) (j : Int) (m : Nat) (h : iH) (Q : Option iV → iH → Prop), G sp sc [] d mX11_doStatement (n + 1) 186 L (.inl j :: .inr (.inr (m + 2)) :: r) h Q = (match h.1[m]? with | some (.inr (.inr (t, rs))) => (inA j rs.length = true ∧ 3 ≤ t ∧ t < 6) ∧ G sp sc [] d mX11_doStatement n 187 L (.inr (.inr (rs.getD j.toNat 0)) :: r) h Q | _ => False)) ∧
  (∀ (n d : Nat) (L : List (Option iV)) (r : List iV) (m : Nat) (z0 : iV) (z1 : iV) (h : iH) (Q : Option iV → iH → Prop), G sp sc [] (d + 1) mX11_doStatement (n + 1) 187 L (z1 :: z0 :: .inr (.inr (m + 2)) :: r) h Q = (match h.1[m]? with | some (.inl (ci, _)) => (match lkC 11 162 ci with | some (y1, n1, kd) => (n1 = 2 ∧ (kd = 2 ∨ kd = 3 ∨ kd = 8) ∧ cs r ≤ 8) ∧ Call sp sc d y1 [.inr (.inr (m + 2)), z0, z1] h (fun q h1 => GC sp sc [] (d + 1) mX11_doStatement n 190 L q r h h1 Q) | none => False) | _ => False)) ∧
  (∀ (n d : Nat) (L : List (Option iV)) (a : Int) (r : List iV) (h : iH) (Q : Option iV → iH → Prop), G sp sc [] d mX11_doStatement (n + 1) 190 L (.inl a :: r) h Q = (inI a = true ∧ (a < 0 → G sp sc [] d mX11_doStatement n 197 L r h Q) ∧ (¬ (a < 0) → G sp sc [] d mX11_doStatement n 193 L r h Q))) ∧
  (∀ (n d : Nat) (L : List (Option iV)) (st : List iV) (h : iH) (Q : Option iV → iH → Prop), G sp sc [] d mX11_doStatement (n + 1) 193 L st h Q = G sp sc [] d mX11_doStatement n 194 L (.inl 1 :: st) h Q) ∧
  (∀ (n d : Nat) (L : List (Option iV)) (st : List iV) (h : iH) (Q : Option iV → iH → Prop), G sp sc [] d mX11_doStatement (n + 1) 194 L st h Q = G sp sc [] d mX11_doStatement n 198 L st h Q) ∧
  (∀ (n d : Nat) (L : List (Option iV)) (st : List iV) (h : iH) (Q : Option iV → iH → Prop), G sp sc [] d mX11_doStatement (n + 1) 197 L st h Q = G sp sc [] d mX11_doStatement n 198 L (.inl 0 :: st) h Q) ∧
  (∀ (n d : Nat) (L : List (Option iV)) (a : Int) (h : iH) (Q : Option iV → iH → Prop), G sp sc [] d mX11_doStatement (n + 1) 198 L [.inl a] h Q = ((a = 0 ∨ a = 1) ∧ Q (some (.inl a)) h)) ∧
  (∀ (n d : Nat) (L : List (Option iV)) (st : List iV) (h : iH) (Q : Option iV → iH → Prop), G sp sc [] d mX11_doStatement (n + 1) 199 L st h Q = (match ld L 4 with | some (.inl x) => G sp sc [] d mX11_doStatement n 201 L (.inl x :: st) h Q | _ => False)) ∧
  (∀ (n d : Nat) (L : List (Option iV)) (r : List iV) (z0 : iV) (h : iH) (Q : Option iV → iH → Prop), G sp sc [] (d + 1) mX11_doStatement (n + 1) 201 L (z0 :: r) h Q = (cs r ≤ 8 ∧ Call sp sc d mX11_isKind [z0] h (fun q h1 => GC sp sc [] (d + 1) mX11_doStatement n 204 L q r h h1 Q))) ∧
  (∀ (n d : Nat) (L : List (Option iV)) (a : Int) (r : List iV) (h : iH) (Q : Option iV → iH → Prop), G sp sc [] d mX11_doStatement (n + 1) 204 L (.inl a :: r) h Q = (inI a = true ∧ (a = 0 → G sp sc [] d mX11_doStatement n 232 L r h Q) ∧ (¬ (a = 0) → G sp sc [] d mX11_doStatement n 207 L r h Q))) ∧
  (∀ (n d : Nat) (L : List (Option iV)) (st : List iV) (h : iH) (Q : Option iV → iH → Prop), G sp sc [] d mX11_doStatement (n + 1) 207 L st h Q = (match ld L 3 with | some (.inr (.inr (r + 1))) => G sp sc [] d mX11_doStatement n 208 L (.inr (.inr (r + 1)) :: st) h Q | _ => False)) ∧
  (∀ (n d : Nat) (L : List (Option iV)) (st : List iV) (h : iH) (Q : Option iV → iH → Prop), G sp sc [] d mX11_doStatement (n + 1) 208 L st h Q = G sp sc [] d mX11_doStatement n 209 L (.inl 1 :: st) h Q) ∧
  (∀ (n d : Nat) (L : List (Option iV)) (st : List iV) (h : iH) (Q : Option iV → iH → Prop), G sp sc [] d mX11_doStatement (n + 1) 209 L st h Q = (match ld L 0 with | some (.inr (.inr (r + 1))) => G sp sc [] d mX11_doStatement n 210 L (.inr (.inr (r + 1)) :: st) h Q | _ => False)) ∧
  (∀ (n d : Nat) (L : List (Option iV)) (r : List iV) (m : Nat) (h : iH) (Q : Option iV → iH → Prop), G sp sc [] d mX11_doStatement (n + 1) 210 L (.inr (.inr (m + 2)) :: r) h Q = (match h.1[m]? with | some (.inl (ci, fs)) => (match lkF 11 42 ci with | some k => (match fs[k]? with | some v => G sp sc [] d mX11_doStatement n 213 L (v :: r) h Q | none => False) | none => False) | _ => False)) ∧
  (∀ (n d : Nat) (L : List (Option iV)) (st : List iV) (h : iH) (Q : Option iV → iH → Prop), G sp sc [] d mX11_doStatement (n + 1) 213 L st h Q = (match ld L 4 with | some (.inl x) => G sp sc [] d mX11_doStatement n 215 L (.inl x :: st) h Q | _ => False)) ∧
  (∀ (n d : Nat) (L : List (Option iV)) (st : List iV) (h : iH) (Q : Option iV → iH → Prop), G sp sc [] d mX11_doStatement (n + 1) 215 L st h Q = ((-128 ≤ (10 : Int) ∧ (10 : Int) < 128) ∧ G sp sc [] d mX11_doStatement n 217 L (.inl 10 :: st) h Q)) ∧
  (∀ (n d : Nat) (L : List (Option iV)) (a : Int) (b : Int) (r : List iV) (h : iH) (Q : Option iV → iH → Prop), G sp sc [] d mX11_doStatement (n + 1) 217 L (.inl b :: .inl a :: r) h Q = G sp sc [] d mX11_doStatement n 218 L (.inl (a * b) :: r) h Q) ∧
  (∀ (n d : Nat) (L : List (Option iV)) (st : List iV) (h : iH) (Q : Option iV → iH → Prop), G sp sc [] d mX11_doStatement (n + 1) 218 L st h Q = (match ld L 5 with | some (.inl x) => G sp sc [] d mX11_doStatement n 220 L (.inl x :: st) h Q | _ => False)) ∧
  (∀ (n d : Nat) (L : List (Option iV)) (a : Int) (b : Int) (r : List iV) (h : iH) (Q : Option iV → iH → Prop), G sp sc [] d mX11_doStatement (n + 1) 220 L (.inl b :: .inl a :: r) h Q = G sp sc [] d mX11_doStatement n 221 L (.inl (a + b) :: r) h Q) ∧
  (∀ (n d : Nat) (L : List (Option iV)) (r : List iV) (j : Int) (m : Nat) (h : iH) (Q : Option iV → iH → Prop), G sp sc [] d mX11_doStatement (n + 1) 221 L (.inl j :: .inr (.inr (m + 2)) :: r) h Q = (match h.1[m]? with | some (.inr (.inr (t, rs))) => (inA j rs.length = true ∧ 3 ≤ t ∧ t < 6) ∧ G sp sc [] d mX11_doStatement n 222 L (.inr (.inr (rs.getD j.toNat 0)) :: r) h Q | _ => False)) ∧
  (∀ (n d : Nat) (L : List (Option iV)) (r : List iV) (m : Nat) (z0 : iV) (z1 : iV) (h : iH) (Q : Option iV → iH → Prop), G sp sc [] (d + 1) mX11_doStatement (n + 1) 222 L (z1 :: z0 :: .inr (.inr (m + 2)) :: r) h Q = (match h.1[m]? with | some (.inl (ci, _)) => (match lkC 11 162 ci with | some (y1, n1, kd) => (n1 = 2 ∧ (kd = 2 ∨ kd = 3 ∨ kd = 8) ∧ cs r ≤ 8) ∧ Call sp sc d y1 [.inr (.inr (m + 2)), z0, z1] h (fun q h1 => GC sp sc [] (d + 1) mX11_doStatement n 225 L q r h h1 Q) | none => False) | _ => False)) ∧
  (∀ (n d : Nat) (L : List (Option iV)) (a : Int) (r : List iV) (h : iH) (Q : Option iV → iH → Prop), G sp sc [] d mX11_doStatement (n + 1) 225 L (.inl a :: r) h Q = (inI a = true ∧ (a < 0 → G sp sc [] d mX11_doStatement n 232 L r h Q) ∧ (¬ (a < 0) → G sp sc [] d mX11_doStatement n 228 L r h Q))) ∧
  (∀ (n d : Nat) (L : List (Option iV)) (st : List iV) (h : iH) (Q : Option iV → iH → Prop), G sp sc [] d mX11_doStatement (n + 1) 228 L st h Q = G sp sc [] d mX11_doStatement n 229 L (.inl 1 :: st) h Q) ∧
  (∀ (n d : Nat) (L : List (Option iV)) (st : List iV) (h : iH) (Q : Option iV → iH → Prop), G sp sc [] d mX11_doStatement (n + 1) 229 L st h Q = G sp sc [] d mX11_doStatement n 233 L st h Q) ∧
  (∀ (n d : Nat) (L : List (Option iV)) (st : List iV) (h : iH) (Q : Option iV → iH → Prop), G sp sc [] d mX11_doStatement (n + 1) 232 L st h Q = G sp sc [] d mX11_doStatement n 233 L (.inl 0 :: st) h Q) ∧
  (∀ (n d : Nat) (L : List (Option iV)) (a : Int) (h : iH) (Q : Option iV → iH → Prop), G sp sc [] d mX11_doStatement (n + 1) 233 L [.inl a] h Q = ((a = 0 ∨ a = 1) ∧ Q (some (.inl a)) h)) ∧
  (∀ (n d : Nat) (L : List (Option iV)) (st : List iV) (h : iH) (Q : Option iV → iH → Prop), G sp sc [] d mX11_doStatement (n + 1) 234 L st h Q = (match ld L 3 with | some (.inr (.inr (r + 1))) => G sp sc [] d mX11_doStatement n 235 L (.inr (.inr (r + 1)) :: st) h Q | _ => False)) ∧
  (∀ (n d : Nat) (L : List (Option iV)) (st : List iV) (h : iH) (Q : Option iV → iH → Prop), G sp sc [] d mX11_doStatement (n + 1) 235 L st h Q = (match ld L 4 with | some (.inl x) => G sp sc [] d mX11_doStatement n 237 L (.inl x :: st) h Q | _ => False)) ∧
  (∀ (n d : Nat) (L : List (Option iV)) (st : List iV) (h : iH) (Q : Option iV → iH → Prop), G sp sc [] d mX11_doStatement (n + 1) 237 L st h Q = (match ld L 5 with | some (.inl x) => G sp sc [] d mX11_doStatement n 239 L (.inl x :: st) h Q | _ => False)) ∧
  (∀ (n d : Nat) (L : List (Option iV)) (st : List iV) (h : iH) (Q : Option iV → iH → Prop), G sp sc [] d mX11_doStatement (n + 1) 239 L st h Q = (match ld L 6 with | some (.inl x) => G sp sc [] d mX11_doStatement n 241 L (.inl x :: st) h Q | _ => False)) ∧
  (∀ (n d : Nat) (L : List (Option iV)) (r : List iV) (m : Nat) (z0 : iV) (z1 : iV) (z2 : iV) (h : iH) (Q : Option iV → iH → Prop), G sp sc [] (d + 1) mX11_doStatement (n + 1) 241 L (z2 :: z1 :: z0 :: .inr (.inr (m + 2)) :: r) h Q = (match h.1[m]? with | some (.inl (ci, _)) => (match lkC 11 166 ci with | some (y1, n1, kd) => (n1 = 3 ∧ (kd = 2 ∨ kd = 3 ∨ kd = 8) ∧ cs r ≤ 8) ∧ Call sp sc d y1 [.inr (.inr (m + 2)), z0, z1, z2] h (fun q h1 => GC sp sc [] (d + 1) mX11_doStatement n 244 L q r h h1 Q) | none => False) | _ => False)) ∧
  (∀ (n d : Nat) (L : List (Option iV)) (a : Int) (r : List iV) (h : iH) (Q : Option iV → iH → Prop), G sp sc [] d mX11_doStatement (n + 1) 244 L (.inl a :: r) h Q = (inI a = true ∧ (¬ a = 0 → G sp sc [] d mX11_doStatement n 249 L r h Q) ∧ (¬ (¬ a = 0) → G sp sc [] d mX11_doStatement n 247 L r h Q))) ∧
  (∀ (n d : Nat) (L : List (Option iV)) (st : List iV) (h : iH) (Q : Option iV → iH → Prop), G sp sc [] d mX11_doStatement (n + 1) 247 L st h Q = G sp sc [] d mX11_doStatement n 248 L (.inl 0 :: st) h Q) ∧
  (∀ (n d : Nat) (L : List (Option iV)) (a : Int) (h : iH) (Q : Option iV → iH → Prop), G sp sc [] d mX11_doStatement (n + 1) 248 L [.inl a] h Q = ((a = 0 ∨ a = 1) ∧ Q (some (.inl a)) h)) ∧
  (∀ (n d : Nat) (L : List (Option iV)) (st : List iV) (h : iH) (Q : Option iV → iH → Prop), G sp sc [] d mX11_doStatement (n + 1) 249 L st h Q = (match ld L 3 with | some (.inr (.inr (r + 1))) => G sp sc [] d mX11_doStatement n 250 L (.inr (.inr (r + 1)) :: st) h Q | _ => False)) ∧
  (∀ (n d : Nat) (L : List (Option iV)) (st : List iV) (h : iH) (Q : Option iV → iH → Prop), G sp sc [] d mX11_doStatement (n + 1) 250 L st h Q = (match ld L 4 with | some (.inl x) => G sp sc [] d mX11_doStatement n 252 L (.inl x :: st) h Q | _ => False)) ∧
  (∀ (n d : Nat) (L : List (Option iV)) (st : List iV) (h : iH) (Q : Option iV → iH → Prop), G sp sc [] d mX11_doStatement (n + 1) 252 L st h Q = (match ld L 5 with | some (.inl x) => G sp sc [] d mX11_doStatement n 254 L (.inl x :: st) h Q | _ => False)) ∧
  (∀ (n d : Nat) (L : List (Option iV)) (st : List iV) (h : iH) (Q : Option iV → iH → Prop), G sp sc [] d mX11_doStatement (n + 1) 254 L st h Q = (match ld L 6 with | some (.inl x) => G sp sc [] d mX11_doStatement n 256 L (.inl x :: st) h Q | _ => False)) ∧
  (∀ (n d : Nat) (L : List (Option iV)) (st : List iV) (h : iH) (Q : Option iV → iH → Prop), G sp sc [] d mX11_doStatement (n + 1) 256 L st h Q = ((-128 ≤ (10 : Int) ∧ (10 : Int) < 128) ∧ G sp sc [] d mX11_doStatement n 258 L (.inl 10 :: st) h Q)) ∧
  (∀ (n d : Nat) (L : List (Option iV)) (st : List iV) (h : iH) (Q : Option iV → iH → Prop), G sp sc [] d mX11_doStatement (n + 1) 258 L st h Q = (match ld L 1 with | some (.inr (.inr (r + 1))) => G sp sc [] d mX11_doStatement n 259 L (.inr (.inr (r + 1)) :: st) h Q | _ => False)) ∧
  (∀ (n d : Nat) (L : List (Option iV)) (st : List iV) (h : iH) (Q : Option iV → iH → Prop), G sp sc [] d mX11_doStatement (n + 1) 259 L st h Q = (match ld L 2 with | some (.inl x) => G sp sc [] d mX11_doStatement n 260 L (.inl x :: st) h Q | _ => False)) ∧
  (∀ (n d : Nat) (L : List (Option iV)) (st : List iV) (h : iH) (Q : Option iV → iH → Prop), G sp sc [] d mX11_doStatement (n + 1) 260 L st h Q = G sp sc [] d mX11_doStatement n 261 L (.inl 4 :: st) h Q) ∧
  (∀ (n d : Nat) (L : List (Option iV)) (a : Int) (b : Int) (r : List iV) (h : iH) (Q : Option iV → iH → Prop), G sp sc [] d mX11_doStatement (n + 1) 261 L (.inl b :: .inl a :: r) h Q = G sp sc [] d mX11_doStatement n 262 L (.inl (a + b) :: r) h Q) ∧
  (∀ (n d : Nat) (L : List (Option iV)) (r : List iV) (m : Nat) (z0 : iV) (h : iH) (Q : Option iV → iH → Prop), G sp sc [] (d + 1) mX11_doStatement (n + 1) 262 L (z0 :: .inr (.inr (m + 2)) :: r) h Q = (match h.1[m]? with | some (.inl (ci, _)) => (match lkC 11 379 ci with | some (y1, n1, kd) => (n1 = 1 ∧ (kd = 2 ∨ kd = 3 ∨ kd = 8) ∧ cs r ≤ 8) ∧ Call sp sc d y1 [.inr (.inr (m + 2)), z0] h (fun q h1 => GC sp sc [] (d + 1) mX11_doStatement n 265 L q r h h1 Q) | none => False) | _ => False)) ∧
  (∀ (n d : Nat) (L : List (Option iV)) (a : Int) (b : Int) (r : List iV) (h : iH) (Q : Option iV → iH → Prop), G sp sc [] d mX11_doStatement (n + 1) 265 L (.inl b :: .inl a :: r) h Q = G sp sc [] d mX11_doStatement n 266 L (.inl (a * b) :: r) h Q) ∧
  (∀ (n d : Nat) (L : List (Option iV)) (st : List iV) (h : iH) (Q : Option iV → iH → Prop), G sp sc [] d mX11_doStatement (n + 1) 266 L st h Q = (match ld L 1 with | some (.inr (.inr (r + 1))) => G sp sc [] d mX11_doStatement n 267 L (.inr (.inr (r + 1)) :: st) h Q | _ => False)) ∧
  (∀ (n d : Nat) (L : List (Option iV)) (st : List iV) (h : iH) (Q : Option iV → iH → Prop), G sp sc [] d mX11_doStatement (n + 1) 267 L st h Q = (match ld L 2 with | some (.inl x) => G sp sc [] d mX11_doStatement n 268 L (.inl x :: st) h Q | _ => False)) ∧
  (∀ (n d : Nat) (L : List (Option iV)) (st : List iV) (h : iH) (Q : Option iV → iH → Prop), G sp sc [] d mX11_doStatement (n + 1) 268 L st h Q = G sp sc [] d mX11_doStatement n 269 L (.inl 5 :: st) h Q) ∧
  (∀ (n d : Nat) (L : List (Option iV)) (a : Int) (b : Int) (r : List iV) (h : iH) (Q : Option iV → iH → Prop), G sp sc [] d mX11_doStatement (n + 1) 269 L (.inl b :: .inl a :: r) h Q = G sp sc [] d mX11_doStatement n 270 L (.inl (a + b) :: r) h Q) ∧
  (∀ (n d : Nat) (L : List (Option iV)) (r : List iV) (m : Nat) (z0 : iV) (h : iH) (Q : Option iV → iH → Prop), G sp sc [] (d + 1) mX11_doStatement (n + 1) 270 L (z0 :: .inr (.inr (m + 2)) :: r) h Q = (match h.1[m]? with | some (.inl (ci, _)) => (match lkC 11 379 ci with | some (y1, n1, kd) => (n1 = 1 ∧ (kd = 2 ∨ kd = 3 ∨ kd = 8) ∧ cs r ≤ 8) ∧ Call sp sc d y1 [.inr (.inr (m + 2)), z0] h (fun q h1 => GC sp sc [] (d + 1) mX11_doStatement n 273 L q r h h1 Q) | none => False) | _ => False)) ∧
  (∀ (n d : Nat) (L : List (Option iV)) (a : Int) (b : Int) (r : List iV) (h : iH) (Q : Option iV → iH → Prop), G sp sc [] d mX11_doStatement (n + 1) 273 L (.inl b :: .inl a :: r) h Q = G sp sc [] d mX11_doStatement n 274 L (.inl (a + b) :: r) h Q) ∧
  (∀ (n d : Nat) (L : List (Option iV)) (r : List iV) (m : Nat) (z0 : iV) (z1 : iV) (z2 : iV) (z3 : iV) (h : iH) (Q : Option iV → iH → Prop), G sp sc [] (d + 1) mX11_doStatement (n + 1) 274 L (z3 :: z2 :: z1 :: z0 :: .inr (.inr (m + 2)) :: r) h Q = (match h.1[m]? with | some (.inl (ci, _)) => (match lkC 11 174 ci with | some (y1, n1, kd) => (n1 = 4 ∧ (kd = 2 ∨ kd = 3 ∨ kd = 8) ∧ cs r ≤ 8) ∧ Call sp sc d y1 [.inr (.inr (m + 2)), z0, z1, z2, z3] h (fun q h1 => GC sp sc [] (d + 1) mX11_doStatement n 277 L q r h h1 Q) | none => False) | _ => False)) ∧
  (∀ (n d : Nat) (L : List (Option iV)) (st : List iV) (h : iH) (Q : Option iV → iH → Prop), G sp sc [] d mX11_doStatement (n + 1) 277 L st h Q = G sp sc [] d mX11_doStatement n 278 L (.inl 1 :: st) h Q) ∧
  (∀ (n d : Nat) (L : List (Option iV)) (a : Int) (h : iH) (Q : Option iV → iH → Prop), G sp sc [] d mX11_doStatement (n + 1) 278 L [.inl a] h Q = ((a = 0 ∨ a = 1) ∧ Q (some (.inl a)) h)) ∧
  (∀ (n d : Nat) (L : List (Option iV)) (st : List iV) (h : iH) (Q : Option iV → iH → Prop), G sp sc [] d mX11_doStatement (n + 1) 279 L st h Q = (match ld L 3 with | some (.inr (.inr (r + 1))) => G sp sc [] d mX11_doStatement n 280 L (.inr (.inr (r + 1)) :: st) h Q | _ => False)) ∧
  (∀ (n d : Nat) (L : List (Option iV)) (st : List iV) (h : iH) (Q : Option iV → iH → Prop), G sp sc [] d mX11_doStatement (n + 1) 280 L st h Q = (match ld L 4 with | some (.inl x) => G sp sc [] d mX11_doStatement n 282 L (.inl x :: st) h Q | _ => False)) ∧
  (∀ (n d : Nat) (L : List (Option iV)) (st : List iV) (h : iH) (Q : Option iV → iH → Prop), G sp sc [] d mX11_doStatement (n + 1) 282 L st h Q = (match ld L 5 with | some (.inl x) => G sp sc [] d mX11_doStatement n 284 L (.inl x :: st) h Q | _ => False)) ∧
  (∀ (n d : Nat) (L : List (Option iV)) (r : List iV) (m : Nat) (z0 : iV) (z1 : iV) (h : iH) (Q : Option iV → iH → Prop), G sp sc [] (d + 1) mX11_doStatement (n + 1) 284 L (z1 :: z0 :: .inr (.inr (m + 2)) :: r) h Q = (match h.1[m]? with | some (.inl (ci, _)) => (match lkC 11 113 ci with | some (y1, n1, kd) => (n1 = 2 ∧ (kd = 2 ∨ kd = 3 ∨ kd = 8) ∧ cs r ≤ 8) ∧ Call sp sc d y1 [.inr (.inr (m + 2)), z0, z1] h (fun q h1 => GC sp sc [] (d + 1) mX11_doStatement n 287 L q r h h1 Q) | none => False) | _ => False)) ∧
  (∀ (n d : Nat) (L : List (Option iV)) (a : Int) (r : List iV) (h : iH) (Q : Option iV → iH → Prop), G sp sc [] d mX11_doStatement (n + 1) 287 L (.inl a :: r) h Q = (inI a = true ∧ (a = 0 → G sp sc [] d mX11_doStatement n 301 L r h Q) ∧ (¬ (a = 0) → G sp sc [] d mX11_doStatement n 290 L r h Q))) ∧
  (∀ (n d : Nat) (L : List (Option iV)) (st : List iV) (h : iH) (Q : Option iV → iH → Prop), G sp sc [] d mX11_doStatement (n + 1) 290 L st h Q = (match ld L 3 with | some (.inr (.inr (r + 1))) => G sp sc [] d mX11_doStatement n 291 L (.inr (.inr (r + 1)) :: st) h Q | _ => False)) ∧
  (∀ (n d : Nat) (L : List (Option iV)) (st : List iV) (h : iH) (Q : Option iV → iH → Prop), G sp sc [] d mX11_doStatement (n + 1) 291 L st h Q = (match ld L 4 with | some (.inl x) => G sp sc [] d mX11_doStatement n 293 L (.inl x :: st) h Q | _ => False)) ∧
  (∀ (n d : Nat) (L : List (Option iV)) (st : List iV) (h : iH) (Q : Option iV → iH → Prop), G sp sc [] d mX11_doStatement (n + 1) 293 L st h Q = (match ld L 6 with | some (.inl x) => G sp sc [] d mX11_doStatement n 295 L (.inl x :: st) h Q | _ => False)) ∧
  (∀ (n d : Nat) (L : List (Option iV)) (r : List iV) (m : Nat) (z0 : iV) (z1 : iV) (h : iH) (Q : Option iV → iH → Prop), G sp sc [] (d + 1) mX11_doStatement (n + 1) 295 L (z1 :: z0 :: .inr (.inr (m + 2)) :: r) h Q = (match h.1[m]? with | some (.inl (ci, _)) => (match lkC 11 113 ci with | some (y1, n1, kd) => (n1 = 2 ∧ (kd = 2 ∨ kd = 3 ∨ kd = 8) ∧ cs r ≤ 8) ∧ Call sp sc d y1 [.inr (.inr (m + 2)), z0, z1] h (fun q h1 => GC sp sc [] (d + 1) mX11_doStatement n 298 L q r h h1 Q) | none => False) | _ => False)) ∧
  (∀ (n d : Nat) (L : List (Option iV)) (a : Int) (r : List iV) (h : iH) (Q : Option iV → iH → Prop), G sp sc [] d mX11_doStatement (n + 1) 298 L (.inl a :: r) h Q = (inI a = true ∧ (¬ a = 0 → G sp sc [] d mX11_doStatement n 303 L r h Q) ∧ (¬ (¬ a = 0) → G sp sc [] d mX11_doStatement n 301 L r h Q))) ∧
  (∀ (n d : Nat) (L : List (Option iV)) (st : List iV) (h : iH) (Q : Option iV → iH → Prop), G sp sc [] d mX11_doStatement (n + 1) 301 L st h Q = G sp sc [] d mX11_doStatement n 302 L (.inl 0 :: st) h Q) ∧
  (∀ (n d : Nat) (L : List (Option iV)) (a : Int) (h : iH) (Q : Option iV → iH → Prop), G sp sc [] d mX11_doStatement (n + 1) 302 L [.inl a] h Q = ((a = 0 ∨ a = 1) ∧ Q (some (.inl a)) h)) ∧
  (∀ (n d : Nat) (L : List (Option iV)) (st : List iV) (h : iH) (Q : Option iV → iH → Prop), G sp sc [] d mX11_doStatement (n + 1) 303 L st h Q = (match ld L 3 with | some (.inr (.inr (r + 1))) => G sp sc [] d mX11_doStatement n 304 L (.inr (.inr (r + 1)) :: st) h Q | _ => False)) ∧
  (∀ (n d : Nat) (L : List (Option iV)) (st : List iV) (h : iH) (Q : Option iV → iH → Prop), G sp sc [] d mX11_doStatement (n + 1) 304 L st h Q = (match ld L 4 with | some (.inl x) => G sp sc [] d mX11_doStatement n 306 L (.inl x :: st) h Q | _ => False)) ∧
  (∀ (n d : Nat) (L : List (Option iV)) (st : List iV) (h : iH) (Q : Option iV → iH → Prop), G sp sc [] d mX11_doStatement (n + 1) 306 L st h Q = (match ld L 5 with | some (.inl x) => G sp sc [] d mX11_doStatement n 308 L (.inl x :: st) h Q | _ => False)) ∧
  (∀ (n d : Nat) (L : List (Option iV)) (st : List iV) (h : iH) (Q : Option iV → iH → Prop), G sp sc [] d mX11_doStatement (n + 1) 308 L st h Q = (match ld L 6 with | some (.inl x) => G sp sc [] d mX11_doStatement n 310 L (.inl x :: st) h Q | _ => False)) ∧
  (∀ (n d : Nat) (L : List (Option iV)) (r : List iV) (m : Nat) (z0 : iV) (z1 : iV) (z2 : iV) (h : iH) (Q : Option iV → iH → Prop), G sp sc [] (d + 1) mX11_doStatement (n + 1) 310 L (z2 :: z1 :: z0 :: .inr (.inr (m + 2)) :: r) h Q = (match h.1[m]? with | some (.inl (ci, _)) => (match lkC 11 178 ci with | some (y1, n1, kd) => (n1 = 3 ∧ (kd = 2 ∨ kd = 3 ∨ kd = 8) ∧ cs r ≤ 8) ∧ Call sp sc d y1 [.inr (.inr (m + 2)), z0, z1, z2] h (fun q h1 => GC sp sc [] (d + 1) mX11_doStatement n 313 L q r h h1 Q) | none => False) | _ => False)) ∧
  (∀ (n d : Nat) (L : List (Option iV)) (st : List iV) (h : iH) (Q : Option iV → iH → Prop), G sp sc [] d mX11_doStatement (n + 1) 313 L st h Q = G sp sc [] d mX11_doStatement n 314 L (.inl 1 :: st) h Q) ∧
  (∀ (n d : Nat) (L : List (Option iV)) (a : Int) (h : iH) (Q : Option iV → iH → Prop), G sp sc [] d mX11_doStatement (n + 1) 314 L [.inl a] h Q = ((a = 0 ∨ a = 1) ∧ Q (some (.inl a)) h)) ∧
  (∀ (n d : Nat) (L : List (Option iV)) (st : List iV) (h : iH) (Q : Option iV → iH → Prop), G sp sc [] d mX11_doStatement (n + 1) 315 L st h Q = (match ld L 3 with | some (.inr (.inr (r + 1))) => G sp sc [] d mX11_doStatement n 316 L (.inr (.inr (r + 1)) :: st) h Q | _ => False)) ∧
  (∀ (n d : Nat) (L : List (Option iV)) (st : List iV) (h : iH) (Q : Option iV → iH → Prop), G sp sc [] d mX11_doStatement (n + 1) 316 L st h Q = (match ld L 4 with | some (.inl x) => G sp sc [] d mX11_doStatement n 318 L (.inl x :: st) h Q | _ => False)) ∧
  (∀ (n d : Nat) (L : List (Option iV)) (st : List iV) (h : iH) (Q : Option iV → iH → Prop), G sp sc [] d mX11_doStatement (n + 1) 318 L st h Q = (match ld L 5 with | some (.inl x) => G sp sc [] d mX11_doStatement n 320 L (.inl x :: st) h Q | _ => False)) ∧
  (∀ (n d : Nat) (L : List (Option iV)) (r : List iV) (m : Nat) (z0 : iV) (z1 : iV) (h : iH) (Q : Option iV → iH → Prop), G sp sc [] (d + 1) mX11_doStatement (n + 1) 320 L (z1 :: z0 :: .inr (.inr (m + 2)) :: r) h Q = (match h.1[m]? with | some (.inl (ci, _)) => (match lkC 11 182 ci with | some (y1, n1, kd) => (n1 = 2 ∧ (kd = 2 ∨ kd = 3 ∨ kd = 8) ∧ cs r ≤ 8) ∧ Call sp sc d y1 [.inr (.inr (m + 2)), z0, z1] h (fun q h1 => GC sp sc [] (d + 1) mX11_doStatement n 323 L q r h h1 Q) | none => False) | _ => False)) ∧
  (∀ (n d : Nat) (L : List (Option iV)) (a : Int) (r : List iV) (h : iH) (Q : Option iV → iH → Prop), G sp sc [] d mX11_doStatement (n + 1) 323 L (.inl a :: r) h Q = (inI a = true ∧ (a < 0 → G sp sc [] d mX11_doStatement n 330 L r h Q) ∧ (¬ (a < 0) → G sp sc [] d mX11_doStatement n 326 L r h Q))) ∧
  (∀ (n d : Nat) (L : List (Option iV)) (st : List iV) (h : iH) (Q : Option iV → iH → Prop), G sp sc [] d mX11_doStatement (n + 1) 326 L st h Q = G sp sc [] d mX11_doStatement n 327 L (.inl 1 :: st) h Q) ∧
  (∀ (n d : Nat) (L : List (Option iV)) (st : List iV) (h : iH) (Q : Option iV → iH → Prop), G sp sc [] d mX11_doStatement (n + 1) 327 L st h Q = G sp sc [] d mX11_doStatement n 331 L st h Q) ∧
  (∀ (n d : Nat) (L : List (Option iV)) (st : List iV) (h : iH) (Q : Option iV → iH → Prop), G sp sc [] d mX11_doStatement (n + 1) 330 L st h Q = G sp sc [] d mX11_doStatement n 331 L (.inl 0 :: st) h Q) ∧
  (∀ (n d : Nat) (L : List (Option iV)) (a : Int) (h : iH) (Q : Option iV → iH → Prop), G sp sc [] d mX11_doStatement (n + 1) 331 L [.inl a] h Q = ((a = 0 ∨ a = 1) ∧ Q (some (.inl a)) h)) ∧
  (∀ (n d : Nat) (L : List (Option iV)) (st : List iV) (h : iH) (Q : Option iV → iH → Prop), G sp sc [] d mX11_doStatement (n + 1) 332 L st h Q = (match ld L 4 with | some (.inl x) => G sp sc [] d mX11_doStatement n 334 L (.inl x :: st) h Q | _ => False)) ∧
  (∀ (n d : Nat) (L : List (Option iV)) (r : List iV) (z0 : iV) (h : iH) (Q : Option iV → iH → Prop), G sp sc [] (d + 1) mX11_doStatement (n + 1) 334 L (z0 :: r) h Q = (cs r ≤ 8 ∧ Call sp sc d mX11_isDeed [z0] h (fun q h1 => GC sp sc [] (d + 1) mX11_doStatement n 337 L q r h h1 Q))) ∧
  (∀ (n d : Nat) (L : List (Option iV)) (a : Int) (r : List iV) (h : iH) (Q : Option iV → iH → Prop), G sp sc [] d mX11_doStatement (n + 1) 337 L (.inl a :: r) h Q = (inI a = true ∧ (a = 0 → G sp sc [] d mX11_doStatement n 346 L r h Q) ∧ (¬ (a = 0) → G sp sc [] d mX11_doStatement n 340 L r h Q))) ∧
  (∀ (n d : Nat) (L : List (Option iV)) (st : List iV) (h : iH) (Q : Option iV → iH → Prop), G sp sc [] d mX11_doStatement (n + 1) 340 L st h Q = (match ld L 5 with | some (.inl x) => G sp sc [] d mX11_doStatement n 342 L (.inl x :: st) h Q | _ => False)) ∧
  (∀ (n d : Nat) (L : List (Option iV)) (st : List iV) (h : iH) (Q : Option iV → iH → Prop), G sp sc [] d mX11_doStatement (n + 1) 342 L st h Q = G sp sc [] d mX11_doStatement n 343 L (.inl 2 :: st) h Q) ∧
  (∀ (n d : Nat) (L : List (Option iV)) (a : Int) (b : Int) (r : List iV) (h : iH) (Q : Option iV → iH → Prop), G sp sc [] d mX11_doStatement (n + 1) 343 L (.inl b :: .inl a :: r) h Q = ((inI a = true ∧ inI b = true) ∧ (a ≤ b → G sp sc [] d mX11_doStatement n 348 L r h Q) ∧ (¬ (a ≤ b) → G sp sc [] d mX11_doStatement n 346 L r h Q))) ∧
  (∀ (n d : Nat) (L : List (Option iV)) (st : List iV) (h : iH) (Q : Option iV → iH → Prop), G sp sc [] d mX11_doStatement (n + 1) 346 L st h Q = G sp sc [] d mX11_doStatement n 347 L (.inl 0 :: st) h Q) ∧
  (∀ (n d : Nat) (L : List (Option iV)) (a : Int) (h : iH) (Q : Option iV → iH → Prop), G sp sc [] d mX11_doStatement (n + 1) 347 L [.inl a] h Q = ((a = 0 ∨ a = 1) ∧ Q (some (.inl a)) h)) ∧
  (∀ (n d : Nat) (L : List (Option iV)) (st : List iV) (h : iH) (Q : Option iV → iH → Prop), G sp sc [] d mX11_doStatement (n + 1) 348 L st h Q = (match ld L 3 with | some (.inr (.inr (r + 1))) => G sp sc [] d mX11_doStatement n 349 L (.inr (.inr (r + 1)) :: st) h Q | _ => False)) ∧
  (∀ (n d : Nat) (L : List (Option iV)) (r : List iV) (m : Nat) (h : iH) (Q : Option iV → iH → Prop), G sp sc [] d mX11_doStatement (n + 1) 349 L (.inr (.inr (m + 2)) :: r) h Q = (match h.1[m]? with | some (.inl (ci, fs)) => (match lkF 11 209 ci with | some k => (match fs[k]? with | some v => G sp sc [] d mX11_doStatement n 352 L (v :: r) h Q | none => False) | none => False) | _ => False)) ∧
  (∀ (n d : Nat) (L : List (Option iV)) (st : List iV) (h : iH) (Q : Option iV → iH → Prop), G sp sc [] d mX11_doStatement (n + 1) 352 L st h Q = (match ld L 4 with | some (.inl x) => G sp sc [] d mX11_doStatement n 354 L (.inl x :: st) h Q | _ => False)) ∧
  (∀ (n d : Nat) (L : List (Option iV)) (st : List iV) (h : iH) (Q : Option iV → iH → Prop), G sp sc [] d mX11_doStatement (n + 1) 354 L st h Q = (match ld L 5 with | some (.inl x) => G sp sc [] d mX11_doStatement n 356 L (.inl x :: st) h Q | _ => False)) ∧
  (∀ (n d : Nat) (L : List (Option iV)) (r : List iV) (v : Int) (j : Int) (m : Nat) (h : iH) (Q : Option iV → iH → Prop), G sp sc [] d mX11_doStatement (n + 1) 356 L (.inl v :: .inl j :: .inr (.inr (m + 2)) :: r) h Q = (match h.1[m]? with | some (.inr (.inl (0, xs))) => inA j xs.length = true ∧ G sp sc [] d mX11_doStatement n 357 L r (h.1.set m (.inr (.inl (0, xs.set j.toNat v))), h.2) Q | _ => False)) ∧
  (∀ (n d : Nat) (L : List (Option iV)) (st : List iV) (h : iH) (Q : Option iV → iH → Prop), G sp sc [] d mX11_doStatement (n + 1) 357 L st h Q = G sp sc [] d mX11_doStatement n 358 L (.inl 1 :: st) h Q) ∧
  (∀ (n d : Nat) (L : List (Option iV)) (a : Int) (h : iH) (Q : Option iV → iH → Prop), G sp sc [] d mX11_doStatement (n + 1) 358 L [.inl a] h Q = ((a = 0 ∨ a = 1) ∧ Q (some (.inl a)) h)) ∧
  (∀ (n d : Nat) (L : List (Option iV)) (st : List iV) (h : iH) (Q : Option iV → iH → Prop), G sp sc [] d mX11_doStatement (n + 1) 359 L st h Q = (match ld L 3 with | some (.inr (.inr (r + 1))) => G sp sc [] d mX11_doStatement n 360 L (.inr (.inr (r + 1)) :: st) h Q | _ => False)) ∧
  (∀ (n d : Nat) (L : List (Option iV)) (st : List iV) (h : iH) (Q : Option iV → iH → Prop), G sp sc [] d mX11_doStatement (n + 1) 360 L st h Q = (match ld L 7 with | some (.inl x) => G sp sc [] d mX11_doStatement n 362 L (.inl x :: st) h Q | _ => False)) ∧
  (∀ (n d : Nat) (L : List (Option iV)) (r : List iV) (v : iV) (m : Nat) (h : iH) (Q : Option iV → iH → Prop), G sp sc [] d mX11_doStatement (n + 1) 362 L (v :: .inr (.inr (m + 2)) :: r) h Q = (match h.1[m]? with | some (.inl (ci, fs)) => (match lkF 11 212 ci with | some k => (fitV (tyT ci k) v = true ∧ k < fs.length ∧ pOK 11 false ci k = true) ∧ G sp sc [] d mX11_doStatement n 365 L r (h.1.set m (.inl (ci, fs.set k v)), h.2) Q | none => False) | _ => False)) ∧
  (∀ (n d : Nat) (L : List (Option iV)) (st : List iV) (h : iH) (Q : Option iV → iH → Prop), G sp sc [] d mX11_doStatement (n + 1) 365 L st h Q = G sp sc [] d mX11_doStatement n 366 L (.inl 1 :: st) h Q) ∧
  (∀ (n d : Nat) (L : List (Option iV)) (a : Int) (h : iH) (Q : Option iV → iH → Prop), G sp sc [] d mX11_doStatement (n + 1) 366 L [.inl a] h Q = ((a = 0 ∨ a = 1) ∧ Q (some (.inl a)) h)) ∧
  (∀ (n d : Nat) (L : List (Option iV)) (st : List iV) (h : iH) (Q : Option iV → iH → Prop), G sp sc [] d mX11_doStatement (n + 1) 367 L st h Q = (match ld L 7 with | some (.inl x) => G sp sc [] d mX11_doStatement n 369 L (.inl x :: st) h Q | _ => False)) ∧
  (∀ (n d : Nat) (L : List (Option iV)) (st : List iV) (h : iH) (Q : Option iV → iH → Prop), G sp sc [] d mX11_doStatement (n + 1) 369 L st h Q = G sp sc [] d mX11_doStatement n 370 L (.inl 1 :: st) h Q) ∧
  (∀ (n d : Nat) (L : List (Option iV)) (a : Int) (b : Int) (r : List iV) (h : iH) (Q : Option iV → iH → Prop), G sp sc [] d mX11_doStatement (n + 1) 370 L (.inl b :: .inl a :: r) h Q = ((inI a = true ∧ inI b = true) ∧ (a < b → G sp sc [] d mX11_doStatement n 393 L r h Q) ∧ (¬ (a < b) → G sp sc [] d mX11_doStatement n 373 L r h Q))) ∧
  (∀ (n d : Nat) (L : List (Option iV)) (st : List iV) (h : iH) (Q : Option iV → iH → Prop), G sp sc [] d mX11_doStatement (n + 1) 373 L st h Q = (match ld L 7 with | some (.inl x) => G sp sc [] d mX11_doStatement n 375 L (.inl x :: st) h Q | _ => False)) ∧
  (∀ (n d : Nat) (L : List (Option iV)) (st : List iV) (h : iH) (Q : Option iV → iH → Prop), G sp sc [] d mX11_doStatement (n + 1) 375 L st h Q = ((-128 ≤ (60 : Int) ∧ (60 : Int) < 128) ∧ G sp sc [] d mX11_doStatement n 377 L (.inl 60 :: st) h Q)) ∧
  (∀ (n d : Nat) (L : List (Option iV)) (a : Int) (b : Int) (r : List iV) (h : iH) (Q : Option iV → iH → Prop), G sp sc [] d mX11_doStatement (n + 1) 377 L (.inl b :: .inl a :: r) h Q = ((inI a = true ∧ inI b = true) ∧ (b < a → G sp sc [] d mX11_doStatement n 393 L r h Q) ∧ (¬ (b < a) → G sp sc [] d mX11_doStatement n 380 L r h Q))) ∧
  (∀ (n d : Nat) (L : List (Option iV)) (st : List iV) (h : iH) (Q : Option iV → iH → Prop), G sp sc [] d mX11_doStatement (n + 1) 380 L st h Q = (match ld L 3 with | some (.inr (.inr (r + 1))) => G sp sc [] d mX11_doStatement n 381 L (.inr (.inr (r + 1)) :: st) h Q | _ => False)) ∧
  (∀ (n d : Nat) (L : List (Option iV)) (r : List iV) (m : Nat) (h : iH) (Q : Option iV → iH → Prop), G sp sc [] d mX11_doStatement (n + 1) 381 L (.inr (.inr (m + 2)) :: r) h Q = (match h.1[m]? with | some (.inl (ci, fs)) => (match lkF 11 215 ci with | some k => (match fs[k]? with | some v => G sp sc [] d mX11_doStatement n 384 L (v :: r) h Q | none => False) | none => False) | _ => False)) ∧
  (∀ (n d : Nat) (L : List (Option iV)) (st : List iV) (h : iH) (Q : Option iV → iH → Prop), G sp sc [] d mX11_doStatement (n + 1) 384 L st h Q = (match ld L 7 with | some (.inl x) => G sp sc [] d mX11_doStatement n 386 L (.inl x :: st) h Q | _ => False)) ∧
  (∀ (n d : Nat) (L : List (Option iV)) (a : Int) (b : Int) (r : List iV) (h : iH) (Q : Option iV → iH → Prop), G sp sc [] d mX11_doStatement (n + 1) 386 L (.inl b :: .inl a :: r) h Q = G sp sc [] d mX11_doStatement n 387 L (.inl (a + b) :: r) h Q) ∧
  (∀ (n d : Nat) (L : List (Option iV)) (st : List iV) (h : iH) (Q : Option iV → iH → Prop), G sp sc [] d mX11_doStatement (n + 1) 387 L st h Q = ((-32768 ≤ (999 : Int) ∧ (999 : Int) < 32768) ∧ G sp sc [] d mX11_doStatement n 390 L (.inl 999 :: st) h Q)) ∧
  (∀ (n d : Nat) (L : List (Option iV)) (a : Int) (b : Int) (r : List iV) (h : iH) (Q : Option iV → iH → Prop), G sp sc [] d mX11_doStatement (n + 1) 390 L (.inl b :: .inl a :: r) h Q = ((inI a = true ∧ inI b = true) ∧ (a ≤ b → G sp sc [] d mX11_doStatement n 395 L r h Q) ∧ (¬ (a ≤ b) → G sp sc [] d mX11_doStatement n 393 L r h Q))) ∧
  (∀ (n d : Nat) (L : List (Option iV)) (st : List iV) (h : iH) (Q : Option iV → iH → Prop), G sp sc [] d mX11_doStatement (n + 1) 393 L st h Q = G sp sc [] d mX11_doStatement n 394 L (.inl 0 :: st) h Q) ∧
  (∀ (n d : Nat) (L : List (Option iV)) (a : Int) (h : iH) (Q : Option iV → iH → Prop), G sp sc [] d mX11_doStatement (n + 1) 394 L [.inl a] h Q = ((a = 0 ∨ a = 1) ∧ Q (some (.inl a)) h)) ∧
  (∀ (n d : Nat) (L : List (Option iV)) (st : List iV) (h : iH) (Q : Option iV → iH → Prop), G sp sc [] d mX11_doStatement (n + 1) 395 L st h Q = (match ld L 0 with | some (.inr (.inr (r + 1))) => G sp sc [] d mX11_doStatement n 396 L (.inr (.inr (r + 1)) :: st) h Q | _ => False)) ∧
  (∀ (n d : Nat) (L : List (Option iV)) (r : List iV) (m : Nat) (h : iH) (Q : Option iV → iH → Prop), G sp sc [] d mX11_doStatement (n + 1) 396 L (.inr (.inr (m + 2)) :: r) h Q = (match h.1[m]? with | some (.inl (ci, fs)) => (match lkF 11 38 ci with | some k => (match fs[k]? with | some v => G sp sc [] d mX11_doStatement n 399 L (v :: r) h Q | none => False) | none => False) | _ => False)) ∧
  (∀ (n d : Nat) (L : List (Option iV)) (st : List iV) (h : iH) (Q : Option iV → iH → Prop), G sp sc [] d mX11_doStatement (n + 1) 399 L st h Q = (match ld L 7 with | some (.inl x) => G sp sc [] d mX11_doStatement n 401 L (.inl x :: st) h Q | _ => False)) ∧
  (∀ (n d : Nat) (L : List (Option iV)) (r : List iV) (m : Nat) (z0 : iV) (h : iH) (Q : Option iV → iH → Prop), G sp sc [] (d + 1) mX11_doStatement (n + 1) 401 L (z0 :: .inr (.inr (m + 2)) :: r) h Q = (match h.1[m]? with | some (.inl (ci, _)) => (match lkC 11 218 ci with | some (y1, n1, kd) => (n1 = 1 ∧ (kd = 2 ∨ kd = 3 ∨ kd = 8) ∧ cs r ≤ 8) ∧ Call sp sc d y1 [.inr (.inr (m + 2)), z0] h (fun q h1 => GC sp sc [] (d + 1) mX11_doStatement n 404 L q r h h1 Q) | none => False) | _ => False)) ∧
  (∀ (n d : Nat) (L : List (Option iV)) (st : List iV) (h : iH) (Q : Option iV → iH → Prop), G sp sc [] d mX11_doStatement (n + 1) 404 L st h Q = G sp sc [] d mX11_doStatement n 405 L (.inl 1 :: st) h Q) ∧
  (∀ (n d : Nat) (L : List (Option iV)) (a : Int) (h : iH) (Q : Option iV → iH → Prop), G sp sc [] d mX11_doStatement (n + 1) 405 L [.inl a] h Q = ((a = 0 ∨ a = 1) ∧ Q (some (.inl a)) h)) ∧
  (∀ (n d : Nat) (L : List (Option iV)) (st : List iV) (h : iH) (Q : Option iV → iH → Prop), G sp sc [] d mX11_doStatement (n + 1) 406 L st h Q = G sp sc [] d mX11_doStatement n 407 L (.inl 0 :: st) h Q) ∧
  (∀ (n d : Nat) (L : List (Option iV)) (a : Int) (h : iH) (Q : Option iV → iH → Prop), G sp sc [] d mX11_doStatement (n + 1) 407 L [.inl a] h Q = ((a = 0 ∨ a = 1) ∧ Q (some (.inl a)) h)) ∧
  lkC 11 113 8 = some (mX8_hasOne, 2, 2) ∧
  lkC 11 162 8 = some (mX8_admit, 2, 2) ∧
  lkC 11 166 8 = some (mX8_hasTwo, 3, 2) ∧
  lkC 11 174 8 = some (mX8_setLiking, 4, 2) ∧
  lkC 11 178 8 = some (mX8_setDeputy, 3, 2) ∧
  lkC 11 182 8 = some (mX8_pair, 2, 2) ∧
  lkC 11 218 10 = some (mX10_pass, 1, 2) ∧
  lkC 11 379 5 = some (mX5_digitAt, 1, 2) ∧
  lkC 11 96 5 = some (mX5_byteAt, 1, 2) ∧
  lkF 11 107 10 = some 0 ∧
  lkF 11 209 8 = some 10 ∧
  lkF 11 212 8 = some 11 ∧
  lkF 11 215 8 = some 12 ∧
  lkF 11 38 11 = some 5 ∧
  lkF 11 42 11 = some 0 ∧
  pOK 11 false 8 11 = true := ⟨by intros; exact G_at (by decide +kernel : fetch mX11_doStatement 0 = some (.aload_n 0)),
  by intros; exact G_own (by decide +kernel : fetch mX11_doStatement 1 = some (.getfield 38)) (by decide +kernel),
  by intros; exact G_own (by decide +kernel : fetch mX11_doStatement 4 = some (.getfield 107)) (by decide +kernel),
  by intros; exact G_at (by decide +kernel : fetch mX11_doStatement 7 = some (.astore_n 3)),
  by intros; exact G_at (by decide +kernel : fetch mX11_doStatement 8 = some (.aload_n 1)),
  by intros; exact G_at (by decide +kernel : fetch mX11_doStatement 9 = some (.iload_n 2)),
  by intros; exact G_at (by decide +kernel : fetch mX11_doStatement 10 = some (.iconst 1)),
  by intros; exact G_at (by decide +kernel : fetch mX11_doStatement 11 = some (.iadd)),
  by intros; exact G_callV (by decide +kernel : fetch mX11_doStatement 12 = some (.invokevirtual 379)) (by decide +kernel) (by decide +kernel) rfl,
  by intros; exact G_at (by decide +kernel : fetch mX11_doStatement 15 = some (.istore 4)),
  by intros; exact G_at (by decide +kernel : fetch mX11_doStatement 17 = some (.aload_n 1)),
  by intros; exact G_at (by decide +kernel : fetch mX11_doStatement 18 = some (.iload_n 2)),
  by intros; exact G_at (by decide +kernel : fetch mX11_doStatement 19 = some (.iconst 2)),
  by intros; exact G_at (by decide +kernel : fetch mX11_doStatement 20 = some (.iadd)),
  by intros; exact G_callV (by decide +kernel : fetch mX11_doStatement 21 = some (.invokevirtual 379)) (by decide +kernel) (by decide +kernel) rfl,
  by intros; exact G_at (by decide +kernel : fetch mX11_doStatement 24 = some (.istore 5)),
  by intros; exact G_at (by decide +kernel : fetch mX11_doStatement 26 = some (.aload_n 1)),
  by intros; exact G_at (by decide +kernel : fetch mX11_doStatement 27 = some (.iload_n 2)),
  by intros; exact G_at (by decide +kernel : fetch mX11_doStatement 28 = some (.iconst 3)),
  by intros; exact G_at (by decide +kernel : fetch mX11_doStatement 29 = some (.iadd)),
  by intros; exact G_callV (by decide +kernel : fetch mX11_doStatement 30 = some (.invokevirtual 379)) (by decide +kernel) (by decide +kernel) rfl,
  by intros; exact G_at (by decide +kernel : fetch mX11_doStatement 33 = some (.istore 6)),
  by intros; exact G_at (by decide +kernel : fetch mX11_doStatement 35 = some (.bipush 10)),
  by intros; exact G_at (by decide +kernel : fetch mX11_doStatement 37 = some (.iload 4)),
  by intros; exact G_at (by decide +kernel : fetch mX11_doStatement 39 = some (.imul)),
  by intros; exact G_at (by decide +kernel : fetch mX11_doStatement 40 = some (.iload 5)),
  by intros; exact G_at (by decide +kernel : fetch mX11_doStatement 42 = some (.iadd)),
  by intros; exact G_at (by decide +kernel : fetch mX11_doStatement 43 = some (.istore 7)),
  by intros; exact G_at (by decide +kernel : fetch mX11_doStatement 45 = some (.aload_n 1)),
  by intros; exact G_at (by decide +kernel : fetch mX11_doStatement 46 = some (.iload_n 2)),
  by intros; exact G_callV (by decide +kernel : fetch mX11_doStatement 47 = some (.invokevirtual 96)) (by decide +kernel) (by decide +kernel) rfl,
  by intros; exact G_at (by decide +kernel : fetch mX11_doStatement 50 = some (.tableswitch 356 97 121 #[282, 356, 265, 229, 356, 356, 356, 356, 356, 356, 356, 184, 114, 356, 356, 356, 356, 356, 309, 356, 356, 356, 149, 356, 317])),
  by intros; exact G_at (by decide +kernel : fetch mX11_doStatement 164 = some (.iload 4)),
  by intros; exact G_callS (k := 1) (kd := 0) (by decide +kernel : fetch mX11_doStatement 166 = some (.invokestatic 331)) (by decide +kernel) (by decide +kernel) (by decide +kernel) rfl (by decide),
  by intros; exact G_at (by decide +kernel : fetch mX11_doStatement 169 = some (.ifCond .eq 28)),
  by intros; exact G_at (by decide +kernel : fetch mX11_doStatement 172 = some (.aload_n 3)),
  by intros; exact G_at (by decide +kernel : fetch mX11_doStatement 173 = some (.iconst 0)),
  by intros; exact G_at (by decide +kernel : fetch mX11_doStatement 174 = some (.aload_n 0)),
  by intros; exact G_own (by decide +kernel : fetch mX11_doStatement 175 = some (.getfield 42)) (by decide +kernel),
  by intros; exact G_at (by decide +kernel : fetch mX11_doStatement 178 = some (.iload 4)),
  by intros; exact G_at (by decide +kernel : fetch mX11_doStatement 180 = some (.bipush 10)),
  by intros; exact G_at (by decide +kernel : fetch mX11_doStatement 182 = some (.imul)),
  by intros; exact G_at (by decide +kernel : fetch mX11_doStatement 183 = some (.iload 5)),
  by intros; exact G_at (by decide +kernel : fetch mX11_doStatement 185 = some (.iadd)),
  by intros; exact G_at (by decide +kernel : fetch mX11_doStatement 186 = some (.aaload)),
  by intros; exact G_callV (by decide +kernel : fetch mX11_doStatement 187 = some (.invokevirtual 162)) (by decide +kernel) (by decide +kernel) rfl,
  by intros; exact G_at (by decide +kernel : fetch mX11_doStatement 190 = some (.ifCond .lt 7)),
  by intros; exact G_at (by decide +kernel : fetch mX11_doStatement 193 = some (.iconst 1)),
  by intros; exact G_at (by decide +kernel : fetch mX11_doStatement 194 = some (.goto 4)),
  by intros; exact G_at (by decide +kernel : fetch mX11_doStatement 197 = some (.iconst 0)),
  by intros; exact G_retz (by decide +kernel : fetch mX11_doStatement 198 = some (.ireturn)) (by decide +kernel),
  by intros; exact G_at (by decide +kernel : fetch mX11_doStatement 199 = some (.iload 4)),
  by intros; exact G_callS (k := 1) (kd := 0) (by decide +kernel : fetch mX11_doStatement 201 = some (.invokestatic 331)) (by decide +kernel) (by decide +kernel) (by decide +kernel) rfl (by decide),
  by intros; exact G_at (by decide +kernel : fetch mX11_doStatement 204 = some (.ifCond .eq 28)),
  by intros; exact G_at (by decide +kernel : fetch mX11_doStatement 207 = some (.aload_n 3)),
  by intros; exact G_at (by decide +kernel : fetch mX11_doStatement 208 = some (.iconst 1)),
  by intros; exact G_at (by decide +kernel : fetch mX11_doStatement 209 = some (.aload_n 0)),
  by intros; exact G_own (by decide +kernel : fetch mX11_doStatement 210 = some (.getfield 42)) (by decide +kernel),
  by intros; exact G_at (by decide +kernel : fetch mX11_doStatement 213 = some (.iload 4)),
  by intros; exact G_at (by decide +kernel : fetch mX11_doStatement 215 = some (.bipush 10)),
  by intros; exact G_at (by decide +kernel : fetch mX11_doStatement 217 = some (.imul)),
  by intros; exact G_at (by decide +kernel : fetch mX11_doStatement 218 = some (.iload 5)),
  by intros; exact G_at (by decide +kernel : fetch mX11_doStatement 220 = some (.iadd)),
  by intros; exact G_at (by decide +kernel : fetch mX11_doStatement 221 = some (.aaload)),
  by intros; exact G_callV (by decide +kernel : fetch mX11_doStatement 222 = some (.invokevirtual 162)) (by decide +kernel) (by decide +kernel) rfl,
  by intros; exact G_at (by decide +kernel : fetch mX11_doStatement 225 = some (.ifCond .lt 7)),
  by intros; exact G_at (by decide +kernel : fetch mX11_doStatement 228 = some (.iconst 1)),
  by intros; exact G_at (by decide +kernel : fetch mX11_doStatement 229 = some (.goto 4)),
  by intros; exact G_at (by decide +kernel : fetch mX11_doStatement 232 = some (.iconst 0)),
  by intros; exact G_retz (by decide +kernel : fetch mX11_doStatement 233 = some (.ireturn)) (by decide +kernel),
  by intros; exact G_at (by decide +kernel : fetch mX11_doStatement 234 = some (.aload_n 3)),
  by intros; exact G_at (by decide +kernel : fetch mX11_doStatement 235 = some (.iload 4)),
  by intros; exact G_at (by decide +kernel : fetch mX11_doStatement 237 = some (.iload 5)),
  by intros; exact G_at (by decide +kernel : fetch mX11_doStatement 239 = some (.iload 6)),
  by intros; exact G_callV (by decide +kernel : fetch mX11_doStatement 241 = some (.invokevirtual 166)) (by decide +kernel) (by decide +kernel) rfl,
  by intros; exact G_at (by decide +kernel : fetch mX11_doStatement 244 = some (.ifCond .ne 5)),
  by intros; exact G_at (by decide +kernel : fetch mX11_doStatement 247 = some (.iconst 0)),
  by intros; exact G_retz (by decide +kernel : fetch mX11_doStatement 248 = some (.ireturn)) (by decide +kernel),
  by intros; exact G_at (by decide +kernel : fetch mX11_doStatement 249 = some (.aload_n 3)),
  by intros; exact G_at (by decide +kernel : fetch mX11_doStatement 250 = some (.iload 4)),
  by intros; exact G_at (by decide +kernel : fetch mX11_doStatement 252 = some (.iload 5)),
  by intros; exact G_at (by decide +kernel : fetch mX11_doStatement 254 = some (.iload 6)),
  by intros; exact G_at (by decide +kernel : fetch mX11_doStatement 256 = some (.bipush 10)),
  by intros; exact G_at (by decide +kernel : fetch mX11_doStatement 258 = some (.aload_n 1)),
  by intros; exact G_at (by decide +kernel : fetch mX11_doStatement 259 = some (.iload_n 2)),
  by intros; exact G_at (by decide +kernel : fetch mX11_doStatement 260 = some (.iconst 4)),
  by intros; exact G_at (by decide +kernel : fetch mX11_doStatement 261 = some (.iadd)),
  by intros; exact G_callV (by decide +kernel : fetch mX11_doStatement 262 = some (.invokevirtual 379)) (by decide +kernel) (by decide +kernel) rfl,
  by intros; exact G_at (by decide +kernel : fetch mX11_doStatement 265 = some (.imul)),
  by intros; exact G_at (by decide +kernel : fetch mX11_doStatement 266 = some (.aload_n 1)),
  by intros; exact G_at (by decide +kernel : fetch mX11_doStatement 267 = some (.iload_n 2)),
  by intros; exact G_at (by decide +kernel : fetch mX11_doStatement 268 = some (.iconst 5)),
  by intros; exact G_at (by decide +kernel : fetch mX11_doStatement 269 = some (.iadd)),
  by intros; exact G_callV (by decide +kernel : fetch mX11_doStatement 270 = some (.invokevirtual 379)) (by decide +kernel) (by decide +kernel) rfl,
  by intros; exact G_at (by decide +kernel : fetch mX11_doStatement 273 = some (.iadd)),
  by intros; exact G_callV (by decide +kernel : fetch mX11_doStatement 274 = some (.invokevirtual 174)) (by decide +kernel) (by decide +kernel) rfl,
  by intros; exact G_at (by decide +kernel : fetch mX11_doStatement 277 = some (.iconst 1)),
  by intros; exact G_retz (by decide +kernel : fetch mX11_doStatement 278 = some (.ireturn)) (by decide +kernel),
  by intros; exact G_at (by decide +kernel : fetch mX11_doStatement 279 = some (.aload_n 3)),
  by intros; exact G_at (by decide +kernel : fetch mX11_doStatement 280 = some (.iload 4)),
  by intros; exact G_at (by decide +kernel : fetch mX11_doStatement 282 = some (.iload 5)),
  by intros; exact G_callV (by decide +kernel : fetch mX11_doStatement 284 = some (.invokevirtual 113)) (by decide +kernel) (by decide +kernel) rfl,
  by intros; exact G_at (by decide +kernel : fetch mX11_doStatement 287 = some (.ifCond .eq 14)),
  by intros; exact G_at (by decide +kernel : fetch mX11_doStatement 290 = some (.aload_n 3)),
  by intros; exact G_at (by decide +kernel : fetch mX11_doStatement 291 = some (.iload 4)),
  by intros; exact G_at (by decide +kernel : fetch mX11_doStatement 293 = some (.iload 6)),
  by intros; exact G_callV (by decide +kernel : fetch mX11_doStatement 295 = some (.invokevirtual 113)) (by decide +kernel) (by decide +kernel) rfl,
  by intros; exact G_at (by decide +kernel : fetch mX11_doStatement 298 = some (.ifCond .ne 5)),
  by intros; exact G_at (by decide +kernel : fetch mX11_doStatement 301 = some (.iconst 0)),
  by intros; exact G_retz (by decide +kernel : fetch mX11_doStatement 302 = some (.ireturn)) (by decide +kernel),
  by intros; exact G_at (by decide +kernel : fetch mX11_doStatement 303 = some (.aload_n 3)),
  by intros; exact G_at (by decide +kernel : fetch mX11_doStatement 304 = some (.iload 4)),
  by intros; exact G_at (by decide +kernel : fetch mX11_doStatement 306 = some (.iload 5)),
  by intros; exact G_at (by decide +kernel : fetch mX11_doStatement 308 = some (.iload 6)),
  by intros; exact G_callV (by decide +kernel : fetch mX11_doStatement 310 = some (.invokevirtual 178)) (by decide +kernel) (by decide +kernel) rfl,
  by intros; exact G_at (by decide +kernel : fetch mX11_doStatement 313 = some (.iconst 1)),
  by intros; exact G_retz (by decide +kernel : fetch mX11_doStatement 314 = some (.ireturn)) (by decide +kernel),
  by intros; exact G_at (by decide +kernel : fetch mX11_doStatement 315 = some (.aload_n 3)),
  by intros; exact G_at (by decide +kernel : fetch mX11_doStatement 316 = some (.iload 4)),
  by intros; exact G_at (by decide +kernel : fetch mX11_doStatement 318 = some (.iload 5)),
  by intros; exact G_callV (by decide +kernel : fetch mX11_doStatement 320 = some (.invokevirtual 182)) (by decide +kernel) (by decide +kernel) rfl,
  by intros; exact G_at (by decide +kernel : fetch mX11_doStatement 323 = some (.ifCond .lt 7)),
  by intros; exact G_at (by decide +kernel : fetch mX11_doStatement 326 = some (.iconst 1)),
  by intros; exact G_at (by decide +kernel : fetch mX11_doStatement 327 = some (.goto 4)),
  by intros; exact G_at (by decide +kernel : fetch mX11_doStatement 330 = some (.iconst 0)),
  by intros; exact G_retz (by decide +kernel : fetch mX11_doStatement 331 = some (.ireturn)) (by decide +kernel),
  by intros; exact G_at (by decide +kernel : fetch mX11_doStatement 332 = some (.iload 4)),
  by intros; exact G_callS (k := 1) (kd := 0) (by decide +kernel : fetch mX11_doStatement 334 = some (.invokestatic 206)) (by decide +kernel) (by decide +kernel) (by decide +kernel) rfl (by decide),
  by intros; exact G_at (by decide +kernel : fetch mX11_doStatement 337 = some (.ifCond .eq 9)),
  by intros; exact G_at (by decide +kernel : fetch mX11_doStatement 340 = some (.iload 5)),
  by intros; exact G_at (by decide +kernel : fetch mX11_doStatement 342 = some (.iconst 2)),
  by intros; exact G_at (by decide +kernel : fetch mX11_doStatement 343 = some (.if_icmp .le 5)),
  by intros; exact G_at (by decide +kernel : fetch mX11_doStatement 346 = some (.iconst 0)),
  by intros; exact G_retz (by decide +kernel : fetch mX11_doStatement 347 = some (.ireturn)) (by decide +kernel),
  by intros; exact G_at (by decide +kernel : fetch mX11_doStatement 348 = some (.aload_n 3)),
  by intros; exact G_own (by decide +kernel : fetch mX11_doStatement 349 = some (.getfield 209)) (by decide +kernel),
  by intros; exact G_at (by decide +kernel : fetch mX11_doStatement 352 = some (.iload 4)),
  by intros; exact G_at (by decide +kernel : fetch mX11_doStatement 354 = some (.iload 5)),
  by intros; exact G_at (by decide +kernel : fetch mX11_doStatement 356 = some (.iastore)),
  by intros; exact G_at (by decide +kernel : fetch mX11_doStatement 357 = some (.iconst 1)),
  by intros; exact G_retz (by decide +kernel : fetch mX11_doStatement 358 = some (.ireturn)) (by decide +kernel),
  by intros; exact G_at (by decide +kernel : fetch mX11_doStatement 359 = some (.aload_n 3)),
  by intros; exact G_at (by decide +kernel : fetch mX11_doStatement 360 = some (.iload 7)),
  by intros; exact G_ownW (by decide +kernel : fetch mX11_doStatement 362 = some (.putfield 212)) (by decide +kernel) (by decide +kernel),
  by intros; exact G_at (by decide +kernel : fetch mX11_doStatement 365 = some (.iconst 1)),
  by intros; exact G_retz (by decide +kernel : fetch mX11_doStatement 366 = some (.ireturn)) (by decide +kernel),
  by intros; exact G_at (by decide +kernel : fetch mX11_doStatement 367 = some (.iload 7)),
  by intros; exact G_at (by decide +kernel : fetch mX11_doStatement 369 = some (.iconst 1)),
  by intros; exact G_at (by decide +kernel : fetch mX11_doStatement 370 = some (.if_icmp .lt 23)),
  by intros; exact G_at (by decide +kernel : fetch mX11_doStatement 373 = some (.iload 7)),
  by intros; exact G_at (by decide +kernel : fetch mX11_doStatement 375 = some (.bipush 60)),
  by intros; exact G_at (by decide +kernel : fetch mX11_doStatement 377 = some (.if_icmp .gt 16)),
  by intros; exact G_at (by decide +kernel : fetch mX11_doStatement 380 = some (.aload_n 3)),
  by intros; exact G_own (by decide +kernel : fetch mX11_doStatement 381 = some (.getfield 215)) (by decide +kernel),
  by intros; exact G_at (by decide +kernel : fetch mX11_doStatement 384 = some (.iload 7)),
  by intros; exact G_at (by decide +kernel : fetch mX11_doStatement 386 = some (.iadd)),
  by intros; exact G_at (by decide +kernel : fetch mX11_doStatement 387 = some (.sipush 999)),
  by intros; exact G_at (by decide +kernel : fetch mX11_doStatement 390 = some (.if_icmp .le 5)),
  by intros; exact G_at (by decide +kernel : fetch mX11_doStatement 393 = some (.iconst 0)),
  by intros; exact G_retz (by decide +kernel : fetch mX11_doStatement 394 = some (.ireturn)) (by decide +kernel),
  by intros; exact G_at (by decide +kernel : fetch mX11_doStatement 395 = some (.aload_n 0)),
  by intros; exact G_own (by decide +kernel : fetch mX11_doStatement 396 = some (.getfield 38)) (by decide +kernel),
  by intros; exact G_at (by decide +kernel : fetch mX11_doStatement 399 = some (.iload 7)),
  by intros; exact G_callV (by decide +kernel : fetch mX11_doStatement 401 = some (.invokevirtual 218)) (by decide +kernel) (by decide +kernel) rfl,
  by intros; exact G_at (by decide +kernel : fetch mX11_doStatement 404 = some (.iconst 1)),
  by intros; exact G_retz (by decide +kernel : fetch mX11_doStatement 405 = some (.ireturn)) (by decide +kernel),
  by intros; exact G_at (by decide +kernel : fetch mX11_doStatement 406 = some (.iconst 0)),
  by intros; exact G_retz (by decide +kernel : fetch mX11_doStatement 407 = some (.ireturn)) (by decide +kernel),
  by decide +kernel,
  by decide +kernel,
  by decide +kernel,
  by decide +kernel,
  by decide +kernel,
  by decide +kernel,
  by decide +kernel,
  by decide +kernel,
  by decide +kernel,
  by decide +kernel,
  by decide +kernel,
  by decide +kernel,
  by decide +kernel,
  by decide +kernel,
  by decide +kernel,
  by decide +kernel⟩
theorem gX11_daysTillWed : (∀ (n d : Nat) (L : List (Option iV)) (st : List iV) (h : iH) (Q : Option iV → iH → Prop), G sp sc [4] d mX11_daysTillWed (n + 1) 0 L st h Q = G sp sc [4] d mX11_daysTillWed n 1 L (.inl 0 :: st) h Q) ∧
  (∀ (n d : Nat) (L : List (Option iV)) (r : List iV) (x : Int) (h : iH) (Q : Option iV → iH → Prop), G sp sc [4] d mX11_daysTillWed (n + 1) 1 L (.inl x :: r) h Q = (match st1 L 1 (.inl x) with | some L' => G sp sc [4] d mX11_daysTillWed n 2 L' r h Q | none => False)) ∧
  (∀ (n d : Nat) (L : List (Option iV)) (st : List iV) (h : iH) (Q : Option iV → iH → Prop), G sp sc [4] d mX11_daysTillWed (n + 1) 2 L st h Q = G sp sc [4] d mX11_daysTillWed n 3 L (.inl 0 :: st) h Q) ∧
  (∀ (n d : Nat) (L : List (Option iV)) (r : List iV) (x : Int) (h : iH) (Q : Option iV → iH → Prop), G sp sc [4] d mX11_daysTillWed (n + 1) 3 L (.inl x :: r) h Q = (match st1 L 2 (.inl x) with | some L' => Run sp sc d mX11_daysTillWed 4 L' r h Q | none => False)) ∧
  (∀ (n d : Nat) (L : List (Option iV)) (st : List iV) (h : iH) (Q : Option iV → iH → Prop), G sp sc [4] d mX11_daysTillWed (n + 1) 4 L st h Q = (match ld L 2 with | some (.inl x) => G sp sc [4] d mX11_daysTillWed n 5 L (.inl x :: st) h Q | _ => False)) ∧
  (∀ (n d : Nat) (L : List (Option iV)) (st : List iV) (h : iH) (Q : Option iV → iH → Prop), G sp sc [4] d mX11_daysTillWed (n + 1) 5 L st h Q = (match ld L 0 with | some (.inr (.inr (r + 1))) => G sp sc [4] d mX11_daysTillWed n 6 L (.inr (.inr (r + 1)) :: st) h Q | _ => False)) ∧
  (∀ (n d : Nat) (L : List (Option iV)) (r : List iV) (m : Nat) (h : iH) (Q : Option iV → iH → Prop), G sp sc [4] d mX11_daysTillWed (n + 1) 6 L (.inr (.inr (m + 2)) :: r) h Q = (match h.1[m]? with | some (.inl (ci, fs)) => (match lkF 11 17 ci with | some k => (match fs[k]? with | some v => G sp sc [4] d mX11_daysTillWed n 9 L (v :: r) h Q | none => False) | none => False) | _ => False)) ∧
  (∀ (n d : Nat) (L : List (Option iV)) (r : List iV) (m : Nat) (h : iH) (Q : Option iV → iH → Prop), G sp sc [4] d mX11_daysTillWed (n + 1) 9 L (.inr (.inr (m + 2)) :: r) h Q = (match h.1[m]? with | some (.inl (ci, fs)) => (match lkF 11 242 ci with | some k => (match fs[k]? with | some v => G sp sc [4] d mX11_daysTillWed n 12 L (v :: r) h Q | none => False) | none => False) | _ => False)) ∧
  (∀ (n d : Nat) (L : List (Option iV)) (a : Int) (b : Int) (r : List iV) (h : iH) (Q : Option iV → iH → Prop), G sp sc [4] d mX11_daysTillWed (n + 1) 12 L (.inl b :: .inl a :: r) h Q = ((inI a = true ∧ inI b = true) ∧ (b ≤ a → G sp sc [4] d mX11_daysTillWed n 54 L r h Q) ∧ (¬ (b ≤ a) → G sp sc [4] d mX11_daysTillWed n 15 L r h Q))) ∧
  (∀ (n d : Nat) (L : List (Option iV)) (st : List iV) (h : iH) (Q : Option iV → iH → Prop), G sp sc [4] d mX11_daysTillWed (n + 1) 15 L st h Q = (match ld L 1 with | some (.inl x) => G sp sc [4] d mX11_daysTillWed n 16 L (.inl x :: st) h Q | _ => False)) ∧
  (∀ (n d : Nat) (L : List (Option iV)) (st : List iV) (h : iH) (Q : Option iV → iH → Prop), G sp sc [4] d mX11_daysTillWed (n + 1) 16 L st h Q = (match ld L 0 with | some (.inr (.inr (r + 1))) => G sp sc [4] d mX11_daysTillWed n 17 L (.inr (.inr (r + 1)) :: st) h Q | _ => False)) ∧
  (∀ (n d : Nat) (L : List (Option iV)) (r : List iV) (m : Nat) (h : iH) (Q : Option iV → iH → Prop), G sp sc [4] d mX11_daysTillWed (n + 1) 17 L (.inr (.inr (m + 2)) :: r) h Q = (match h.1[m]? with | some (.inl (ci, fs)) => (match lkF 11 38 ci with | some k => (match fs[k]? with | some v => G sp sc [4] d mX11_daysTillWed n 20 L (v :: r) h Q | none => False) | none => False) | _ => False)) ∧
  (∀ (n d : Nat) (L : List (Option iV)) (r : List iV) (m : Nat) (h : iH) (Q : Option iV → iH → Prop), G sp sc [4] d mX11_daysTillWed (n + 1) 20 L (.inr (.inr (m + 2)) :: r) h Q = (match h.1[m]? with | some (.inl (ci, fs)) => (match lkF 11 107 ci with | some k => (match fs[k]? with | some v => G sp sc [4] d mX11_daysTillWed n 23 L (v :: r) h Q | none => False) | none => False) | _ => False)) ∧
  (∀ (n d : Nat) (L : List (Option iV)) (r : List iV) (m : Nat) (h : iH) (Q : Option iV → iH → Prop), G sp sc [4] d mX11_daysTillWed (n + 1) 23 L (.inr (.inr (m + 2)) :: r) h Q = (match h.1[m]? with | some (.inl (ci, fs)) => (match lkF 11 194 ci with | some k => (match fs[k]? with | some v => G sp sc [4] d mX11_daysTillWed n 26 L (v :: r) h Q | none => False) | none => False) | _ => False)) ∧
  (∀ (n d : Nat) (L : List (Option iV)) (st : List iV) (h : iH) (Q : Option iV → iH → Prop), G sp sc [4] d mX11_daysTillWed (n + 1) 26 L st h Q = (match ld L 2 with | some (.inl x) => G sp sc [4] d mX11_daysTillWed n 27 L (.inl x :: st) h Q | _ => False)) ∧
  (∀ (n d : Nat) (L : List (Option iV)) (r : List iV) (j : Int) (m : Nat) (h : iH) (Q : Option iV → iH → Prop), G sp sc [4] d mX11_daysTillWed (n + 1) 27 L (.inl j :: .inr (.inr (m + 2)) :: r) h Q = (match h.1[m]? with | some (.inr (.inl (0, xs))) => inA j xs.length = true ∧ G sp sc [4] d mX11_daysTillWed n 28 L (.inl (xs.getD j.toNat 0) :: r) h Q | _ => False)) ∧
  (∀ (n d : Nat) (L : List (Option iV)) (st : List iV) (h : iH) (Q : Option iV → iH → Prop), G sp sc [4] d mX11_daysTillWed (n + 1) 28 L st h Q = G sp sc [4] d mX11_daysTillWed n 29 L (.inl 1 :: st) h Q) ∧
  (∀ (n d : Nat) (L : List (Option iV)) (a : Int) (b : Int) (r : List iV) (h : iH) (Q : Option iV → iH → Prop), G sp sc [4] d mX11_daysTillWed (n + 1) 29 L (.inl b :: .inl a :: r) h Q = ((inI a = true ∧ inI b = true) ∧ (¬ a = b → G sp sc [4] d mX11_daysTillWed n 44 L r h Q) ∧ (¬ (¬ a = b) → G sp sc [4] d mX11_daysTillWed n 32 L r h Q))) ∧
  (∀ (n d : Nat) (L : List (Option iV)) (st : List iV) (h : iH) (Q : Option iV → iH → Prop), G sp sc [4] d mX11_daysTillWed (n + 1) 32 L st h Q = (match ld L 0 with | some (.inr (.inr (r + 1))) => G sp sc [4] d mX11_daysTillWed n 33 L (.inr (.inr (r + 1)) :: st) h Q | _ => False)) ∧
  (∀ (n d : Nat) (L : List (Option iV)) (r : List iV) (m : Nat) (h : iH) (Q : Option iV → iH → Prop), G sp sc [4] d mX11_daysTillWed (n + 1) 33 L (.inr (.inr (m + 2)) :: r) h Q = (match h.1[m]? with | some (.inl (ci, fs)) => (match lkF 11 38 ci with | some k => (match fs[k]? with | some v => G sp sc [4] d mX11_daysTillWed n 36 L (v :: r) h Q | none => False) | none => False) | _ => False)) ∧
  (∀ (n d : Nat) (L : List (Option iV)) (r : List iV) (m : Nat) (h : iH) (Q : Option iV → iH → Prop), G sp sc [4] d mX11_daysTillWed (n + 1) 36 L (.inr (.inr (m + 2)) :: r) h Q = (match h.1[m]? with | some (.inl (ci, fs)) => (match lkF 11 230 ci with | some k => (match fs[k]? with | some v => G sp sc [4] d mX11_daysTillWed n 39 L (v :: r) h Q | none => False) | none => False) | _ => False)) ∧
  (∀ (n d : Nat) (L : List (Option iV)) (st : List iV) (h : iH) (Q : Option iV → iH → Prop), G sp sc [4] d mX11_daysTillWed (n + 1) 39 L st h Q = (match ld L 2 with | some (.inl x) => G sp sc [4] d mX11_daysTillWed n 40 L (.inl x :: st) h Q | _ => False)) ∧
  (∀ (n d : Nat) (L : List (Option iV)) (r : List iV) (j : Int) (m : Nat) (h : iH) (Q : Option iV → iH → Prop), G sp sc [4] d mX11_daysTillWed (n + 1) 40 L (.inl j :: .inr (.inr (m + 2)) :: r) h Q = (match h.1[m]? with | some (.inr (.inl (0, xs))) => inA j xs.length = true ∧ G sp sc [4] d mX11_daysTillWed n 41 L (.inl (xs.getD j.toNat 0) :: r) h Q | _ => False)) ∧
  (∀ (n d : Nat) (L : List (Option iV)) (st : List iV) (h : iH) (Q : Option iV → iH → Prop), G sp sc [4] d mX11_daysTillWed (n + 1) 41 L st h Q = G sp sc [4] d mX11_daysTillWed n 46 L st h Q) ∧
  (∀ (n d : Nat) (L : List (Option iV)) (st : List iV) (h : iH) (Q : Option iV → iH → Prop), G sp sc [4] d mX11_daysTillWed (n + 1) 44 L st h Q = ((-128 ≤ (61 : Int) ∧ (61 : Int) < 128) ∧ G sp sc [4] d mX11_daysTillWed n 46 L (.inl 61 :: st) h Q)) ∧
  (∀ (n d : Nat) (L : List (Option iV)) (a : Int) (b : Int) (r : List iV) (h : iH) (Q : Option iV → iH → Prop), G sp sc [4] d mX11_daysTillWed (n + 1) 46 L (.inl b :: .inl a :: r) h Q = G sp sc [4] d mX11_daysTillWed n 47 L (.inl (a + b) :: r) h Q) ∧
  (∀ (n d : Nat) (L : List (Option iV)) (r : List iV) (x : Int) (h : iH) (Q : Option iV → iH → Prop), G sp sc [4] d mX11_daysTillWed (n + 1) 47 L (.inl x :: r) h Q = (match st1 L 1 (.inl x) with | some L' => G sp sc [4] d mX11_daysTillWed n 48 L' r h Q | none => False)) ∧
  (∀ (n d : Nat) (L : List (Option iV)) (st : List iV) (h : iH) (Q : Option iV → iH → Prop), G sp sc [4] d mX11_daysTillWed (n + 1) 48 L st h Q = (match ld L 2 with | some (.inl x) => (match st1 L 2 (.inl (x + 1)) with | some L' => G sp sc [4] d mX11_daysTillWed n 51 L' st h Q | none => False) | _ => False)) ∧
  (∀ (n d : Nat) (L : List (Option iV)) (st : List iV) (h : iH) (Q : Option iV → iH → Prop), G sp sc [4] d mX11_daysTillWed (n + 1) 51 L st h Q = Run sp sc d mX11_daysTillWed 4 L st h Q) ∧
  (∀ (n d : Nat) (L : List (Option iV)) (st : List iV) (h : iH) (Q : Option iV → iH → Prop), G sp sc [4] d mX11_daysTillWed (n + 1) 54 L st h Q = (match ld L 1 with | some (.inl x) => G sp sc [4] d mX11_daysTillWed n 55 L (.inl x :: st) h Q | _ => False)) ∧
  (∀ (n d : Nat) (L : List (Option iV)) (a : Int) (h : iH) (Q : Option iV → iH → Prop), G sp sc [4] d mX11_daysTillWed (n + 1) 55 L [.inl a] h Q = Q (some (.inl a)) h) ∧
  lkF 11 107 10 = some 0 ∧
  lkF 11 17 11 = some 2 ∧
  lkF 11 194 8 = some 8 ∧
  lkF 11 230 10 = some 4 ∧
  lkF 11 242 8 = some 5 ∧
  lkF 11 38 11 = some 5 := ⟨by intros; exact G_at (by decide +kernel : fetch mX11_daysTillWed 0 = some (.iconst 0)),
  by intros; exact G_at (by decide +kernel : fetch mX11_daysTillWed 1 = some (.istore_n 1)),
  by intros; exact G_at (by decide +kernel : fetch mX11_daysTillWed 2 = some (.iconst 0)),
  by intros; exact G_at (by decide +kernel : fetch mX11_daysTillWed 3 = some (.istore_n 2)),
  by intros; exact G_at (by decide +kernel : fetch mX11_daysTillWed 4 = some (.iload_n 2)),
  by intros; exact G_at (by decide +kernel : fetch mX11_daysTillWed 5 = some (.aload_n 0)),
  by intros; exact G_own (by decide +kernel : fetch mX11_daysTillWed 6 = some (.getfield 17)) (by decide +kernel),
  by intros; exact G_own (by decide +kernel : fetch mX11_daysTillWed 9 = some (.getfield 242)) (by decide +kernel),
  by intros; exact G_at (by decide +kernel : fetch mX11_daysTillWed 12 = some (.if_icmp .ge 42)),
  by intros; exact G_at (by decide +kernel : fetch mX11_daysTillWed 15 = some (.iload_n 1)),
  by intros; exact G_at (by decide +kernel : fetch mX11_daysTillWed 16 = some (.aload_n 0)),
  by intros; exact G_own (by decide +kernel : fetch mX11_daysTillWed 17 = some (.getfield 38)) (by decide +kernel),
  by intros; exact G_own (by decide +kernel : fetch mX11_daysTillWed 20 = some (.getfield 107)) (by decide +kernel),
  by intros; exact G_own (by decide +kernel : fetch mX11_daysTillWed 23 = some (.getfield 194)) (by decide +kernel),
  by intros; exact G_at (by decide +kernel : fetch mX11_daysTillWed 26 = some (.iload_n 2)),
  by intros; exact G_at (by decide +kernel : fetch mX11_daysTillWed 27 = some (.iaload)),
  by intros; exact G_at (by decide +kernel : fetch mX11_daysTillWed 28 = some (.iconst 1)),
  by intros; exact G_at (by decide +kernel : fetch mX11_daysTillWed 29 = some (.if_icmp .ne 15)),
  by intros; exact G_at (by decide +kernel : fetch mX11_daysTillWed 32 = some (.aload_n 0)),
  by intros; exact G_own (by decide +kernel : fetch mX11_daysTillWed 33 = some (.getfield 38)) (by decide +kernel),
  by intros; exact G_own (by decide +kernel : fetch mX11_daysTillWed 36 = some (.getfield 230)) (by decide +kernel),
  by intros; exact G_at (by decide +kernel : fetch mX11_daysTillWed 39 = some (.iload_n 2)),
  by intros; exact G_at (by decide +kernel : fetch mX11_daysTillWed 40 = some (.iaload)),
  by intros; exact G_at (by decide +kernel : fetch mX11_daysTillWed 41 = some (.goto 5)),
  by intros; exact G_at (by decide +kernel : fetch mX11_daysTillWed 44 = some (.bipush 61)),
  by intros; exact G_at (by decide +kernel : fetch mX11_daysTillWed 46 = some (.iadd)),
  by intros; exact G_at (by decide +kernel : fetch mX11_daysTillWed 47 = some (.istore_n 1)),
  by intros; exact G_at (by decide +kernel : fetch mX11_daysTillWed 48 = some (.iinc 2 1)),
  by intros; exact G_at (by decide +kernel : fetch mX11_daysTillWed 51 = some (.goto (-47))),
  by intros; exact G_at (by decide +kernel : fetch mX11_daysTillWed 54 = some (.iload_n 1)),
  by intros; exact G_reti (by decide +kernel : fetch mX11_daysTillWed 55 = some (.ireturn)) (by decide +kernel),
  by decide +kernel,
  by decide +kernel,
  by decide +kernel,
  by decide +kernel,
  by decide +kernel,
  by decide +kernel⟩
theorem gX11_dayWedWith : (∀ (n d : Nat) (L : List (Option iV)) (st : List iV) (h : iH) (Q : Option iV → iH → Prop), G sp sc [59] d mX11_dayWedWith (n + 1) 0 L st h Q = (match ld L 0 with | some (.inr (.inr (r + 1))) => G sp sc [59] d mX11_dayWedWith n 1 L (.inr (.inr (r + 1)) :: st) h Q | _ => False)) ∧
  (∀ (n d : Nat) (L : List (Option iV)) (r : List iV) (m : Nat) (h : iH) (Q : Option iV → iH → Prop), G sp sc [59] d mX11_dayWedWith (n + 1) 1 L (.inr (.inr (m + 2)) :: r) h Q = (match h.1[m]? with | some (.inl (ci, fs)) => (match lkF 11 38 ci with | some k => (match fs[k]? with | some v => G sp sc [59] d mX11_dayWedWith n 4 L (v :: r) h Q | none => False) | none => False) | _ => False)) ∧
  (∀ (n d : Nat) (L : List (Option iV)) (st : List iV) (h : iH) (Q : Option iV → iH → Prop), G sp sc [59] d mX11_dayWedWith (n + 1) 4 L st h Q = (match ld L 0 with | some (.inr (.inr (r + 1))) => G sp sc [59] d mX11_dayWedWith n 5 L (.inr (.inr (r + 1)) :: st) h Q | _ => False)) ∧
  (∀ (n d : Nat) (L : List (Option iV)) (r : List iV) (m : Nat) (h : iH) (Q : Option iV → iH → Prop), G sp sc [59] d mX11_dayWedWith (n + 1) 5 L (.inr (.inr (m + 2)) :: r) h Q = (match h.1[m]? with | some (.inl (ci, fs)) => (match lkF 11 17 ci with | some k => (match fs[k]? with | some v => G sp sc [59] d mX11_dayWedWith n 8 L (v :: r) h Q | none => False) | none => False) | _ => False)) ∧
  (∀ (n d : Nat) (L : List (Option iV)) (r : List iV) (m : Nat) (z0 : iV) (h : iH) (Q : Option iV → iH → Prop), G sp sc [59] (d + 1) mX11_dayWedWith (n + 1) 8 L (z0 :: .inr (.inr (m + 2)) :: r) h Q = (match h.1[m]? with | some (.inl (ci, _)) => (match lkC 11 90 ci with | some (y1, n1, kd) => (n1 = 1 ∧ (kd = 2 ∨ kd = 3 ∨ kd = 8) ∧ cs r ≤ 8) ∧ Call sp sc d y1 [.inr (.inr (m + 2)), z0] h (fun q h1 => GC sp sc [59] (d + 1) mX11_dayWedWith n 11 L q r h h1 Q) | none => False) | _ => False)) ∧
  (∀ (n d : Nat) (L : List (Option iV)) (st : List iV) (h : iH) (Q : Option iV → iH → Prop), G sp sc [59] d mX11_dayWedWith (n + 1) 11 L st h Q = (match ld L 0 with | some (.inr (.inr (r + 1))) => G sp sc [59] d mX11_dayWedWith n 12 L (.inr (.inr (r + 1)) :: st) h Q | _ => False)) ∧
  (∀ (n d : Nat) (L : List (Option iV)) (r : List iV) (m : Nat) (h : iH) (Q : Option iV → iH → Prop), G sp sc [59] d mX11_dayWedWith (n + 1) 12 L (.inr (.inr (m + 2)) :: r) h Q = (match h.1[m]? with | some (.inl (ci, fs)) => (match lkF 11 38 ci with | some k => (match fs[k]? with | some v => G sp sc [59] d mX11_dayWedWith n 15 L (v :: r) h Q | none => False) | none => False) | _ => False)) ∧
  (∀ (n d : Nat) (L : List (Option iV)) (r : List iV) (m : Nat) (h : iH) (Q : Option iV → iH → Prop), G sp sc [59] d mX11_dayWedWith (n + 1) 15 L (.inr (.inr (m + 2)) :: r) h Q = (match h.1[m]? with | some (.inl (ci, fs)) => (match lkF 11 107 ci with | some k => (match fs[k]? with | some v => G sp sc [59] d mX11_dayWedWith n 18 L (v :: r) h Q | none => False) | none => False) | _ => False)) ∧
  (∀ (n d : Nat) (L : List (Option iV)) (r : List iV) (x : Nat) (h : iH) (Q : Option iV → iH → Prop), G sp sc [59] d mX11_dayWedWith (n + 1) 18 L (.inr (.inr (x + 1)) :: r) h Q = (match st1 L 4 (.inr (.inr (x + 1))) with | some L' => G sp sc [59] d mX11_dayWedWith n 20 L' r h Q | none => False)) ∧
  (∀ (n d : Nat) (L : List (Option iV)) (st : List iV) (h : iH) (Q : Option iV → iH → Prop), G sp sc [59] d mX11_dayWedWith (n + 1) 20 L st h Q = (match ld L 4 with | some (.inr (.inr (r + 1))) => G sp sc [59] d mX11_dayWedWith n 22 L (.inr (.inr (r + 1)) :: st) h Q | _ => False)) ∧
  (∀ (n d : Nat) (L : List (Option iV)) (r : List iV) (m : Nat) (h : iH) (Q : Option iV → iH → Prop), G sp sc [59] d mX11_dayWedWith (n + 1) 22 L (.inr (.inr (m + 2)) :: r) h Q = (match h.1[m]? with | some (.inl (ci, fs)) => (match lkF 11 128 ci with | some k => (match fs[k]? with | some v => G sp sc [59] d mX11_dayWedWith n 25 L (v :: r) h Q | none => False) | none => False) | _ => False)) ∧
  (∀ (n d : Nat) (L : List (Option iV)) (st : List iV) (h : iH) (Q : Option iV → iH → Prop), G sp sc [59] d mX11_dayWedWith (n + 1) 25 L st h Q = G sp sc [59] d mX11_dayWedWith n 26 L (.inl 0 :: st) h Q) ∧
  (∀ (n d : Nat) (L : List (Option iV)) (st : List iV) (h : iH) (Q : Option iV → iH → Prop), G sp sc [59] d mX11_dayWedWith (n + 1) 26 L st h Q = (match ld L 4 with | some (.inr (.inr (r + 1))) => G sp sc [59] d mX11_dayWedWith n 28 L (.inr (.inr (r + 1)) :: st) h Q | _ => False)) ∧
  (∀ (n d : Nat) (L : List (Option iV)) (r : List iV) (m : Nat) (h : iH) (Q : Option iV → iH → Prop), G sp sc [59] d mX11_dayWedWith (n + 1) 28 L (.inr (.inr (m + 2)) :: r) h Q = (match h.1[m]? with | some (.inl (ci, fs)) => (match lkF 11 188 ci with | some k => (match fs[k]? with | some v => G sp sc [59] d mX11_dayWedWith n 31 L (v :: r) h Q | none => False) | none => False) | _ => False)) ∧
  (∀ (n d : Nat) (L : List (Option iV)) (st : List iV) (h : iH) (Q : Option iV → iH → Prop), G sp sc [59] d mX11_dayWedWith (n + 1) 31 L st h Q = (match ld L 1 with | some (.inl x) => G sp sc [59] d mX11_dayWedWith n 32 L (.inl x :: st) h Q | _ => False)) ∧
  (∀ (n d : Nat) (L : List (Option iV)) (r : List iV) (j : Int) (m : Nat) (h : iH) (Q : Option iV → iH → Prop), G sp sc [59] d mX11_dayWedWith (n + 1) 32 L (.inl j :: .inr (.inr (m + 2)) :: r) h Q = (match h.1[m]? with | some (.inr (.inl (0, xs))) => inA j xs.length = true ∧ G sp sc [59] d mX11_dayWedWith n 33 L (.inl (xs.getD j.toNat 0) :: r) h Q | _ => False)) ∧
  (∀ (n d : Nat) (L : List (Option iV)) (r : List iV) (z0 : iV) (z1 : iV) (h : iH) (Q : Option iV → iH → Prop), G sp sc [59] (d + 1) mX11_dayWedWith (n + 1) 33 L (z1 :: z0 :: r) h Q = (cs r ≤ 8 ∧ Call sp sc d mX8_place [z0, z1] h (fun q h1 => GC sp sc [59] (d + 1) mX11_dayWedWith n 36 L q r h h1 Q))) ∧
  (∀ (n d : Nat) (L : List (Option iV)) (st : List iV) (h : iH) (Q : Option iV → iH → Prop), G sp sc [59] d mX11_dayWedWith (n + 1) 36 L st h Q = (match ld L 2 with | some (.inl x) => G sp sc [59] d mX11_dayWedWith n 37 L (.inl x :: st) h Q | _ => False)) ∧
  (∀ (n d : Nat) (L : List (Option iV)) (r : List iV) (v : Int) (j : Int) (m : Nat) (h : iH) (Q : Option iV → iH → Prop), G sp sc [59] d mX11_dayWedWith (n + 1) 37 L (.inl v :: .inl j :: .inr (.inr (m + 2)) :: r) h Q = (match h.1[m]? with | some (.inr (.inl (0, xs))) => inA j xs.length = true ∧ G sp sc [59] d mX11_dayWedWith n 38 L r (h.1.set m (.inr (.inl (0, xs.set j.toNat v))), h.2) Q | _ => False)) ∧
  (∀ (n d : Nat) (L : List (Option iV)) (st : List iV) (h : iH) (Q : Option iV → iH → Prop), G sp sc [59] d mX11_dayWedWith (n + 1) 38 L st h Q = (match ld L 4 with | some (.inr (.inr (r + 1))) => G sp sc [59] d mX11_dayWedWith n 40 L (.inr (.inr (r + 1)) :: st) h Q | _ => False)) ∧
  (∀ (n d : Nat) (L : List (Option iV)) (r : List iV) (m : Nat) (h : iH) (Q : Option iV → iH → Prop), G sp sc [59] d mX11_dayWedWith (n + 1) 40 L (.inr (.inr (m + 2)) :: r) h Q = (match h.1[m]? with | some (.inl (ci, fs)) => (match lkF 11 128 ci with | some k => (match fs[k]? with | some v => G sp sc [59] d mX11_dayWedWith n 43 L (v :: r) h Q | none => False) | none => False) | _ => False)) ∧
  (∀ (n d : Nat) (L : List (Option iV)) (st : List iV) (h : iH) (Q : Option iV → iH → Prop), G sp sc [59] d mX11_dayWedWith (n + 1) 43 L st h Q = G sp sc [59] d mX11_dayWedWith n 44 L (.inl 1 :: st) h Q) ∧
  (∀ (n d : Nat) (L : List (Option iV)) (st : List iV) (h : iH) (Q : Option iV → iH → Prop), G sp sc [59] d mX11_dayWedWith (n + 1) 44 L st h Q = (match ld L 4 with | some (.inr (.inr (r + 1))) => G sp sc [59] d mX11_dayWedWith n 46 L (.inr (.inr (r + 1)) :: st) h Q | _ => False)) ∧
  (∀ (n d : Nat) (L : List (Option iV)) (r : List iV) (m : Nat) (h : iH) (Q : Option iV → iH → Prop), G sp sc [59] d mX11_dayWedWith (n + 1) 46 L (.inr (.inr (m + 2)) :: r) h Q = (match h.1[m]? with | some (.inl (ci, fs)) => (match lkF 11 191 ci with | some k => (match fs[k]? with | some v => G sp sc [59] d mX11_dayWedWith n 49 L (v :: r) h Q | none => False) | none => False) | _ => False)) ∧
  (∀ (n d : Nat) (L : List (Option iV)) (st : List iV) (h : iH) (Q : Option iV → iH → Prop), G sp sc [59] d mX11_dayWedWith (n + 1) 49 L st h Q = (match ld L 1 with | some (.inl x) => G sp sc [59] d mX11_dayWedWith n 50 L (.inl x :: st) h Q | _ => False)) ∧
  (∀ (n d : Nat) (L : List (Option iV)) (r : List iV) (j : Int) (m : Nat) (h : iH) (Q : Option iV → iH → Prop), G sp sc [59] d mX11_dayWedWith (n + 1) 50 L (.inl j :: .inr (.inr (m + 2)) :: r) h Q = (match h.1[m]? with | some (.inr (.inl (0, xs))) => inA j xs.length = true ∧ G sp sc [59] d mX11_dayWedWith n 51 L (.inl (xs.getD j.toNat 0) :: r) h Q | _ => False)) ∧
  (∀ (n d : Nat) (L : List (Option iV)) (r : List iV) (z0 : iV) (z1 : iV) (h : iH) (Q : Option iV → iH → Prop), G sp sc [59] (d + 1) mX11_dayWedWith (n + 1) 51 L (z1 :: z0 :: r) h Q = (cs r ≤ 8 ∧ Call sp sc d mX8_place [z0, z1] h (fun q h1 => GC sp sc [59] (d + 1) mX11_dayWedWith n 54 L q r h h1 Q))) ∧
  (∀ (n d : Nat) (L : List (Option iV)) (st : List iV) (h : iH) (Q : Option iV → iH → Prop), G sp sc [59] d mX11_dayWedWith (n + 1) 54 L st h Q = (match ld L 3 with | some (.inl x) => G sp sc [59] d mX11_dayWedWith n 55 L (.inl x :: st) h Q | _ => False)) ∧
  (∀ (n d : Nat) (L : List (Option iV)) (r : List iV) (v : Int) (j : Int) (m : Nat) (h : iH) (Q : Option iV → iH → Prop), G sp sc [59] d mX11_dayWedWith (n + 1) 55 L (.inl v :: .inl j :: .inr (.inr (m + 2)) :: r) h Q = (match h.1[m]? with | some (.inr (.inl (0, xs))) => inA j xs.length = true ∧ G sp sc [59] d mX11_dayWedWith n 56 L r (h.1.set m (.inr (.inl (0, xs.set j.toNat v))), h.2) Q | _ => False)) ∧
  (∀ (n d : Nat) (L : List (Option iV)) (st : List iV) (h : iH) (Q : Option iV → iH → Prop), G sp sc [59] d mX11_dayWedWith (n + 1) 56 L st h Q = G sp sc [59] d mX11_dayWedWith n 57 L (.inl 1 :: st) h Q) ∧
  (∀ (n d : Nat) (L : List (Option iV)) (r : List iV) (x : Int) (h : iH) (Q : Option iV → iH → Prop), G sp sc [59] d mX11_dayWedWith (n + 1) 57 L (.inl x :: r) h Q = (match st1 L 5 (.inl x) with | some L' => Run sp sc d mX11_dayWedWith 59 L' r h Q | none => False)) ∧
  (∀ (n d : Nat) (L : List (Option iV)) (st : List iV) (h : iH) (Q : Option iV → iH → Prop), G sp sc [59] d mX11_dayWedWith (n + 1) 59 L st h Q = (match ld L 5 with | some (.inl x) => G sp sc [59] d mX11_dayWedWith n 61 L (.inl x :: st) h Q | _ => False)) ∧
  (∀ (n d : Nat) (L : List (Option iV)) (st : List iV) (h : iH) (Q : Option iV → iH → Prop), G sp sc [59] d mX11_dayWedWith (n + 1) 61 L st h Q = ((-128 ≤ (60 : Int) ∧ (60 : Int) < 128) ∧ G sp sc [59] d mX11_dayWedWith n 63 L (.inl 60 :: st) h Q)) ∧
  (∀ (n d : Nat) (L : List (Option iV)) (a : Int) (b : Int) (r : List iV) (h : iH) (Q : Option iV → iH → Prop), G sp sc [59] d mX11_dayWedWith (n + 1) 63 L (.inl b :: .inl a :: r) h Q = ((inI a = true ∧ inI b = true) ∧ (b < a → G sp sc [59] d mX11_dayWedWith n 89 L r h Q) ∧ (¬ (b < a) → G sp sc [59] d mX11_dayWedWith n 66 L r h Q))) ∧
  (∀ (n d : Nat) (L : List (Option iV)) (st : List iV) (h : iH) (Q : Option iV → iH → Prop), G sp sc [59] d mX11_dayWedWith (n + 1) 66 L st h Q = (match ld L 4 with | some (.inr (.inr (r + 1))) => G sp sc [59] d mX11_dayWedWith n 68 L (.inr (.inr (r + 1)) :: st) h Q | _ => False)) ∧
  (∀ (n d : Nat) (L : List (Option iV)) (st : List iV) (h : iH) (Q : Option iV → iH → Prop), G sp sc [59] d mX11_dayWedWith (n + 1) 68 L st h Q = (match ld L 1 with | some (.inl x) => G sp sc [59] d mX11_dayWedWith n 69 L (.inl x :: st) h Q | _ => False)) ∧
  (∀ (n d : Nat) (L : List (Option iV)) (r : List iV) (m : Nat) (z0 : iV) (h : iH) (Q : Option iV → iH → Prop), G sp sc [59] (d + 1) mX11_dayWedWith (n + 1) 69 L (z0 :: .inr (.inr (m + 2)) :: r) h Q = (match h.1[m]? with | some (.inl (ci, _)) => (match lkC 11 200 ci with | some (y1, n1, kd) => (n1 = 1 ∧ (kd = 2 ∨ kd = 3 ∨ kd = 8) ∧ cs r ≤ 8) ∧ Call sp sc d y1 [.inr (.inr (m + 2)), z0] h (fun q h1 => GC sp sc [59] (d + 1) mX11_dayWedWith n 72 L q r h h1 Q) | none => False) | _ => False)) ∧
  (∀ (n d : Nat) (L : List (Option iV)) (a : Int) (r : List iV) (h : iH) (Q : Option iV → iH → Prop), G sp sc [59] d mX11_dayWedWith (n + 1) 72 L (.inl a :: r) h Q = (inI a = true ∧ (a = 0 → G sp sc [59] d mX11_dayWedWith n 89 L r h Q) ∧ (¬ (a = 0) → G sp sc [59] d mX11_dayWedWith n 75 L r h Q))) ∧
  (∀ (n d : Nat) (L : List (Option iV)) (st : List iV) (h : iH) (Q : Option iV → iH → Prop), G sp sc [59] d mX11_dayWedWith (n + 1) 75 L st h Q = (match ld L 0 with | some (.inr (.inr (r + 1))) => G sp sc [59] d mX11_dayWedWith n 76 L (.inr (.inr (r + 1)) :: st) h Q | _ => False)) ∧
  (∀ (n d : Nat) (L : List (Option iV)) (r : List iV) (m : Nat) (h : iH) (Q : Option iV → iH → Prop), G sp sc [59] d mX11_dayWedWith (n + 1) 76 L (.inr (.inr (m + 2)) :: r) h Q = (match h.1[m]? with | some (.inl (ci, fs)) => (match lkF 11 38 ci with | some k => (match fs[k]? with | some v => G sp sc [59] d mX11_dayWedWith n 79 L (v :: r) h Q | none => False) | none => False) | _ => False)) ∧
  (∀ (n d : Nat) (L : List (Option iV)) (st : List iV) (h : iH) (Q : Option iV → iH → Prop), G sp sc [59] d mX11_dayWedWith (n + 1) 79 L st h Q = G sp sc [59] d mX11_dayWedWith n 80 L (.inl 1 :: st) h Q) ∧
  (∀ (n d : Nat) (L : List (Option iV)) (r : List iV) (m : Nat) (z0 : iV) (h : iH) (Q : Option iV → iH → Prop), G sp sc [59] (d + 1) mX11_dayWedWith (n + 1) 80 L (z0 :: .inr (.inr (m + 2)) :: r) h Q = (match h.1[m]? with | some (.inl (ci, _)) => (match lkC 11 218 ci with | some (y1, n1, kd) => (n1 = 1 ∧ (kd = 2 ∨ kd = 3 ∨ kd = 8) ∧ cs r ≤ 8) ∧ Call sp sc d y1 [.inr (.inr (m + 2)), z0] h (fun q h1 => GC sp sc [59] (d + 1) mX11_dayWedWith n 83 L q r h h1 Q) | none => False) | _ => False)) ∧
  (∀ (n d : Nat) (L : List (Option iV)) (st : List iV) (h : iH) (Q : Option iV → iH → Prop), G sp sc [59] d mX11_dayWedWith (n + 1) 83 L st h Q = (match ld L 5 with | some (.inl x) => (match st1 L 5 (.inl (x + 1)) with | some L' => G sp sc [59] d mX11_dayWedWith n 86 L' st h Q | none => False) | _ => False)) ∧
  (∀ (n d : Nat) (L : List (Option iV)) (st : List iV) (h : iH) (Q : Option iV → iH → Prop), G sp sc [59] d mX11_dayWedWith (n + 1) 86 L st h Q = Run sp sc d mX11_dayWedWith 59 L st h Q) ∧
  (∀ (n d : Nat) (L : List (Option iV)) (st : List iV) (h : iH) (Q : Option iV → iH → Prop), G sp sc [59] d mX11_dayWedWith (n + 1) 89 L st h Q = (match ld L 4 with | some (.inr (.inr (r + 1))) => G sp sc [59] d mX11_dayWedWith n 91 L (.inr (.inr (r + 1)) :: st) h Q | _ => False)) ∧
  (∀ (n d : Nat) (L : List (Option iV)) (r : List iV) (m : Nat) (h : iH) (Q : Option iV → iH → Prop), G sp sc [59] d mX11_dayWedWith (n + 1) 91 L (.inr (.inr (m + 2)) :: r) h Q = (match h.1[m]? with | some (.inl (ci, fs)) => (match lkF 11 194 ci with | some k => (match fs[k]? with | some v => G sp sc [59] d mX11_dayWedWith n 94 L (v :: r) h Q | none => False) | none => False) | _ => False)) ∧
  (∀ (n d : Nat) (L : List (Option iV)) (st : List iV) (h : iH) (Q : Option iV → iH → Prop), G sp sc [59] d mX11_dayWedWith (n + 1) 94 L st h Q = (match ld L 1 with | some (.inl x) => G sp sc [59] d mX11_dayWedWith n 95 L (.inl x :: st) h Q | _ => False)) ∧
  (∀ (n d : Nat) (L : List (Option iV)) (r : List iV) (j : Int) (m : Nat) (h : iH) (Q : Option iV → iH → Prop), G sp sc [59] d mX11_dayWedWith (n + 1) 95 L (.inl j :: .inr (.inr (m + 2)) :: r) h Q = (match h.1[m]? with | some (.inr (.inl (0, xs))) => inA j xs.length = true ∧ G sp sc [59] d mX11_dayWedWith n 96 L (.inl (xs.getD j.toNat 0) :: r) h Q | _ => False)) ∧
  (∀ (n d : Nat) (L : List (Option iV)) (st : List iV) (h : iH) (Q : Option iV → iH → Prop), G sp sc [59] d mX11_dayWedWith (n + 1) 96 L st h Q = G sp sc [59] d mX11_dayWedWith n 97 L (.inl 1 :: st) h Q) ∧
  (∀ (n d : Nat) (L : List (Option iV)) (a : Int) (b : Int) (r : List iV) (h : iH) (Q : Option iV → iH → Prop), G sp sc [59] d mX11_dayWedWith (n + 1) 97 L (.inl b :: .inl a :: r) h Q = ((inI a = true ∧ inI b = true) ∧ (¬ a = b → G sp sc [59] d mX11_dayWedWith n 112 L r h Q) ∧ (¬ (¬ a = b) → G sp sc [59] d mX11_dayWedWith n 100 L r h Q))) ∧
  (∀ (n d : Nat) (L : List (Option iV)) (st : List iV) (h : iH) (Q : Option iV → iH → Prop), G sp sc [59] d mX11_dayWedWith (n + 1) 100 L st h Q = (match ld L 0 with | some (.inr (.inr (r + 1))) => G sp sc [59] d mX11_dayWedWith n 101 L (.inr (.inr (r + 1)) :: st) h Q | _ => False)) ∧
  (∀ (n d : Nat) (L : List (Option iV)) (r : List iV) (m : Nat) (h : iH) (Q : Option iV → iH → Prop), G sp sc [59] d mX11_dayWedWith (n + 1) 101 L (.inr (.inr (m + 2)) :: r) h Q = (match h.1[m]? with | some (.inl (ci, fs)) => (match lkF 11 38 ci with | some k => (match fs[k]? with | some v => G sp sc [59] d mX11_dayWedWith n 104 L (v :: r) h Q | none => False) | none => False) | _ => False)) ∧
  (∀ (n d : Nat) (L : List (Option iV)) (r : List iV) (m : Nat) (h : iH) (Q : Option iV → iH → Prop), G sp sc [59] d mX11_dayWedWith (n + 1) 104 L (.inr (.inr (m + 2)) :: r) h Q = (match h.1[m]? with | some (.inl (ci, fs)) => (match lkF 11 230 ci with | some k => (match fs[k]? with | some v => G sp sc [59] d mX11_dayWedWith n 107 L (v :: r) h Q | none => False) | none => False) | _ => False)) ∧
  (∀ (n d : Nat) (L : List (Option iV)) (st : List iV) (h : iH) (Q : Option iV → iH → Prop), G sp sc [59] d mX11_dayWedWith (n + 1) 107 L st h Q = (match ld L 1 with | some (.inl x) => G sp sc [59] d mX11_dayWedWith n 108 L (.inl x :: st) h Q | _ => False)) ∧
  (∀ (n d : Nat) (L : List (Option iV)) (r : List iV) (j : Int) (m : Nat) (h : iH) (Q : Option iV → iH → Prop), G sp sc [59] d mX11_dayWedWith (n + 1) 108 L (.inl j :: .inr (.inr (m + 2)) :: r) h Q = (match h.1[m]? with | some (.inr (.inl (0, xs))) => inA j xs.length = true ∧ G sp sc [59] d mX11_dayWedWith n 109 L (.inl (xs.getD j.toNat 0) :: r) h Q | _ => False)) ∧
  (∀ (n d : Nat) (L : List (Option iV)) (st : List iV) (h : iH) (Q : Option iV → iH → Prop), G sp sc [59] d mX11_dayWedWith (n + 1) 109 L st h Q = G sp sc [59] d mX11_dayWedWith n 114 L st h Q) ∧
  (∀ (n d : Nat) (L : List (Option iV)) (st : List iV) (h : iH) (Q : Option iV → iH → Prop), G sp sc [59] d mX11_dayWedWith (n + 1) 112 L st h Q = ((-128 ≤ (61 : Int) ∧ (61 : Int) < 128) ∧ G sp sc [59] d mX11_dayWedWith n 114 L (.inl 61 :: st) h Q)) ∧
  (∀ (n d : Nat) (L : List (Option iV)) (a : Int) (h : iH) (Q : Option iV → iH → Prop), G sp sc [59] d mX11_dayWedWith (n + 1) 114 L [.inl a] h Q = Q (some (.inl a)) h) ∧
  lkC 11 200 8 = some (mX8_goesOn, 1, 2) ∧
  lkC 11 218 10 = some (mX10_pass, 1, 2) ∧
  lkC 11 90 10 = some (mX10_begin, 1, 2) ∧
  lkF 11 107 10 = some 0 ∧
  lkF 11 128 8 = some 2 ∧
  lkF 11 17 11 = some 2 ∧
  lkF 11 188 8 = some 6 ∧
  lkF 11 191 8 = some 7 ∧
  lkF 11 194 8 = some 8 ∧
  lkF 11 230 10 = some 4 ∧
  lkF 11 38 11 = some 5 := ⟨by intros; exact G_at (by decide +kernel : fetch mX11_dayWedWith 0 = some (.aload_n 0)),
  by intros; exact G_own (by decide +kernel : fetch mX11_dayWedWith 1 = some (.getfield 38)) (by decide +kernel),
  by intros; exact G_at (by decide +kernel : fetch mX11_dayWedWith 4 = some (.aload_n 0)),
  by intros; exact G_own (by decide +kernel : fetch mX11_dayWedWith 5 = some (.getfield 17)) (by decide +kernel),
  by intros; exact G_callV (by decide +kernel : fetch mX11_dayWedWith 8 = some (.invokevirtual 90)) (by decide +kernel) (by decide +kernel) rfl,
  by intros; exact G_at (by decide +kernel : fetch mX11_dayWedWith 11 = some (.aload_n 0)),
  by intros; exact G_own (by decide +kernel : fetch mX11_dayWedWith 12 = some (.getfield 38)) (by decide +kernel),
  by intros; exact G_own (by decide +kernel : fetch mX11_dayWedWith 15 = some (.getfield 107)) (by decide +kernel),
  by intros; exact G_at (by decide +kernel : fetch mX11_dayWedWith 18 = some (.astore 4)),
  by intros; exact G_at (by decide +kernel : fetch mX11_dayWedWith 20 = some (.aload 4)),
  by intros; exact G_own (by decide +kernel : fetch mX11_dayWedWith 22 = some (.getfield 128)) (by decide +kernel),
  by intros; exact G_at (by decide +kernel : fetch mX11_dayWedWith 25 = some (.iconst 0)),
  by intros; exact G_at (by decide +kernel : fetch mX11_dayWedWith 26 = some (.aload 4)),
  by intros; exact G_own (by decide +kernel : fetch mX11_dayWedWith 28 = some (.getfield 188)) (by decide +kernel),
  by intros; exact G_at (by decide +kernel : fetch mX11_dayWedWith 31 = some (.iload_n 1)),
  by intros; exact G_at (by decide +kernel : fetch mX11_dayWedWith 32 = some (.iaload)),
  by intros; exact G_callS (k := 2) (kd := 0) (by decide +kernel : fetch mX11_dayWedWith 33 = some (.invokestatic 132)) (by decide +kernel) (by decide +kernel) (by decide +kernel) rfl (by decide),
  by intros; exact G_at (by decide +kernel : fetch mX11_dayWedWith 36 = some (.iload_n 2)),
  by intros; exact G_at (by decide +kernel : fetch mX11_dayWedWith 37 = some (.iastore)),
  by intros; exact G_at (by decide +kernel : fetch mX11_dayWedWith 38 = some (.aload 4)),
  by intros; exact G_own (by decide +kernel : fetch mX11_dayWedWith 40 = some (.getfield 128)) (by decide +kernel),
  by intros; exact G_at (by decide +kernel : fetch mX11_dayWedWith 43 = some (.iconst 1)),
  by intros; exact G_at (by decide +kernel : fetch mX11_dayWedWith 44 = some (.aload 4)),
  by intros; exact G_own (by decide +kernel : fetch mX11_dayWedWith 46 = some (.getfield 191)) (by decide +kernel),
  by intros; exact G_at (by decide +kernel : fetch mX11_dayWedWith 49 = some (.iload_n 1)),
  by intros; exact G_at (by decide +kernel : fetch mX11_dayWedWith 50 = some (.iaload)),
  by intros; exact G_callS (k := 2) (kd := 0) (by decide +kernel : fetch mX11_dayWedWith 51 = some (.invokestatic 132)) (by decide +kernel) (by decide +kernel) (by decide +kernel) rfl (by decide),
  by intros; exact G_at (by decide +kernel : fetch mX11_dayWedWith 54 = some (.iload_n 3)),
  by intros; exact G_at (by decide +kernel : fetch mX11_dayWedWith 55 = some (.iastore)),
  by intros; exact G_at (by decide +kernel : fetch mX11_dayWedWith 56 = some (.iconst 1)),
  by intros; exact G_at (by decide +kernel : fetch mX11_dayWedWith 57 = some (.istore 5)),
  by intros; exact G_at (by decide +kernel : fetch mX11_dayWedWith 59 = some (.iload 5)),
  by intros; exact G_at (by decide +kernel : fetch mX11_dayWedWith 61 = some (.bipush 60)),
  by intros; exact G_at (by decide +kernel : fetch mX11_dayWedWith 63 = some (.if_icmp .gt 26)),
  by intros; exact G_at (by decide +kernel : fetch mX11_dayWedWith 66 = some (.aload 4)),
  by intros; exact G_at (by decide +kernel : fetch mX11_dayWedWith 68 = some (.iload_n 1)),
  by intros; exact G_callV (by decide +kernel : fetch mX11_dayWedWith 69 = some (.invokevirtual 200)) (by decide +kernel) (by decide +kernel) rfl,
  by intros; exact G_at (by decide +kernel : fetch mX11_dayWedWith 72 = some (.ifCond .eq 17)),
  by intros; exact G_at (by decide +kernel : fetch mX11_dayWedWith 75 = some (.aload_n 0)),
  by intros; exact G_own (by decide +kernel : fetch mX11_dayWedWith 76 = some (.getfield 38)) (by decide +kernel),
  by intros; exact G_at (by decide +kernel : fetch mX11_dayWedWith 79 = some (.iconst 1)),
  by intros; exact G_callV (by decide +kernel : fetch mX11_dayWedWith 80 = some (.invokevirtual 218)) (by decide +kernel) (by decide +kernel) rfl,
  by intros; exact G_at (by decide +kernel : fetch mX11_dayWedWith 83 = some (.iinc 5 1)),
  by intros; exact G_at (by decide +kernel : fetch mX11_dayWedWith 86 = some (.goto (-27))),
  by intros; exact G_at (by decide +kernel : fetch mX11_dayWedWith 89 = some (.aload 4)),
  by intros; exact G_own (by decide +kernel : fetch mX11_dayWedWith 91 = some (.getfield 194)) (by decide +kernel),
  by intros; exact G_at (by decide +kernel : fetch mX11_dayWedWith 94 = some (.iload_n 1)),
  by intros; exact G_at (by decide +kernel : fetch mX11_dayWedWith 95 = some (.iaload)),
  by intros; exact G_at (by decide +kernel : fetch mX11_dayWedWith 96 = some (.iconst 1)),
  by intros; exact G_at (by decide +kernel : fetch mX11_dayWedWith 97 = some (.if_icmp .ne 15)),
  by intros; exact G_at (by decide +kernel : fetch mX11_dayWedWith 100 = some (.aload_n 0)),
  by intros; exact G_own (by decide +kernel : fetch mX11_dayWedWith 101 = some (.getfield 38)) (by decide +kernel),
  by intros; exact G_own (by decide +kernel : fetch mX11_dayWedWith 104 = some (.getfield 230)) (by decide +kernel),
  by intros; exact G_at (by decide +kernel : fetch mX11_dayWedWith 107 = some (.iload_n 1)),
  by intros; exact G_at (by decide +kernel : fetch mX11_dayWedWith 108 = some (.iaload)),
  by intros; exact G_at (by decide +kernel : fetch mX11_dayWedWith 109 = some (.goto 5)),
  by intros; exact G_at (by decide +kernel : fetch mX11_dayWedWith 112 = some (.bipush 61)),
  by intros; exact G_reti (by decide +kernel : fetch mX11_dayWedWith 114 = some (.ireturn)) (by decide +kernel),
  by decide +kernel,
  by decide +kernel,
  by decide +kernel,
  by decide +kernel,
  by decide +kernel,
  by decide +kernel,
  by decide +kernel,
  by decide +kernel,
  by decide +kernel,
  by decide +kernel,
  by decide +kernel⟩
theorem gX11_reported : (∀ (n d : Nat) (L : List (Option iV)) (st : List iV) (h : iH) (Q : Option iV → iH → Prop), G sp sc [21] d mX11_reported (n + 1) 0 L st h Q = (match ld L 3 with | some (.inl x) => G sp sc [21] d mX11_reported n 1 L (.inl x :: st) h Q | _ => False)) ∧
  (∀ (n d : Nat) (L : List (Option iV)) (r : List iV) (x : Int) (h : iH) (Q : Option iV → iH → Prop), G sp sc [21] d mX11_reported (n + 1) 1 L (.inl x :: r) h Q = (match st1 L 4 (.inl x) with | some L' => G sp sc [21] d mX11_reported n 3 L' r h Q | none => False)) ∧
  (∀ (n d : Nat) (L : List (Option iV)) (st : List iV) (h : iH) (Q : Option iV → iH → Prop), G sp sc [21] d mX11_reported (n + 1) 3 L st h Q = (match ld L 0 with | some (.inr (.inr (r + 1))) => G sp sc [21] d mX11_reported n 4 L (.inr (.inr (r + 1)) :: st) h Q | _ => False)) ∧
  (∀ (n d : Nat) (L : List (Option iV)) (r : List iV) (m : Nat) (h : iH) (Q : Option iV → iH → Prop), G sp sc [21] d mX11_reported (n + 1) 4 L (.inr (.inr (m + 2)) :: r) h Q = (match h.1[m]? with | some (.inl (ci, fs)) => (match lkF 11 17 ci with | some k => (match fs[k]? with | some v => G sp sc [21] d mX11_reported n 7 L (v :: r) h Q | none => False) | none => False) | _ => False)) ∧
  (∀ (n d : Nat) (L : List (Option iV)) (r : List iV) (m : Nat) (h : iH) (Q : Option iV → iH → Prop), G sp sc [21] d mX11_reported (n + 1) 7 L (.inr (.inr (m + 2)) :: r) h Q = (match h.1[m]? with | some (.inl (ci, fs)) => (match lkF 11 128 ci with | some k => (match fs[k]? with | some v => G sp sc [21] d mX11_reported n 10 L (v :: r) h Q | none => False) | none => False) | _ => False)) ∧
  (∀ (n d : Nat) (L : List (Option iV)) (st : List iV) (h : iH) (Q : Option iV → iH → Prop), G sp sc [21] d mX11_reported (n + 1) 10 L st h Q = (match ld L 1 with | some (.inl x) => G sp sc [21] d mX11_reported n 11 L (.inl x :: st) h Q | _ => False)) ∧
  (∀ (n d : Nat) (L : List (Option iV)) (st : List iV) (h : iH) (Q : Option iV → iH → Prop), G sp sc [21] d mX11_reported (n + 1) 11 L st h Q = (match ld L 2 with | some (.inl x) => G sp sc [21] d mX11_reported n 12 L (.inl x :: st) h Q | _ => False)) ∧
  (∀ (n d : Nat) (L : List (Option iV)) (r : List iV) (z0 : iV) (z1 : iV) (h : iH) (Q : Option iV → iH → Prop), G sp sc [21] (d + 1) mX11_reported (n + 1) 12 L (z1 :: z0 :: r) h Q = (cs r ≤ 8 ∧ Call sp sc d mX8_place [z0, z1] h (fun q h1 => GC sp sc [21] (d + 1) mX11_reported n 15 L q r h h1 Q))) ∧
  (∀ (n d : Nat) (L : List (Option iV)) (r : List iV) (j : Int) (m : Nat) (h : iH) (Q : Option iV → iH → Prop), G sp sc [21] d mX11_reported (n + 1) 15 L (.inl j :: .inr (.inr (m + 2)) :: r) h Q = (match h.1[m]? with | some (.inr (.inl (0, xs))) => inA j xs.length = true ∧ G sp sc [21] d mX11_reported n 16 L (.inl (xs.getD j.toNat 0) :: r) h Q | _ => False)) ∧
  (∀ (n d : Nat) (L : List (Option iV)) (r : List iV) (x : Int) (h : iH) (Q : Option iV → iH → Prop), G sp sc [21] d mX11_reported (n + 1) 16 L (.inl x :: r) h Q = (match st1 L 5 (.inl x) with | some L' => G sp sc [21] d mX11_reported n 18 L' r h Q | none => False)) ∧
  (∀ (n d : Nat) (L : List (Option iV)) (st : List iV) (h : iH) (Q : Option iV → iH → Prop), G sp sc [21] d mX11_reported (n + 1) 18 L st h Q = G sp sc [21] d mX11_reported n 19 L (.inl 0 :: st) h Q) ∧
  (∀ (n d : Nat) (L : List (Option iV)) (r : List iV) (x : Int) (h : iH) (Q : Option iV → iH → Prop), G sp sc [21] d mX11_reported (n + 1) 19 L (.inl x :: r) h Q = (match st1 L 6 (.inl x) with | some L' => Run sp sc d mX11_reported 21 L' r h Q | none => False)) ∧
  (∀ (n d : Nat) (L : List (Option iV)) (st : List iV) (h : iH) (Q : Option iV → iH → Prop), G sp sc [21] d mX11_reported (n + 1) 21 L st h Q = (match ld L 6 with | some (.inl x) => G sp sc [21] d mX11_reported n 23 L (.inl x :: st) h Q | _ => False)) ∧
  (∀ (n d : Nat) (L : List (Option iV)) (st : List iV) (h : iH) (Q : Option iV → iH → Prop), G sp sc [21] d mX11_reported (n + 1) 23 L st h Q = G sp sc [21] d mX11_reported n 24 L (.inl 2 :: st) h Q) ∧
  (∀ (n d : Nat) (L : List (Option iV)) (a : Int) (b : Int) (r : List iV) (h : iH) (Q : Option iV → iH → Prop), G sp sc [21] d mX11_reported (n + 1) 24 L (.inl b :: .inl a :: r) h Q = ((inI a = true ∧ inI b = true) ∧ (b ≤ a → G sp sc [21] d mX11_reported n 72 L r h Q) ∧ (¬ (b ≤ a) → G sp sc [21] d mX11_reported n 27 L r h Q))) ∧
  (∀ (n d : Nat) (L : List (Option iV)) (st : List iV) (h : iH) (Q : Option iV → iH → Prop), G sp sc [21] d mX11_reported (n + 1) 27 L st h Q = (match ld L 5 with | some (.inl x) => G sp sc [21] d mX11_reported n 29 L (.inl x :: st) h Q | _ => False)) ∧
  (∀ (n d : Nat) (L : List (Option iV)) (st : List iV) (h : iH) (Q : Option iV → iH → Prop), G sp sc [21] d mX11_reported (n + 1) 29 L st h Q = G sp sc [21] d mX11_reported n 30 L (.inl (-1) :: st) h Q) ∧
  (∀ (n d : Nat) (L : List (Option iV)) (a : Int) (b : Int) (r : List iV) (h : iH) (Q : Option iV → iH → Prop), G sp sc [21] d mX11_reported (n + 1) 30 L (.inl b :: .inl a :: r) h Q = ((inI a = true ∧ inI b = true) ∧ (a = b → G sp sc [21] d mX11_reported n 72 L r h Q) ∧ (¬ (a = b) → G sp sc [21] d mX11_reported n 33 L r h Q))) ∧
  (∀ (n d : Nat) (L : List (Option iV)) (st : List iV) (h : iH) (Q : Option iV → iH → Prop), G sp sc [21] d mX11_reported (n + 1) 33 L st h Q = (match ld L 0 with | some (.inr (.inr (r + 1))) => G sp sc [21] d mX11_reported n 34 L (.inr (.inr (r + 1)) :: st) h Q | _ => False)) ∧
  (∀ (n d : Nat) (L : List (Option iV)) (r : List iV) (m : Nat) (h : iH) (Q : Option iV → iH → Prop), G sp sc [21] d mX11_reported (n + 1) 34 L (.inr (.inr (m + 2)) :: r) h Q = (match h.1[m]? with | some (.inl (ci, fs)) => (match lkF 11 17 ci with | some k => (match fs[k]? with | some v => G sp sc [21] d mX11_reported n 37 L (v :: r) h Q | none => False) | none => False) | _ => False)) ∧
  (∀ (n d : Nat) (L : List (Option iV)) (st : List iV) (h : iH) (Q : Option iV → iH → Prop), G sp sc [21] d mX11_reported (n + 1) 37 L st h Q = (match ld L 1 with | some (.inl x) => G sp sc [21] d mX11_reported n 38 L (.inl x :: st) h Q | _ => False)) ∧
  (∀ (n d : Nat) (L : List (Option iV)) (st : List iV) (h : iH) (Q : Option iV → iH → Prop), G sp sc [21] d mX11_reported (n + 1) 38 L st h Q = (match ld L 5 with | some (.inl x) => G sp sc [21] d mX11_reported n 40 L (.inl x :: st) h Q | _ => False)) ∧
  (∀ (n d : Nat) (L : List (Option iV)) (r : List iV) (m : Nat) (z0 : iV) (z1 : iV) (h : iH) (Q : Option iV → iH → Prop), G sp sc [21] (d + 1) mX11_reported (n + 1) 40 L (z1 :: z0 :: .inr (.inr (m + 2)) :: r) h Q = (match h.1[m]? with | some (.inl (ci, _)) => (match lkC 11 117 ci with | some (y1, n1, kd) => (n1 = 2 ∧ (kd = 2 ∨ kd = 3 ∨ kd = 8) ∧ cs r ≤ 8) ∧ Call sp sc d y1 [.inr (.inr (m + 2)), z0, z1] h (fun q h1 => GC sp sc [21] (d + 1) mX11_reported n 43 L q r h h1 Q) | none => False) | _ => False)) ∧
  (∀ (n d : Nat) (L : List (Option iV)) (st : List iV) (h : iH) (Q : Option iV → iH → Prop), G sp sc [21] d mX11_reported (n + 1) 43 L st h Q = (match ld L 4 with | some (.inl x) => G sp sc [21] d mX11_reported n 45 L (.inl x :: st) h Q | _ => False)) ∧
  (∀ (n d : Nat) (L : List (Option iV)) (r : List iV) (m : Nat) (z0 : iV) (h : iH) (Q : Option iV → iH → Prop), G sp sc [21] (d + 1) mX11_reported (n + 1) 45 L (z0 :: .inr (.inr (m + 2)) :: r) h Q = (match h.1[m]? with | some (.inl (ci, _)) => (match lkC 11 149 ci with | some (y1, n1, kd) => (n1 = 1 ∧ (kd = 2 ∨ kd = 3 ∨ kd = 8) ∧ cs r ≤ 8) ∧ Call sp sc d y1 [.inr (.inr (m + 2)), z0] h (fun q h1 => GC sp sc [21] (d + 1) mX11_reported n 48 L q r h h1 Q) | none => False) | _ => False)) ∧
  (∀ (n d : Nat) (L : List (Option iV)) (r : List iV) (x : Int) (h : iH) (Q : Option iV → iH → Prop), G sp sc [21] d mX11_reported (n + 1) 48 L (.inl x :: r) h Q = (match st1 L 4 (.inl x) with | some L' => G sp sc [21] d mX11_reported n 50 L' r h Q | none => False)) ∧
  (∀ (n d : Nat) (L : List (Option iV)) (st : List iV) (h : iH) (Q : Option iV → iH → Prop), G sp sc [21] d mX11_reported (n + 1) 50 L st h Q = (match ld L 0 with | some (.inr (.inr (r + 1))) => G sp sc [21] d mX11_reported n 51 L (.inr (.inr (r + 1)) :: st) h Q | _ => False)) ∧
  (∀ (n d : Nat) (L : List (Option iV)) (r : List iV) (m : Nat) (h : iH) (Q : Option iV → iH → Prop), G sp sc [21] d mX11_reported (n + 1) 51 L (.inr (.inr (m + 2)) :: r) h Q = (match h.1[m]? with | some (.inl (ci, fs)) => (match lkF 11 17 ci with | some k => (match fs[k]? with | some v => G sp sc [21] d mX11_reported n 54 L (v :: r) h Q | none => False) | none => False) | _ => False)) ∧
  (∀ (n d : Nat) (L : List (Option iV)) (r : List iV) (m : Nat) (h : iH) (Q : Option iV → iH → Prop), G sp sc [21] d mX11_reported (n + 1) 54 L (.inr (.inr (m + 2)) :: r) h Q = (match h.1[m]? with | some (.inl (ci, fs)) => (match lkF 11 128 ci with | some k => (match fs[k]? with | some v => G sp sc [21] d mX11_reported n 57 L (v :: r) h Q | none => False) | none => False) | _ => False)) ∧
  (∀ (n d : Nat) (L : List (Option iV)) (st : List iV) (h : iH) (Q : Option iV → iH → Prop), G sp sc [21] d mX11_reported (n + 1) 57 L st h Q = (match ld L 1 with | some (.inl x) => G sp sc [21] d mX11_reported n 58 L (.inl x :: st) h Q | _ => False)) ∧
  (∀ (n d : Nat) (L : List (Option iV)) (st : List iV) (h : iH) (Q : Option iV → iH → Prop), G sp sc [21] d mX11_reported (n + 1) 58 L st h Q = (match ld L 5 with | some (.inl x) => G sp sc [21] d mX11_reported n 60 L (.inl x :: st) h Q | _ => False)) ∧
  (∀ (n d : Nat) (L : List (Option iV)) (r : List iV) (z0 : iV) (z1 : iV) (h : iH) (Q : Option iV → iH → Prop), G sp sc [21] (d + 1) mX11_reported (n + 1) 60 L (z1 :: z0 :: r) h Q = (cs r ≤ 8 ∧ Call sp sc d mX8_place [z0, z1] h (fun q h1 => GC sp sc [21] (d + 1) mX11_reported n 63 L q r h h1 Q))) ∧
  (∀ (n d : Nat) (L : List (Option iV)) (r : List iV) (j : Int) (m : Nat) (h : iH) (Q : Option iV → iH → Prop), G sp sc [21] d mX11_reported (n + 1) 63 L (.inl j :: .inr (.inr (m + 2)) :: r) h Q = (match h.1[m]? with | some (.inr (.inl (0, xs))) => inA j xs.length = true ∧ G sp sc [21] d mX11_reported n 64 L (.inl (xs.getD j.toNat 0) :: r) h Q | _ => False)) ∧
  (∀ (n d : Nat) (L : List (Option iV)) (r : List iV) (x : Int) (h : iH) (Q : Option iV → iH → Prop), G sp sc [21] d mX11_reported (n + 1) 64 L (.inl x :: r) h Q = (match st1 L 5 (.inl x) with | some L' => G sp sc [21] d mX11_reported n 66 L' r h Q | none => False)) ∧
  (∀ (n d : Nat) (L : List (Option iV)) (st : List iV) (h : iH) (Q : Option iV → iH → Prop), G sp sc [21] d mX11_reported (n + 1) 66 L st h Q = (match ld L 6 with | some (.inl x) => (match st1 L 6 (.inl (x + 1)) with | some L' => G sp sc [21] d mX11_reported n 69 L' st h Q | none => False) | _ => False)) ∧
  (∀ (n d : Nat) (L : List (Option iV)) (st : List iV) (h : iH) (Q : Option iV → iH → Prop), G sp sc [21] d mX11_reported (n + 1) 69 L st h Q = Run sp sc d mX11_reported 21 L st h Q) ∧
  (∀ (n d : Nat) (L : List (Option iV)) (st : List iV) (h : iH) (Q : Option iV → iH → Prop), G sp sc [21] d mX11_reported (n + 1) 72 L st h Q = (match ld L 4 with | some (.inl x) => G sp sc [21] d mX11_reported n 74 L (.inl x :: st) h Q | _ => False)) ∧
  (∀ (n d : Nat) (L : List (Option iV)) (a : Int) (h : iH) (Q : Option iV → iH → Prop), G sp sc [21] d mX11_reported (n + 1) 74 L [.inl a] h Q = Q (some (.inl a)) h) ∧
  lkC 11 117 8 = some (mX8_natureOf, 2, 2) ∧
  lkC 11 149 0 = some (mX0_retold, 1, 3) ∧
  lkC 11 149 1 = some (mX1_retold, 1, 3) ∧
  lkC 11 149 3 = some (mX3_retold, 1, 3) ∧
  lkC 11 149 6 = some (mX6_retold, 1, 2) ∧
  lkC 11 149 7 = some (mX7_retold, 1, 3) ∧
  lkC 11 149 9 = some (mX9_retold, 1, 3) ∧
  lkF 11 128 8 = some 2 ∧
  lkF 11 17 11 = some 2 := ⟨by intros; exact G_at (by decide +kernel : fetch mX11_reported 0 = some (.iload_n 3)),
  by intros; exact G_at (by decide +kernel : fetch mX11_reported 1 = some (.istore 4)),
  by intros; exact G_at (by decide +kernel : fetch mX11_reported 3 = some (.aload_n 0)),
  by intros; exact G_own (by decide +kernel : fetch mX11_reported 4 = some (.getfield 17)) (by decide +kernel),
  by intros; exact G_own (by decide +kernel : fetch mX11_reported 7 = some (.getfield 128)) (by decide +kernel),
  by intros; exact G_at (by decide +kernel : fetch mX11_reported 10 = some (.iload_n 1)),
  by intros; exact G_at (by decide +kernel : fetch mX11_reported 11 = some (.iload_n 2)),
  by intros; exact G_callS (k := 2) (kd := 0) (by decide +kernel : fetch mX11_reported 12 = some (.invokestatic 132)) (by decide +kernel) (by decide +kernel) (by decide +kernel) rfl (by decide),
  by intros; exact G_at (by decide +kernel : fetch mX11_reported 15 = some (.iaload)),
  by intros; exact G_at (by decide +kernel : fetch mX11_reported 16 = some (.istore 5)),
  by intros; exact G_at (by decide +kernel : fetch mX11_reported 18 = some (.iconst 0)),
  by intros; exact G_at (by decide +kernel : fetch mX11_reported 19 = some (.istore 6)),
  by intros; exact G_at (by decide +kernel : fetch mX11_reported 21 = some (.iload 6)),
  by intros; exact G_at (by decide +kernel : fetch mX11_reported 23 = some (.iconst 2)),
  by intros; exact G_at (by decide +kernel : fetch mX11_reported 24 = some (.if_icmp .ge 48)),
  by intros; exact G_at (by decide +kernel : fetch mX11_reported 27 = some (.iload 5)),
  by intros; exact G_at (by decide +kernel : fetch mX11_reported 29 = some (.iconst (-1))),
  by intros; exact G_at (by decide +kernel : fetch mX11_reported 30 = some (.if_icmp .eq 42)),
  by intros; exact G_at (by decide +kernel : fetch mX11_reported 33 = some (.aload_n 0)),
  by intros; exact G_own (by decide +kernel : fetch mX11_reported 34 = some (.getfield 17)) (by decide +kernel),
  by intros; exact G_at (by decide +kernel : fetch mX11_reported 37 = some (.iload_n 1)),
  by intros; exact G_at (by decide +kernel : fetch mX11_reported 38 = some (.iload 5)),
  by intros; exact G_callV (by decide +kernel : fetch mX11_reported 40 = some (.invokevirtual 117)) (by decide +kernel) (by decide +kernel) rfl,
  by intros; exact G_at (by decide +kernel : fetch mX11_reported 43 = some (.iload 4)),
  by intros; exact G_callV (by decide +kernel : fetch mX11_reported 45 = some (.invokevirtual 149)) (by decide +kernel) (by decide +kernel) rfl,
  by intros; exact G_at (by decide +kernel : fetch mX11_reported 48 = some (.istore 4)),
  by intros; exact G_at (by decide +kernel : fetch mX11_reported 50 = some (.aload_n 0)),
  by intros; exact G_own (by decide +kernel : fetch mX11_reported 51 = some (.getfield 17)) (by decide +kernel),
  by intros; exact G_own (by decide +kernel : fetch mX11_reported 54 = some (.getfield 128)) (by decide +kernel),
  by intros; exact G_at (by decide +kernel : fetch mX11_reported 57 = some (.iload_n 1)),
  by intros; exact G_at (by decide +kernel : fetch mX11_reported 58 = some (.iload 5)),
  by intros; exact G_callS (k := 2) (kd := 0) (by decide +kernel : fetch mX11_reported 60 = some (.invokestatic 132)) (by decide +kernel) (by decide +kernel) (by decide +kernel) rfl (by decide),
  by intros; exact G_at (by decide +kernel : fetch mX11_reported 63 = some (.iaload)),
  by intros; exact G_at (by decide +kernel : fetch mX11_reported 64 = some (.istore 5)),
  by intros; exact G_at (by decide +kernel : fetch mX11_reported 66 = some (.iinc 6 1)),
  by intros; exact G_at (by decide +kernel : fetch mX11_reported 69 = some (.goto (-48))),
  by intros; exact G_at (by decide +kernel : fetch mX11_reported 72 = some (.iload 4)),
  by intros; exact G_reti (by decide +kernel : fetch mX11_reported 74 = some (.ireturn)) (by decide +kernel),
  by decide +kernel,
  by decide +kernel,
  by decide +kernel,
  by decide +kernel,
  by decide +kernel,
  by decide +kernel,
  by decide +kernel,
  by decide +kernel,
  by decide +kernel⟩
end GG
