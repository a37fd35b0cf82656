section GG
variable {sp : Nat → List iV → iH → Option (Option iV × iH)} {sc : List Int}
theorem gX8_init : (∀ (n d : Nat) (L : List (Option iV)) (st : List iV) (h : iH) (Q : Option iV → iH → Prop), G sp sc [88, 126, 151] d mX8_init (n + 1) 0 L st h Q = (match ld L 0 with | some (.inr (.inr (r + 1))) => G sp sc [88, 126, 151] d mX8_init n 1 L (.inr (.inr (r + 1)) :: st) h Q | _ => False)) ∧
  (∀ (n d : Nat) (L : List (Option iV)) (r : List iV) (m : Nat) (h : iH) (Q : Option iV → iH → Prop), G sp sc [88, 126, 151] (d + 1) mX8_init (n + 1) 1 L (.inr (.inr (m + 2)) :: r) h Q = (cs r ≤ 8 ∧ G sp sc [88, 126, 151] (d + 1) mX8_init n 4 L r h Q)) ∧
  (∀ (n d : Nat) (L : List (Option iV)) (st : List iV) (h : iH) (Q : Option iV → iH → Prop), G sp sc [88, 126, 151] d mX8_init (n + 1) 4 L st h Q = (match ld L 0 with | some (.inr (.inr (r + 1))) => G sp sc [88, 126, 151] d mX8_init n 5 L (.inr (.inr (r + 1)) :: st) h Q | _ => False)) ∧
  (∀ (n d : Nat) (L : List (Option iV)) (st : List iV) (h : iH) (Q : Option iV → iH → Prop), G sp sc [88, 126, 151] d mX8_init (n + 1) 5 L st h Q = G sp sc [88, 126, 151] d mX8_init n 6 L (.inl 2 :: st) h Q) ∧
  (∀ (n d : Nat) (L : List (Option iV)) (r : List iV) (v : iV) (m : Nat) (h : iH) (Q : Option iV → iH → Prop), G sp sc [88, 126, 151] d mX8_init (n + 1) 8 L (v :: .inr (.inr (m + 2)) :: r) h Q = (match h.1[m]? with | some (.inl (ci, fs)) => (match lkF 8 9 ci with | some k => (fitV (tyT ci k) v = true ∧ k < fs.length ∧ pOK 8 true ci k = true) ∧ G sp sc [88, 126, 151] d mX8_init n 11 L r (h.1.set m (.inl (ci, fs.set k v)), h.2) Q | none => False) | _ => False)) ∧
  (∀ (n d : Nat) (L : List (Option iV)) (st : List iV) (h : iH) (Q : Option iV → iH → Prop), G sp sc [88, 126, 151] d mX8_init (n + 1) 11 L st h Q = (match ld L 0 with | some (.inr (.inr (r + 1))) => G sp sc [88, 126, 151] d mX8_init n 12 L (.inr (.inr (r + 1)) :: st) h Q | _ => False)) ∧
  (∀ (n d : Nat) (L : List (Option iV)) (st : List iV) (h : iH) (Q : Option iV → iH → Prop), G sp sc [88, 126, 151] d mX8_init (n + 1) 12 L st h Q = ((-128 ≤ (10 : Int) ∧ (10 : Int) < 128) ∧ G sp sc [88, 126, 151] d mX8_init n 14 L (.inl 10 :: st) h Q)) ∧
  (∀ (n d : Nat) (L : List (Option iV)) (r : List iV) (v : iV) (m : Nat) (h : iH) (Q : Option iV → iH → Prop), G sp sc [88, 126, 151] d mX8_init (n + 1) 17 L (v :: .inr (.inr (m + 2)) :: r) h Q = (match h.1[m]? with | some (.inl (ci, fs)) => (match lkF 8 17 ci with | some k => (fitV (tyT ci k) v = true ∧ k < fs.length ∧ pOK 8 true ci k = true) ∧ G sp sc [88, 126, 151] d mX8_init n 20 L r (h.1.set m (.inl (ci, fs.set k v)), h.2) Q | none => False) | _ => False)) ∧
  (∀ (n d : Nat) (L : List (Option iV)) (st : List iV) (h : iH) (Q : Option iV → iH → Prop), G sp sc [88, 126, 151] d mX8_init (n + 1) 20 L st h Q = (match ld L 0 with | some (.inr (.inr (r + 1))) => G sp sc [88, 126, 151] d mX8_init n 21 L (.inr (.inr (r + 1)) :: st) h Q | _ => False)) ∧
  (∀ (n d : Nat) (L : List (Option iV)) (st : List iV) (h : iH) (Q : Option iV → iH → Prop), G sp sc [88, 126, 151] d mX8_init (n + 1) 21 L st h Q = ((-128 ≤ (10 : Int) ∧ (10 : Int) < 128) ∧ G sp sc [88, 126, 151] d mX8_init n 23 L (.inl 10 :: st) h Q)) ∧
  (∀ (n d : Nat) (L : List (Option iV)) (r : List iV) (v : iV) (m : Nat) (h : iH) (Q : Option iV → iH → Prop), G sp sc [88, 126, 151] d mX8_init (n + 1) 25 L (v :: .inr (.inr (m + 2)) :: r) h Q = (match h.1[m]? with | some (.inl (ci, fs)) => (match lkF 8 21 ci with | some k => (fitV (tyT ci k) v = true ∧ k < fs.length ∧ pOK 8 true ci k = true) ∧ G sp sc [88, 126, 151] d mX8_init n 28 L r (h.1.set m (.inl (ci, fs.set k v)), h.2) Q | none => False) | _ => False)) ∧
  (∀ (n d : Nat) (L : List (Option iV)) (st : List iV) (h : iH) (Q : Option iV → iH → Prop), G sp sc [88, 126, 151] d mX8_init (n + 1) 28 L st h Q = (match ld L 0 with | some (.inr (.inr (r + 1))) => G sp sc [88, 126, 151] d mX8_init n 29 L (.inr (.inr (r + 1)) :: st) h Q | _ => False)) ∧
  (∀ (n d : Nat) (L : List (Option iV)) (st : List iV) (h : iH) (Q : Option iV → iH → Prop), G sp sc [88, 126, 151] d mX8_init (n + 1) 29 L st h Q = ((-128 ≤ (10 : Int) ∧ (10 : Int) < 128) ∧ G sp sc [88, 126, 151] d mX8_init n 31 L (.inl 10 :: st) h Q)) ∧
  (∀ (n d : Nat) (L : List (Option iV)) (r : List iV) (v : iV) (m : Nat) (h : iH) (Q : Option iV → iH → Prop), G sp sc [88, 126, 151] d mX8_init (n + 1) 33 L (v :: .inr (.inr (m + 2)) :: r) h Q = (match h.1[m]? with | some (.inl (ci, fs)) => (match lkF 8 24 ci with | some k => (fitV (tyT ci k) v = true ∧ k < fs.length ∧ pOK 8 true ci k = true) ∧ G sp sc [88, 126, 151] d mX8_init n 36 L r (h.1.set m (.inl (ci, fs.set k v)), h.2) Q | none => False) | _ => False)) ∧
  (∀ (n d : Nat) (L : List (Option iV)) (st : List iV) (h : iH) (Q : Option iV → iH → Prop), G sp sc [88, 126, 151] d mX8_init (n + 1) 36 L st h Q = (match ld L 0 with | some (.inr (.inr (r + 1))) => G sp sc [88, 126, 151] d mX8_init n 37 L (.inr (.inr (r + 1)) :: st) h Q | _ => False)) ∧
  (∀ (n d : Nat) (L : List (Option iV)) (st : List iV) (h : iH) (Q : Option iV → iH → Prop), G sp sc [88, 126, 151] d mX8_init (n + 1) 37 L st h Q = ((-128 ≤ (50 : Int) ∧ (50 : Int) < 128) ∧ G sp sc [88, 126, 151] d mX8_init n 39 L (.inl 50 :: st) h Q)) ∧
  (∀ (n d : Nat) (L : List (Option iV)) (r : List iV) (v : iV) (m : Nat) (h : iH) (Q : Option iV → iH → Prop), G sp sc [88, 126, 151] d mX8_init (n + 1) 41 L (v :: .inr (.inr (m + 2)) :: r) h Q = (match h.1[m]? with | some (.inl (ci, fs)) => (match lkF 8 27 ci with | some k => (fitV (tyT ci k) v = true ∧ k < fs.length ∧ pOK 8 true ci k = true) ∧ G sp sc [88, 126, 151] d mX8_init n 44 L r (h.1.set m (.inl (ci, fs.set k v)), h.2) Q | none => False) | _ => False)) ∧
  (∀ (n d : Nat) (L : List (Option iV)) (st : List iV) (h : iH) (Q : Option iV → iH → Prop), G sp sc [88, 126, 151] d mX8_init (n + 1) 44 L st h Q = (match ld L 0 with | some (.inr (.inr (r + 1))) => G sp sc [88, 126, 151] d mX8_init n 45 L (.inr (.inr (r + 1)) :: st) h Q | _ => False)) ∧
  (∀ (n d : Nat) (L : List (Option iV)) (st : List iV) (h : iH) (Q : Option iV → iH → Prop), G sp sc [88, 126, 151] d mX8_init (n + 1) 45 L st h Q = G sp sc [88, 126, 151] d mX8_init n 46 L (.inl 4 :: st) h Q) ∧
  (∀ (n d : Nat) (L : List (Option iV)) (r : List iV) (v : iV) (m : Nat) (h : iH) (Q : Option iV → iH → Prop), G sp sc [88, 126, 151] d mX8_init (n + 1) 48 L (v :: .inr (.inr (m + 2)) :: r) h Q = (match h.1[m]? with | some (.inl (ci, fs)) => (match lkF 8 30 ci with | some k => (fitV (tyT ci k) v = true ∧ k < fs.length ∧ pOK 8 true ci k = true) ∧ G sp sc [88, 126, 151] d mX8_init n 51 L r (h.1.set m (.inl (ci, fs.set k v)), h.2) Q | none => False) | _ => False)) ∧
  (∀ (n d : Nat) (L : List (Option iV)) (st : List iV) (h : iH) (Q : Option iV → iH → Prop), G sp sc [88, 126, 151] d mX8_init (n + 1) 51 L st h Q = (match ld L 0 with | some (.inr (.inr (r + 1))) => G sp sc [88, 126, 151] d mX8_init n 52 L (.inr (.inr (r + 1)) :: st) h Q | _ => False)) ∧
  (∀ (n d : Nat) (L : List (Option iV)) (st : List iV) (h : iH) (Q : Option iV → iH → Prop), G sp sc [88, 126, 151] d mX8_init (n + 1) 52 L st h Q = G sp sc [88, 126, 151] d mX8_init n 53 L (.inl 4 :: st) h Q) ∧
  (∀ (n d : Nat) (L : List (Option iV)) (r : List iV) (v : iV) (m : Nat) (h : iH) (Q : Option iV → iH → Prop), G sp sc [88, 126, 151] d mX8_init (n + 1) 55 L (v :: .inr (.inr (m + 2)) :: r) h Q = (match h.1[m]? with | some (.inl (ci, fs)) => (match lkF 8 33 ci with | some k => (fitV (tyT ci k) v = true ∧ k < fs.length ∧ pOK 8 true ci k = true) ∧ G sp sc [88, 126, 151] d mX8_init n 58 L r (h.1.set m (.inl (ci, fs.set k v)), h.2) Q | none => False) | _ => False)) ∧
  (∀ (n d : Nat) (L : List (Option iV)) (st : List iV) (h : iH) (Q : Option iV → iH → Prop), G sp sc [88, 126, 151] d mX8_init (n + 1) 58 L st h Q = (match ld L 0 with | some (.inr (.inr (r + 1))) => G sp sc [88, 126, 151] d mX8_init n 59 L (.inr (.inr (r + 1)) :: st) h Q | _ => False)) ∧
  (∀ (n d : Nat) (L : List (Option iV)) (st : List iV) (h : iH) (Q : Option iV → iH → Prop), G sp sc [88, 126, 151] d mX8_init (n + 1) 59 L st h Q = G sp sc [88, 126, 151] d mX8_init n 60 L (.inl 4 :: st) h Q) ∧
  (∀ (n d : Nat) (L : List (Option iV)) (r : List iV) (v : iV) (m : Nat) (h : iH) (Q : Option iV → iH → Prop), G sp sc [88, 126, 151] d mX8_init (n + 1) 62 L (v :: .inr (.inr (m + 2)) :: r) h Q = (match h.1[m]? with | some (.inl (ci, fs)) => (match lkF 8 36 ci with | some k => (fitV (tyT ci k) v = true ∧ k < fs.length ∧ pOK 8 true ci k = true) ∧ G sp sc [88, 126, 151] d mX8_init n 65 L r (h.1.set m (.inl (ci, fs.set k v)), h.2) Q | none => False) | _ => False)) ∧
  (∀ (n d : Nat) (L : List (Option iV)) (st : List iV) (h : iH) (Q : Option iV → iH → Prop), G sp sc [88, 126, 151] d mX8_init (n + 1) 65 L st h Q = (match ld L 0 with | some (.inr (.inr (r + 1))) => G sp sc [88, 126, 151] d mX8_init n 66 L (.inr (.inr (r + 1)) :: st) h Q | _ => False)) ∧
  (∀ (n d : Nat) (L : List (Option iV)) (st : List iV) (h : iH) (Q : Option iV → iH → Prop), G sp sc [88, 126, 151] d mX8_init (n + 1) 66 L st h Q = G sp sc [88, 126, 151] d mX8_init n 67 L (.inl 4 :: st) h Q) ∧
  (∀ (n d : Nat) (L : List (Option iV)) (r : List iV) (v : iV) (m : Nat) (h : iH) (Q : Option iV → iH → Prop), G sp sc [88, 126, 151] d mX8_init (n + 1) 69 L (v :: .inr (.inr (m + 2)) :: r) h Q = (match h.1[m]? with | some (.inl (ci, fs)) => (match lkF 8 39 ci with | some k => (fitV (tyT ci k) v = true ∧ k < fs.length ∧ pOK 8 true ci k = true) ∧ G sp sc [88, 126, 151] d mX8_init n 72 L r (h.1.set m (.inl (ci, fs.set k v)), h.2) Q | none => False) | _ => False)) ∧
  (∀ (n d : Nat) (L : List (Option iV)) (st : List iV) (h : iH) (Q : Option iV → iH → Prop), G sp sc [88, 126, 151] d mX8_init (n + 1) 72 L st h Q = (match ld L 0 with | some (.inr (.inr (r + 1))) => G sp sc [88, 126, 151] d mX8_init n 73 L (.inr (.inr (r + 1)) :: st) h Q | _ => False)) ∧
  (∀ (n d : Nat) (L : List (Option iV)) (st : List iV) (h : iH) (Q : Option iV → iH → Prop), G sp sc [88, 126, 151] d mX8_init (n + 1) 73 L st h Q = ((-128 ≤ (6 : Int) ∧ (6 : Int) < 128) ∧ G sp sc [88, 126, 151] d mX8_init n 75 L (.inl 6 :: st) h Q)) ∧
  (∀ (n d : Nat) (L : List (Option iV)) (r : List iV) (v : iV) (m : Nat) (h : iH) (Q : Option iV → iH → Prop), G sp sc [88, 126, 151] d mX8_init (n + 1) 77 L (v :: .inr (.inr (m + 2)) :: r) h Q = (match h.1[m]? with | some (.inl (ci, fs)) => (match lkF 8 42 ci with | some k => (fitV (tyT ci k) v = true ∧ k < fs.length ∧ pOK 8 true ci k = true) ∧ G sp sc [88, 126, 151] d mX8_init n 80 L r (h.1.set m (.inl (ci, fs.set k v)), h.2) Q | none => False) | _ => False)) ∧
  (∀ (n d : Nat) (L : List (Option iV)) (st : List iV) (h : iH) (Q : Option iV → iH → Prop), G sp sc [88, 126, 151] d mX8_init (n + 1) 80 L st h Q = (match ld L 0 with | some (.inr (.inr (r + 1))) => G sp sc [88, 126, 151] d mX8_init n 81 L (.inr (.inr (r + 1)) :: st) h Q | _ => False)) ∧
  (∀ (n d : Nat) (L : List (Option iV)) (st : List iV) (h : iH) (Q : Option iV → iH → Prop), G sp sc [88, 126, 151] d mX8_init (n + 1) 81 L st h Q = ((-128 ≤ (60 : Int) ∧ (60 : Int) < 128) ∧ G sp sc [88, 126, 151] d mX8_init n 83 L (.inl 60 :: st) h Q)) ∧
  (∀ (n d : Nat) (L : List (Option iV)) (r : List iV) (v : iV) (m : Nat) (h : iH) (Q : Option iV → iH → Prop), G sp sc [88, 126, 151] d mX8_init (n + 1) 83 L (v :: .inr (.inr (m + 2)) :: r) h Q = (match h.1[m]? with | some (.inl (ci, fs)) => (match lkF 8 45 ci with | some k => (fitV (tyT ci k) v = true ∧ k < fs.length ∧ pOK 8 true ci k = true) ∧ G sp sc [88, 126, 151] d mX8_init n 86 L r (h.1.set m (.inl (ci, fs.set k v)), h.2) Q | none => False) | _ => False)) ∧
  (∀ (n d : Nat) (L : List (Option iV)) (st : List iV) (h : iH) (Q : Option iV → iH → Prop), G sp sc [88, 126, 151] d mX8_init (n + 1) 86 L st h Q = G sp sc [88, 126, 151] d mX8_init n 87 L (.inl 0 :: st) h Q) ∧
  (∀ (n d : Nat) (L : List (Option iV)) (r : List iV) (x : Int) (h : iH) (Q : Option iV → iH → Prop), G sp sc [88, 126, 151] d mX8_init (n + 1) 87 L (.inl x :: r) h Q = (match st1 L 2 (.inl x) with | some L' => Run sp sc d mX8_init 88 L' r h Q | none => False)) ∧
  (∀ (n d : Nat) (L : List (Option iV)) (st : List iV) (h : iH) (Q : Option iV → iH → Prop), G sp sc [88, 126, 151] d mX8_init (n + 1) 88 L st h Q = (match ld L 2 with | some (.inl x) => G sp sc [88, 126, 151] d mX8_init n 89 L (.inl x :: st) h Q | _ => False)) ∧
  (∀ (n d : Nat) (L : List (Option iV)) (st : List iV) (h : iH) (Q : Option iV → iH → Prop), G sp sc [88, 126, 151] d mX8_init (n + 1) 89 L st h Q = (match ld L 0 with | some (.inr (.inr (r + 1))) => G sp sc [88, 126, 151] d mX8_init n 90 L (.inr (.inr (r + 1)) :: st) h Q | _ => False)) ∧
  (∀ (n d : Nat) (L : List (Option iV)) (r : List iV) (m : Nat) (h : iH) (Q : Option iV → iH → Prop), G sp sc [88, 126, 151] d mX8_init (n + 1) 90 L (.inr (.inr (m + 2)) :: r) h Q = (match h.1[m]? with | some (.inl (ci, fs)) => (match lkF 8 17 ci with | some k => (match fs[k]? with | some v => G sp sc [88, 126, 151] d mX8_init n 93 L (v :: r) h Q | none => False) | none => False) | _ => False)) ∧
  (∀ (n d : Nat) (L : List (Option iV)) (r : List iV) (m : Nat) (h : iH) (Q : Option iV → iH → Prop), G sp sc [88, 126, 151] d mX8_init (n + 1) 93 L (.inr (.inr (m + 2)) :: r) h Q = (match h.1[m]? with | some (.inr (.inl (t, xs))) => t < 6 ∧ G sp sc [88, 126, 151] d mX8_init n 94 L (.inl (xs.length : Int) :: r) h Q | some (.inr (.inr (t, rs))) => t < 6 ∧ G sp sc [88, 126, 151] d mX8_init n 94 L (.inl (rs.length : Int) :: r) h Q | _ => False)) ∧
  (∀ (n d : Nat) (L : List (Option iV)) (a : Int) (b : Int) (r : List iV) (h : iH) (Q : Option iV → iH → Prop), G sp sc [88, 126, 151] d mX8_init (n + 1) 94 L (.inl b :: .inl a :: r) h Q = ((inI a = true ∧ inI b = true) ∧ (b ≤ a → G sp sc [88, 126, 151] d mX8_init n 124 L r h Q) ∧ (¬ (b ≤ a) → G sp sc [88, 126, 151] d mX8_init n 97 L r h Q))) ∧
  (∀ (n d : Nat) (L : List (Option iV)) (st : List iV) (h : iH) (Q : Option iV → iH → Prop), G sp sc [88, 126, 151] d mX8_init (n + 1) 97 L st h Q = (match ld L 0 with | some (.inr (.inr (r + 1))) => G sp sc [88, 126, 151] d mX8_init n 98 L (.inr (.inr (r + 1)) :: st) h Q | _ => False)) ∧
  (∀ (n d : Nat) (L : List (Option iV)) (r : List iV) (m : Nat) (h : iH) (Q : Option iV → iH → Prop), G sp sc [88, 126, 151] d mX8_init (n + 1) 98 L (.inr (.inr (m + 2)) :: r) h Q = (match h.1[m]? with | some (.inl (ci, fs)) => (match lkF 8 17 ci with | some k => (match fs[k]? with | some v => G sp sc [88, 126, 151] d mX8_init n 101 L (v :: r) h Q | none => False) | none => False) | _ => False)) ∧
  (∀ (n d : Nat) (L : List (Option iV)) (st : List iV) (h : iH) (Q : Option iV → iH → Prop), G sp sc [88, 126, 151] d mX8_init (n + 1) 101 L st h Q = (match ld L 2 with | some (.inl x) => G sp sc [88, 126, 151] d mX8_init n 102 L (.inl x :: st) h Q | _ => False)) ∧
  (∀ (n d : Nat) (L : List (Option iV)) (st : List iV) (h : iH) (Q : Option iV → iH → Prop), G sp sc [88, 126, 151] d mX8_init (n + 1) 102 L st h Q = (match ld L 1 with | some (.inr (.inr (r + 1))) => G sp sc [88, 126, 151] d mX8_init n 103 L (.inr (.inr (r + 1)) :: st) h Q | _ => False)) ∧
  (∀ (n d : Nat) (L : List (Option iV)) (r : List iV) (v : Nat) (j : Int) (m : Nat) (h : iH) (Q : Option iV → iH → Prop), G sp sc [88, 126, 151] d mX8_init (n + 1) 103 L (.inr (.inr (v + 2)) :: .inl j :: .inr (.inr (m + 2)) :: r) h Q = (match h.1[m]? with | some (.inr (.inr (t, rs))) => (match h.1[v]? with | some (.inl (ci, _)) => (inA j rs.length = true ∧ asT t ci = true) ∧ G sp sc [88, 126, 151] d mX8_init n 104 L r (h.1.set m (.inr (.inr (t, rs.set j.toNat (v + 2)))), h.2) Q | _ => False) | _ => False)) ∧
  (∀ (n d : Nat) (L : List (Option iV)) (st : List iV) (h : iH) (Q : Option iV → iH → Prop), G sp sc [88, 126, 151] d mX8_init (n + 1) 104 L st h Q = (match ld L 0 with | some (.inr (.inr (r + 1))) => G sp sc [88, 126, 151] d mX8_init n 105 L (.inr (.inr (r + 1)) :: st) h Q | _ => False)) ∧
  (∀ (n d : Nat) (L : List (Option iV)) (r : List iV) (m : Nat) (h : iH) (Q : Option iV → iH → Prop), G sp sc [88, 126, 151] d mX8_init (n + 1) 105 L (.inr (.inr (m + 2)) :: r) h Q = (match h.1[m]? with | some (.inl (ci, fs)) => (match lkF 8 21 ci with | some k => (match fs[k]? with | some v => G sp sc [88, 126, 151] d mX8_init n 108 L (v :: r) h Q | none => False) | none => False) | _ => False)) ∧
  (∀ (n d : Nat) (L : List (Option iV)) (st : List iV) (h : iH) (Q : Option iV → iH → Prop), G sp sc [88, 126, 151] d mX8_init (n + 1) 108 L st h Q = (match ld L 2 with | some (.inl x) => G sp sc [88, 126, 151] d mX8_init n 109 L (.inl x :: st) h Q | _ => False)) ∧
  (∀ (n d : Nat) (L : List (Option iV)) (st : List iV) (h : iH) (Q : Option iV → iH → Prop), G sp sc [88, 126, 151] d mX8_init (n + 1) 109 L st h Q = G sp sc [88, 126, 151] d mX8_init n 110 L (.inl (-1) :: st) h Q) ∧
  (∀ (n d : Nat) (L : List (Option iV)) (r : List iV) (v : Int) (j : Int) (m : Nat) (h : iH) (Q : Option iV → iH → Prop), G sp sc [88, 126, 151] d mX8_init (n + 1) 110 L (.inl v :: .inl j :: .inr (.inr (m + 2)) :: r) h Q = (match h.1[m]? with | some (.inr (.inl (0, xs))) => inA j xs.length = true ∧ G sp sc [88, 126, 151] d mX8_init n 111 L r (h.1.set m (.inr (.inl (0, xs.set j.toNat v))), h.2) Q | _ => False)) ∧
  (∀ (n d : Nat) (L : List (Option iV)) (st : List iV) (h : iH) (Q : Option iV → iH → Prop), G sp sc [88, 126, 151] d mX8_init (n + 1) 111 L st h Q = (match ld L 0 with | some (.inr (.inr (r + 1))) => G sp sc [88, 126, 151] d mX8_init n 112 L (.inr (.inr (r + 1)) :: st) h Q | _ => False)) ∧
  (∀ (n d : Nat) (L : List (Option iV)) (r : List iV) (m : Nat) (h : iH) (Q : Option iV → iH → Prop), G sp sc [88, 126, 151] d mX8_init (n + 1) 112 L (.inr (.inr (m + 2)) :: r) h Q = (match h.1[m]? with | some (.inl (ci, fs)) => (match lkF 8 24 ci with | some k => (match fs[k]? with | some v => G sp sc [88, 126, 151] d mX8_init n 115 L (v :: r) h Q | none => False) | none => False) | _ => False)) ∧
  (∀ (n d : Nat) (L : List (Option iV)) (st : List iV) (h : iH) (Q : Option iV → iH → Prop), G sp sc [88, 126, 151] d mX8_init (n + 1) 115 L st h Q = (match ld L 2 with | some (.inl x) => G sp sc [88, 126, 151] d mX8_init n 116 L (.inl x :: st) h Q | _ => False)) ∧
  (∀ (n d : Nat) (L : List (Option iV)) (st : List iV) (h : iH) (Q : Option iV → iH → Prop), G sp sc [88, 126, 151] d mX8_init (n + 1) 116 L st h Q = G sp sc [88, 126, 151] d mX8_init n 117 L (.inl (-1) :: st) h Q) ∧
  (∀ (n d : Nat) (L : List (Option iV)) (r : List iV) (v : Int) (j : Int) (m : Nat) (h : iH) (Q : Option iV → iH → Prop), G sp sc [88, 126, 151] d mX8_init (n + 1) 117 L (.inl v :: .inl j :: .inr (.inr (m + 2)) :: r) h Q = (match h.1[m]? with | some (.inr (.inl (0, xs))) => inA j xs.length = true ∧ G sp sc [88, 126, 151] d mX8_init n 118 L r (h.1.set m (.inr (.inl (0, xs.set j.toNat v))), h.2) Q | _ => False)) ∧
  (∀ (n d : Nat) (L : List (Option iV)) (st : List iV) (h : iH) (Q : Option iV → iH → Prop), G sp sc [88, 126, 151] d mX8_init (n + 1) 118 L st h Q = (match ld L 2 with | some (.inl x) => (match st1 L 2 (.inl (x + 1)) with | some L' => G sp sc [88, 126, 151] d mX8_init n 121 L' st h Q | none => False) | _ => False)) ∧
  (∀ (n d : Nat) (L : List (Option iV)) (st : List iV) (h : iH) (Q : Option iV → iH → Prop), G sp sc [88, 126, 151] d mX8_init (n + 1) 121 L st h Q = Run sp sc d mX8_init 88 L st h Q) ∧
  (∀ (n d : Nat) (L : List (Option iV)) (st : List iV) (h : iH) (Q : Option iV → iH → Prop), G sp sc [88, 126, 151] d mX8_init (n + 1) 124 L st h Q = G sp sc [88, 126, 151] d mX8_init n 125 L (.inl 0 :: st) h Q) ∧
  (∀ (n d : Nat) (L : List (Option iV)) (r : List iV) (x : Int) (h : iH) (Q : Option iV → iH → Prop), G sp sc [88, 126, 151] d mX8_init (n + 1) 125 L (.inl x :: r) h Q = (match st1 L 2 (.inl x) with | some L' => Run sp sc d mX8_init 126 L' r h Q | none => False)) ∧
  (∀ (n d : Nat) (L : List (Option iV)) (st : List iV) (h : iH) (Q : Option iV → iH → Prop), G sp sc [88, 126, 151] d mX8_init (n + 1) 126 L st h Q = (match ld L 2 with | some (.inl x) => G sp sc [88, 126, 151] d mX8_init n 127 L (.inl x :: st) h Q | _ => False)) ∧
  (∀ (n d : Nat) (L : List (Option iV)) (st : List iV) (h : iH) (Q : Option iV → iH → Prop), G sp sc [88, 126, 151] d mX8_init (n + 1) 127 L st h Q = (match ld L 0 with | some (.inr (.inr (r + 1))) => G sp sc [88, 126, 151] d mX8_init n 128 L (.inr (.inr (r + 1)) :: st) h Q | _ => False)) ∧
  (∀ (n d : Nat) (L : List (Option iV)) (r : List iV) (m : Nat) (h : iH) (Q : Option iV → iH → Prop), G sp sc [88, 126, 151] d mX8_init (n + 1) 128 L (.inr (.inr (m + 2)) :: r) h Q = (match h.1[m]? with | some (.inl (ci, fs)) => (match lkF 8 27 ci with | some k => (match fs[k]? with | some v => G sp sc [88, 126, 151] d mX8_init n 131 L (v :: r) h Q | none => False) | none => False) | _ => False)) ∧
  (∀ (n d : Nat) (L : List (Option iV)) (r : List iV) (m : Nat) (h : iH) (Q : Option iV → iH → Prop), G sp sc [88, 126, 151] d mX8_init (n + 1) 131 L (.inr (.inr (m + 2)) :: r) h Q = (match h.1[m]? with | some (.inr (.inl (t, xs))) => t < 6 ∧ G sp sc [88, 126, 151] d mX8_init n 132 L (.inl (xs.length : Int) :: r) h Q | some (.inr (.inr (t, rs))) => t < 6 ∧ G sp sc [88, 126, 151] d mX8_init n 132 L (.inl (rs.length : Int) :: r) h Q | _ => False)) ∧
  (∀ (n d : Nat) (L : List (Option iV)) (a : Int) (b : Int) (r : List iV) (h : iH) (Q : Option iV → iH → Prop), G sp sc [88, 126, 151] d mX8_init (n + 1) 132 L (.inl b :: .inl a :: r) h Q = ((inI a = true ∧ inI b = true) ∧ (b ≤ a → G sp sc [88, 126, 151] d mX8_init n 149 L r h Q) ∧ (¬ (b ≤ a) → G sp sc [88, 126, 151] d mX8_init n 135 L r h Q))) ∧
  (∀ (n d : Nat) (L : List (Option iV)) (st : List iV) (h : iH) (Q : Option iV → iH → Prop), G sp sc [88, 126, 151] d mX8_init (n + 1) 135 L st h Q = (match ld L 0 with | some (.inr (.inr (r + 1))) => G sp sc [88, 126, 151] d mX8_init n 136 L (.inr (.inr (r + 1)) :: st) h Q | _ => False)) ∧
  (∀ (n d : Nat) (L : List (Option iV)) (r : List iV) (m : Nat) (h : iH) (Q : Option iV → iH → Prop), G sp sc [88, 126, 151] d mX8_init (n + 1) 136 L (.inr (.inr (m + 2)) :: r) h Q = (match h.1[m]? with | some (.inl (ci, fs)) => (match lkF 8 27 ci with | some k => (match fs[k]? with | some v => G sp sc [88, 126, 151] d mX8_init n 139 L (v :: r) h Q | none => False) | none => False) | _ => False)) ∧
  (∀ (n d : Nat) (L : List (Option iV)) (st : List iV) (h : iH) (Q : Option iV → iH → Prop), G sp sc [88, 126, 151] d mX8_init (n + 1) 139 L st h Q = (match ld L 2 with | some (.inl x) => G sp sc [88, 126, 151] d mX8_init n 140 L (.inl x :: st) h Q | _ => False)) ∧
  (∀ (n d : Nat) (L : List (Option iV)) (st : List iV) (h : iH) (Q : Option iV → iH → Prop), G sp sc [88, 126, 151] d mX8_init (n + 1) 140 L st h Q = ((-128 ≤ (10 : Int) ∧ (10 : Int) < 128) ∧ G sp sc [88, 126, 151] d mX8_init n 142 L (.inl 10 :: st) h Q)) ∧
  (∀ (n d : Nat) (L : List (Option iV)) (r : List iV) (v : Int) (j : Int) (m : Nat) (h : iH) (Q : Option iV → iH → Prop), G sp sc [88, 126, 151] d mX8_init (n + 1) 142 L (.inl v :: .inl j :: .inr (.inr (m + 2)) :: r) h Q = (match h.1[m]? with | some (.inr (.inl (0, xs))) => inA j xs.length = true ∧ G sp sc [88, 126, 151] d mX8_init n 143 L r (h.1.set m (.inr (.inl (0, xs.set j.toNat v))), h.2) Q | _ => False)) ∧
  (∀ (n d : Nat) (L : List (Option iV)) (st : List iV) (h : iH) (Q : Option iV → iH → Prop), G sp sc [88, 126, 151] d mX8_init (n + 1) 143 L st h Q = (match ld L 2 with | some (.inl x) => (match st1 L 2 (.inl (x + 1)) with | some L' => G sp sc [88, 126, 151] d mX8_init n 146 L' st h Q | none => False) | _ => False)) ∧
  (∀ (n d : Nat) (L : List (Option iV)) (st : List iV) (h : iH) (Q : Option iV → iH → Prop), G sp sc [88, 126, 151] d mX8_init (n + 1) 146 L st h Q = Run sp sc d mX8_init 126 L st h Q) ∧
  (∀ (n d : Nat) (L : List (Option iV)) (st : List iV) (h : iH) (Q : Option iV → iH → Prop), G sp sc [88, 126, 151] d mX8_init (n + 1) 149 L st h Q = G sp sc [88, 126, 151] d mX8_init n 150 L (.inl 0 :: st) h Q) ∧
  (∀ (n d : Nat) (L : List (Option iV)) (r : List iV) (x : Int) (h : iH) (Q : Option iV → iH → Prop), G sp sc [88, 126, 151] d mX8_init (n + 1) 150 L (.inl x :: r) h Q = (match st1 L 2 (.inl x) with | some L' => Run sp sc d mX8_init 151 L' r h Q | none => False)) ∧
  (∀ (n d : Nat) (L : List (Option iV)) (st : List iV) (h : iH) (Q : Option iV → iH → Prop), G sp sc [88, 126, 151] d mX8_init (n + 1) 151 L st h Q = (match ld L 2 with | some (.inl x) => G sp sc [88, 126, 151] d mX8_init n 152 L (.inl x :: st) h Q | _ => False)) ∧
  (∀ (n d : Nat) (L : List (Option iV)) (st : List iV) (h : iH) (Q : Option iV → iH → Prop), G sp sc [88, 126, 151] d mX8_init (n + 1) 152 L st h Q = G sp sc [88, 126, 151] d mX8_init n 153 L (.inl 5 :: st) h Q) ∧
  (∀ (n d : Nat) (L : List (Option iV)) (a : Int) (b : Int) (r : List iV) (h : iH) (Q : Option iV → iH → Prop), G sp sc [88, 126, 151] d mX8_init (n + 1) 153 L (.inl b :: .inl a :: r) h Q = ((inI a = true ∧ inI b = true) ∧ (b ≤ a → G sp sc [88, 126, 151] d mX8_init n 169 L r h Q) ∧ (¬ (b ≤ a) → G sp sc [88, 126, 151] d mX8_init n 156 L r h Q))) ∧
  (∀ (n d : Nat) (L : List (Option iV)) (st : List iV) (h : iH) (Q : Option iV → iH → Prop), G sp sc [88, 126, 151] d mX8_init (n + 1) 156 L st h Q = (match ld L 0 with | some (.inr (.inr (r + 1))) => G sp sc [88, 126, 151] d mX8_init n 157 L (.inr (.inr (r + 1)) :: st) h Q | _ => False)) ∧
  (∀ (n d : Nat) (L : List (Option iV)) (r : List iV) (m : Nat) (h : iH) (Q : Option iV → iH → Prop), G sp sc [88, 126, 151] d mX8_init (n + 1) 157 L (.inr (.inr (m + 2)) :: r) h Q = (match h.1[m]? with | some (.inl (ci, fs)) => (match lkF 8 42 ci with | some k => (match fs[k]? with | some v => G sp sc [88, 126, 151] d mX8_init n 160 L (v :: r) h Q | none => False) | none => False) | _ => False)) ∧
  (∀ (n d : Nat) (L : List (Option iV)) (st : List iV) (h : iH) (Q : Option iV → iH → Prop), G sp sc [88, 126, 151] d mX8_init (n + 1) 160 L st h Q = (match ld L 2 with | some (.inl x) => G sp sc [88, 126, 151] d mX8_init n 161 L (.inl x :: st) h Q | _ => False)) ∧
  (∀ (n d : Nat) (L : List (Option iV)) (st : List iV) (h : iH) (Q : Option iV → iH → Prop), G sp sc [88, 126, 151] d mX8_init (n + 1) 161 L st h Q = G sp sc [88, 126, 151] d mX8_init n 162 L (.inl 1 :: st) h Q) ∧
  (∀ (n d : Nat) (L : List (Option iV)) (r : List iV) (v : Int) (j : Int) (m : Nat) (h : iH) (Q : Option iV → iH → Prop), G sp sc [88, 126, 151] d mX8_init (n + 1) 162 L (.inl v :: .inl j :: .inr (.inr (m + 2)) :: r) h Q = (match h.1[m]? with | some (.inr (.inl (0, xs))) => inA j xs.length = true ∧ G sp sc [88, 126, 151] d mX8_init n 163 L r (h.1.set m (.inr (.inl (0, xs.set j.toNat v))), h.2) Q | _ => False)) ∧
  (∀ (n d : Nat) (L : List (Option iV)) (st : List iV) (h : iH) (Q : Option iV → iH → Prop), G sp sc [88, 126, 151] d mX8_init (n + 1) 163 L st h Q = (match ld L 2 with | some (.inl x) => (match st1 L 2 (.inl (x + 1)) with | some L' => G sp sc [88, 126, 151] d mX8_init n 166 L' st h Q | none => False) | _ => False)) ∧
  (∀ (n d : Nat) (L : List (Option iV)) (st : List iV) (h : iH) (Q : Option iV → iH → Prop), G sp sc [88, 126, 151] d mX8_init (n + 1) 166 L st h Q = Run sp sc d mX8_init 151 L st h Q) ∧
  (∀ (n d : Nat) (L : List (Option iV))  (h : iH) (Q : Option iV → iH → Prop), G sp sc [88, 126, 151] d mX8_init (n + 1) 169 L [] h Q = Q none h) ∧
  lkF 8 17 8 = some 1 ∧
  lkF 8 21 8 = some 2 ∧
  lkF 8 24 8 = some 3 ∧
  lkF 8 27 8 = some 4 ∧
  lkF 8 30 8 = some 6 ∧
  lkF 8 33 8 = some 7 ∧
  lkF 8 36 8 = some 8 ∧
  lkF 8 39 8 = some 9 ∧
  lkF 8 42 8 = some 10 ∧
  lkF 8 45 8 = some 11 ∧
  lkF 8 9 8 = some 0 ∧
  pOK 8 true 8 0 = true ∧
  pOK 8 true 8 1 = true ∧
  pOK 8 true 8 10 = true ∧
  pOK 8 true 8 11 = true ∧
  pOK 8 true 8 2 = true ∧
  pOK 8 true 8 3 = true ∧
  pOK 8 true 8 4 = true ∧
  pOK 8 true 8 6 = true ∧
  pOK 8 true 8 7 = true ∧
  pOK 8 true 8 8 = true ∧
  pOK 8 true 8 9 = true := ⟨by intros; exact G_at (by decide +kernel : fetch mX8_init 0 = some (.aload_n 0)),
  by intros; exact G_obj (by decide +kernel : fetch mX8_init 1 = some (.invokespecial 3)) (by decide +kernel),
  by intros; exact G_at (by decide +kernel : fetch mX8_init 4 = some (.aload_n 0)),
  by intros; exact G_at (by decide +kernel : fetch mX8_init 5 = some (.iconst 2)),
  by intros; exact G_ownW (by decide +kernel : fetch mX8_init 8 = some (.putfield 9)) (by decide +kernel) (by decide +kernel),
  by intros; exact G_at (by decide +kernel : fetch mX8_init 11 = some (.aload_n 0)),
  by intros; exact G_at (by decide +kernel : fetch mX8_init 12 = some (.bipush 10)),
  by intros; exact G_ownW (by decide +kernel : fetch mX8_init 17 = some (.putfield 17)) (by decide +kernel) (by decide +kernel),
  by intros; exact G_at (by decide +kernel : fetch mX8_init 20 = some (.aload_n 0)),
  by intros; exact G_at (by decide +kernel : fetch mX8_init 21 = some (.bipush 10)),
  by intros; exact G_ownW (by decide +kernel : fetch mX8_init 25 = some (.putfield 21)) (by decide +kernel) (by decide +kernel),
  by intros; exact G_at (by decide +kernel : fetch mX8_init 28 = some (.aload_n 0)),
  by intros; exact G_at (by decide +kernel : fetch mX8_init 29 = some (.bipush 10)),
  by intros; exact G_ownW (by decide +kernel : fetch mX8_init 33 = some (.putfield 24)) (by decide +kernel) (by decide +kernel),
  by intros; exact G_at (by decide +kernel : fetch mX8_init 36 = some (.aload_n 0)),
  by intros; exact G_at (by decide +kernel : fetch mX8_init 37 = some (.bipush 50)),
  by intros; exact G_ownW (by decide +kernel : fetch mX8_init 41 = some (.putfield 27)) (by decide +kernel) (by decide +kernel),
  by intros; exact G_at (by decide +kernel : fetch mX8_init 44 = some (.aload_n 0)),
  by intros; exact G_at (by decide +kernel : fetch mX8_init 45 = some (.iconst 4)),
  by intros; exact G_ownW (by decide +kernel : fetch mX8_init 48 = some (.putfield 30)) (by decide +kernel) (by decide +kernel),
  by intros; exact G_at (by decide +kernel : fetch mX8_init 51 = some (.aload_n 0)),
  by intros; exact G_at (by decide +kernel : fetch mX8_init 52 = some (.iconst 4)),
  by intros; exact G_ownW (by decide +kernel : fetch mX8_init 55 = some (.putfield 33)) (by decide +kernel) (by decide +kernel),
  by intros; exact G_at (by decide +kernel : fetch mX8_init 58 = some (.aload_n 0)),
  by intros; exact G_at (by decide +kernel : fetch mX8_init 59 = some (.iconst 4)),
  by intros; exact G_ownW (by decide +kernel : fetch mX8_init 62 = some (.putfield 36)) (by decide +kernel) (by decide +kernel),
  by intros; exact G_at (by decide +kernel : fetch mX8_init 65 = some (.aload_n 0)),
  by intros; exact G_at (by decide +kernel : fetch mX8_init 66 = some (.iconst 4)),
  by intros; exact G_ownW (by decide +kernel : fetch mX8_init 69 = some (.putfield 39)) (by decide +kernel) (by decide +kernel),
  by intros; exact G_at (by decide +kernel : fetch mX8_init 72 = some (.aload_n 0)),
  by intros; exact G_at (by decide +kernel : fetch mX8_init 73 = some (.bipush 6)),
  by intros; exact G_ownW (by decide +kernel : fetch mX8_init 77 = some (.putfield 42)) (by decide +kernel) (by decide +kernel),
  by intros; exact G_at (by decide +kernel : fetch mX8_init 80 = some (.aload_n 0)),
  by intros; exact G_at (by decide +kernel : fetch mX8_init 81 = some (.bipush 60)),
  by intros; exact G_ownW (by decide +kernel : fetch mX8_init 83 = some (.putfield 45)) (by decide +kernel) (by decide +kernel),
  by intros; exact G_at (by decide +kernel : fetch mX8_init 86 = some (.iconst 0)),
  by intros; exact G_at (by decide +kernel : fetch mX8_init 87 = some (.istore_n 2)),
  by intros; exact G_at (by decide +kernel : fetch mX8_init 88 = some (.iload_n 2)),
  by intros; exact G_at (by decide +kernel : fetch mX8_init 89 = some (.aload_n 0)),
  by intros; exact G_own (by decide +kernel : fetch mX8_init 90 = some (.getfield 17)) (by decide +kernel),
  by intros; exact G_at (by decide +kernel : fetch mX8_init 93 = some (.arraylength)),
  by intros; exact G_at (by decide +kernel : fetch mX8_init 94 = some (.if_icmp .ge 30)),
  by intros; exact G_at (by decide +kernel : fetch mX8_init 97 = some (.aload_n 0)),
  by intros; exact G_own (by decide +kernel : fetch mX8_init 98 = some (.getfield 17)) (by decide +kernel),
  by intros; exact G_at (by decide +kernel : fetch mX8_init 101 = some (.iload_n 2)),
  by intros; exact G_at (by decide +kernel : fetch mX8_init 102 = some (.aload_n 1)),
  by intros; exact G_at (by decide +kernel : fetch mX8_init 103 = some (.aastore)),
  by intros; exact G_at (by decide +kernel : fetch mX8_init 104 = some (.aload_n 0)),
  by intros; exact G_own (by decide +kernel : fetch mX8_init 105 = some (.getfield 21)) (by decide +kernel),
  by intros; exact G_at (by decide +kernel : fetch mX8_init 108 = some (.iload_n 2)),
  by intros; exact G_at (by decide +kernel : fetch mX8_init 109 = some (.iconst (-1))),
  by intros; exact G_at (by decide +kernel : fetch mX8_init 110 = some (.iastore)),
  by intros; exact G_at (by decide +kernel : fetch mX8_init 111 = some (.aload_n 0)),
  by intros; exact G_own (by decide +kernel : fetch mX8_init 112 = some (.getfield 24)) (by decide +kernel),
  by intros; exact G_at (by decide +kernel : fetch mX8_init 115 = some (.iload_n 2)),
  by intros; exact G_at (by decide +kernel : fetch mX8_init 116 = some (.iconst (-1))),
  by intros; exact G_at (by decide +kernel : fetch mX8_init 117 = some (.iastore)),
  by intros; exact G_at (by decide +kernel : fetch mX8_init 118 = some (.iinc 2 1)),
  by intros; exact G_at (by decide +kernel : fetch mX8_init 121 = some (.goto (-33))),
  by intros; exact G_at (by decide +kernel : fetch mX8_init 124 = some (.iconst 0)),
  by intros; exact G_at (by decide +kernel : fetch mX8_init 125 = some (.istore_n 2)),
  by intros; exact G_at (by decide +kernel : fetch mX8_init 126 = some (.iload_n 2)),
  by intros; exact G_at (by decide +kernel : fetch mX8_init 127 = some (.aload_n 0)),
  by intros; exact G_own (by decide +kernel : fetch mX8_init 128 = some (.getfield 27)) (by decide +kernel),
  by intros; exact G_at (by decide +kernel : fetch mX8_init 131 = some (.arraylength)),
  by intros; exact G_at (by decide +kernel : fetch mX8_init 132 = some (.if_icmp .ge 17)),
  by intros; exact G_at (by decide +kernel : fetch mX8_init 135 = some (.aload_n 0)),
  by intros; exact G_own (by decide +kernel : fetch mX8_init 136 = some (.getfield 27)) (by decide +kernel),
  by intros; exact G_at (by decide +kernel : fetch mX8_init 139 = some (.iload_n 2)),
  by intros; exact G_at (by decide +kernel : fetch mX8_init 140 = some (.bipush 10)),
  by intros; exact G_at (by decide +kernel : fetch mX8_init 142 = some (.iastore)),
  by intros; exact G_at (by decide +kernel : fetch mX8_init 143 = some (.iinc 2 1)),
  by intros; exact G_at (by decide +kernel : fetch mX8_init 146 = some (.goto (-20))),
  by intros; exact G_at (by decide +kernel : fetch mX8_init 149 = some (.iconst 0)),
  by intros; exact G_at (by decide +kernel : fetch mX8_init 150 = some (.istore_n 2)),
  by intros; exact G_at (by decide +kernel : fetch mX8_init 151 = some (.iload_n 2)),
  by intros; exact G_at (by decide +kernel : fetch mX8_init 152 = some (.iconst 5)),
  by intros; exact G_at (by decide +kernel : fetch mX8_init 153 = some (.if_icmp .ge 16)),
  by intros; exact G_at (by decide +kernel : fetch mX8_init 156 = some (.aload_n 0)),
  by intros; exact G_own (by decide +kernel : fetch mX8_init 157 = some (.getfield 42)) (by decide +kernel),
  by intros; exact G_at (by decide +kernel : fetch mX8_init 160 = some (.iload_n 2)),
  by intros; exact G_at (by decide +kernel : fetch mX8_init 161 = some (.iconst 1)),
  by intros; exact G_at (by decide +kernel : fetch mX8_init 162 = some (.iastore)),
  by intros; exact G_at (by decide +kernel : fetch mX8_init 163 = some (.iinc 2 1)),
  by intros; exact G_at (by decide +kernel : fetch mX8_init 166 = some (.goto (-15))),
  by intros; exact G_retv (by decide +kernel : fetch mX8_init 169 = some (.return_)) (by decide +kernel),
  by decide +kernel,
  by decide +kernel,
  by decide +kernel,
  by decide +kernel,
  by decide +kernel,
  by decide +kernel,
  by decide +kernel,
  by decide +kernel,
  by decide +kernel,
  by decide +kernel,
  by decide +kernel,
  by decide +kernel,
  by decide +kernel,
  by decide +kernel,
  by decide +kernel,
  by decide +kernel,
  by decide +kernel,
  by decide +kernel,
  by decide +kernel,
  by decide +kernel,
  by decide +kernel,
  by decide +kernel⟩
theorem gX8_place : (∀ (n d : Nat) (L : List (Option iV)) (st : List iV) (h : iH) (Q : Option iV → iH → Prop), G sp sc [] d mX8_place (n + 1) 0 L st h Q = (match ld L 0 with | some (.inl x) => G sp sc [] d mX8_place n 1 L (.inl x :: st) h Q | _ => False)) ∧
  (∀ (n d : Nat) (L : List (Option iV)) (st : List iV) (h : iH) (Q : Option iV → iH → Prop), G sp sc [] d mX8_place (n + 1) 1 L st h Q = G sp sc [] d mX8_place n 2 L (.inl 5 :: st) h Q) ∧
  (∀ (n d : Nat) (L : List (Option iV)) (a : Int) (b : Int) (r : List iV) (h : iH) (Q : Option iV → iH → Prop), G sp sc [] d mX8_place (n + 1) 2 L (.inl b :: .inl a :: r) h Q = G sp sc [] d mX8_place n 3 L (.inl (a * b) :: r) h Q) ∧
  (∀ (n d : Nat) (L : List (Option iV)) (st : List iV) (h : iH) (Q : Option iV → iH → Prop), G sp sc [] d mX8_place (n + 1) 3 L st h Q = (match ld L 1 with | some (.inl x) => G sp sc [] d mX8_place n 4 L (.inl x :: st) h Q | _ => False)) ∧
  (∀ (n d : Nat) (L : List (Option iV)) (a : Int) (b : Int) (r : List iV) (h : iH) (Q : Option iV → iH → Prop), G sp sc [] d mX8_place (n + 1) 4 L (.inl b :: .inl a :: r) h Q = G sp sc [] d mX8_place n 5 L (.inl (a + b) :: r) h Q) ∧
  (∀ (n d : Nat) (L : List (Option iV)) (a : Int) (h : iH) (Q : Option iV → iH → Prop), G sp sc [] d mX8_place (n + 1) 5 L [.inl a] h Q = Q (some (.inl a)) h) := ⟨by intros; exact G_at (by decide +kernel : fetch mX8_place 0 = some (.iload_n 0)),
  by intros; exact G_at (by decide +kernel : fetch mX8_place 1 = some (.iconst 5)),
  by intros; exact G_at (by decide +kernel : fetch mX8_place 2 = some (.imul)),
  by intros; exact G_at (by decide +kernel : fetch mX8_place 3 = some (.iload_n 1)),
  by intros; exact G_at (by decide +kernel : fetch mX8_place 4 = some (.iadd)),
  by intros; exact G_reti (by decide +kernel : fetch mX8_place 5 = some (.ireturn)) (by decide +kernel)⟩
theorem gX8_hasOne : (∀ (n d : Nat) (L : List (Option iV)) (st : List iV) (h : iH) (Q : Option iV → iH → Prop), G sp sc [] d mX8_hasOne (n + 1) 0 L st h Q = (match ld L 1 with | some (.inl x) => G sp sc [] d mX8_hasOne n 1 L (.inl x :: st) h Q | _ => False)) ∧
  (∀ (n d : Nat) (L : List (Option iV)) (r : List iV) (z0 : iV) (h : iH) (Q : Option iV → iH → Prop), G sp sc [] (d + 1) mX8_hasOne (n + 1) 1 L (z0 :: r) h Q = (cs r ≤ 8 ∧ Call sp sc d mX11_isSide [z0] h (fun q h1 => GC sp sc [] (d + 1) mX8_hasOne n 4 L q r h h1 Q))) ∧
  (∀ (n d : Nat) (L : List (Option iV)) (a : Int) (r : List iV) (h : iH) (Q : Option iV → iH → Prop), G sp sc [] d mX8_hasOne (n + 1) 4 L (.inl a :: r) h Q = (inI a = true ∧ (a = 0 → G sp sc [] d mX8_hasOne n 25 L r h Q) ∧ (¬ (a = 0) → G sp sc [] d mX8_hasOne n 7 L r h Q))) ∧
  (∀ (n d : Nat) (L : List (Option iV)) (st : List iV) (h : iH) (Q : Option iV → iH → Prop), G sp sc [] d mX8_hasOne (n + 1) 7 L st h Q = (match ld L 2 with | some (.inl x) => G sp sc [] d mX8_hasOne n 8 L (.inl x :: st) h Q | _ => False)) ∧
  (∀ (n d : Nat) (L : List (Option iV)) (a : Int) (r : List iV) (h : iH) (Q : Option iV → iH → Prop), G sp sc [] d mX8_hasOne (n + 1) 8 L (.inl a :: r) h Q = (inI a = true ∧ (a < 0 → G sp sc [] d mX8_hasOne n 25 L r h Q) ∧ (¬ (a < 0) → G sp sc [] d mX8_hasOne n 11 L r h Q))) ∧
  (∀ (n d : Nat) (L : List (Option iV)) (st : List iV) (h : iH) (Q : Option iV → iH → Prop), G sp sc [] d mX8_hasOne (n + 1) 11 L st h Q = (match ld L 2 with | some (.inl x) => G sp sc [] d mX8_hasOne n 12 L (.inl x :: st) h Q | _ => False)) ∧
  (∀ (n d : Nat) (L : List (Option iV)) (st : List iV) (h : iH) (Q : Option iV → iH → Prop), G sp sc [] d mX8_hasOne (n + 1) 12 L st h Q = (match ld L 0 with | some (.inr (.inr (r + 1))) => G sp sc [] d mX8_hasOne n 13 L (.inr (.inr (r + 1)) :: st) h Q | _ => False)) ∧
  (∀ (n d : Nat) (L : List (Option iV)) (r : List iV) (m : Nat) (h : iH) (Q : Option iV → iH → Prop), G sp sc [] d mX8_hasOne (n + 1) 13 L (.inr (.inr (m + 2)) :: r) h Q = (match h.1[m]? with | some (.inl (ci, fs)) => (match lkF 8 9 ci with | some k => (match fs[k]? with | some v => G sp sc [] d mX8_hasOne n 16 L (v :: r) h Q | none => False) | none => False) | _ => False)) ∧
  (∀ (n d : Nat) (L : List (Option iV)) (st : List iV) (h : iH) (Q : Option iV → iH → Prop), G sp sc [] d mX8_hasOne (n + 1) 16 L st h Q = (match ld L 1 with | some (.inl x) => G sp sc [] d mX8_hasOne n 17 L (.inl x :: st) h Q | _ => False)) ∧
  (∀ (n d : Nat) (L : List (Option iV)) (r : List iV) (j : Int) (m : Nat) (h : iH) (Q : Option iV → iH → Prop), G sp sc [] d mX8_hasOne (n + 1) 17 L (.inl j :: .inr (.inr (m + 2)) :: r) h Q = (match h.1[m]? with | some (.inr (.inl (0, xs))) => inA j xs.length = true ∧ G sp sc [] d mX8_hasOne n 18 L (.inl (xs.getD j.toNat 0) :: r) h Q | _ => False)) ∧
  (∀ (n d : Nat) (L : List (Option iV)) (a : Int) (b : Int) (r : List iV) (h : iH) (Q : Option iV → iH → Prop), G sp sc [] d mX8_hasOne (n + 1) 18 L (.inl b :: .inl a :: r) h Q = ((inI a = true ∧ inI b = true) ∧ (b ≤ a → G sp sc [] d mX8_hasOne n 25 L r h Q) ∧ (¬ (b ≤ a) → G sp sc [] d mX8_hasOne n 21 L r h Q))) ∧
  (∀ (n d : Nat) (L : List (Option iV)) (st : List iV) (h : iH) (Q : Option iV → iH → Prop), G sp sc [] d mX8_hasOne (n + 1) 21 L st h Q = G sp sc [] d mX8_hasOne n 22 L (.inl 1 :: st) h Q) ∧
  (∀ (n d : Nat) (L : List (Option iV)) (st : List iV) (h : iH) (Q : Option iV → iH → Prop), G sp sc [] d mX8_hasOne (n + 1) 22 L st h Q = G sp sc [] d mX8_hasOne n 26 L st h Q) ∧
  (∀ (n d : Nat) (L : List (Option iV)) (st : List iV) (h : iH) (Q : Option iV → iH → Prop), G sp sc [] d mX8_hasOne (n + 1) 25 L st h Q = G sp sc [] d mX8_hasOne n 26 L (.inl 0 :: st) h Q) ∧
  (∀ (n d : Nat) (L : List (Option iV)) (a : Int) (h : iH) (Q : Option iV → iH → Prop), G sp sc [] d mX8_hasOne (n + 1) 26 L [.inl a] h Q = ((a = 0 ∨ a = 1) ∧ Q (some (.inl a)) h)) ∧
  lkF 8 9 8 = some 0 := ⟨by intros; exact G_at (by decide +kernel : fetch mX8_hasOne 0 = some (.iload_n 1)),
  by intros; exact G_callS (k := 1) (kd := 1) (by decide +kernel : fetch mX8_hasOne 1 = some (.invokestatic 49)) (by decide +kernel) (by decide +kernel) (by decide +kernel) rfl (by decide),
  by intros; exact G_at (by decide +kernel : fetch mX8_hasOne 4 = some (.ifCond .eq 21)),
  by intros; exact G_at (by decide +kernel : fetch mX8_hasOne 7 = some (.iload_n 2)),
  by intros; exact G_at (by decide +kernel : fetch mX8_hasOne 8 = some (.ifCond .lt 17)),
  by intros; exact G_at (by decide +kernel : fetch mX8_hasOne 11 = some (.iload_n 2)),
  by intros; exact G_at (by decide +kernel : fetch mX8_hasOne 12 = some (.aload_n 0)),
  by intros; exact G_own (by decide +kernel : fetch mX8_hasOne 13 = some (.getfield 9)) (by decide +kernel),
  by intros; exact G_at (by decide +kernel : fetch mX8_hasOne 16 = some (.iload_n 1)),
  by intros; exact G_at (by decide +kernel : fetch mX8_hasOne 17 = some (.iaload)),
  by intros; exact G_at (by decide +kernel : fetch mX8_hasOne 18 = some (.if_icmp .ge 7)),
  by intros; exact G_at (by decide +kernel : fetch mX8_hasOne 21 = some (.iconst 1)),
  by intros; exact G_at (by decide +kernel : fetch mX8_hasOne 22 = some (.goto 4)),
  by intros; exact G_at (by decide +kernel : fetch mX8_hasOne 25 = some (.iconst 0)),
  by intros; exact G_retz (by decide +kernel : fetch mX8_hasOne 26 = some (.ireturn)) (by decide +kernel),
  by decide +kernel⟩
theorem gX8_hasTwo : (∀ (n d : Nat) (L : List (Option iV)) (st : List iV) (h : iH) (Q : Option iV → iH → Prop), G sp sc [] d mX8_hasTwo (n + 1) 0 L st h Q = (match ld L 0 with | some (.inr (.inr (r + 1))) => G sp sc [] d mX8_hasTwo n 1 L (.inr (.inr (r + 1)) :: st) h Q | _ => False)) ∧
  (∀ (n d : Nat) (L : List (Option iV)) (st : List iV) (h : iH) (Q : Option iV → iH → Prop), G sp sc [] d mX8_hasTwo (n + 1) 1 L st h Q = (match ld L 1 with | some (.inl x) => G sp sc [] d mX8_hasTwo n 2 L (.inl x :: st) h Q | _ => False)) ∧
  (∀ (n d : Nat) (L : List (Option iV)) (st : List iV) (h : iH) (Q : Option iV → iH → Prop), G sp sc [] d mX8_hasTwo (n + 1) 2 L st h Q = (match ld L 2 with | some (.inl x) => G sp sc [] d mX8_hasTwo n 3 L (.inl x :: st) h Q | _ => False)) ∧
  (∀ (n d : Nat) (L : List (Option iV)) (r : List iV) (m : Nat) (z0 : iV) (z1 : iV) (h : iH) (Q : Option iV → iH → Prop), G sp sc [] (d + 1) mX8_hasTwo (n + 1) 3 L (z1 :: z0 :: .inr (.inr (m + 2)) :: r) h Q = (match h.1[m]? with | some (.inl (ci, _)) => (match lkC 8 53 ci with | some (y1, n1, kd) => (n1 = 2 ∧ (kd = 2 ∨ kd = 3 ∨ kd = 8) ∧ cs r ≤ 8) ∧ Call sp sc d y1 [.inr (.inr (m + 2)), z0, z1] h (fun q h1 => GC sp sc [] (d + 1) mX8_hasTwo n 6 L q r h h1 Q) | none => False) | _ => False)) ∧
  (∀ (n d : Nat) (L : List (Option iV)) (a : Int) (r : List iV) (h : iH) (Q : Option iV → iH → Prop), G sp sc [] d mX8_hasTwo (n + 1) 6 L (.inl a :: r) h Q = (inI a = true ∧ (a = 0 → G sp sc [] d mX8_hasTwo n 24 L r h Q) ∧ (¬ (a = 0) → G sp sc [] d mX8_hasTwo n 9 L r h Q))) ∧
  (∀ (n d : Nat) (L : List (Option iV)) (st : List iV) (h : iH) (Q : Option iV → iH → Prop), G sp sc [] d mX8_hasTwo (n + 1) 9 L st h Q = (match ld L 0 with | some (.inr (.inr (r + 1))) => G sp sc [] d mX8_hasTwo n 10 L (.inr (.inr (r + 1)) :: st) h Q | _ => False)) ∧
  (∀ (n d : Nat) (L : List (Option iV)) (st : List iV) (h : iH) (Q : Option iV → iH → Prop), G sp sc [] d mX8_hasTwo (n + 1) 10 L st h Q = G sp sc [] d mX8_hasTwo n 11 L (.inl 1 :: st) h Q) ∧
  (∀ (n d : Nat) (L : List (Option iV)) (st : List iV) (h : iH) (Q : Option iV → iH → Prop), G sp sc [] d mX8_hasTwo (n + 1) 11 L st h Q = (match ld L 1 with | some (.inl x) => G sp sc [] d mX8_hasTwo n 12 L (.inl x :: st) h Q | _ => False)) ∧
  (∀ (n d : Nat) (L : List (Option iV)) (a : Int) (b : Int) (r : List iV) (h : iH) (Q : Option iV → iH → Prop), G sp sc [] d mX8_hasTwo (n + 1) 12 L (.inl b :: .inl a :: r) h Q = G sp sc [] d mX8_hasTwo n 13 L (.inl (a - b) :: r) h Q) ∧
  (∀ (n d : Nat) (L : List (Option iV)) (st : List iV) (h : iH) (Q : Option iV → iH → Prop), G sp sc [] d mX8_hasTwo (n + 1) 13 L st h Q = (match ld L 3 with | some (.inl x) => G sp sc [] d mX8_hasTwo n 14 L (.inl x :: st) h Q | _ => False)) ∧
  (∀ (n d : Nat) (L : List (Option iV)) (r : List iV) (m : Nat) (z0 : iV) (z1 : iV) (h : iH) (Q : Option iV → iH → Prop), G sp sc [] (d + 1) mX8_hasTwo (n + 1) 14 L (z1 :: z0 :: .inr (.inr (m + 2)) :: r) h Q = (match h.1[m]? with | some (.inl (ci, _)) => (match lkC 8 53 ci with | some (y1, n1, kd) => (n1 = 2 ∧ (kd = 2 ∨ kd = 3 ∨ kd = 8) ∧ cs r ≤ 8) ∧ Call sp sc d y1 [.inr (.inr (m + 2)), z0, z1] h (fun q h1 => GC sp sc [] (d + 1) mX8_hasTwo n 17 L q r h h1 Q) | none => False) | _ => False)) ∧
  (∀ (n d : Nat) (L : List (Option iV)) (a : Int) (r : List iV) (h : iH) (Q : Option iV → iH → Prop), G sp sc [] d mX8_hasTwo (n + 1) 17 L (.inl a :: r) h Q = (inI a = true ∧ (a = 0 → G sp sc [] d mX8_hasTwo n 24 L r h Q) ∧ (¬ (a = 0) → G sp sc [] d mX8_hasTwo n 20 L r h Q))) ∧
  (∀ (n d : Nat) (L : List (Option iV)) (st : List iV) (h : iH) (Q : Option iV → iH → Prop), G sp sc [] d mX8_hasTwo (n + 1) 20 L st h Q = G sp sc [] d mX8_hasTwo n 21 L (.inl 1 :: st) h Q) ∧
  (∀ (n d : Nat) (L : List (Option iV)) (st : List iV) (h : iH) (Q : Option iV → iH → Prop), G sp sc [] d mX8_hasTwo (n + 1) 21 L st h Q = G sp sc [] d mX8_hasTwo n 25 L st h Q) ∧
  (∀ (n d : Nat) (L : List (Option iV)) (st : List iV) (h : iH) (Q : Option iV → iH → Prop), G sp sc [] d mX8_hasTwo (n + 1) 24 L st h Q = G sp sc [] d mX8_hasTwo n 25 L (.inl 0 :: st) h Q) ∧
  (∀ (n d : Nat) (L : List (Option iV)) (a : Int) (h : iH) (Q : Option iV → iH → Prop), G sp sc [] d mX8_hasTwo (n + 1) 25 L [.inl a] h Q = ((a = 0 ∨ a = 1) ∧ Q (some (.inl a)) h)) ∧
  lkC 8 53 8 = some (mX8_hasOne, 2, 2) := ⟨by intros; exact G_at (by decide +kernel : fetch mX8_hasTwo 0 = some (.aload_n 0)),
  by intros; exact G_at (by decide +kernel : fetch mX8_hasTwo 1 = some (.iload_n 1)),
  by intros; exact G_at (by decide +kernel : fetch mX8_hasTwo 2 = some (.iload_n 2)),
  by intros; exact G_callV (by decide +kernel : fetch mX8_hasTwo 3 = some (.invokevirtual 53)) (by decide +kernel) (by decide +kernel) rfl,
  by intros; exact G_at (by decide +kernel : fetch mX8_hasTwo 6 = some (.ifCond .eq 18)),
  by intros; exact G_at (by decide +kernel : fetch mX8_hasTwo 9 = some (.aload_n 0)),
  by intros; exact G_at (by decide +kernel : fetch mX8_hasTwo 10 = some (.iconst 1)),
  by intros; exact G_at (by decide +kernel : fetch mX8_hasTwo 11 = some (.iload_n 1)),
  by intros; exact G_at (by decide +kernel : fetch mX8_hasTwo 12 = some (.isub)),
  by intros; exact G_at (by decide +kernel : fetch mX8_hasTwo 13 = some (.iload_n 3)),
  by intros; exact G_callV (by decide +kernel : fetch mX8_hasTwo 14 = some (.invokevirtual 53)) (by decide +kernel) (by decide +kernel) rfl,
  by intros; exact G_at (by decide +kernel : fetch mX8_hasTwo 17 = some (.ifCond .eq 7)),
  by intros; exact G_at (by decide +kernel : fetch mX8_hasTwo 20 = some (.iconst 1)),
  by intros; exact G_at (by decide +kernel : fetch mX8_hasTwo 21 = some (.goto 4)),
  by intros; exact G_at (by decide +kernel : fetch mX8_hasTwo 24 = some (.iconst 0)),
  by intros; exact G_retz (by decide +kernel : fetch mX8_hasTwo 25 = some (.ireturn)) (by decide +kernel),
  by decide +kernel⟩
theorem gX8_hasCouple : (∀ (n d : Nat) (L : List (Option iV)) (st : List iV) (h : iH) (Q : Option iV → iH → Prop), G sp sc [] d mX8_hasCouple (n + 1) 0 L st h Q = (match ld L 1 with | some (.inl x) => G sp sc [] d mX8_hasCouple n 1 L (.inl x :: st) h Q | _ => False)) ∧
  (∀ (n d : Nat) (L : List (Option iV)) (a : Int) (r : List iV) (h : iH) (Q : Option iV → iH → Prop), G sp sc [] d mX8_hasCouple (n + 1) 1 L (.inl a :: r) h Q = (inI a = true ∧ (a < 0 → G sp sc [] d mX8_hasCouple n 16 L r h Q) ∧ (¬ (a < 0) → G sp sc [] d mX8_hasCouple n 4 L r h Q))) ∧
  (∀ (n d : Nat) (L : List (Option iV)) (st : List iV) (h : iH) (Q : Option iV → iH → Prop), G sp sc [] d mX8_hasCouple (n + 1) 4 L st h Q = (match ld L 1 with | some (.inl x) => G sp sc [] d mX8_hasCouple n 5 L (.inl x :: st) h Q | _ => False)) ∧
  (∀ (n d : Nat) (L : List (Option iV)) (st : List iV) (h : iH) (Q : Option iV → iH → Prop), G sp sc [] d mX8_hasCouple (n + 1) 5 L st h Q = (match ld L 0 with | some (.inr (.inr (r + 1))) => G sp sc [] d mX8_hasCouple n 6 L (.inr (.inr (r + 1)) :: st) h Q | _ => False)) ∧
  (∀ (n d : Nat) (L : List (Option iV)) (r : List iV) (m : Nat) (h : iH) (Q : Option iV → iH → Prop), G sp sc [] d mX8_hasCouple (n + 1) 6 L (.inr (.inr (m + 2)) :: r) h Q = (match h.1[m]? with | some (.inl (ci, fs)) => (match lkF 8 57 ci with | some k => (match fs[k]? with | some v => G sp sc [] d mX8_hasCouple n 9 L (v :: r) h Q | none => False) | none => False) | _ => False)) ∧
  (∀ (n d : Nat) (L : List (Option iV)) (a : Int) (b : Int) (r : List iV) (h : iH) (Q : Option iV → iH → Prop), G sp sc [] d mX8_hasCouple (n + 1) 9 L (.inl b :: .inl a :: r) h Q = ((inI a = true ∧ inI b = true) ∧ (b ≤ a → G sp sc [] d mX8_hasCouple n 16 L r h Q) ∧ (¬ (b ≤ a) → G sp sc [] d mX8_hasCouple n 12 L r h Q))) ∧
  (∀ (n d : Nat) (L : List (Option iV)) (st : List iV) (h : iH) (Q : Option iV → iH → Prop), G sp sc [] d mX8_hasCouple (n + 1) 12 L st h Q = G sp sc [] d mX8_hasCouple n 13 L (.inl 1 :: st) h Q) ∧
  (∀ (n d : Nat) (L : List (Option iV)) (st : List iV) (h : iH) (Q : Option iV → iH → Prop), G sp sc [] d mX8_hasCouple (n + 1) 13 L st h Q = G sp sc [] d mX8_hasCouple n 17 L st h Q) ∧
  (∀ (n d : Nat) (L : List (Option iV)) (st : List iV) (h : iH) (Q : Option iV → iH → Prop), G sp sc [] d mX8_hasCouple (n + 1) 16 L st h Q = G sp sc [] d mX8_hasCouple n 17 L (.inl 0 :: st) h Q) ∧
  (∀ (n d : Nat) (L : List (Option iV)) (a : Int) (h : iH) (Q : Option iV → iH → Prop), G sp sc [] d mX8_hasCouple (n + 1) 17 L [.inl a] h Q = ((a = 0 ∨ a = 1) ∧ Q (some (.inl a)) h)) ∧
  lkF 8 57 8 = some 5 := ⟨by intros; exact G_at (by decide +kernel : fetch mX8_hasCouple 0 = some (.iload_n 1)),
  by intros; exact G_at (by decide +kernel : fetch mX8_hasCouple 1 = some (.ifCond .lt 15)),
  by intros; exact G_at (by decide +kernel : fetch mX8_hasCouple 4 = some (.iload_n 1)),
  by intros; exact G_at (by decide +kernel : fetch mX8_hasCouple 5 = some (.aload_n 0)),
  by intros; exact G_own (by decide +kernel : fetch mX8_hasCouple 6 = some (.getfield 57)) (by decide +kernel),
  by intros; exact G_at (by decide +kernel : fetch mX8_hasCouple 9 = some (.if_icmp .ge 7)),
  by intros; exact G_at (by decide +kernel : fetch mX8_hasCouple 12 = some (.iconst 1)),
  by intros; exact G_at (by decide +kernel : fetch mX8_hasCouple 13 = some (.goto 4)),
  by intros; exact G_at (by decide +kernel : fetch mX8_hasCouple 16 = some (.iconst 0)),
  by intros; exact G_retz (by decide +kernel : fetch mX8_hasCouple 17 = some (.ireturn)) (by decide +kernel),
  by decide +kernel⟩
theorem gX8_goesOn : (∀ (n d : Nat) (L : List (Option iV)) (st : List iV) (h : iH) (Q : Option iV → iH → Prop), G sp sc [] d mX8_goesOn (n + 1) 0 L st h Q = (match ld L 0 with | some (.inr (.inr (r + 1))) => G sp sc [] d mX8_goesOn n 1 L (.inr (.inr (r + 1)) :: st) h Q | _ => False)) ∧
  (∀ (n d : Nat) (L : List (Option iV)) (r : List iV) (m : Nat) (h : iH) (Q : Option iV → iH → Prop), G sp sc [] d mX8_goesOn (n + 1) 1 L (.inr (.inr (m + 2)) :: r) h Q = (match h.1[m]? with | some (.inl (ci, fs)) => (match lkF 8 36 ci with | some k => (match fs[k]? with | some v => G sp sc [] d mX8_goesOn n 4 L (v :: r) h Q | none => False) | none => False) | _ => False)) ∧
  (∀ (n d : Nat) (L : List (Option iV)) (st : List iV) (h : iH) (Q : Option iV → iH → Prop), G sp sc [] d mX8_goesOn (n + 1) 4 L st h Q = (match ld L 1 with | some (.inl x) => G sp sc [] d mX8_goesOn n 5 L (.inl x :: st) h Q | _ => False)) ∧
  (∀ (n d : Nat) (L : List (Option iV)) (r : List iV) (j : Int) (m : Nat) (h : iH) (Q : Option iV → iH → Prop), G sp sc [] d mX8_goesOn (n + 1) 5 L (.inl j :: .inr (.inr (m + 2)) :: r) h Q = (match h.1[m]? with | some (.inr (.inl (0, xs))) => inA j xs.length = true ∧ G sp sc [] d mX8_goesOn n 6 L (.inl (xs.getD j.toNat 0) :: r) h Q | _ => False)) ∧
  (∀ (n d : Nat) (L : List (Option iV)) (a : Int) (r : List iV) (h : iH) (Q : Option iV → iH → Prop), G sp sc [] d mX8_goesOn (n + 1) 6 L (.inl a :: r) h Q = (inI a = true ∧ (¬ a = 0 → G sp sc [] d mX8_goesOn n 13 L r h Q) ∧ (¬ (¬ a = 0) → G sp sc [] d mX8_goesOn n 9 L r h Q))) ∧
  (∀ (n d : Nat) (L : List (Option iV)) (st : List iV) (h : iH) (Q : Option iV → iH → Prop), G sp sc [] d mX8_goesOn (n + 1) 9 L st h Q = G sp sc [] d mX8_goesOn n 10 L (.inl 1 :: st) h Q) ∧
  (∀ (n d : Nat) (L : List (Option iV)) (st : List iV) (h : iH) (Q : Option iV → iH → Prop), G sp sc [] d mX8_goesOn (n + 1) 10 L st h Q = G sp sc [] d mX8_goesOn n 14 L st h Q) ∧
  (∀ (n d : Nat) (L : List (Option iV)) (st : List iV) (h : iH) (Q : Option iV → iH → Prop), G sp sc [] d mX8_goesOn (n + 1) 13 L st h Q = G sp sc [] d mX8_goesOn n 14 L (.inl 0 :: st) h Q) ∧
  (∀ (n d : Nat) (L : List (Option iV)) (a : Int) (h : iH) (Q : Option iV → iH → Prop), G sp sc [] d mX8_goesOn (n + 1) 14 L [.inl a] h Q = ((a = 0 ∨ a = 1) ∧ Q (some (.inl a)) h)) ∧
  lkF 8 36 8 = some 8 := ⟨by intros; exact G_at (by decide +kernel : fetch mX8_goesOn 0 = some (.aload_n 0)),
  by intros; exact G_own (by decide +kernel : fetch mX8_goesOn 1 = some (.getfield 36)) (by decide +kernel),
  by intros; exact G_at (by decide +kernel : fetch mX8_goesOn 4 = some (.iload_n 1)),
  by intros; exact G_at (by decide +kernel : fetch mX8_goesOn 5 = some (.iaload)),
  by intros; exact G_at (by decide +kernel : fetch mX8_goesOn 6 = some (.ifCond .ne 7)),
  by intros; exact G_at (by decide +kernel : fetch mX8_goesOn 9 = some (.iconst 1)),
  by intros; exact G_at (by decide +kernel : fetch mX8_goesOn 10 = some (.goto 4)),
  by intros; exact G_at (by decide +kernel : fetch mX8_goesOn 13 = some (.iconst 0)),
  by intros; exact G_retz (by decide +kernel : fetch mX8_goesOn 14 = some (.ireturn)) (by decide +kernel),
  by decide +kernel⟩
theorem gX8_natureOf : (∀ (n d : Nat) (L : List (Option iV)) (st : List iV) (h : iH) (Q : Option iV → iH → Prop), G sp sc [] d mX8_natureOf (n + 1) 0 L st h Q = (match ld L 0 with | some (.inr (.inr (r + 1))) => G sp sc [] d mX8_natureOf n 1 L (.inr (.inr (r + 1)) :: st) h Q | _ => False)) ∧
  (∀ (n d : Nat) (L : List (Option iV)) (r : List iV) (m : Nat) (h : iH) (Q : Option iV → iH → Prop), G sp sc [] d mX8_natureOf (n + 1) 1 L (.inr (.inr (m + 2)) :: r) h Q = (match h.1[m]? with | some (.inl (ci, fs)) => (match lkF 8 17 ci with | some k => (match fs[k]? with | some v => G sp sc [] d mX8_natureOf n 4 L (v :: r) h Q | none => False) | none => False) | _ => False)) ∧
  (∀ (n d : Nat) (L : List (Option iV)) (st : List iV) (h : iH) (Q : Option iV → iH → Prop), G sp sc [] d mX8_natureOf (n + 1) 4 L st h Q = (match ld L 1 with | some (.inl x) => G sp sc [] d mX8_natureOf n 5 L (.inl x :: st) h Q | _ => False)) ∧
  (∀ (n d : Nat) (L : List (Option iV)) (st : List iV) (h : iH) (Q : Option iV → iH → Prop), G sp sc [] d mX8_natureOf (n + 1) 5 L st h Q = (match ld L 2 with | some (.inl x) => G sp sc [] d mX8_natureOf n 6 L (.inl x :: st) h Q | _ => False)) ∧
  (∀ (n d : Nat) (L : List (Option iV)) (r : List iV) (z0 : iV) (z1 : iV) (h : iH) (Q : Option iV → iH → Prop), G sp sc [] (d + 1) mX8_natureOf (n + 1) 6 L (z1 :: z0 :: r) h Q = (cs r ≤ 8 ∧ Call sp sc d mX8_place [z0, z1] h (fun q h1 => GC sp sc [] (d + 1) mX8_natureOf n 9 L q r h h1 Q))) ∧
  (∀ (n d : Nat) (L : List (Option iV)) (r : List iV) (j : Int) (m : Nat) (h : iH) (Q : Option iV → iH → Prop), G sp sc [] d mX8_natureOf (n + 1) 9 L (.inl j :: .inr (.inr (m + 2)) :: r) h Q = (match h.1[m]? with | some (.inr (.inr (t, rs))) => (inA j rs.length = true ∧ 3 ≤ t ∧ t < 6) ∧ G sp sc [] d mX8_natureOf n 10 L (.inr (.inr (rs.getD j.toNat 0)) :: r) h Q | _ => False)) ∧
  (∀ (n d : Nat) (L : List (Option iV)) (a : Nat) (h : iH) (Q : Option iV → iH → Prop), G sp sc [] d mX8_natureOf (n + 1) 10 L [.inr (.inr a)] h Q = Q (some (.inr (.inr a))) h) ∧
  lkF 8 17 8 = some 1 := ⟨by intros; exact G_at (by decide +kernel : fetch mX8_natureOf 0 = some (.aload_n 0)),
  by intros; exact G_own (by decide +kernel : fetch mX8_natureOf 1 = some (.getfield 17)) (by decide +kernel),
  by intros; exact G_at (by decide +kernel : fetch mX8_natureOf 4 = some (.iload_n 1)),
  by intros; exact G_at (by decide +kernel : fetch mX8_natureOf 5 = some (.iload_n 2)),
  by intros; exact G_callS (k := 2) (kd := 0) (by decide +kernel : fetch mX8_natureOf 6 = some (.invokestatic 60)) (by decide +kernel) (by decide +kernel) (by decide +kernel) rfl (by decide),
  by intros; exact G_at (by decide +kernel : fetch mX8_natureOf 9 = some (.aaload)),
  by intros; exact G_reta (s := "EngagedByDeputy$Steady") (by decide +kernel : fetch mX8_natureOf 10 = some (.areturn)) (by decide +kernel),
  by decide +kernel⟩
theorem gX8_liking : (∀ (n d : Nat) (L : List (Option iV)) (st : List iV) (h : iH) (Q : Option iV → iH → Prop), G sp sc [] d mX8_liking (n + 1) 0 L st h Q = (match ld L 0 with | some (.inr (.inr (r + 1))) => G sp sc [] d mX8_liking n 1 L (.inr (.inr (r + 1)) :: st) h Q | _ => False)) ∧
  (∀ (n d : Nat) (L : List (Option iV)) (r : List iV) (m : Nat) (h : iH) (Q : Option iV → iH → Prop), G sp sc [] d mX8_liking (n + 1) 1 L (.inr (.inr (m + 2)) :: r) h Q = (match h.1[m]? with | some (.inl (ci, fs)) => (match lkF 8 27 ci with | some k => (match fs[k]? with | some v => G sp sc [] d mX8_liking n 4 L (v :: r) h Q | none => False) | none => False) | _ => False)) ∧
  (∀ (n d : Nat) (L : List (Option iV)) (st : List iV) (h : iH) (Q : Option iV → iH → Prop), G sp sc [] d mX8_liking (n + 1) 4 L st h Q = (match ld L 1 with | some (.inl x) => G sp sc [] d mX8_liking n 5 L (.inl x :: st) h Q | _ => False)) ∧
  (∀ (n d : Nat) (L : List (Option iV)) (st : List iV) (h : iH) (Q : Option iV → iH → Prop), G sp sc [] d mX8_liking (n + 1) 5 L st h Q = G sp sc [] d mX8_liking n 6 L (.inl 5 :: st) h Q) ∧
  (∀ (n d : Nat) (L : List (Option iV)) (a : Int) (b : Int) (r : List iV) (h : iH) (Q : Option iV → iH → Prop), G sp sc [] d mX8_liking (n + 1) 6 L (.inl b :: .inl a :: r) h Q = G sp sc [] d mX8_liking n 7 L (.inl (a * b) :: r) h Q) ∧
  (∀ (n d : Nat) (L : List (Option iV)) (st : List iV) (h : iH) (Q : Option iV → iH → Prop), G sp sc [] d mX8_liking (n + 1) 7 L st h Q = (match ld L 2 with | some (.inl x) => G sp sc [] d mX8_liking n 8 L (.inl x :: st) h Q | _ => False)) ∧
  (∀ (n d : Nat) (L : List (Option iV)) (a : Int) (b : Int) (r : List iV) (h : iH) (Q : Option iV → iH → Prop), G sp sc [] d mX8_liking (n + 1) 8 L (.inl b :: .inl a :: r) h Q = G sp sc [] d mX8_liking n 9 L (.inl (a + b) :: r) h Q) ∧
  (∀ (n d : Nat) (L : List (Option iV)) (st : List iV) (h : iH) (Q : Option iV → iH → Prop), G sp sc [] d mX8_liking (n + 1) 9 L st h Q = G sp sc [] d mX8_liking n 10 L (.inl 5 :: st) h Q) ∧
  (∀ (n d : Nat) (L : List (Option iV)) (a : Int) (b : Int) (r : List iV) (h : iH) (Q : Option iV → iH → Prop), G sp sc [] d mX8_liking (n + 1) 10 L (.inl b :: .inl a :: r) h Q = G sp sc [] d mX8_liking n 11 L (.inl (a * b) :: r) h Q) ∧
  (∀ (n d : Nat) (L : List (Option iV)) (st : List iV) (h : iH) (Q : Option iV → iH → Prop), G sp sc [] d mX8_liking (n + 1) 11 L st h Q = (match ld L 3 with | some (.inl x) => G sp sc [] d mX8_liking n 12 L (.inl x :: st) h Q | _ => False)) ∧
  (∀ (n d : Nat) (L : List (Option iV)) (a : Int) (b : Int) (r : List iV) (h : iH) (Q : Option iV → iH → Prop), G sp sc [] d mX8_liking (n + 1) 12 L (.inl b :: .inl a :: r) h Q = G sp sc [] d mX8_liking n 13 L (.inl (a + b) :: r) h Q) ∧
  (∀ (n d : Nat) (L : List (Option iV)) (r : List iV) (j : Int) (m : Nat) (h : iH) (Q : Option iV → iH → Prop), G sp sc [] d mX8_liking (n + 1) 13 L (.inl j :: .inr (.inr (m + 2)) :: r) h Q = (match h.1[m]? with | some (.inr (.inl (0, xs))) => inA j xs.length = true ∧ G sp sc [] d mX8_liking n 14 L (.inl (xs.getD j.toNat 0) :: r) h Q | _ => False)) ∧
  (∀ (n d : Nat) (L : List (Option iV)) (a : Int) (h : iH) (Q : Option iV → iH → Prop), G sp sc [] d mX8_liking (n + 1) 14 L [.inl a] h Q = Q (some (.inl a)) h) ∧
  lkF 8 27 8 = some 4 := ⟨by intros; exact G_at (by decide +kernel : fetch mX8_liking 0 = some (.aload_n 0)),
  by intros; exact G_own (by decide +kernel : fetch mX8_liking 1 = some (.getfield 27)) (by decide +kernel),
  by intros; exact G_at (by decide +kernel : fetch mX8_liking 4 = some (.iload_n 1)),
  by intros; exact G_at (by decide +kernel : fetch mX8_liking 5 = some (.iconst 5)),
  by intros; exact G_at (by decide +kernel : fetch mX8_liking 6 = some (.imul)),
  by intros; exact G_at (by decide +kernel : fetch mX8_liking 7 = some (.iload_n 2)),
  by intros; exact G_at (by decide +kernel : fetch mX8_liking 8 = some (.iadd)),
  by intros; exact G_at (by decide +kernel : fetch mX8_liking 9 = some (.iconst 5)),
  by intros; exact G_at (by decide +kernel : fetch mX8_liking 10 = some (.imul)),
  by intros; exact G_at (by decide +kernel : fetch mX8_liking 11 = some (.iload_n 3)),
  by intros; exact G_at (by decide +kernel : fetch mX8_liking 12 = some (.iadd)),
  by intros; exact G_at (by decide +kernel : fetch mX8_liking 13 = some (.iaload)),
  by intros; exact G_reti (by decide +kernel : fetch mX8_liking 14 = some (.ireturn)) (by decide +kernel),
  by decide +kernel⟩
theorem gX8_setLiking : (∀ (n d : Nat) (L : List (Option iV)) (st : List iV) (h : iH) (Q : Option iV → iH → Prop), G sp sc [] d mX8_setLiking (n + 1) 0 L st h Q = (match ld L 0 with | some (.inr (.inr (r + 1))) => G sp sc [] d mX8_setLiking n 1 L (.inr (.inr (r + 1)) :: st) h Q | _ => False)) ∧
  (∀ (n d : Nat) (L : List (Option iV)) (r : List iV) (m : Nat) (h : iH) (Q : Option iV → iH → Prop), G sp sc [] d mX8_setLiking (n + 1) 1 L (.inr (.inr (m + 2)) :: r) h Q = (match h.1[m]? with | some (.inl (ci, fs)) => (match lkF 8 27 ci with | some k => (match fs[k]? with | some v => G sp sc [] d mX8_setLiking n 4 L (v :: r) h Q | none => False) | none => False) | _ => False)) ∧
  (∀ (n d : Nat) (L : List (Option iV)) (st : List iV) (h : iH) (Q : Option iV → iH → Prop), G sp sc [] d mX8_setLiking (n + 1) 4 L st h Q = (match ld L 1 with | some (.inl x) => G sp sc [] d mX8_setLiking n 5 L (.inl x :: st) h Q | _ => False)) ∧
  (∀ (n d : Nat) (L : List (Option iV)) (st : List iV) (h : iH) (Q : Option iV → iH → Prop), G sp sc [] d mX8_setLiking (n + 1) 5 L st h Q = G sp sc [] d mX8_setLiking n 6 L (.inl 5 :: st) h Q) ∧
  (∀ (n d : Nat) (L : List (Option iV)) (a : Int) (b : Int) (r : List iV) (h : iH) (Q : Option iV → iH → Prop), G sp sc [] d mX8_setLiking (n + 1) 6 L (.inl b :: .inl a :: r) h Q = G sp sc [] d mX8_setLiking n 7 L (.inl (a * b) :: r) h Q) ∧
  (∀ (n d : Nat) (L : List (Option iV)) (st : List iV) (h : iH) (Q : Option iV → iH → Prop), G sp sc [] d mX8_setLiking (n + 1) 7 L st h Q = (match ld L 2 with | some (.inl x) => G sp sc [] d mX8_setLiking n 8 L (.inl x :: st) h Q | _ => False)) ∧
  (∀ (n d : Nat) (L : List (Option iV)) (a : Int) (b : Int) (r : List iV) (h : iH) (Q : Option iV → iH → Prop), G sp sc [] d mX8_setLiking (n + 1) 8 L (.inl b :: .inl a :: r) h Q = G sp sc [] d mX8_setLiking n 9 L (.inl (a + b) :: r) h Q) ∧
  (∀ (n d : Nat) (L : List (Option iV)) (st : List iV) (h : iH) (Q : Option iV → iH → Prop), G sp sc [] d mX8_setLiking (n + 1) 9 L st h Q = G sp sc [] d mX8_setLiking n 10 L (.inl 5 :: st) h Q) ∧
  (∀ (n d : Nat) (L : List (Option iV)) (a : Int) (b : Int) (r : List iV) (h : iH) (Q : Option iV → iH → Prop), G sp sc [] d mX8_setLiking (n + 1) 10 L (.inl b :: .inl a :: r) h Q = G sp sc [] d mX8_setLiking n 11 L (.inl (a * b) :: r) h Q) ∧
  (∀ (n d : Nat) (L : List (Option iV)) (st : List iV) (h : iH) (Q : Option iV → iH → Prop), G sp sc [] d mX8_setLiking (n + 1) 11 L st h Q = (match ld L 3 with | some (.inl x) => G sp sc [] d mX8_setLiking n 12 L (.inl x :: st) h Q | _ => False)) ∧
  (∀ (n d : Nat) (L : List (Option iV)) (a : Int) (b : Int) (r : List iV) (h : iH) (Q : Option iV → iH → Prop), G sp sc [] d mX8_setLiking (n + 1) 12 L (.inl b :: .inl a :: r) h Q = G sp sc [] d mX8_setLiking n 13 L (.inl (a + b) :: r) h Q) ∧
  (∀ (n d : Nat) (L : List (Option iV)) (st : List iV) (h : iH) (Q : Option iV → iH → Prop), G sp sc [] d mX8_setLiking (n + 1) 13 L st h Q = G sp sc [] d mX8_setLiking n 14 L (.inl 0 :: st) h Q) ∧
  (∀ (n d : Nat) (L : List (Option iV)) (st : List iV) (h : iH) (Q : Option iV → iH → Prop), G sp sc [] d mX8_setLiking (n + 1) 14 L st h Q = ((-128 ≤ (99 : Int) ∧ (99 : Int) < 128) ∧ G sp sc [] d mX8_setLiking n 16 L (.inl 99 :: st) h Q)) ∧
  (∀ (n d : Nat) (L : List (Option iV)) (st : List iV) (h : iH) (Q : Option iV → iH → Prop), G sp sc [] d mX8_setLiking (n + 1) 16 L st h Q = (match ld L 4 with | some (.inl x) => G sp sc [] d mX8_setLiking n 18 L (.inl x :: st) h Q | _ => False)) ∧
  (∀ (n d : Nat) (L : List (Option iV)) (a : Int) (b : Int) (r : List iV) (h : iH) (Q : Option iV → iH → Prop), G sp sc [] (d + 1) mX8_setLiking (n + 1) 18 L (.inl b :: .inl a :: r) h Q = ((inI a = true ∧ inI b = true ∧ cs r ≤ 8) ∧ G sp sc [] (d + 1) mX8_setLiking n 21 L (.inl (if b < a then b else a) :: r) h Q)) ∧
  (∀ (n d : Nat) (L : List (Option iV)) (a : Int) (b : Int) (r : List iV) (h : iH) (Q : Option iV → iH → Prop), G sp sc [] (d + 1) mX8_setLiking (n + 1) 21 L (.inl b :: .inl a :: r) h Q = ((inI a = true ∧ inI b = true ∧ cs r ≤ 8) ∧ G sp sc [] (d + 1) mX8_setLiking n 24 L (.inl (if a < b then b else a) :: r) h Q)) ∧
  (∀ (n d : Nat) (L : List (Option iV)) (r : List iV) (v : Int) (j : Int) (m : Nat) (h : iH) (Q : Option iV → iH → Prop), G sp sc [] d mX8_setLiking (n + 1) 24 L (.inl v :: .inl j :: .inr (.inr (m + 2)) :: r) h Q = (match h.1[m]? with | some (.inr (.inl (0, xs))) => inA j xs.length = true ∧ G sp sc [] d mX8_setLiking n 25 L r (h.1.set m (.inr (.inl (0, xs.set j.toNat v))), h.2) Q | _ => False)) ∧
  (∀ (n d : Nat) (L : List (Option iV))  (h : iH) (Q : Option iV → iH → Prop), G sp sc [] d mX8_setLiking (n + 1) 25 L [] h Q = Q none h) ∧
  lkF 8 27 8 = some 4 := ⟨by intros; exact G_at (by decide +kernel : fetch mX8_setLiking 0 = some (.aload_n 0)),
  by intros; exact G_own (by decide +kernel : fetch mX8_setLiking 1 = some (.getfield 27)) (by decide +kernel),
  by intros; exact G_at (by decide +kernel : fetch mX8_setLiking 4 = some (.iload_n 1)),
  by intros; exact G_at (by decide +kernel : fetch mX8_setLiking 5 = some (.iconst 5)),
  by intros; exact G_at (by decide +kernel : fetch mX8_setLiking 6 = some (.imul)),
  by intros; exact G_at (by decide +kernel : fetch mX8_setLiking 7 = some (.iload_n 2)),
  by intros; exact G_at (by decide +kernel : fetch mX8_setLiking 8 = some (.iadd)),
  by intros; exact G_at (by decide +kernel : fetch mX8_setLiking 9 = some (.iconst 5)),
  by intros; exact G_at (by decide +kernel : fetch mX8_setLiking 10 = some (.imul)),
  by intros; exact G_at (by decide +kernel : fetch mX8_setLiking 11 = some (.iload_n 3)),
  by intros; exact G_at (by decide +kernel : fetch mX8_setLiking 12 = some (.iadd)),
  by intros; exact G_at (by decide +kernel : fetch mX8_setLiking 13 = some (.iconst 0)),
  by intros; exact G_at (by decide +kernel : fetch mX8_setLiking 14 = some (.bipush 99)),
  by intros; exact G_at (by decide +kernel : fetch mX8_setLiking 16 = some (.iload 4)),
  by intros; exact G_m0 (by decide +kernel : fetch mX8_setLiking 18 = some (.invokestatic 64)) (by decide +kernel),
  by intros; exact G_m1 (by decide +kernel : fetch mX8_setLiking 21 = some (.invokestatic 69)) (by decide +kernel),
  by intros; exact G_at (by decide +kernel : fetch mX8_setLiking 24 = some (.iastore)),
  by intros; exact G_retv (by decide +kernel : fetch mX8_setLiking 25 = some (.return_)) (by decide +kernel),
  by decide +kernel⟩
theorem gX8_addLiking : (∀ (n d : Nat) (L : List (Option iV)) (st : List iV) (h : iH) (Q : Option iV → iH → Prop), G sp sc [] d mX8_addLiking (n + 1) 0 L st h Q = (match ld L 0 with | some (.inr (.inr (r + 1))) => G sp sc [] d mX8_addLiking n 1 L (.inr (.inr (r + 1)) :: st) h Q | _ => False)) ∧
  (∀ (n d : Nat) (L : List (Option iV)) (st : List iV) (h : iH) (Q : Option iV → iH → Prop), G sp sc [] d mX8_addLiking (n + 1) 1 L st h Q = (match ld L 1 with | some (.inl x) => G sp sc [] d mX8_addLiking n 2 L (.inl x :: st) h Q | _ => False)) ∧
  (∀ (n d : Nat) (L : List (Option iV)) (st : List iV) (h : iH) (Q : Option iV → iH → Prop), G sp sc [] d mX8_addLiking (n + 1) 2 L st h Q = (match ld L 2 with | some (.inl x) => G sp sc [] d mX8_addLiking n 3 L (.inl x :: st) h Q | _ => False)) ∧
  (∀ (n d : Nat) (L : List (Option iV)) (st : List iV) (h : iH) (Q : Option iV → iH → Prop), G sp sc [] d mX8_addLiking (n + 1) 3 L st h Q = (match ld L 3 with | some (.inl x) => G sp sc [] d mX8_addLiking n 4 L (.inl x :: st) h Q | _ => False)) ∧
  (∀ (n d : Nat) (L : List (Option iV)) (st : List iV) (h : iH) (Q : Option iV → iH → Prop), G sp sc [] d mX8_addLiking (n + 1) 4 L st h Q = (match ld L 0 with | some (.inr (.inr (r + 1))) => G sp sc [] d mX8_addLiking n 5 L (.inr (.inr (r + 1)) :: st) h Q | _ => False)) ∧
  (∀ (n d : Nat) (L : List (Option iV)) (st : List iV) (h : iH) (Q : Option iV → iH → Prop), G sp sc [] d mX8_addLiking (n + 1) 5 L st h Q = (match ld L 1 with | some (.inl x) => G sp sc [] d mX8_addLiking n 6 L (.inl x :: st) h Q | _ => False)) ∧
  (∀ (n d : Nat) (L : List (Option iV)) (st : List iV) (h : iH) (Q : Option iV → iH → Prop), G sp sc [] d mX8_addLiking (n + 1) 6 L st h Q = (match ld L 2 with | some (.inl x) => G sp sc [] d mX8_addLiking n 7 L (.inl x :: st) h Q | _ => False)) ∧
  (∀ (n d : Nat) (L : List (Option iV)) (st : List iV) (h : iH) (Q : Option iV → iH → Prop), G sp sc [] d mX8_addLiking (n + 1) 7 L st h Q = (match ld L 3 with | some (.inl x) => G sp sc [] d mX8_addLiking n 8 L (.inl x :: st) h Q | _ => False)) ∧
  (∀ (n d : Nat) (L : List (Option iV)) (r : List iV) (m : Nat) (z0 : iV) (z1 : iV) (z2 : iV) (h : iH) (Q : Option iV → iH → Prop), G sp sc [] (d + 1) mX8_addLiking (n + 1) 8 L (z2 :: z1 :: z0 :: .inr (.inr (m + 2)) :: r) h Q = (match h.1[m]? with | some (.inl (ci, _)) => (match lkC 8 72 ci with | some (y1, n1, kd) => (n1 = 3 ∧ (kd = 2 ∨ kd = 3 ∨ kd = 8) ∧ cs r ≤ 8) ∧ Call sp sc d y1 [.inr (.inr (m + 2)), z0, z1, z2] h (fun q h1 => GC sp sc [] (d + 1) mX8_addLiking n 11 L q r h h1 Q) | none => False) | _ => False)) ∧
  (∀ (n d : Nat) (L : List (Option iV)) (st : List iV) (h : iH) (Q : Option iV → iH → Prop), G sp sc [] d mX8_addLiking (n + 1) 11 L st h Q = (match ld L 4 with | some (.inl x) => G sp sc [] d mX8_addLiking n 13 L (.inl x :: st) h Q | _ => False)) ∧
  (∀ (n d : Nat) (L : List (Option iV)) (a : Int) (b : Int) (r : List iV) (h : iH) (Q : Option iV → iH → Prop), G sp sc [] d mX8_addLiking (n + 1) 13 L (.inl b :: .inl a :: r) h Q = G sp sc [] d mX8_addLiking n 14 L (.inl (a + b) :: r) h Q) ∧
  (∀ (n d : Nat) (L : List (Option iV)) (r : List iV) (m : Nat) (z0 : iV) (z1 : iV) (z2 : iV) (z3 : iV) (h : iH) (Q : Option iV → iH → Prop), G sp sc [] (d + 1) mX8_addLiking (n + 1) 14 L (z3 :: z2 :: z1 :: z0 :: .inr (.inr (m + 2)) :: r) h Q = (match h.1[m]? with | some (.inl (ci, _)) => (match lkC 8 76 ci with | some (y1, n1, kd) => (n1 = 4 ∧ (kd = 2 ∨ kd = 3 ∨ kd = 8) ∧ cs r ≤ 8) ∧ Call sp sc d y1 [.inr (.inr (m + 2)), z0, z1, z2, z3] h (fun q h1 => GC sp sc [] (d + 1) mX8_addLiking n 17 L q r h h1 Q) | none => False) | _ => False)) ∧
  (∀ (n d : Nat) (L : List (Option iV))  (h : iH) (Q : Option iV → iH → Prop), G sp sc [] d mX8_addLiking (n + 1) 17 L [] h Q = Q none h) ∧
  lkC 8 72 8 = some (mX8_liking, 3, 2) ∧
  lkC 8 76 8 = some (mX8_setLiking, 4, 2) := ⟨by intros; exact G_at (by decide +kernel : fetch mX8_addLiking 0 = some (.aload_n 0)),
  by intros; exact G_at (by decide +kernel : fetch mX8_addLiking 1 = some (.iload_n 1)),
  by intros; exact G_at (by decide +kernel : fetch mX8_addLiking 2 = some (.iload_n 2)),
  by intros; exact G_at (by decide +kernel : fetch mX8_addLiking 3 = some (.iload_n 3)),
  by intros; exact G_at (by decide +kernel : fetch mX8_addLiking 4 = some (.aload_n 0)),
  by intros; exact G_at (by decide +kernel : fetch mX8_addLiking 5 = some (.iload_n 1)),
  by intros; exact G_at (by decide +kernel : fetch mX8_addLiking 6 = some (.iload_n 2)),
  by intros; exact G_at (by decide +kernel : fetch mX8_addLiking 7 = some (.iload_n 3)),
  by intros; exact G_callV (by decide +kernel : fetch mX8_addLiking 8 = some (.invokevirtual 72)) (by decide +kernel) (by decide +kernel) rfl,
  by intros; exact G_at (by decide +kernel : fetch mX8_addLiking 11 = some (.iload 4)),
  by intros; exact G_at (by decide +kernel : fetch mX8_addLiking 13 = some (.iadd)),
  by intros; exact G_callV (by decide +kernel : fetch mX8_addLiking 14 = some (.invokevirtual 76)) (by decide +kernel) (by decide +kernel) rfl,
  by intros; exact G_retv (by decide +kernel : fetch mX8_addLiking 17 = some (.return_)) (by decide +kernel),
  by decide +kernel,
  by decide +kernel⟩
theorem gX8_setDeputy : (∀ (n d : Nat) (L : List (Option iV)) (st : List iV) (h : iH) (Q : Option iV → iH → Prop), G sp sc [] d mX8_setDeputy (n + 1) 0 L st h Q = (match ld L 0 with | some (.inr (.inr (r + 1))) => G sp sc [] d mX8_setDeputy n 1 L (.inr (.inr (r + 1)) :: st) h Q | _ => False)) ∧
  (∀ (n d : Nat) (L : List (Option iV)) (r : List iV) (m : Nat) (h : iH) (Q : Option iV → iH → Prop), G sp sc [] d mX8_setDeputy (n + 1) 1 L (.inr (.inr (m + 2)) :: r) h Q = (match h.1[m]? with | some (.inl (ci, fs)) => (match lkF 8 21 ci with | some k => (match fs[k]? with | some v => G sp sc [] d mX8_setDeputy n 4 L (v :: r) h Q | none => False) | none => False) | _ => False)) ∧
  (∀ (n d : Nat) (L : List (Option iV)) (st : List iV) (h : iH) (Q : Option iV → iH → Prop), G sp sc [] d mX8_setDeputy (n + 1) 4 L st h Q = (match ld L 1 with | some (.inl x) => G sp sc [] d mX8_setDeputy n 5 L (.inl x :: st) h Q | _ => False)) ∧
  (∀ (n d : Nat) (L : List (Option iV)) (st : List iV) (h : iH) (Q : Option iV → iH → Prop), G sp sc [] d mX8_setDeputy (n + 1) 5 L st h Q = (match ld L 2 with | some (.inl x) => G sp sc [] d mX8_setDeputy n 6 L (.inl x :: st) h Q | _ => False)) ∧
  (∀ (n d : Nat) (L : List (Option iV)) (r : List iV) (z0 : iV) (z1 : iV) (h : iH) (Q : Option iV → iH → Prop), G sp sc [] (d + 1) mX8_setDeputy (n + 1) 6 L (z1 :: z0 :: r) h Q = (cs r ≤ 8 ∧ Call sp sc d mX8_place [z0, z1] h (fun q h1 => GC sp sc [] (d + 1) mX8_setDeputy n 9 L q r h h1 Q))) ∧
  (∀ (n d : Nat) (L : List (Option iV)) (st : List iV) (h : iH) (Q : Option iV → iH → Prop), G sp sc [] d mX8_setDeputy (n + 1) 9 L st h Q = (match ld L 3 with | some (.inl x) => G sp sc [] d mX8_setDeputy n 10 L (.inl x :: st) h Q | _ => False)) ∧
  (∀ (n d : Nat) (L : List (Option iV)) (st : List iV) (h : iH) (Q : Option iV → iH → Prop), G sp sc [] d mX8_setDeputy (n + 1) 10 L st h Q = (match ld L 2 with | some (.inl x) => G sp sc [] d mX8_setDeputy n 11 L (.inl x :: st) h Q | _ => False)) ∧
  (∀ (n d : Nat) (L : List (Option iV)) (a : Int) (b : Int) (r : List iV) (h : iH) (Q : Option iV → iH → Prop), G sp sc [] d mX8_setDeputy (n + 1) 11 L (.inl b :: .inl a :: r) h Q = ((inI a = true ∧ inI b = true) ∧ (¬ a = b → G sp sc [] d mX8_setDeputy n 18 L r h Q) ∧ (¬ (¬ a = b) → G sp sc [] d mX8_setDeputy n 14 L r h Q))) ∧
  (∀ (n d : Nat) (L : List (Option iV)) (st : List iV) (h : iH) (Q : Option iV → iH → Prop), G sp sc [] d mX8_setDeputy (n + 1) 14 L st h Q = G sp sc [] d mX8_setDeputy n 15 L (.inl (-1) :: st) h Q) ∧
  (∀ (n d : Nat) (L : List (Option iV)) (st : List iV) (h : iH) (Q : Option iV → iH → Prop), G sp sc [] d mX8_setDeputy (n + 1) 15 L st h Q = G sp sc [] d mX8_setDeputy n 19 L st h Q) ∧
  (∀ (n d : Nat) (L : List (Option iV)) (st : List iV) (h : iH) (Q : Option iV → iH → Prop), G sp sc [] d mX8_setDeputy (n + 1) 18 L st h Q = (match ld L 3 with | some (.inl x) => G sp sc [] d mX8_setDeputy n 19 L (.inl x :: st) h Q | _ => False)) ∧
  (∀ (n d : Nat) (L : List (Option iV)) (r : List iV) (v : Int) (j : Int) (m : Nat) (h : iH) (Q : Option iV → iH → Prop), G sp sc [] d mX8_setDeputy (n + 1) 19 L (.inl v :: .inl j :: .inr (.inr (m + 2)) :: r) h Q = (match h.1[m]? with | some (.inr (.inl (0, xs))) => inA j xs.length = true ∧ G sp sc [] d mX8_setDeputy n 20 L r (h.1.set m (.inr (.inl (0, xs.set j.toNat v))), h.2) Q | _ => False)) ∧
  (∀ (n d : Nat) (L : List (Option iV))  (h : iH) (Q : Option iV → iH → Prop), G sp sc [] d mX8_setDeputy (n + 1) 20 L [] h Q = Q none h) ∧
  lkF 8 21 8 = some 2 := ⟨by intros; exact G_at (by decide +kernel : fetch mX8_setDeputy 0 = some (.aload_n 0)),
  by intros; exact G_own (by decide +kernel : fetch mX8_setDeputy 1 = some (.getfield 21)) (by decide +kernel),
  by intros; exact G_at (by decide +kernel : fetch mX8_setDeputy 4 = some (.iload_n 1)),
  by intros; exact G_at (by decide +kernel : fetch mX8_setDeputy 5 = some (.iload_n 2)),
  by intros; exact G_callS (k := 2) (kd := 0) (by decide +kernel : fetch mX8_setDeputy 6 = some (.invokestatic 60)) (by decide +kernel) (by decide +kernel) (by decide +kernel) rfl (by decide),
  by intros; exact G_at (by decide +kernel : fetch mX8_setDeputy 9 = some (.iload_n 3)),
  by intros; exact G_at (by decide +kernel : fetch mX8_setDeputy 10 = some (.iload_n 2)),
  by intros; exact G_at (by decide +kernel : fetch mX8_setDeputy 11 = some (.if_icmp .ne 7)),
  by intros; exact G_at (by decide +kernel : fetch mX8_setDeputy 14 = some (.iconst (-1))),
  by intros; exact G_at (by decide +kernel : fetch mX8_setDeputy 15 = some (.goto 4)),
  by intros; exact G_at (by decide +kernel : fetch mX8_setDeputy 18 = some (.iload_n 3)),
  by intros; exact G_at (by decide +kernel : fetch mX8_setDeputy 19 = some (.iastore)),
  by intros; exact G_retv (by decide +kernel : fetch mX8_setDeputy 20 = some (.return_)) (by decide +kernel),
  by decide +kernel⟩
theorem gX8_admit : (∀ (n d : Nat) (L : List (Option iV)) (st : List iV) (h : iH) (Q : Option iV → iH → Prop), G sp sc [] d mX8_admit (n + 1) 0 L st h Q = (match ld L 0 with | some (.inr (.inr (r + 1))) => G sp sc [] d mX8_admit n 1 L (.inr (.inr (r + 1)) :: st) h Q | _ => False)) ∧
  (∀ (n d : Nat) (L : List (Option iV)) (r : List iV) (m : Nat) (h : iH) (Q : Option iV → iH → Prop), G sp sc [] d mX8_admit (n + 1) 1 L (.inr (.inr (m + 2)) :: r) h Q = (match h.1[m]? with | some (.inl (ci, fs)) => (match lkF 8 9 ci with | some k => (match fs[k]? with | some v => G sp sc [] d mX8_admit n 4 L (v :: r) h Q | none => False) | none => False) | _ => False)) ∧
  (∀ (n d : Nat) (L : List (Option iV)) (st : List iV) (h : iH) (Q : Option iV → iH → Prop), G sp sc [] d mX8_admit (n + 1) 4 L st h Q = (match ld L 1 with | some (.inl x) => G sp sc [] d mX8_admit n 5 L (.inl x :: st) h Q | _ => False)) ∧
  (∀ (n d : Nat) (L : List (Option iV)) (r : List iV) (j : Int) (m : Nat) (h : iH) (Q : Option iV → iH → Prop), G sp sc [] d mX8_admit (n + 1) 5 L (.inl j :: .inr (.inr (m + 2)) :: r) h Q = (match h.1[m]? with | some (.inr (.inl (0, xs))) => inA j xs.length = true ∧ G sp sc [] d mX8_admit n 6 L (.inl (xs.getD j.toNat 0) :: r) h Q | _ => False)) ∧
  (∀ (n d : Nat) (L : List (Option iV)) (r : List iV) (x : Int) (h : iH) (Q : Option iV → iH → Prop), G sp sc [] d mX8_admit (n + 1) 6 L (.inl x :: r) h Q = (match st1 L 3 (.inl x) with | some L' => G sp sc [] d mX8_admit n 7 L' r h Q | none => False)) ∧
  (∀ (n d : Nat) (L : List (Option iV)) (st : List iV) (h : iH) (Q : Option iV → iH → Prop), G sp sc [] d mX8_admit (n + 1) 7 L st h Q = (match ld L 3 with | some (.inl x) => G sp sc [] d mX8_admit n 8 L (.inl x :: st) h Q | _ => False)) ∧
  (∀ (n d : Nat) (L : List (Option iV)) (st : List iV) (h : iH) (Q : Option iV → iH → Prop), G sp sc [] d mX8_admit (n + 1) 8 L st h Q = G sp sc [] d mX8_admit n 9 L (.inl 5 :: st) h Q) ∧
  (∀ (n d : Nat) (L : List (Option iV)) (a : Int) (b : Int) (r : List iV) (h : iH) (Q : Option iV → iH → Prop), G sp sc [] d mX8_admit (n + 1) 9 L (.inl b :: .inl a :: r) h Q = ((inI a = true ∧ inI b = true) ∧ (a < b → G sp sc [] d mX8_admit n 15 L r h Q) ∧ (¬ (a < b) → G sp sc [] d mX8_admit n 12 L r h Q))) ∧
  (∀ (n d : Nat) (L : List (Option iV)) (st : List iV) (h : iH) (Q : Option iV → iH → Prop), G sp sc [] d mX8_admit (n + 1) 12 L st h Q = ((-128 ≤ ((-2) : Int) ∧ ((-2) : Int) < 128) ∧ G sp sc [] d mX8_admit n 14 L (.inl (-2) :: st) h Q)) ∧
  (∀ (n d : Nat) (L : List (Option iV)) (a : Int) (h : iH) (Q : Option iV → iH → Prop), G sp sc [] d mX8_admit (n + 1) 14 L [.inl a] h Q = Q (some (.inl a)) h) ∧
  (∀ (n d : Nat) (L : List (Option iV)) (st : List iV) (h : iH) (Q : Option iV → iH → Prop), G sp sc [] d mX8_admit (n + 1) 15 L st h Q = (match ld L 0 with | some (.inr (.inr (r + 1))) => G sp sc [] d mX8_admit n 16 L (.inr (.inr (r + 1)) :: st) h Q | _ => False)) ∧
  (∀ (n d : Nat) (L : List (Option iV)) (r : List iV) (m : Nat) (h : iH) (Q : Option iV → iH → Prop), G sp sc [] d mX8_admit (n + 1) 16 L (.inr (.inr (m + 2)) :: r) h Q = (match h.1[m]? with | some (.inl (ci, fs)) => (match lkF 8 17 ci with | some k => (match fs[k]? with | some v => G sp sc [] d mX8_admit n 19 L (v :: r) h Q | none => False) | none => False) | _ => False)) ∧
  (∀ (n d : Nat) (L : List (Option iV)) (st : List iV) (h : iH) (Q : Option iV → iH → Prop), G sp sc [] d mX8_admit (n + 1) 19 L st h Q = (match ld L 1 with | some (.inl x) => G sp sc [] d mX8_admit n 20 L (.inl x :: st) h Q | _ => False)) ∧
  (∀ (n d : Nat) (L : List (Option iV)) (st : List iV) (h : iH) (Q : Option iV → iH → Prop), G sp sc [] d mX8_admit (n + 1) 20 L st h Q = (match ld L 3 with | some (.inl x) => G sp sc [] d mX8_admit n 21 L (.inl x :: st) h Q | _ => False)) ∧
  (∀ (n d : Nat) (L : List (Option iV)) (r : List iV) (z0 : iV) (z1 : iV) (h : iH) (Q : Option iV → iH → Prop), G sp sc [] (d + 1) mX8_admit (n + 1) 21 L (z1 :: z0 :: r) h Q = (cs r ≤ 8 ∧ Call sp sc d mX8_place [z0, z1] h (fun q h1 => GC sp sc [] (d + 1) mX8_admit n 24 L q r h h1 Q))) ∧
  (∀ (n d : Nat) (L : List (Option iV)) (st : List iV) (h : iH) (Q : Option iV → iH → Prop), G sp sc [] d mX8_admit (n + 1) 24 L st h Q = (match ld L 2 with | some (.inr (.inr (r + 1))) => G sp sc [] d mX8_admit n 25 L (.inr (.inr (r + 1)) :: st) h Q | _ => False)) ∧
  (∀ (n d : Nat) (L : List (Option iV)) (r : List iV) (v : Nat) (j : Int) (m : Nat) (h : iH) (Q : Option iV → iH → Prop), G sp sc [] d mX8_admit (n + 1) 25 L (.inr (.inr (v + 2)) :: .inl j :: .inr (.inr (m + 2)) :: r) h Q = (match h.1[m]? with | some (.inr (.inr (t, rs))) => (match h.1[v]? with | some (.inl (ci, _)) => (inA j rs.length = true ∧ asT t ci = true) ∧ G sp sc [] d mX8_admit n 26 L r (h.1.set m (.inr (.inr (t, rs.set j.toNat (v + 2)))), h.2) Q | _ => False) | _ => False)) ∧
  (∀ (n d : Nat) (L : List (Option iV)) (st : List iV) (h : iH) (Q : Option iV → iH → Prop), G sp sc [] d mX8_admit (n + 1) 26 L st h Q = (match ld L 0 with | some (.inr (.inr (r + 1))) => G sp sc [] d mX8_admit n 27 L (.inr (.inr (r + 1)) :: st) h Q | _ => False)) ∧
  (∀ (n d : Nat) (L : List (Option iV)) (r : List iV) (m : Nat) (h : iH) (Q : Option iV → iH → Prop), G sp sc [] d mX8_admit (n + 1) 27 L (.inr (.inr (m + 2)) :: r) h Q = (match h.1[m]? with | some (.inl (ci, fs)) => (match lkF 8 9 ci with | some k => (match fs[k]? with | some v => G sp sc [] d mX8_admit n 30 L (v :: r) h Q | none => False) | none => False) | _ => False)) ∧
  (∀ (n d : Nat) (L : List (Option iV)) (st : List iV) (h : iH) (Q : Option iV → iH → Prop), G sp sc [] d mX8_admit (n + 1) 30 L st h Q = (match ld L 1 with | some (.inl x) => G sp sc [] d mX8_admit n 31 L (.inl x :: st) h Q | _ => False)) ∧
  (∀ (n d : Nat) (L : List (Option iV)) (st : List iV) (h : iH) (Q : Option iV → iH → Prop), G sp sc [] d mX8_admit (n + 1) 31 L st h Q = (match ld L 3 with | some (.inl x) => G sp sc [] d mX8_admit n 32 L (.inl x :: st) h Q | _ => False)) ∧
  (∀ (n d : Nat) (L : List (Option iV)) (st : List iV) (h : iH) (Q : Option iV → iH → Prop), G sp sc [] d mX8_admit (n + 1) 32 L st h Q = G sp sc [] d mX8_admit n 33 L (.inl 1 :: st) h Q) ∧
  (∀ (n d : Nat) (L : List (Option iV)) (a : Int) (b : Int) (r : List iV) (h : iH) (Q : Option iV → iH → Prop), G sp sc [] d mX8_admit (n + 1) 33 L (.inl b :: .inl a :: r) h Q = G sp sc [] d mX8_admit n 34 L (.inl (a + b) :: r) h Q) ∧
  (∀ (n d : Nat) (L : List (Option iV)) (r : List iV) (v : Int) (j : Int) (m : Nat) (h : iH) (Q : Option iV → iH → Prop), G sp sc [] d mX8_admit (n + 1) 34 L (.inl v :: .inl j :: .inr (.inr (m + 2)) :: r) h Q = (match h.1[m]? with | some (.inr (.inl (0, xs))) => inA j xs.length = true ∧ G sp sc [] d mX8_admit n 35 L r (h.1.set m (.inr (.inl (0, xs.set j.toNat v))), h.2) Q | _ => False)) ∧
  (∀ (n d : Nat) (L : List (Option iV)) (st : List iV) (h : iH) (Q : Option iV → iH → Prop), G sp sc [] d mX8_admit (n + 1) 35 L st h Q = (match ld L 3 with | some (.inl x) => G sp sc [] d mX8_admit n 36 L (.inl x :: st) h Q | _ => False)) ∧
  (∀ (n d : Nat) (L : List (Option iV)) (a : Int) (h : iH) (Q : Option iV → iH → Prop), G sp sc [] d mX8_admit (n + 1) 36 L [.inl a] h Q = Q (some (.inl a)) h) ∧
  lkF 8 17 8 = some 1 ∧
  lkF 8 9 8 = some 0 := ⟨by intros; exact G_at (by decide +kernel : fetch mX8_admit 0 = some (.aload_n 0)),
  by intros; exact G_own (by decide +kernel : fetch mX8_admit 1 = some (.getfield 9)) (by decide +kernel),
  by intros; exact G_at (by decide +kernel : fetch mX8_admit 4 = some (.iload_n 1)),
  by intros; exact G_at (by decide +kernel : fetch mX8_admit 5 = some (.iaload)),
  by intros; exact G_at (by decide +kernel : fetch mX8_admit 6 = some (.istore_n 3)),
  by intros; exact G_at (by decide +kernel : fetch mX8_admit 7 = some (.iload_n 3)),
  by intros; exact G_at (by decide +kernel : fetch mX8_admit 8 = some (.iconst 5)),
  by intros; exact G_at (by decide +kernel : fetch mX8_admit 9 = some (.if_icmp .lt 6)),
  by intros; exact G_at (by decide +kernel : fetch mX8_admit 12 = some (.bipush (-2))),
  by intros; exact G_reti (by decide +kernel : fetch mX8_admit 14 = some (.ireturn)) (by decide +kernel),
  by intros; exact G_at (by decide +kernel : fetch mX8_admit 15 = some (.aload_n 0)),
  by intros; exact G_own (by decide +kernel : fetch mX8_admit 16 = some (.getfield 17)) (by decide +kernel),
  by intros; exact G_at (by decide +kernel : fetch mX8_admit 19 = some (.iload_n 1)),
  by intros; exact G_at (by decide +kernel : fetch mX8_admit 20 = some (.iload_n 3)),
  by intros; exact G_callS (k := 2) (kd := 0) (by decide +kernel : fetch mX8_admit 21 = some (.invokestatic 60)) (by decide +kernel) (by decide +kernel) (by decide +kernel) rfl (by decide),
  by intros; exact G_at (by decide +kernel : fetch mX8_admit 24 = some (.aload_n 2)),
  by intros; exact G_at (by decide +kernel : fetch mX8_admit 25 = some (.aastore)),
  by intros; exact G_at (by decide +kernel : fetch mX8_admit 26 = some (.aload_n 0)),
  by intros; exact G_own (by decide +kernel : fetch mX8_admit 27 = some (.getfield 9)) (by decide +kernel),
  by intros; exact G_at (by decide +kernel : fetch mX8_admit 30 = some (.iload_n 1)),
  by intros; exact G_at (by decide +kernel : fetch mX8_admit 31 = some (.iload_n 3)),
  by intros; exact G_at (by decide +kernel : fetch mX8_admit 32 = some (.iconst 1)),
  by intros; exact G_at (by decide +kernel : fetch mX8_admit 33 = some (.iadd)),
  by intros; exact G_at (by decide +kernel : fetch mX8_admit 34 = some (.iastore)),
  by intros; exact G_at (by decide +kernel : fetch mX8_admit 35 = some (.iload_n 3)),
  by intros; exact G_reti (by decide +kernel : fetch mX8_admit 36 = some (.ireturn)) (by decide +kernel),
  by decide +kernel,
  by decide +kernel⟩
theorem gX8_pair : (∀ (n d : Nat) (L : List (Option iV)) (st : List iV) (h : iH) (Q : Option iV → iH → Prop), G sp sc [22] d mX8_pair (n + 1) 0 L st h Q = (match ld L 0 with | some (.inr (.inr (r + 1))) => G sp sc [22] d mX8_pair n 1 L (.inr (.inr (r + 1)) :: st) h Q | _ => False)) ∧
  (∀ (n d : Nat) (L : List (Option iV)) (st : List iV) (h : iH) (Q : Option iV → iH → Prop), G sp sc [22] d mX8_pair (n + 1) 1 L st h Q = G sp sc [22] d mX8_pair n 2 L (.inl 0 :: st) h Q) ∧
  (∀ (n d : Nat) (L : List (Option iV)) (st : List iV) (h : iH) (Q : Option iV → iH → Prop), G sp sc [22] d mX8_pair (n + 1) 2 L st h Q = (match ld L 1 with | some (.inl x) => G sp sc [22] d mX8_pair n 3 L (.inl x :: st) h Q | _ => False)) ∧
  (∀ (n d : Nat) (L : List (Option iV)) (r : List iV) (m : Nat) (z0 : iV) (z1 : iV) (h : iH) (Q : Option iV → iH → Prop), G sp sc [22] (d + 1) mX8_pair (n + 1) 3 L (z1 :: z0 :: .inr (.inr (m + 2)) :: r) h Q = (match h.1[m]? with | some (.inl (ci, _)) => (match lkC 8 53 ci with | some (y1, n1, kd) => (n1 = 2 ∧ (kd = 2 ∨ kd = 3 ∨ kd = 8) ∧ cs r ≤ 8) ∧ Call sp sc d y1 [.inr (.inr (m + 2)), z0, z1] h (fun q h1 => GC sp sc [22] (d + 1) mX8_pair n 6 L q r h h1 Q) | none => False) | _ => False)) ∧
  (∀ (n d : Nat) (L : List (Option iV)) (a : Int) (r : List iV) (h : iH) (Q : Option iV → iH → Prop), G sp sc [22] d mX8_pair (n + 1) 6 L (.inl a :: r) h Q = (inI a = true ∧ (a = 0 → G sp sc [22] d mX8_pair n 18 L r h Q) ∧ (¬ (a = 0) → G sp sc [22] d mX8_pair n 9 L r h Q))) ∧
  (∀ (n d : Nat) (L : List (Option iV)) (st : List iV) (h : iH) (Q : Option iV → iH → Prop), G sp sc [22] d mX8_pair (n + 1) 9 L st h Q = (match ld L 0 with | some (.inr (.inr (r + 1))) => G sp sc [22] d mX8_pair n 10 L (.inr (.inr (r + 1)) :: st) h Q | _ => False)) ∧
  (∀ (n d : Nat) (L : List (Option iV)) (st : List iV) (h : iH) (Q : Option iV → iH → Prop), G sp sc [22] d mX8_pair (n + 1) 10 L st h Q = G sp sc [22] d mX8_pair n 11 L (.inl 1 :: st) h Q) ∧
  (∀ (n d : Nat) (L : List (Option iV)) (st : List iV) (h : iH) (Q : Option iV → iH → Prop), G sp sc [22] d mX8_pair (n + 1) 11 L st h Q = (match ld L 2 with | some (.inl x) => G sp sc [22] d mX8_pair n 12 L (.inl x :: st) h Q | _ => False)) ∧
  (∀ (n d : Nat) (L : List (Option iV)) (r : List iV) (m : Nat) (z0 : iV) (z1 : iV) (h : iH) (Q : Option iV → iH → Prop), G sp sc [22] (d + 1) mX8_pair (n + 1) 12 L (z1 :: z0 :: .inr (.inr (m + 2)) :: r) h Q = (match h.1[m]? with | some (.inl (ci, _)) => (match lkC 8 53 ci with | some (y1, n1, kd) => (n1 = 2 ∧ (kd = 2 ∨ kd = 3 ∨ kd = 8) ∧ cs r ≤ 8) ∧ Call sp sc d y1 [.inr (.inr (m + 2)), z0, z1] h (fun q h1 => GC sp sc [22] (d + 1) mX8_pair n 15 L q r h h1 Q) | none => False) | _ => False)) ∧
  (∀ (n d : Nat) (L : List (Option iV)) (a : Int) (r : List iV) (h : iH) (Q : Option iV → iH → Prop), G sp sc [22] d mX8_pair (n + 1) 15 L (.inl a :: r) h Q = (inI a = true ∧ (¬ a = 0 → G sp sc [22] d mX8_pair n 20 L r h Q) ∧ (¬ (¬ a = 0) → G sp sc [22] d mX8_pair n 18 L r h Q))) ∧
  (∀ (n d : Nat) (L : List (Option iV)) (st : List iV) (h : iH) (Q : Option iV → iH → Prop), G sp sc [22] d mX8_pair (n + 1) 18 L st h Q = G sp sc [22] d mX8_pair n 19 L (.inl (-1) :: st) h Q) ∧
  (∀ (n d : Nat) (L : List (Option iV)) (a : Int) (h : iH) (Q : Option iV → iH → Prop), G sp sc [22] d mX8_pair (n + 1) 19 L [.inl a] h Q = Q (some (.inl a)) h) ∧
  (∀ (n d : Nat) (L : List (Option iV)) (st : List iV) (h : iH) (Q : Option iV → iH → Prop), G sp sc [22] d mX8_pair (n + 1) 20 L st h Q = G sp sc [22] d mX8_pair n 21 L (.inl 0 :: st) h Q) ∧
  (∀ (n d : Nat) (L : List (Option iV)) (r : List iV) (x : Int) (h : iH) (Q : Option iV → iH → Prop), G sp sc [22] d mX8_pair (n + 1) 21 L (.inl x :: r) h Q = (match st1 L 3 (.inl x) with | some L' => Run sp sc d mX8_pair 22 L' r h Q | none => False)) ∧
  (∀ (n d : Nat) (L : List (Option iV)) (st : List iV) (h : iH) (Q : Option iV → iH → Prop), G sp sc [22] d mX8_pair (n + 1) 22 L st h Q = (match ld L 3 with | some (.inl x) => G sp sc [22] d mX8_pair n 23 L (.inl x :: st) h Q | _ => False)) ∧
  (∀ (n d : Nat) (L : List (Option iV)) (st : List iV) (h : iH) (Q : Option iV → iH → Prop), G sp sc [22] d mX8_pair (n + 1) 23 L st h Q = (match ld L 0 with | some (.inr (.inr (r + 1))) => G sp sc [22] d mX8_pair n 24 L (.inr (.inr (r + 1)) :: st) h Q | _ => False)) ∧
  (∀ (n d : Nat) (L : List (Option iV)) (r : List iV) (m : Nat) (h : iH) (Q : Option iV → iH → Prop), G sp sc [22] d mX8_pair (n + 1) 24 L (.inr (.inr (m + 2)) :: r) h Q = (match h.1[m]? with | some (.inl (ci, fs)) => (match lkF 8 57 ci with | some k => (match fs[k]? with | some v => G sp sc [22] d mX8_pair n 27 L (v :: r) h Q | none => False) | none => False) | _ => False)) ∧
  (∀ (n d : Nat) (L : List (Option iV)) (a : Int) (b : Int) (r : List iV) (h : iH) (Q : Option iV → iH → Prop), G sp sc [22] d mX8_pair (n + 1) 27 L (.inl b :: .inl a :: r) h Q = ((inI a = true ∧ inI b = true) ∧ (b ≤ a → G sp sc [22] d mX8_pair n 59 L r h Q) ∧ (¬ (b ≤ a) → G sp sc [22] d mX8_pair n 30 L r h Q))) ∧
  (∀ (n d : Nat) (L : List (Option iV)) (st : List iV) (h : iH) (Q : Option iV → iH → Prop), G sp sc [22] d mX8_pair (n + 1) 30 L st h Q = (match ld L 0 with | some (.inr (.inr (r + 1))) => G sp sc [22] d mX8_pair n 31 L (.inr (.inr (r + 1)) :: st) h Q | _ => False)) ∧
  (∀ (n d : Nat) (L : List (Option iV)) (r : List iV) (m : Nat) (h : iH) (Q : Option iV → iH → Prop), G sp sc [22] d mX8_pair (n + 1) 31 L (.inr (.inr (m + 2)) :: r) h Q = (match h.1[m]? with | some (.inl (ci, fs)) => (match lkF 8 30 ci with | some k => (match fs[k]? with | some v => G sp sc [22] d mX8_pair n 34 L (v :: r) h Q | none => False) | none => False) | _ => False)) ∧
  (∀ (n d : Nat) (L : List (Option iV)) (st : List iV) (h : iH) (Q : Option iV → iH → Prop), G sp sc [22] d mX8_pair (n + 1) 34 L st h Q = (match ld L 3 with | some (.inl x) => G sp sc [22] d mX8_pair n 35 L (.inl x :: st) h Q | _ => False)) ∧
  (∀ (n d : Nat) (L : List (Option iV)) (r : List iV) (j : Int) (m : Nat) (h : iH) (Q : Option iV → iH → Prop), G sp sc [22] d mX8_pair (n + 1) 35 L (.inl j :: .inr (.inr (m + 2)) :: r) h Q = (match h.1[m]? with | some (.inr (.inl (0, xs))) => inA j xs.length = true ∧ G sp sc [22] d mX8_pair n 36 L (.inl (xs.getD j.toNat 0) :: r) h Q | _ => False)) ∧
  (∀ (n d : Nat) (L : List (Option iV)) (st : List iV) (h : iH) (Q : Option iV → iH → Prop), G sp sc [22] d mX8_pair (n + 1) 36 L st h Q = (match ld L 1 with | some (.inl x) => G sp sc [22] d mX8_pair n 37 L (.inl x :: st) h Q | _ => False)) ∧
  (∀ (n d : Nat) (L : List (Option iV)) (a : Int) (b : Int) (r : List iV) (h : iH) (Q : Option iV → iH → Prop), G sp sc [22] d mX8_pair (n + 1) 37 L (.inl b :: .inl a :: r) h Q = ((inI a = true ∧ inI b = true) ∧ (¬ a = b → G sp sc [22] d mX8_pair n 53 L r h Q) ∧ (¬ (¬ a = b) → G sp sc [22] d mX8_pair n 40 L r h Q))) ∧
  (∀ (n d : Nat) (L : List (Option iV)) (st : List iV) (h : iH) (Q : Option iV → iH → Prop), G sp sc [22] d mX8_pair (n + 1) 40 L st h Q = (match ld L 0 with | some (.inr (.inr (r + 1))) => G sp sc [22] d mX8_pair n 41 L (.inr (.inr (r + 1)) :: st) h Q | _ => False)) ∧
  (∀ (n d : Nat) (L : List (Option iV)) (r : List iV) (m : Nat) (h : iH) (Q : Option iV → iH → Prop), G sp sc [22] d mX8_pair (n + 1) 41 L (.inr (.inr (m + 2)) :: r) h Q = (match h.1[m]? with | some (.inl (ci, fs)) => (match lkF 8 33 ci with | some k => (match fs[k]? with | some v => G sp sc [22] d mX8_pair n 44 L (v :: r) h Q | none => False) | none => False) | _ => False)) ∧
  (∀ (n d : Nat) (L : List (Option iV)) (st : List iV) (h : iH) (Q : Option iV → iH → Prop), G sp sc [22] d mX8_pair (n + 1) 44 L st h Q = (match ld L 3 with | some (.inl x) => G sp sc [22] d mX8_pair n 45 L (.inl x :: st) h Q | _ => False)) ∧
  (∀ (n d : Nat) (L : List (Option iV)) (r : List iV) (j : Int) (m : Nat) (h : iH) (Q : Option iV → iH → Prop), G sp sc [22] d mX8_pair (n + 1) 45 L (.inl j :: .inr (.inr (m + 2)) :: r) h Q = (match h.1[m]? with | some (.inr (.inl (0, xs))) => inA j xs.length = true ∧ G sp sc [22] d mX8_pair n 46 L (.inl (xs.getD j.toNat 0) :: r) h Q | _ => False)) ∧
  (∀ (n d : Nat) (L : List (Option iV)) (st : List iV) (h : iH) (Q : Option iV → iH → Prop), G sp sc [22] d mX8_pair (n + 1) 46 L st h Q = (match ld L 2 with | some (.inl x) => G sp sc [22] d mX8_pair n 47 L (.inl x :: st) h Q | _ => False)) ∧
  (∀ (n d : Nat) (L : List (Option iV)) (a : Int) (b : Int) (r : List iV) (h : iH) (Q : Option iV → iH → Prop), G sp sc [22] d mX8_pair (n + 1) 47 L (.inl b :: .inl a :: r) h Q = ((inI a = true ∧ inI b = true) ∧ (¬ a = b → G sp sc [22] d mX8_pair n 53 L r h Q) ∧ (¬ (¬ a = b) → G sp sc [22] d mX8_pair n 50 L r h Q))) ∧
  (∀ (n d : Nat) (L : List (Option iV)) (st : List iV) (h : iH) (Q : Option iV → iH → Prop), G sp sc [22] d mX8_pair (n + 1) 50 L st h Q = ((-128 ≤ ((-3) : Int) ∧ ((-3) : Int) < 128) ∧ G sp sc [22] d mX8_pair n 52 L (.inl (-3) :: st) h Q)) ∧
  (∀ (n d : Nat) (L : List (Option iV)) (a : Int) (h : iH) (Q : Option iV → iH → Prop), G sp sc [22] d mX8_pair (n + 1) 52 L [.inl a] h Q = Q (some (.inl a)) h) ∧
  (∀ (n d : Nat) (L : List (Option iV)) (st : List iV) (h : iH) (Q : Option iV → iH → Prop), G sp sc [22] d mX8_pair (n + 1) 53 L st h Q = (match ld L 3 with | some (.inl x) => (match st1 L 3 (.inl (x + 1)) with | some L' => G sp sc [22] d mX8_pair n 56 L' st h Q | none => False) | _ => False)) ∧
  (∀ (n d : Nat) (L : List (Option iV)) (st : List iV) (h : iH) (Q : Option iV → iH → Prop), G sp sc [22] d mX8_pair (n + 1) 56 L st h Q = Run sp sc d mX8_pair 22 L st h Q) ∧
  (∀ (n d : Nat) (L : List (Option iV)) (st : List iV) (h : iH) (Q : Option iV → iH → Prop), G sp sc [22] d mX8_pair (n + 1) 59 L st h Q = (match ld L 0 with | some (.inr (.inr (r + 1))) => G sp sc [22] d mX8_pair n 60 L (.inr (.inr (r + 1)) :: st) h Q | _ => False)) ∧
  (∀ (n d : Nat) (L : List (Option iV)) (st : List iV) (h : iH) (Q : Option iV → iH → Prop), G sp sc [22] d mX8_pair (n + 1) 60 L st h Q = G sp sc [22] d mX8_pair n 61 L (.inl 0 :: st) h Q) ∧
  (∀ (n d : Nat) (L : List (Option iV)) (st : List iV) (h : iH) (Q : Option iV → iH → Prop), G sp sc [22] d mX8_pair (n + 1) 61 L st h Q = (match ld L 1 with | some (.inl x) => G sp sc [22] d mX8_pair n 62 L (.inl x :: st) h Q | _ => False)) ∧
  (∀ (n d : Nat) (L : List (Option iV)) (r : List iV) (m : Nat) (z0 : iV) (z1 : iV) (h : iH) (Q : Option iV → iH → Prop), G sp sc [22] (d + 1) mX8_pair (n + 1) 62 L (z1 :: z0 :: .inr (.inr (m + 2)) :: r) h Q = (match h.1[m]? with | some (.inl (ci, _)) => (match lkC 8 80 ci with | some (y1, n1, kd) => (n1 = 2 ∧ (kd = 2 ∨ kd = 3 ∨ kd = 8) ∧ cs r ≤ 8) ∧ Call sp sc d y1 [.inr (.inr (m + 2)), z0, z1] h (fun q h1 => GC sp sc [22] (d + 1) mX8_pair n 65 L q r h h1 Q) | none => False) | _ => False)) ∧
  (∀ (n d : Nat) (L : List (Option iV)) (a : Int) (r : List iV) (h : iH) (Q : Option iV → iH → Prop), G sp sc [22] d mX8_pair (n + 1) 65 L (.inl a :: r) h Q = (inI a = true ∧ (¬ a = 0 → G sp sc [22] d mX8_pair n 77 L r h Q) ∧ (¬ (¬ a = 0) → G sp sc [22] d mX8_pair n 68 L r h Q))) ∧
  (∀ (n d : Nat) (L : List (Option iV)) (st : List iV) (h : iH) (Q : Option iV → iH → Prop), G sp sc [22] d mX8_pair (n + 1) 68 L st h Q = (match ld L 0 with | some (.inr (.inr (r + 1))) => G sp sc [22] d mX8_pair n 69 L (.inr (.inr (r + 1)) :: st) h Q | _ => False)) ∧
  (∀ (n d : Nat) (L : List (Option iV)) (st : List iV) (h : iH) (Q : Option iV → iH → Prop), G sp sc [22] d mX8_pair (n + 1) 69 L st h Q = G sp sc [22] d mX8_pair n 70 L (.inl 1 :: st) h Q) ∧
  (∀ (n d : Nat) (L : List (Option iV)) (st : List iV) (h : iH) (Q : Option iV → iH → Prop), G sp sc [22] d mX8_pair (n + 1) 70 L st h Q = (match ld L 2 with | some (.inl x) => G sp sc [22] d mX8_pair n 71 L (.inl x :: st) h Q | _ => False)) ∧
  (∀ (n d : Nat) (L : List (Option iV)) (r : List iV) (m : Nat) (z0 : iV) (z1 : iV) (h : iH) (Q : Option iV → iH → Prop), G sp sc [22] (d + 1) mX8_pair (n + 1) 71 L (z1 :: z0 :: .inr (.inr (m + 2)) :: r) h Q = (match h.1[m]? with | some (.inl (ci, _)) => (match lkC 8 80 ci with | some (y1, n1, kd) => (n1 = 2 ∧ (kd = 2 ∨ kd = 3 ∨ kd = 8) ∧ cs r ≤ 8) ∧ Call sp sc d y1 [.inr (.inr (m + 2)), z0, z1] h (fun q h1 => GC sp sc [22] (d + 1) mX8_pair n 74 L q r h h1 Q) | none => False) | _ => False)) ∧
  (∀ (n d : Nat) (L : List (Option iV)) (a : Int) (r : List iV) (h : iH) (Q : Option iV → iH → Prop), G sp sc [22] d mX8_pair (n + 1) 74 L (.inl a :: r) h Q = (inI a = true ∧ (a = 0 → G sp sc [22] d mX8_pair n 80 L r h Q) ∧ (¬ (a = 0) → G sp sc [22] d mX8_pair n 77 L r h Q))) ∧
  (∀ (n d : Nat) (L : List (Option iV)) (st : List iV) (h : iH) (Q : Option iV → iH → Prop), G sp sc [22] d mX8_pair (n + 1) 77 L st h Q = ((-128 ≤ ((-3) : Int) ∧ ((-3) : Int) < 128) ∧ G sp sc [22] d mX8_pair n 79 L (.inl (-3) :: st) h Q)) ∧
  (∀ (n d : Nat) (L : List (Option iV)) (a : Int) (h : iH) (Q : Option iV → iH → Prop), G sp sc [22] d mX8_pair (n + 1) 79 L [.inl a] h Q = Q (some (.inl a)) h) ∧
  (∀ (n d : Nat) (L : List (Option iV)) (st : List iV) (h : iH) (Q : Option iV → iH → Prop), G sp sc [22] d mX8_pair (n + 1) 80 L st h Q = (match ld L 0 with | some (.inr (.inr (r + 1))) => G sp sc [22] d mX8_pair n 81 L (.inr (.inr (r + 1)) :: st) h Q | _ => False)) ∧
  (∀ (n d : Nat) (L : List (Option iV)) (r : List iV) (m : Nat) (h : iH) (Q : Option iV → iH → Prop), G sp sc [22] d mX8_pair (n + 1) 81 L (.inr (.inr (m + 2)) :: r) h Q = (match h.1[m]? with | some (.inl (ci, fs)) => (match lkF 8 57 ci with | some k => (match fs[k]? with | some v => G sp sc [22] d mX8_pair n 84 L (v :: r) h Q | none => False) | none => False) | _ => False)) ∧
  (∀ (n d : Nat) (L : List (Option iV)) (st : List iV) (h : iH) (Q : Option iV → iH → Prop), G sp sc [22] d mX8_pair (n + 1) 84 L st h Q = G sp sc [22] d mX8_pair n 85 L (.inl 4 :: st) h Q) ∧
  (∀ (n d : Nat) (L : List (Option iV)) (a : Int) (b : Int) (r : List iV) (h : iH) (Q : Option iV → iH → Prop), G sp sc [22] d mX8_pair (n + 1) 85 L (.inl b :: .inl a :: r) h Q = ((inI a = true ∧ inI b = true) ∧ (a < b → G sp sc [22] d mX8_pair n 91 L r h Q) ∧ (¬ (a < b) → G sp sc [22] d mX8_pair n 88 L r h Q))) ∧
  (∀ (n d : Nat) (L : List (Option iV)) (st : List iV) (h : iH) (Q : Option iV → iH → Prop), G sp sc [22] d mX8_pair (n + 1) 88 L st h Q = ((-128 ≤ ((-2) : Int) ∧ ((-2) : Int) < 128) ∧ G sp sc [22] d mX8_pair n 90 L (.inl (-2) :: st) h Q)) ∧
  (∀ (n d : Nat) (L : List (Option iV)) (a : Int) (h : iH) (Q : Option iV → iH → Prop), G sp sc [22] d mX8_pair (n + 1) 90 L [.inl a] h Q = Q (some (.inl a)) h) ∧
  (∀ (n d : Nat) (L : List (Option iV)) (st : List iV) (h : iH) (Q : Option iV → iH → Prop), G sp sc [22] d mX8_pair (n + 1) 91 L st h Q = (match ld L 0 with | some (.inr (.inr (r + 1))) => G sp sc [22] d mX8_pair n 92 L (.inr (.inr (r + 1)) :: st) h Q | _ => False)) ∧
  (∀ (n d : Nat) (L : List (Option iV)) (r : List iV) (m : Nat) (h : iH) (Q : Option iV → iH → Prop), G sp sc [22] d mX8_pair (n + 1) 92 L (.inr (.inr (m + 2)) :: r) h Q = (match h.1[m]? with | some (.inl (ci, fs)) => (match lkF 8 30 ci with | some k => (match fs[k]? with | some v => G sp sc [22] d mX8_pair n 95 L (v :: r) h Q | none => False) | none => False) | _ => False)) ∧
  (∀ (n d : Nat) (L : List (Option iV)) (st : List iV) (h : iH) (Q : Option iV → iH → Prop), G sp sc [22] d mX8_pair (n + 1) 95 L st h Q = (match ld L 0 with | some (.inr (.inr (r + 1))) => G sp sc [22] d mX8_pair n 96 L (.inr (.inr (r + 1)) :: st) h Q | _ => False)) ∧
  (∀ (n d : Nat) (L : List (Option iV)) (r : List iV) (m : Nat) (h : iH) (Q : Option iV → iH → Prop), G sp sc [22] d mX8_pair (n + 1) 96 L (.inr (.inr (m + 2)) :: r) h Q = (match h.1[m]? with | some (.inl (ci, fs)) => (match lkF 8 57 ci with | some k => (match fs[k]? with | some v => G sp sc [22] d mX8_pair n 99 L (v :: r) h Q | none => False) | none => False) | _ => False)) ∧
  (∀ (n d : Nat) (L : List (Option iV)) (st : List iV) (h : iH) (Q : Option iV → iH → Prop), G sp sc [22] d mX8_pair (n + 1) 99 L st h Q = (match ld L 1 with | some (.inl x) => G sp sc [22] d mX8_pair n 100 L (.inl x :: st) h Q | _ => False)) ∧
  (∀ (n d : Nat) (L : List (Option iV)) (r : List iV) (v : Int) (j : Int) (m : Nat) (h : iH) (Q : Option iV → iH → Prop), G sp sc [22] d mX8_pair (n + 1) 100 L (.inl v :: .inl j :: .inr (.inr (m + 2)) :: r) h Q = (match h.1[m]? with | some (.inr (.inl (0, xs))) => inA j xs.length = true ∧ G sp sc [22] d mX8_pair n 101 L r (h.1.set m (.inr (.inl (0, xs.set j.toNat v))), h.2) Q | _ => False)) ∧
  (∀ (n d : Nat) (L : List (Option iV)) (st : List iV) (h : iH) (Q : Option iV → iH → Prop), G sp sc [22] d mX8_pair (n + 1) 101 L st h Q = (match ld L 0 with | some (.inr (.inr (r + 1))) => G sp sc [22] d mX8_pair n 102 L (.inr (.inr (r + 1)) :: st) h Q | _ => False)) ∧
  (∀ (n d : Nat) (L : List (Option iV)) (r : List iV) (m : Nat) (h : iH) (Q : Option iV → iH → Prop), G sp sc [22] d mX8_pair (n + 1) 102 L (.inr (.inr (m + 2)) :: r) h Q = (match h.1[m]? with | some (.inl (ci, fs)) => (match lkF 8 33 ci with | some k => (match fs[k]? with | some v => G sp sc [22] d mX8_pair n 105 L (v :: r) h Q | none => False) | none => False) | _ => False)) ∧
  (∀ (n d : Nat) (L : List (Option iV)) (st : List iV) (h : iH) (Q : Option iV → iH → Prop), G sp sc [22] d mX8_pair (n + 1) 105 L st h Q = (match ld L 0 with | some (.inr (.inr (r + 1))) => G sp sc [22] d mX8_pair n 106 L (.inr (.inr (r + 1)) :: st) h Q | _ => False)) ∧
  (∀ (n d : Nat) (L : List (Option iV)) (r : List iV) (m : Nat) (h : iH) (Q : Option iV → iH → Prop), G sp sc [22] d mX8_pair (n + 1) 106 L (.inr (.inr (m + 2)) :: r) h Q = (match h.1[m]? with | some (.inl (ci, fs)) => (match lkF 8 57 ci with | some k => (match fs[k]? with | some v => G sp sc [22] d mX8_pair n 109 L (v :: r) h Q | none => False) | none => False) | _ => False)) ∧
  (∀ (n d : Nat) (L : List (Option iV)) (st : List iV) (h : iH) (Q : Option iV → iH → Prop), G sp sc [22] d mX8_pair (n + 1) 109 L st h Q = (match ld L 2 with | some (.inl x) => G sp sc [22] d mX8_pair n 110 L (.inl x :: st) h Q | _ => False)) ∧
  (∀ (n d : Nat) (L : List (Option iV)) (r : List iV) (v : Int) (j : Int) (m : Nat) (h : iH) (Q : Option iV → iH → Prop), G sp sc [22] d mX8_pair (n + 1) 110 L (.inl v :: .inl j :: .inr (.inr (m + 2)) :: r) h Q = (match h.1[m]? with | some (.inr (.inl (0, xs))) => inA j xs.length = true ∧ G sp sc [22] d mX8_pair n 111 L r (h.1.set m (.inr (.inl (0, xs.set j.toNat v))), h.2) Q | _ => False)) ∧
  (∀ (n d : Nat) (L : List (Option iV)) (st : List iV) (h : iH) (Q : Option iV → iH → Prop), G sp sc [22] d mX8_pair (n + 1) 111 L st h Q = (match ld L 0 with | some (.inr (.inr (r + 1))) => G sp sc [22] d mX8_pair n 112 L (.inr (.inr (r + 1)) :: st) h Q | _ => False)) ∧
  (∀ (n d : Nat) (L : List (Option iV)) (a : Int) (r : List iV) (h : iH) (Q : Option iV → iH → Prop), G sp sc [22] d mX8_pair (n + 1) 112 L (.inl a :: r) h Q = G sp sc [22] d mX8_pair n 113 L (.inl a :: .inl a :: r) h Q) ∧
  (∀ (n d : Nat) (L : List (Option iV)) (a : Nat) (r : List iV) (h : iH) (Q : Option iV → iH → Prop), G sp sc [22] d mX8_pair (n + 1) 112 L (.inr (.inr a) :: r) h Q = G sp sc [22] d mX8_pair n 113 L (.inr (.inr a) :: .inr (.inr a) :: r) h Q) ∧
  (∀ (n d : Nat) (L : List (Option iV)) (r : List iV) (m : Nat) (h : iH) (Q : Option iV → iH → Prop), G sp sc [22] d mX8_pair (n + 1) 113 L (.inr (.inr (m + 2)) :: r) h Q = (match h.1[m]? with | some (.inl (ci, fs)) => (match lkF 8 57 ci with | some k => (match fs[k]? with | some v => G sp sc [22] d mX8_pair n 116 L (v :: r) h Q | none => False) | none => False) | _ => False)) ∧
  (∀ (n d : Nat) (L : List (Option iV)) (st : List iV) (h : iH) (Q : Option iV → iH → Prop), G sp sc [22] d mX8_pair (n + 1) 116 L st h Q = G sp sc [22] d mX8_pair n 117 L (.inl 1 :: st) h Q) ∧
  (∀ (n d : Nat) (L : List (Option iV)) (a : Int) (b : Int) (r : List iV) (h : iH) (Q : Option iV → iH → Prop), G sp sc [22] d mX8_pair (n + 1) 117 L (.inl b :: .inl a :: r) h Q = G sp sc [22] d mX8_pair n 118 L (.inl (a + b) :: r) h Q) ∧
  (∀ (n d : Nat) (L : List (Option iV)) (r : List iV) (v : iV) (m : Nat) (h : iH) (Q : Option iV → iH → Prop), G sp sc [22] d mX8_pair (n + 1) 118 L (v :: .inr (.inr (m + 2)) :: r) h Q = (match h.1[m]? with | some (.inl (ci, fs)) => (match lkF 8 57 ci with | some k => (fitV (tyT ci k) v = true ∧ k < fs.length ∧ pOK 8 false ci k = true) ∧ G sp sc [22] d mX8_pair n 121 L r (h.1.set m (.inl (ci, fs.set k v)), h.2) Q | none => False) | _ => False)) ∧
  (∀ (n d : Nat) (L : List (Option iV)) (st : List iV) (h : iH) (Q : Option iV → iH → Prop), G sp sc [22] d mX8_pair (n + 1) 121 L st h Q = (match ld L 0 with | some (.inr (.inr (r + 1))) => G sp sc [22] d mX8_pair n 122 L (.inr (.inr (r + 1)) :: st) h Q | _ => False)) ∧
  (∀ (n d : Nat) (L : List (Option iV)) (r : List iV) (m : Nat) (h : iH) (Q : Option iV → iH → Prop), G sp sc [22] d mX8_pair (n + 1) 122 L (.inr (.inr (m + 2)) :: r) h Q = (match h.1[m]? with | some (.inl (ci, fs)) => (match lkF 8 57 ci with | some k => (match fs[k]? with | some v => G sp sc [22] d mX8_pair n 125 L (v :: r) h Q | none => False) | none => False) | _ => False)) ∧
  (∀ (n d : Nat) (L : List (Option iV)) (st : List iV) (h : iH) (Q : Option iV → iH → Prop), G sp sc [22] d mX8_pair (n + 1) 125 L st h Q = G sp sc [22] d mX8_pair n 126 L (.inl 1 :: st) h Q) ∧
  (∀ (n d : Nat) (L : List (Option iV)) (a : Int) (b : Int) (r : List iV) (h : iH) (Q : Option iV → iH → Prop), G sp sc [22] d mX8_pair (n + 1) 126 L (.inl b :: .inl a :: r) h Q = G sp sc [22] d mX8_pair n 127 L (.inl (a - b) :: r) h Q) ∧
  (∀ (n d : Nat) (L : List (Option iV)) (a : Int) (h : iH) (Q : Option iV → iH → Prop), G sp sc [22] d mX8_pair (n + 1) 127 L [.inl a] h Q = Q (some (.inl a)) h) ∧
  lkC 8 53 8 = some (mX8_hasOne, 2, 2) ∧
  lkC 8 80 8 = some (mX8_isBound, 2, 2) ∧
  lkF 8 30 8 = some 6 ∧
  lkF 8 33 8 = some 7 ∧
  lkF 8 57 8 = some 5 ∧
  pOK 8 false 8 5 = true := ⟨by intros; exact G_at (by decide +kernel : fetch mX8_pair 0 = some (.aload_n 0)),
  by intros; exact G_at (by decide +kernel : fetch mX8_pair 1 = some (.iconst 0)),
  by intros; exact G_at (by decide +kernel : fetch mX8_pair 2 = some (.iload_n 1)),
  by intros; exact G_callV (by decide +kernel : fetch mX8_pair 3 = some (.invokevirtual 53)) (by decide +kernel) (by decide +kernel) rfl,
  by intros; exact G_at (by decide +kernel : fetch mX8_pair 6 = some (.ifCond .eq 12)),
  by intros; exact G_at (by decide +kernel : fetch mX8_pair 9 = some (.aload_n 0)),
  by intros; exact G_at (by decide +kernel : fetch mX8_pair 10 = some (.iconst 1)),
  by intros; exact G_at (by decide +kernel : fetch mX8_pair 11 = some (.iload_n 2)),
  by intros; exact G_callV (by decide +kernel : fetch mX8_pair 12 = some (.invokevirtual 53)) (by decide +kernel) (by decide +kernel) rfl,
  by intros; exact G_at (by decide +kernel : fetch mX8_pair 15 = some (.ifCond .ne 5)),
  by intros; exact G_at (by decide +kernel : fetch mX8_pair 18 = some (.iconst (-1))),
  by intros; exact G_reti (by decide +kernel : fetch mX8_pair 19 = some (.ireturn)) (by decide +kernel),
  by intros; exact G_at (by decide +kernel : fetch mX8_pair 20 = some (.iconst 0)),
  by intros; exact G_at (by decide +kernel : fetch mX8_pair 21 = some (.istore_n 3)),
  by intros; exact G_at (by decide +kernel : fetch mX8_pair 22 = some (.iload_n 3)),
  by intros; exact G_at (by decide +kernel : fetch mX8_pair 23 = some (.aload_n 0)),
  by intros; exact G_own (by decide +kernel : fetch mX8_pair 24 = some (.getfield 57)) (by decide +kernel),
  by intros; exact G_at (by decide +kernel : fetch mX8_pair 27 = some (.if_icmp .ge 32)),
  by intros; exact G_at (by decide +kernel : fetch mX8_pair 30 = some (.aload_n 0)),
  by intros; exact G_own (by decide +kernel : fetch mX8_pair 31 = some (.getfield 30)) (by decide +kernel),
  by intros; exact G_at (by decide +kernel : fetch mX8_pair 34 = some (.iload_n 3)),
  by intros; exact G_at (by decide +kernel : fetch mX8_pair 35 = some (.iaload)),
  by intros; exact G_at (by decide +kernel : fetch mX8_pair 36 = some (.iload_n 1)),
  by intros; exact G_at (by decide +kernel : fetch mX8_pair 37 = some (.if_icmp .ne 16)),
  by intros; exact G_at (by decide +kernel : fetch mX8_pair 40 = some (.aload_n 0)),
  by intros; exact G_own (by decide +kernel : fetch mX8_pair 41 = some (.getfield 33)) (by decide +kernel),
  by intros; exact G_at (by decide +kernel : fetch mX8_pair 44 = some (.iload_n 3)),
  by intros; exact G_at (by decide +kernel : fetch mX8_pair 45 = some (.iaload)),
  by intros; exact G_at (by decide +kernel : fetch mX8_pair 46 = some (.iload_n 2)),
  by intros; exact G_at (by decide +kernel : fetch mX8_pair 47 = some (.if_icmp .ne 6)),
  by intros; exact G_at (by decide +kernel : fetch mX8_pair 50 = some (.bipush (-3))),
  by intros; exact G_reti (by decide +kernel : fetch mX8_pair 52 = some (.ireturn)) (by decide +kernel),
  by intros; exact G_at (by decide +kernel : fetch mX8_pair 53 = some (.iinc 3 1)),
  by intros; exact G_at (by decide +kernel : fetch mX8_pair 56 = some (.goto (-34))),
  by intros; exact G_at (by decide +kernel : fetch mX8_pair 59 = some (.aload_n 0)),
  by intros; exact G_at (by decide +kernel : fetch mX8_pair 60 = some (.iconst 0)),
  by intros; exact G_at (by decide +kernel : fetch mX8_pair 61 = some (.iload_n 1)),
  by intros; exact G_callV (by decide +kernel : fetch mX8_pair 62 = some (.invokevirtual 80)) (by decide +kernel) (by decide +kernel) rfl,
  by intros; exact G_at (by decide +kernel : fetch mX8_pair 65 = some (.ifCond .ne 12)),
  by intros; exact G_at (by decide +kernel : fetch mX8_pair 68 = some (.aload_n 0)),
  by intros; exact G_at (by decide +kernel : fetch mX8_pair 69 = some (.iconst 1)),
  by intros; exact G_at (by decide +kernel : fetch mX8_pair 70 = some (.iload_n 2)),
  by intros; exact G_callV (by decide +kernel : fetch mX8_pair 71 = some (.invokevirtual 80)) (by decide +kernel) (by decide +kernel) rfl,
  by intros; exact G_at (by decide +kernel : fetch mX8_pair 74 = some (.ifCond .eq 6)),
  by intros; exact G_at (by decide +kernel : fetch mX8_pair 77 = some (.bipush (-3))),
  by intros; exact G_reti (by decide +kernel : fetch mX8_pair 79 = some (.ireturn)) (by decide +kernel),
  by intros; exact G_at (by decide +kernel : fetch mX8_pair 80 = some (.aload_n 0)),
  by intros; exact G_own (by decide +kernel : fetch mX8_pair 81 = some (.getfield 57)) (by decide +kernel),
  by intros; exact G_at (by decide +kernel : fetch mX8_pair 84 = some (.iconst 4)),
  by intros; exact G_at (by decide +kernel : fetch mX8_pair 85 = some (.if_icmp .lt 6)),
  by intros; exact G_at (by decide +kernel : fetch mX8_pair 88 = some (.bipush (-2))),
  by intros; exact G_reti (by decide +kernel : fetch mX8_pair 90 = some (.ireturn)) (by decide +kernel),
  by intros; exact G_at (by decide +kernel : fetch mX8_pair 91 = some (.aload_n 0)),
  by intros; exact G_own (by decide +kernel : fetch mX8_pair 92 = some (.getfield 30)) (by decide +kernel),
  by intros; exact G_at (by decide +kernel : fetch mX8_pair 95 = some (.aload_n 0)),
  by intros; exact G_own (by decide +kernel : fetch mX8_pair 96 = some (.getfield 57)) (by decide +kernel),
  by intros; exact G_at (by decide +kernel : fetch mX8_pair 99 = some (.iload_n 1)),
  by intros; exact G_at (by decide +kernel : fetch mX8_pair 100 = some (.iastore)),
  by intros; exact G_at (by decide +kernel : fetch mX8_pair 101 = some (.aload_n 0)),
  by intros; exact G_own (by decide +kernel : fetch mX8_pair 102 = some (.getfield 33)) (by decide +kernel),
  by intros; exact G_at (by decide +kernel : fetch mX8_pair 105 = some (.aload_n 0)),
  by intros; exact G_own (by decide +kernel : fetch mX8_pair 106 = some (.getfield 57)) (by decide +kernel),
  by intros; exact G_at (by decide +kernel : fetch mX8_pair 109 = some (.iload_n 2)),
  by intros; exact G_at (by decide +kernel : fetch mX8_pair 110 = some (.iastore)),
  by intros; exact G_at (by decide +kernel : fetch mX8_pair 111 = some (.aload_n 0)),
  by intros; exact G_at (by decide +kernel : fetch mX8_pair 112 = some (.dup)),
  by intros; exact G_at (by decide +kernel : fetch mX8_pair 112 = some (.dup)),
  by intros; exact G_own (by decide +kernel : fetch mX8_pair 113 = some (.getfield 57)) (by decide +kernel),
  by intros; exact G_at (by decide +kernel : fetch mX8_pair 116 = some (.iconst 1)),
  by intros; exact G_at (by decide +kernel : fetch mX8_pair 117 = some (.iadd)),
  by intros; exact G_ownW (by decide +kernel : fetch mX8_pair 118 = some (.putfield 57)) (by decide +kernel) (by decide +kernel),
  by intros; exact G_at (by decide +kernel : fetch mX8_pair 121 = some (.aload_n 0)),
  by intros; exact G_own (by decide +kernel : fetch mX8_pair 122 = some (.getfield 57)) (by decide +kernel),
  by intros; exact G_at (by decide +kernel : fetch mX8_pair 125 = some (.iconst 1)),
  by intros; exact G_at (by decide +kernel : fetch mX8_pair 126 = some (.isub)),
  by intros; exact G_reti (by decide +kernel : fetch mX8_pair 127 = some (.ireturn)) (by decide +kernel),
  by decide +kernel,
  by decide +kernel,
  by decide +kernel,
  by decide +kernel,
  by decide +kernel,
  by decide +kernel⟩
theorem gX8_isBound : (∀ (n d : Nat) (L : List (Option iV)) (st : List iV) (h : iH) (Q : Option iV → iH → Prop), G sp sc [] d mX8_isBound (n + 1) 0 L st h Q = (match ld L 0 with | some (.inr (.inr (r + 1))) => G sp sc [] d mX8_isBound n 1 L (.inr (.inr (r + 1)) :: st) h Q | _ => False)) ∧
  (∀ (n d : Nat) (L : List (Option iV)) (r : List iV) (m : Nat) (h : iH) (Q : Option iV → iH → Prop), G sp sc [] d mX8_isBound (n + 1) 1 L (.inr (.inr (m + 2)) :: r) h Q = (match h.1[m]? with | some (.inl (ci, fs)) => (match lkF 8 24 ci with | some k => (match fs[k]? with | some v => G sp sc [] d mX8_isBound n 4 L (v :: r) h Q | none => False) | none => False) | _ => False)) ∧
  (∀ (n d : Nat) (L : List (Option iV)) (st : List iV) (h : iH) (Q : Option iV → iH → Prop), G sp sc [] d mX8_isBound (n + 1) 4 L st h Q = (match ld L 1 with | some (.inl x) => G sp sc [] d mX8_isBound n 5 L (.inl x :: st) h Q | _ => False)) ∧
  (∀ (n d : Nat) (L : List (Option iV)) (st : List iV) (h : iH) (Q : Option iV → iH → Prop), G sp sc [] d mX8_isBound (n + 1) 5 L st h Q = (match ld L 2 with | some (.inl x) => G sp sc [] d mX8_isBound n 6 L (.inl x :: st) h Q | _ => False)) ∧
  (∀ (n d : Nat) (L : List (Option iV)) (r : List iV) (z0 : iV) (z1 : iV) (h : iH) (Q : Option iV → iH → Prop), G sp sc [] (d + 1) mX8_isBound (n + 1) 6 L (z1 :: z0 :: r) h Q = (cs r ≤ 8 ∧ Call sp sc d mX8_place [z0, z1] h (fun q h1 => GC sp sc [] (d + 1) mX8_isBound n 9 L q r h h1 Q))) ∧
  (∀ (n d : Nat) (L : List (Option iV)) (r : List iV) (j : Int) (m : Nat) (h : iH) (Q : Option iV → iH → Prop), G sp sc [] d mX8_isBound (n + 1) 9 L (.inl j :: .inr (.inr (m + 2)) :: r) h Q = (match h.1[m]? with | some (.inr (.inl (0, xs))) => inA j xs.length = true ∧ G sp sc [] d mX8_isBound n 10 L (.inl (xs.getD j.toNat 0) :: r) h Q | _ => False)) ∧
  (∀ (n d : Nat) (L : List (Option iV)) (st : List iV) (h : iH) (Q : Option iV → iH → Prop), G sp sc [] d mX8_isBound (n + 1) 10 L st h Q = G sp sc [] d mX8_isBound n 11 L (.inl (-1) :: st) h Q) ∧
  (∀ (n d : Nat) (L : List (Option iV)) (a : Int) (b : Int) (r : List iV) (h : iH) (Q : Option iV → iH → Prop), G sp sc [] d mX8_isBound (n + 1) 11 L (.inl b :: .inl a :: r) h Q = ((inI a = true ∧ inI b = true) ∧ (a = b → G sp sc [] d mX8_isBound n 18 L r h Q) ∧ (¬ (a = b) → G sp sc [] d mX8_isBound n 14 L r h Q))) ∧
  (∀ (n d : Nat) (L : List (Option iV)) (st : List iV) (h : iH) (Q : Option iV → iH → Prop), G sp sc [] d mX8_isBound (n + 1) 14 L st h Q = G sp sc [] d mX8_isBound n 15 L (.inl 1 :: st) h Q) ∧
  (∀ (n d : Nat) (L : List (Option iV)) (st : List iV) (h : iH) (Q : Option iV → iH → Prop), G sp sc [] d mX8_isBound (n + 1) 15 L st h Q = G sp sc [] d mX8_isBound n 19 L st h Q) ∧
  (∀ (n d : Nat) (L : List (Option iV)) (st : List iV) (h : iH) (Q : Option iV → iH → Prop), G sp sc [] d mX8_isBound (n + 1) 18 L st h Q = G sp sc [] d mX8_isBound n 19 L (.inl 0 :: st) h Q) ∧
  (∀ (n d : Nat) (L : List (Option iV)) (a : Int) (h : iH) (Q : Option iV → iH → Prop), G sp sc [] d mX8_isBound (n + 1) 19 L [.inl a] h Q = ((a = 0 ∨ a = 1) ∧ Q (some (.inl a)) h)) ∧
  lkF 8 24 8 = some 3 := ⟨by intros; exact G_at (by decide +kernel : fetch mX8_isBound 0 = some (.aload_n 0)),
  by intros; exact G_own (by decide +kernel : fetch mX8_isBound 1 = some (.getfield 24)) (by decide +kernel),
  by intros; exact G_at (by decide +kernel : fetch mX8_isBound 4 = some (.iload_n 1)),
  by intros; exact G_at (by decide +kernel : fetch mX8_isBound 5 = some (.iload_n 2)),
  by intros; exact G_callS (k := 2) (kd := 0) (by decide +kernel : fetch mX8_isBound 6 = some (.invokestatic 60)) (by decide +kernel) (by decide +kernel) (by decide +kernel) rfl (by decide),
  by intros; exact G_at (by decide +kernel : fetch mX8_isBound 9 = some (.iaload)),
  by intros; exact G_at (by decide +kernel : fetch mX8_isBound 10 = some (.iconst (-1))),
  by intros; exact G_at (by decide +kernel : fetch mX8_isBound 11 = some (.if_icmp .eq 7)),
  by intros; exact G_at (by decide +kernel : fetch mX8_isBound 14 = some (.iconst 1)),
  by intros; exact G_at (by decide +kernel : fetch mX8_isBound 15 = some (.goto 4)),
  by intros; exact G_at (by decide +kernel : fetch mX8_isBound 18 = some (.iconst 0)),
  by intros; exact G_retz (by decide +kernel : fetch mX8_isBound 19 = some (.ireturn)) (by decide +kernel),
  by decide +kernel⟩
theorem gX8_bind : (∀ (n d : Nat) (L : List (Option iV)) (st : List iV) (h : iH) (Q : Option iV → iH → Prop), G sp sc [] d mX8_bind (n + 1) 0 L st h Q = (match ld L 0 with | some (.inr (.inr (r + 1))) => G sp sc [] d mX8_bind n 1 L (.inr (.inr (r + 1)) :: st) h Q | _ => False)) ∧
  (∀ (n d : Nat) (L : List (Option iV)) (r : List iV) (m : Nat) (h : iH) (Q : Option iV → iH → Prop), G sp sc [] d mX8_bind (n + 1) 1 L (.inr (.inr (m + 2)) :: r) h Q = (match h.1[m]? with | some (.inl (ci, fs)) => (match lkF 8 24 ci with | some k => (match fs[k]? with | some v => G sp sc [] d mX8_bind n 4 L (v :: r) h Q | none => False) | none => False) | _ => False)) ∧
  (∀ (n d : Nat) (L : List (Option iV)) (st : List iV) (h : iH) (Q : Option iV → iH → Prop), G sp sc [] d mX8_bind (n + 1) 4 L st h Q = G sp sc [] d mX8_bind n 5 L (.inl 0 :: st) h Q) ∧
  (∀ (n d : Nat) (L : List (Option iV)) (st : List iV) (h : iH) (Q : Option iV → iH → Prop), G sp sc [] d mX8_bind (n + 1) 5 L st h Q = (match ld L 1 with | some (.inl x) => G sp sc [] d mX8_bind n 6 L (.inl x :: st) h Q | _ => False)) ∧
  (∀ (n d : Nat) (L : List (Option iV)) (r : List iV) (z0 : iV) (z1 : iV) (h : iH) (Q : Option iV → iH → Prop), G sp sc [] (d + 1) mX8_bind (n + 1) 6 L (z1 :: z0 :: r) h Q = (cs r ≤ 8 ∧ Call sp sc d mX8_place [z0, z1] h (fun q h1 => GC sp sc [] (d + 1) mX8_bind n 9 L q r h h1 Q))) ∧
  (∀ (n d : Nat) (L : List (Option iV)) (st : List iV) (h : iH) (Q : Option iV → iH → Prop), G sp sc [] d mX8_bind (n + 1) 9 L st h Q = (match ld L 2 with | some (.inl x) => G sp sc [] d mX8_bind n 10 L (.inl x :: st) h Q | _ => False)) ∧
  (∀ (n d : Nat) (L : List (Option iV)) (r : List iV) (v : Int) (j : Int) (m : Nat) (h : iH) (Q : Option iV → iH → Prop), G sp sc [] d mX8_bind (n + 1) 10 L (.inl v :: .inl j :: .inr (.inr (m + 2)) :: r) h Q = (match h.1[m]? with | some (.inr (.inl (0, xs))) => inA j xs.length = true ∧ G sp sc [] d mX8_bind n 11 L r (h.1.set m (.inr (.inl (0, xs.set j.toNat v))), h.2) Q | _ => False)) ∧
  (∀ (n d : Nat) (L : List (Option iV)) (st : List iV) (h : iH) (Q : Option iV → iH → Prop), G sp sc [] d mX8_bind (n + 1) 11 L st h Q = (match ld L 0 with | some (.inr (.inr (r + 1))) => G sp sc [] d mX8_bind n 12 L (.inr (.inr (r + 1)) :: st) h Q | _ => False)) ∧
  (∀ (n d : Nat) (L : List (Option iV)) (r : List iV) (m : Nat) (h : iH) (Q : Option iV → iH → Prop), G sp sc [] d mX8_bind (n + 1) 12 L (.inr (.inr (m + 2)) :: r) h Q = (match h.1[m]? with | some (.inl (ci, fs)) => (match lkF 8 24 ci with | some k => (match fs[k]? with | some v => G sp sc [] d mX8_bind n 15 L (v :: r) h Q | none => False) | none => False) | _ => False)) ∧
  (∀ (n d : Nat) (L : List (Option iV)) (st : List iV) (h : iH) (Q : Option iV → iH → Prop), G sp sc [] d mX8_bind (n + 1) 15 L st h Q = G sp sc [] d mX8_bind n 16 L (.inl 1 :: st) h Q) ∧
  (∀ (n d : Nat) (L : List (Option iV)) (st : List iV) (h : iH) (Q : Option iV → iH → Prop), G sp sc [] d mX8_bind (n + 1) 16 L st h Q = (match ld L 2 with | some (.inl x) => G sp sc [] d mX8_bind n 17 L (.inl x :: st) h Q | _ => False)) ∧
  (∀ (n d : Nat) (L : List (Option iV)) (r : List iV) (z0 : iV) (z1 : iV) (h : iH) (Q : Option iV → iH → Prop), G sp sc [] (d + 1) mX8_bind (n + 1) 17 L (z1 :: z0 :: r) h Q = (cs r ≤ 8 ∧ Call sp sc d mX8_place [z0, z1] h (fun q h1 => GC sp sc [] (d + 1) mX8_bind n 20 L q r h h1 Q))) ∧
  (∀ (n d : Nat) (L : List (Option iV)) (st : List iV) (h : iH) (Q : Option iV → iH → Prop), G sp sc [] d mX8_bind (n + 1) 20 L st h Q = (match ld L 1 with | some (.inl x) => G sp sc [] d mX8_bind n 21 L (.inl x :: st) h Q | _ => False)) ∧
  (∀ (n d : Nat) (L : List (Option iV)) (r : List iV) (v : Int) (j : Int) (m : Nat) (h : iH) (Q : Option iV → iH → Prop), G sp sc [] d mX8_bind (n + 1) 21 L (.inl v :: .inl j :: .inr (.inr (m + 2)) :: r) h Q = (match h.1[m]? with | some (.inr (.inl (0, xs))) => inA j xs.length = true ∧ G sp sc [] d mX8_bind n 22 L r (h.1.set m (.inr (.inl (0, xs.set j.toNat v))), h.2) Q | _ => False)) ∧
  (∀ (n d : Nat) (L : List (Option iV))  (h : iH) (Q : Option iV → iH → Prop), G sp sc [] d mX8_bind (n + 1) 22 L [] h Q = Q none h) ∧
  lkF 8 24 8 = some 3 := ⟨by intros; exact G_at (by decide +kernel : fetch mX8_bind 0 = some (.aload_n 0)),
  by intros; exact G_own (by decide +kernel : fetch mX8_bind 1 = some (.getfield 24)) (by decide +kernel),
  by intros; exact G_at (by decide +kernel : fetch mX8_bind 4 = some (.iconst 0)),
  by intros; exact G_at (by decide +kernel : fetch mX8_bind 5 = some (.iload_n 1)),
  by intros; exact G_callS (k := 2) (kd := 0) (by decide +kernel : fetch mX8_bind 6 = some (.invokestatic 60)) (by decide +kernel) (by decide +kernel) (by decide +kernel) rfl (by decide),
  by intros; exact G_at (by decide +kernel : fetch mX8_bind 9 = some (.iload_n 2)),
  by intros; exact G_at (by decide +kernel : fetch mX8_bind 10 = some (.iastore)),
  by intros; exact G_at (by decide +kernel : fetch mX8_bind 11 = some (.aload_n 0)),
  by intros; exact G_own (by decide +kernel : fetch mX8_bind 12 = some (.getfield 24)) (by decide +kernel),
  by intros; exact G_at (by decide +kernel : fetch mX8_bind 15 = some (.iconst 1)),
  by intros; exact G_at (by decide +kernel : fetch mX8_bind 16 = some (.iload_n 2)),
  by intros; exact G_callS (k := 2) (kd := 0) (by decide +kernel : fetch mX8_bind 17 = some (.invokestatic 60)) (by decide +kernel) (by decide +kernel) (by decide +kernel) rfl (by decide),
  by intros; exact G_at (by decide +kernel : fetch mX8_bind 20 = some (.iload_n 1)),
  by intros; exact G_at (by decide +kernel : fetch mX8_bind 21 = some (.iastore)),
  by intros; exact G_retv (by decide +kernel : fetch mX8_bind 22 = some (.return_)) (by decide +kernel),
  by decide +kernel⟩
theorem gX8_areOwn : (∀ (n d : Nat) (L : List (Option iV)) (st : List iV) (h : iH) (Q : Option iV → iH → Prop), G sp sc [2] d mX8_areOwn (n + 1) 0 L st h Q = G sp sc [2] d mX8_areOwn n 1 L (.inl 0 :: st) h Q) ∧
  (∀ (n d : Nat) (L : List (Option iV)) (r : List iV) (x : Int) (h : iH) (Q : Option iV → iH → Prop), G sp sc [2] d mX8_areOwn (n + 1) 1 L (.inl x :: r) h Q = (match st1 L 3 (.inl x) with | some L' => Run sp sc d mX8_areOwn 2 L' r h Q | none => False)) ∧
  (∀ (n d : Nat) (L : List (Option iV)) (st : List iV) (h : iH) (Q : Option iV → iH → Prop), G sp sc [2] d mX8_areOwn (n + 1) 2 L st h Q = (match ld L 3 with | some (.inl x) => G sp sc [2] d mX8_areOwn n 3 L (.inl x :: st) h Q | _ => False)) ∧
  (∀ (n d : Nat) (L : List (Option iV)) (st : List iV) (h : iH) (Q : Option iV → iH → Prop), G sp sc [2] d mX8_areOwn (n + 1) 3 L st h Q = (match ld L 0 with | some (.inr (.inr (r + 1))) => G sp sc [2] d mX8_areOwn n 4 L (.inr (.inr (r + 1)) :: st) h Q | _ => False)) ∧
  (∀ (n d : Nat) (L : List (Option iV)) (r : List iV) (m : Nat) (h : iH) (Q : Option iV → iH → Prop), G sp sc [2] d mX8_areOwn (n + 1) 4 L (.inr (.inr (m + 2)) :: r) h Q = (match h.1[m]? with | some (.inl (ci, fs)) => (match lkF 8 57 ci with | some k => (match fs[k]? with | some v => G sp sc [2] d mX8_areOwn n 7 L (v :: r) h Q | none => False) | none => False) | _ => False)) ∧
  (∀ (n d : Nat) (L : List (Option iV)) (a : Int) (b : Int) (r : List iV) (h : iH) (Q : Option iV → iH → Prop), G sp sc [2] d mX8_areOwn (n + 1) 7 L (.inl b :: .inl a :: r) h Q = ((inI a = true ∧ inI b = true) ∧ (b ≤ a → G sp sc [2] d mX8_areOwn n 46 L r h Q) ∧ (¬ (b ≤ a) → G sp sc [2] d mX8_areOwn n 10 L r h Q))) ∧
  (∀ (n d : Nat) (L : List (Option iV)) (st : List iV) (h : iH) (Q : Option iV → iH → Prop), G sp sc [2] d mX8_areOwn (n + 1) 10 L st h Q = (match ld L 0 with | some (.inr (.inr (r + 1))) => G sp sc [2] d mX8_areOwn n 11 L (.inr (.inr (r + 1)) :: st) h Q | _ => False)) ∧
  (∀ (n d : Nat) (L : List (Option iV)) (st : List iV) (h : iH) (Q : Option iV → iH → Prop), G sp sc [2] d mX8_areOwn (n + 1) 11 L st h Q = (match ld L 3 with | some (.inl x) => G sp sc [2] d mX8_areOwn n 12 L (.inl x :: st) h Q | _ => False)) ∧
  (∀ (n d : Nat) (L : List (Option iV)) (r : List iV) (m : Nat) (z0 : iV) (h : iH) (Q : Option iV → iH → Prop), G sp sc [2] (d + 1) mX8_areOwn (n + 1) 12 L (z0 :: .inr (.inr (m + 2)) :: r) h Q = (match h.1[m]? with | some (.inl (ci, _)) => (match lkC 8 83 ci with | some (y1, n1, kd) => (n1 = 1 ∧ (kd = 2 ∨ kd = 3 ∨ kd = 8) ∧ cs r ≤ 8) ∧ Call sp sc d y1 [.inr (.inr (m + 2)), z0] h (fun q h1 => GC sp sc [2] (d + 1) mX8_areOwn n 15 L q r h h1 Q) | none => False) | _ => False)) ∧
  (∀ (n d : Nat) (L : List (Option iV)) (a : Int) (r : List iV) (h : iH) (Q : Option iV → iH → Prop), G sp sc [2] d mX8_areOwn (n + 1) 15 L (.inl a :: r) h Q = (inI a = true ∧ (a = 0 → G sp sc [2] d mX8_areOwn n 40 L r h Q) ∧ (¬ (a = 0) → G sp sc [2] d mX8_areOwn n 18 L r h Q))) ∧
  (∀ (n d : Nat) (L : List (Option iV)) (st : List iV) (h : iH) (Q : Option iV → iH → Prop), G sp sc [2] d mX8_areOwn (n + 1) 18 L st h Q = (match ld L 0 with | some (.inr (.inr (r + 1))) => G sp sc [2] d mX8_areOwn n 19 L (.inr (.inr (r + 1)) :: st) h Q | _ => False)) ∧
  (∀ (n d : Nat) (L : List (Option iV)) (r : List iV) (m : Nat) (h : iH) (Q : Option iV → iH → Prop), G sp sc [2] d mX8_areOwn (n + 1) 19 L (.inr (.inr (m + 2)) :: r) h Q = (match h.1[m]? with | some (.inl (ci, fs)) => (match lkF 8 30 ci with | some k => (match fs[k]? with | some v => G sp sc [2] d mX8_areOwn n 22 L (v :: r) h Q | none => False) | none => False) | _ => False)) ∧
  (∀ (n d : Nat) (L : List (Option iV)) (st : List iV) (h : iH) (Q : Option iV → iH → Prop), G sp sc [2] d mX8_areOwn (n + 1) 22 L st h Q = (match ld L 3 with | some (.inl x) => G sp sc [2] d mX8_areOwn n 23 L (.inl x :: st) h Q | _ => False)) ∧
  (∀ (n d : Nat) (L : List (Option iV)) (r : List iV) (j : Int) (m : Nat) (h : iH) (Q : Option iV → iH → Prop), G sp sc [2] d mX8_areOwn (n + 1) 23 L (.inl j :: .inr (.inr (m + 2)) :: r) h Q = (match h.1[m]? with | some (.inr (.inl (0, xs))) => inA j xs.length = true ∧ G sp sc [2] d mX8_areOwn n 24 L (.inl (xs.getD j.toNat 0) :: r) h Q | _ => False)) ∧
  (∀ (n d : Nat) (L : List (Option iV)) (st : List iV) (h : iH) (Q : Option iV → iH → Prop), G sp sc [2] d mX8_areOwn (n + 1) 24 L st h Q = (match ld L 1 with | some (.inl x) => G sp sc [2] d mX8_areOwn n 25 L (.inl x :: st) h Q | _ => False)) ∧
  (∀ (n d : Nat) (L : List (Option iV)) (a : Int) (b : Int) (r : List iV) (h : iH) (Q : Option iV → iH → Prop), G sp sc [2] d mX8_areOwn (n + 1) 25 L (.inl b :: .inl a :: r) h Q = ((inI a = true ∧ inI b = true) ∧ (¬ a = b → G sp sc [2] d mX8_areOwn n 40 L r h Q) ∧ (¬ (¬ a = b) → G sp sc [2] d mX8_areOwn n 28 L r h Q))) ∧
  (∀ (n d : Nat) (L : List (Option iV)) (st : List iV) (h : iH) (Q : Option iV → iH → Prop), G sp sc [2] d mX8_areOwn (n + 1) 28 L st h Q = (match ld L 0 with | some (.inr (.inr (r + 1))) => G sp sc [2] d mX8_areOwn n 29 L (.inr (.inr (r + 1)) :: st) h Q | _ => False)) ∧
  (∀ (n d : Nat) (L : List (Option iV)) (r : List iV) (m : Nat) (h : iH) (Q : Option iV → iH → Prop), G sp sc [2] d mX8_areOwn (n + 1) 29 L (.inr (.inr (m + 2)) :: r) h Q = (match h.1[m]? with | some (.inl (ci, fs)) => (match lkF 8 33 ci with | some k => (match fs[k]? with | some v => G sp sc [2] d mX8_areOwn n 32 L (v :: r) h Q | none => False) | none => False) | _ => False)) ∧
  (∀ (n d : Nat) (L : List (Option iV)) (st : List iV) (h : iH) (Q : Option iV → iH → Prop), G sp sc [2] d mX8_areOwn (n + 1) 32 L st h Q = (match ld L 3 with | some (.inl x) => G sp sc [2] d mX8_areOwn n 33 L (.inl x :: st) h Q | _ => False)) ∧
  (∀ (n d : Nat) (L : List (Option iV)) (r : List iV) (j : Int) (m : Nat) (h : iH) (Q : Option iV → iH → Prop), G sp sc [2] d mX8_areOwn (n + 1) 33 L (.inl j :: .inr (.inr (m + 2)) :: r) h Q = (match h.1[m]? with | some (.inr (.inl (0, xs))) => inA j xs.length = true ∧ G sp sc [2] d mX8_areOwn n 34 L (.inl (xs.getD j.toNat 0) :: r) h Q | _ => False)) ∧
  (∀ (n d : Nat) (L : List (Option iV)) (st : List iV) (h : iH) (Q : Option iV → iH → Prop), G sp sc [2] d mX8_areOwn (n + 1) 34 L st h Q = (match ld L 2 with | some (.inl x) => G sp sc [2] d mX8_areOwn n 35 L (.inl x :: st) h Q | _ => False)) ∧
  (∀ (n d : Nat) (L : List (Option iV)) (a : Int) (b : Int) (r : List iV) (h : iH) (Q : Option iV → iH → Prop), G sp sc [2] d mX8_areOwn (n + 1) 35 L (.inl b :: .inl a :: r) h Q = ((inI a = true ∧ inI b = true) ∧ (¬ a = b → G sp sc [2] d mX8_areOwn n 40 L r h Q) ∧ (¬ (¬ a = b) → G sp sc [2] d mX8_areOwn n 38 L r h Q))) ∧
  (∀ (n d : Nat) (L : List (Option iV)) (st : List iV) (h : iH) (Q : Option iV → iH → Prop), G sp sc [2] d mX8_areOwn (n + 1) 38 L st h Q = G sp sc [2] d mX8_areOwn n 39 L (.inl 1 :: st) h Q) ∧
  (∀ (n d : Nat) (L : List (Option iV)) (a : Int) (h : iH) (Q : Option iV → iH → Prop), G sp sc [2] d mX8_areOwn (n + 1) 39 L [.inl a] h Q = ((a = 0 ∨ a = 1) ∧ Q (some (.inl a)) h)) ∧
  (∀ (n d : Nat) (L : List (Option iV)) (st : List iV) (h : iH) (Q : Option iV → iH → Prop), G sp sc [2] d mX8_areOwn (n + 1) 40 L st h Q = (match ld L 3 with | some (.inl x) => (match st1 L 3 (.inl (x + 1)) with | some L' => G sp sc [2] d mX8_areOwn n 43 L' st h Q | none => False) | _ => False)) ∧
  (∀ (n d : Nat) (L : List (Option iV)) (st : List iV) (h : iH) (Q : Option iV → iH → Prop), G sp sc [2] d mX8_areOwn (n + 1) 43 L st h Q = Run sp sc d mX8_areOwn 2 L st h Q) ∧
  (∀ (n d : Nat) (L : List (Option iV)) (st : List iV) (h : iH) (Q : Option iV → iH → Prop), G sp sc [2] d mX8_areOwn (n + 1) 46 L st h Q = G sp sc [2] d mX8_areOwn n 47 L (.inl 0 :: st) h Q) ∧
  (∀ (n d : Nat) (L : List (Option iV)) (a : Int) (h : iH) (Q : Option iV → iH → Prop), G sp sc [2] d mX8_areOwn (n + 1) 47 L [.inl a] h Q = ((a = 0 ∨ a = 1) ∧ Q (some (.inl a)) h)) ∧
  lkC 8 83 8 = some (mX8_goesOn, 1, 2) ∧
  lkF 8 30 8 = some 6 ∧
  lkF 8 33 8 = some 7 ∧
  lkF 8 57 8 = some 5 := ⟨by intros; exact G_at (by decide +kernel : fetch mX8_areOwn 0 = some (.iconst 0)),
  by intros; exact G_at (by decide +kernel : fetch mX8_areOwn 1 = some (.istore_n 3)),
  by intros; exact G_at (by decide +kernel : fetch mX8_areOwn 2 = some (.iload_n 3)),
  by intros; exact G_at (by decide +kernel : fetch mX8_areOwn 3 = some (.aload_n 0)),
  by intros; exact G_own (by decide +kernel : fetch mX8_areOwn 4 = some (.getfield 57)) (by decide +kernel),
  by intros; exact G_at (by decide +kernel : fetch mX8_areOwn 7 = some (.if_icmp .ge 39)),
  by intros; exact G_at (by decide +kernel : fetch mX8_areOwn 10 = some (.aload_n 0)),
  by intros; exact G_at (by decide +kernel : fetch mX8_areOwn 11 = some (.iload_n 3)),
  by intros; exact G_callV (by decide +kernel : fetch mX8_areOwn 12 = some (.invokevirtual 83)) (by decide +kernel) (by decide +kernel) rfl,
  by intros; exact G_at (by decide +kernel : fetch mX8_areOwn 15 = some (.ifCond .eq 25)),
  by intros; exact G_at (by decide +kernel : fetch mX8_areOwn 18 = some (.aload_n 0)),
  by intros; exact G_own (by decide +kernel : fetch mX8_areOwn 19 = some (.getfield 30)) (by decide +kernel),
  by intros; exact G_at (by decide +kernel : fetch mX8_areOwn 22 = some (.iload_n 3)),
  by intros; exact G_at (by decide +kernel : fetch mX8_areOwn 23 = some (.iaload)),
  by intros; exact G_at (by decide +kernel : fetch mX8_areOwn 24 = some (.iload_n 1)),
  by intros; exact G_at (by decide +kernel : fetch mX8_areOwn 25 = some (.if_icmp .ne 15)),
  by intros; exact G_at (by decide +kernel : fetch mX8_areOwn 28 = some (.aload_n 0)),
  by intros; exact G_own (by decide +kernel : fetch mX8_areOwn 29 = some (.getfield 33)) (by decide +kernel),
  by intros; exact G_at (by decide +kernel : fetch mX8_areOwn 32 = some (.iload_n 3)),
  by intros; exact G_at (by decide +kernel : fetch mX8_areOwn 33 = some (.iaload)),
  by intros; exact G_at (by decide +kernel : fetch mX8_areOwn 34 = some (.iload_n 2)),
  by intros; exact G_at (by decide +kernel : fetch mX8_areOwn 35 = some (.if_icmp .ne 5)),
  by intros; exact G_at (by decide +kernel : fetch mX8_areOwn 38 = some (.iconst 1)),
  by intros; exact G_retz (by decide +kernel : fetch mX8_areOwn 39 = some (.ireturn)) (by decide +kernel),
  by intros; exact G_at (by decide +kernel : fetch mX8_areOwn 40 = some (.iinc 3 1)),
  by intros; exact G_at (by decide +kernel : fetch mX8_areOwn 43 = some (.goto (-41))),
  by intros; exact G_at (by decide +kernel : fetch mX8_areOwn 46 = some (.iconst 0)),
  by intros; exact G_retz (by decide +kernel : fetch mX8_areOwn 47 = some (.ireturn)) (by decide +kernel),
  by decide +kernel,
  by decide +kernel,
  by decide +kernel,
  by decide +kernel⟩
theorem gX8_likeAboveSlip : (∀ (n d : Nat) (L : List (Option iV)) (st : List iV) (h : iH) (Q : Option iV → iH → Prop), G sp sc [] d mX8_likeAboveSlip (n + 1) 0 L st h Q = (match ld L 0 with | some (.inr (.inr (r + 1))) => G sp sc [] d mX8_likeAboveSlip n 1 L (.inr (.inr (r + 1)) :: st) h Q | _ => False)) ∧
  (∀ (n d : Nat) (L : List (Option iV)) (st : List iV) (h : iH) (Q : Option iV → iH → Prop), G sp sc [] d mX8_likeAboveSlip (n + 1) 1 L st h Q = G sp sc [] d mX8_likeAboveSlip n 2 L (.inl 0 :: st) h Q) ∧
  (∀ (n d : Nat) (L : List (Option iV)) (st : List iV) (h : iH) (Q : Option iV → iH → Prop), G sp sc [] d mX8_likeAboveSlip (n + 1) 2 L st h Q = (match ld L 1 with | some (.inl x) => G sp sc [] d mX8_likeAboveSlip n 3 L (.inl x :: st) h Q | _ => False)) ∧
  (∀ (n d : Nat) (L : List (Option iV)) (st : List iV) (h : iH) (Q : Option iV → iH → Prop), G sp sc [] d mX8_likeAboveSlip (n + 1) 3 L st h Q = (match ld L 2 with | some (.inl x) => G sp sc [] d mX8_likeAboveSlip n 4 L (.inl x :: st) h Q | _ => False)) ∧
  (∀ (n d : Nat) (L : List (Option iV)) (r : List iV) (m : Nat) (z0 : iV) (z1 : iV) (z2 : iV) (h : iH) (Q : Option iV → iH → Prop), G sp sc [] (d + 1) mX8_likeAboveSlip (n + 1) 4 L (z2 :: z1 :: z0 :: .inr (.inr (m + 2)) :: r) h Q = (match h.1[m]? with | some (.inl (ci, _)) => (match lkC 8 72 ci with | some (y1, n1, kd) => (n1 = 3 ∧ (kd = 2 ∨ kd = 3 ∨ kd = 8) ∧ cs r ≤ 8) ∧ Call sp sc d y1 [.inr (.inr (m + 2)), z0, z1, z2] h (fun q h1 => GC sp sc [] (d + 1) mX8_likeAboveSlip n 7 L q r h h1 Q) | none => False) | _ => False)) ∧
  (∀ (n d : Nat) (L : List (Option iV)) (st : List iV) (h : iH) (Q : Option iV → iH → Prop), G sp sc [] d mX8_likeAboveSlip (n + 1) 7 L st h Q = (match ld L 0 with | some (.inr (.inr (r + 1))) => G sp sc [] d mX8_likeAboveSlip n 8 L (.inr (.inr (r + 1)) :: st) h Q | _ => False)) ∧
  (∀ (n d : Nat) (L : List (Option iV)) (r : List iV) (m : Nat) (h : iH) (Q : Option iV → iH → Prop), G sp sc [] d mX8_likeAboveSlip (n + 1) 8 L (.inr (.inr (m + 2)) :: r) h Q = (match h.1[m]? with | some (.inl (ci, fs)) => (match lkF 8 45 ci with | some k => (match fs[k]? with | some v => G sp sc [] d mX8_likeAboveSlip n 11 L (v :: r) h Q | none => False) | none => False) | _ => False)) ∧
  (∀ (n d : Nat) (L : List (Option iV)) (a : Int) (b : Int) (r : List iV) (h : iH) (Q : Option iV → iH → Prop), G sp sc [] d mX8_likeAboveSlip (n + 1) 11 L (.inl b :: .inl a :: r) h Q = ((inI a = true ∧ inI b = true) ∧ (a ≤ b → G sp sc [] d mX8_likeAboveSlip n 32 L r h Q) ∧ (¬ (a ≤ b) → G sp sc [] d mX8_likeAboveSlip n 14 L r h Q))) ∧
  (∀ (n d : Nat) (L : List (Option iV)) (st : List iV) (h : iH) (Q : Option iV → iH → Prop), G sp sc [] d mX8_likeAboveSlip (n + 1) 14 L st h Q = (match ld L 0 with | some (.inr (.inr (r + 1))) => G sp sc [] d mX8_likeAboveSlip n 15 L (.inr (.inr (r + 1)) :: st) h Q | _ => False)) ∧
  (∀ (n d : Nat) (L : List (Option iV)) (st : List iV) (h : iH) (Q : Option iV → iH → Prop), G sp sc [] d mX8_likeAboveSlip (n + 1) 15 L st h Q = G sp sc [] d mX8_likeAboveSlip n 16 L (.inl 1 :: st) h Q) ∧
  (∀ (n d : Nat) (L : List (Option iV)) (st : List iV) (h : iH) (Q : Option iV → iH → Prop), G sp sc [] d mX8_likeAboveSlip (n + 1) 16 L st h Q = (match ld L 2 with | some (.inl x) => G sp sc [] d mX8_likeAboveSlip n 17 L (.inl x :: st) h Q | _ => False)) ∧
  (∀ (n d : Nat) (L : List (Option iV)) (st : List iV) (h : iH) (Q : Option iV → iH → Prop), G sp sc [] d mX8_likeAboveSlip (n + 1) 17 L st h Q = (match ld L 1 with | some (.inl x) => G sp sc [] d mX8_likeAboveSlip n 18 L (.inl x :: st) h Q | _ => False)) ∧
  (∀ (n d : Nat) (L : List (Option iV)) (r : List iV) (m : Nat) (z0 : iV) (z1 : iV) (z2 : iV) (h : iH) (Q : Option iV → iH → Prop), G sp sc [] (d + 1) mX8_likeAboveSlip (n + 1) 18 L (z2 :: z1 :: z0 :: .inr (.inr (m + 2)) :: r) h Q = (match h.1[m]? with | some (.inl (ci, _)) => (match lkC 8 72 ci with | some (y1, n1, kd) => (n1 = 3 ∧ (kd = 2 ∨ kd = 3 ∨ kd = 8) ∧ cs r ≤ 8) ∧ Call sp sc d y1 [.inr (.inr (m + 2)), z0, z1, z2] h (fun q h1 => GC sp sc [] (d + 1) mX8_likeAboveSlip n 21 L q r h h1 Q) | none => False) | _ => False)) ∧
  (∀ (n d : Nat) (L : List (Option iV)) (st : List iV) (h : iH) (Q : Option iV → iH → Prop), G sp sc [] d mX8_likeAboveSlip (n + 1) 21 L st h Q = (match ld L 0 with | some (.inr (.inr (r + 1))) => G sp sc [] d mX8_likeAboveSlip n 22 L (.inr (.inr (r + 1)) :: st) h Q | _ => False)) ∧
  (∀ (n d : Nat) (L : List (Option iV)) (r : List iV) (m : Nat) (h : iH) (Q : Option iV → iH → Prop), G sp sc [] d mX8_likeAboveSlip (n + 1) 22 L (.inr (.inr (m + 2)) :: r) h Q = (match h.1[m]? with | some (.inl (ci, fs)) => (match lkF 8 45 ci with | some k => (match fs[k]? with | some v => G sp sc [] d mX8_likeAboveSlip n 25 L (v :: r) h Q | none => False) | none => False) | _ => False)) ∧
  (∀ (n d : Nat) (L : List (Option iV)) (a : Int) (b : Int) (r : List iV) (h : iH) (Q : Option iV → iH → Prop), G sp sc [] d mX8_likeAboveSlip (n + 1) 25 L (.inl b :: .inl a :: r) h Q = ((inI a = true ∧ inI b = true) ∧ (a ≤ b → G sp sc [] d mX8_likeAboveSlip n 32 L r h Q) ∧ (¬ (a ≤ b) → G sp sc [] d mX8_likeAboveSlip n 28 L r h Q))) ∧
  (∀ (n d : Nat) (L : List (Option iV)) (st : List iV) (h : iH) (Q : Option iV → iH → Prop), G sp sc [] d mX8_likeAboveSlip (n + 1) 28 L st h Q = G sp sc [] d mX8_likeAboveSlip n 29 L (.inl 1 :: st) h Q) ∧
  (∀ (n d : Nat) (L : List (Option iV)) (st : List iV) (h : iH) (Q : Option iV → iH → Prop), G sp sc [] d mX8_likeAboveSlip (n + 1) 29 L st h Q = G sp sc [] d mX8_likeAboveSlip n 33 L st h Q) ∧
  (∀ (n d : Nat) (L : List (Option iV)) (st : List iV) (h : iH) (Q : Option iV → iH → Prop), G sp sc [] d mX8_likeAboveSlip (n + 1) 32 L st h Q = G sp sc [] d mX8_likeAboveSlip n 33 L (.inl 0 :: st) h Q) ∧
  (∀ (n d : Nat) (L : List (Option iV)) (a : Int) (h : iH) (Q : Option iV → iH → Prop), G sp sc [] d mX8_likeAboveSlip (n + 1) 33 L [.inl a] h Q = ((a = 0 ∨ a = 1) ∧ Q (some (.inl a)) h)) ∧
  lkC 8 72 8 = some (mX8_liking, 3, 2) ∧
  lkF 8 45 8 = some 11 := ⟨by intros; exact G_at (by decide +kernel : fetch mX8_likeAboveSlip 0 = some (.aload_n 0)),
  by intros; exact G_at (by decide +kernel : fetch mX8_likeAboveSlip 1 = some (.iconst 0)),
  by intros; exact G_at (by decide +kernel : fetch mX8_likeAboveSlip 2 = some (.iload_n 1)),
  by intros; exact G_at (by decide +kernel : fetch mX8_likeAboveSlip 3 = some (.iload_n 2)),
  by intros; exact G_callV (by decide +kernel : fetch mX8_likeAboveSlip 4 = some (.invokevirtual 72)) (by decide +kernel) (by decide +kernel) rfl,
  by intros; exact G_at (by decide +kernel : fetch mX8_likeAboveSlip 7 = some (.aload_n 0)),
  by intros; exact G_own (by decide +kernel : fetch mX8_likeAboveSlip 8 = some (.getfield 45)) (by decide +kernel),
  by intros; exact G_at (by decide +kernel : fetch mX8_likeAboveSlip 11 = some (.if_icmp .le 21)),
  by intros; exact G_at (by decide +kernel : fetch mX8_likeAboveSlip 14 = some (.aload_n 0)),
  by intros; exact G_at (by decide +kernel : fetch mX8_likeAboveSlip 15 = some (.iconst 1)),
  by intros; exact G_at (by decide +kernel : fetch mX8_likeAboveSlip 16 = some (.iload_n 2)),
  by intros; exact G_at (by decide +kernel : fetch mX8_likeAboveSlip 17 = some (.iload_n 1)),
  by intros; exact G_callV (by decide +kernel : fetch mX8_likeAboveSlip 18 = some (.invokevirtual 72)) (by decide +kernel) (by decide +kernel) rfl,
  by intros; exact G_at (by decide +kernel : fetch mX8_likeAboveSlip 21 = some (.aload_n 0)),
  by intros; exact G_own (by decide +kernel : fetch mX8_likeAboveSlip 22 = some (.getfield 45)) (by decide +kernel),
  by intros; exact G_at (by decide +kernel : fetch mX8_likeAboveSlip 25 = some (.if_icmp .le 7)),
  by intros; exact G_at (by decide +kernel : fetch mX8_likeAboveSlip 28 = some (.iconst 1)),
  by intros; exact G_at (by decide +kernel : fetch mX8_likeAboveSlip 29 = some (.goto 4)),
  by intros; exact G_at (by decide +kernel : fetch mX8_likeAboveSlip 32 = some (.iconst 0)),
  by intros; exact G_retz (by decide +kernel : fetch mX8_likeAboveSlip 33 = some (.ireturn)) (by decide +kernel),
  by decide +kernel,
  by decide +kernel⟩
theorem gX8_doer : (∀ (n d : Nat) (L : List (Option iV)) (st : List iV) (h : iH) (Q : Option iV → iH → Prop), G sp sc [52] d mX8_doer (n + 1) 0 L st h Q = (match ld L 1 with | some (.inl x) => G sp sc [52] d mX8_doer n 1 L (.inl x :: st) h Q | _ => False)) ∧
  (∀ (n d : Nat) (L : List (Option iV)) (a : Int) (r : List iV) (h : iH) (Q : Option iV → iH → Prop), G sp sc [52] d mX8_doer (n + 1) 1 L (.inl a :: r) h Q = (inI a = true ∧ (¬ a = 0 → G sp sc [52] d mX8_doer n 13 L r h Q) ∧ (¬ (¬ a = 0) → G sp sc [52] d mX8_doer n 4 L r h Q))) ∧
  (∀ (n d : Nat) (L : List (Option iV)) (st : List iV) (h : iH) (Q : Option iV → iH → Prop), G sp sc [52] d mX8_doer (n + 1) 4 L st h Q = (match ld L 0 with | some (.inr (.inr (r + 1))) => G sp sc [52] d mX8_doer n 5 L (.inr (.inr (r + 1)) :: st) h Q | _ => False)) ∧
  (∀ (n d : Nat) (L : List (Option iV)) (r : List iV) (m : Nat) (h : iH) (Q : Option iV → iH → Prop), G sp sc [52] d mX8_doer (n + 1) 5 L (.inr (.inr (m + 2)) :: r) h Q = (match h.1[m]? with | some (.inl (ci, fs)) => (match lkF 8 30 ci with | some k => (match fs[k]? with | some v => G sp sc [52] d mX8_doer n 8 L (v :: r) h Q | none => False) | none => False) | _ => False)) ∧
  (∀ (n d : Nat) (L : List (Option iV)) (st : List iV) (h : iH) (Q : Option iV → iH → Prop), G sp sc [52] d mX8_doer (n + 1) 8 L st h Q = (match ld L 2 with | some (.inl x) => G sp sc [52] d mX8_doer n 9 L (.inl x :: st) h Q | _ => False)) ∧
  (∀ (n d : Nat) (L : List (Option iV)) (r : List iV) (j : Int) (m : Nat) (h : iH) (Q : Option iV → iH → Prop), G sp sc [52] d mX8_doer (n + 1) 9 L (.inl j :: .inr (.inr (m + 2)) :: r) h Q = (match h.1[m]? with | some (.inr (.inl (0, xs))) => inA j xs.length = true ∧ G sp sc [52] d mX8_doer n 10 L (.inl (xs.getD j.toNat 0) :: r) h Q | _ => False)) ∧
  (∀ (n d : Nat) (L : List (Option iV)) (st : List iV) (h : iH) (Q : Option iV → iH → Prop), G sp sc [52] d mX8_doer (n + 1) 10 L st h Q = G sp sc [52] d mX8_doer n 19 L st h Q) ∧
  (∀ (n d : Nat) (L : List (Option iV)) (st : List iV) (h : iH) (Q : Option iV → iH → Prop), G sp sc [52] d mX8_doer (n + 1) 13 L st h Q = (match ld L 0 with | some (.inr (.inr (r + 1))) => G sp sc [52] d mX8_doer n 14 L (.inr (.inr (r + 1)) :: st) h Q | _ => False)) ∧
  (∀ (n d : Nat) (L : List (Option iV)) (r : List iV) (m : Nat) (h : iH) (Q : Option iV → iH → Prop), G sp sc [52] d mX8_doer (n + 1) 14 L (.inr (.inr (m + 2)) :: r) h Q = (match h.1[m]? with | some (.inl (ci, fs)) => (match lkF 8 33 ci with | some k => (match fs[k]? with | some v => G sp sc [52] d mX8_doer n 17 L (v :: r) h Q | none => False) | none => False) | _ => False)) ∧
  (∀ (n d : Nat) (L : List (Option iV)) (st : List iV) (h : iH) (Q : Option iV → iH → Prop), G sp sc [52] d mX8_doer (n + 1) 17 L st h Q = (match ld L 2 with | some (.inl x) => G sp sc [52] d mX8_doer n 18 L (.inl x :: st) h Q | _ => False)) ∧
  (∀ (n d : Nat) (L : List (Option iV)) (r : List iV) (j : Int) (m : Nat) (h : iH) (Q : Option iV → iH → Prop), G sp sc [52] d mX8_doer (n + 1) 18 L (.inl j :: .inr (.inr (m + 2)) :: r) h Q = (match h.1[m]? with | some (.inr (.inl (0, xs))) => inA j xs.length = true ∧ G sp sc [52] d mX8_doer n 19 L (.inl (xs.getD j.toNat 0) :: r) h Q | _ => False)) ∧
  (∀ (n d : Nat) (L : List (Option iV)) (r : List iV) (x : Int) (h : iH) (Q : Option iV → iH → Prop), G sp sc [52] d mX8_doer (n + 1) 19 L (.inl x :: r) h Q = (match st1 L 3 (.inl x) with | some L' => G sp sc [52] d mX8_doer n 20 L' r h Q | none => False)) ∧
  (∀ (n d : Nat) (L : List (Option iV)) (st : List iV) (h : iH) (Q : Option iV → iH → Prop), G sp sc [52] d mX8_doer (n + 1) 20 L st h Q = (match ld L 0 with | some (.inr (.inr (r + 1))) => G sp sc [52] d mX8_doer n 21 L (.inr (.inr (r + 1)) :: st) h Q | _ => False)) ∧
  (∀ (n d : Nat) (L : List (Option iV)) (r : List iV) (m : Nat) (h : iH) (Q : Option iV → iH → Prop), G sp sc [52] d mX8_doer (n + 1) 21 L (.inr (.inr (m + 2)) :: r) h Q = (match h.1[m]? with | some (.inl (ci, fs)) => (match lkF 8 39 ci with | some k => (match fs[k]? with | some v => G sp sc [52] d mX8_doer n 24 L (v :: r) h Q | none => False) | none => False) | _ => False)) ∧
  (∀ (n d : Nat) (L : List (Option iV)) (st : List iV) (h : iH) (Q : Option iV → iH → Prop), G sp sc [52] d mX8_doer (n + 1) 24 L st h Q = (match ld L 2 with | some (.inl x) => G sp sc [52] d mX8_doer n 25 L (.inl x :: st) h Q | _ => False)) ∧
  (∀ (n d : Nat) (L : List (Option iV)) (r : List iV) (j : Int) (m : Nat) (h : iH) (Q : Option iV → iH → Prop), G sp sc [52] d mX8_doer (n + 1) 25 L (.inl j :: .inr (.inr (m + 2)) :: r) h Q = (match h.1[m]? with | some (.inr (.inl (0, xs))) => inA j xs.length = true ∧ G sp sc [52] d mX8_doer n 26 L (.inl (xs.getD j.toNat 0) :: r) h Q | _ => False)) ∧
  (∀ (n d : Nat) (L : List (Option iV)) (r : List iV) (x : Int) (h : iH) (Q : Option iV → iH → Prop), G sp sc [52] d mX8_doer (n + 1) 26 L (.inl x :: r) h Q = (match st1 L 4 (.inl x) with | some L' => G sp sc [52] d mX8_doer n 28 L' r h Q | none => False)) ∧
  (∀ (n d : Nat) (L : List (Option iV)) (st : List iV) (h : iH) (Q : Option iV → iH → Prop), G sp sc [52] d mX8_doer (n + 1) 28 L st h Q = (match ld L 4 with | some (.inl x) => G sp sc [52] d mX8_doer n 30 L (.inl x :: st) h Q | _ => False)) ∧
  (∀ (n d : Nat) (L : List (Option iV)) (r : List iV) (z0 : iV) (h : iH) (Q : Option iV → iH → Prop), G sp sc [52] (d + 1) mX8_doer (n + 1) 30 L (z0 :: r) h Q = (cs r ≤ 8 ∧ Call sp sc d mX11_isDeed [z0] h (fun q h1 => GC sp sc [52] (d + 1) mX8_doer n 33 L q r h h1 Q))) ∧
  (∀ (n d : Nat) (L : List (Option iV)) (a : Int) (r : List iV) (h : iH) (Q : Option iV → iH → Prop), G sp sc [52] d mX8_doer (n + 1) 33 L (.inl a :: r) h Q = (inI a = true ∧ (a = 0 → G sp sc [52] d mX8_doer n 46 L r h Q) ∧ (¬ (a = 0) → G sp sc [52] d mX8_doer n 36 L r h Q))) ∧
  (∀ (n d : Nat) (L : List (Option iV)) (st : List iV) (h : iH) (Q : Option iV → iH → Prop), G sp sc [52] d mX8_doer (n + 1) 36 L st h Q = (match ld L 0 with | some (.inr (.inr (r + 1))) => G sp sc [52] d mX8_doer n 37 L (.inr (.inr (r + 1)) :: st) h Q | _ => False)) ∧
  (∀ (n d : Nat) (L : List (Option iV)) (r : List iV) (m : Nat) (h : iH) (Q : Option iV → iH → Prop), G sp sc [52] d mX8_doer (n + 1) 37 L (.inr (.inr (m + 2)) :: r) h Q = (match h.1[m]? with | some (.inl (ci, fs)) => (match lkF 8 42 ci with | some k => (match fs[k]? with | some v => G sp sc [52] d mX8_doer n 40 L (v :: r) h Q | none => False) | none => False) | _ => False)) ∧
  (∀ (n d : Nat) (L : List (Option iV)) (st : List iV) (h : iH) (Q : Option iV → iH → Prop), G sp sc [52] d mX8_doer (n + 1) 40 L st h Q = (match ld L 4 with | some (.inl x) => G sp sc [52] d mX8_doer n 42 L (.inl x :: st) h Q | _ => False)) ∧
  (∀ (n d : Nat) (L : List (Option iV)) (r : List iV) (j : Int) (m : Nat) (h : iH) (Q : Option iV → iH → Prop), G sp sc [52] d mX8_doer (n + 1) 42 L (.inl j :: .inr (.inr (m + 2)) :: r) h Q = (match h.1[m]? with | some (.inr (.inl (0, xs))) => inA j xs.length = true ∧ G sp sc [52] d mX8_doer n 43 L (.inl (xs.getD j.toNat 0) :: r) h Q | _ => False)) ∧
  (∀ (n d : Nat) (L : List (Option iV)) (st : List iV) (h : iH) (Q : Option iV → iH → Prop), G sp sc [52] d mX8_doer (n + 1) 43 L st h Q = G sp sc [52] d mX8_doer n 47 L st h Q) ∧
  (∀ (n d : Nat) (L : List (Option iV)) (st : List iV) (h : iH) (Q : Option iV → iH → Prop), G sp sc [52] d mX8_doer (n + 1) 46 L st h Q = G sp sc [52] d mX8_doer n 47 L (.inl 0 :: st) h Q) ∧
  (∀ (n d : Nat) (L : List (Option iV)) (r : List iV) (x : Int) (h : iH) (Q : Option iV → iH → Prop), G sp sc [52] d mX8_doer (n + 1) 47 L (.inl x :: r) h Q = (match st1 L 5 (.inl x) with | some L' => G sp sc [52] d mX8_doer n 49 L' r h Q | none => False)) ∧
  (∀ (n d : Nat) (L : List (Option iV)) (st : List iV) (h : iH) (Q : Option iV → iH → Prop), G sp sc [52] d mX8_doer (n + 1) 49 L st h Q = G sp sc [52] d mX8_doer n 50 L (.inl 0 :: st) h Q) ∧
  (∀ (n d : Nat) (L : List (Option iV)) (r : List iV) (x : Int) (h : iH) (Q : Option iV → iH → Prop), G sp sc [52] d mX8_doer (n + 1) 50 L (.inl x :: r) h Q = (match st1 L 6 (.inl x) with | some L' => Run sp sc d mX8_doer 52 L' r h Q | none => False)) ∧
  (∀ (n d : Nat) (L : List (Option iV)) (st : List iV) (h : iH) (Q : Option iV → iH → Prop), G sp sc [52] d mX8_doer (n + 1) 52 L st h Q = (match ld L 6 with | some (.inl x) => G sp sc [52] d mX8_doer n 54 L (.inl x :: st) h Q | _ => False)) ∧
  (∀ (n d : Nat) (L : List (Option iV)) (st : List iV) (h : iH) (Q : Option iV → iH → Prop), G sp sc [52] d mX8_doer (n + 1) 54 L st h Q = (match ld L 5 with | some (.inl x) => G sp sc [52] d mX8_doer n 56 L (.inl x :: st) h Q | _ => False)) ∧
  (∀ (n d : Nat) (L : List (Option iV)) (a : Int) (b : Int) (r : List iV) (h : iH) (Q : Option iV → iH → Prop), G sp sc [52] d mX8_doer (n + 1) 56 L (.inl b :: .inl a :: r) h Q = ((inI a = true ∧ inI b = true) ∧ (b ≤ a → G sp sc [52] d mX8_doer n 86 L r h Q) ∧ (¬ (b ≤ a) → G sp sc [52] d mX8_doer n 59 L r h Q))) ∧
  (∀ (n d : Nat) (L : List (Option iV)) (st : List iV) (h : iH) (Q : Option iV → iH → Prop), G sp sc [52] d mX8_doer (n + 1) 59 L st h Q = (match ld L 0 with | some (.inr (.inr (r + 1))) => G sp sc [52] d mX8_doer n 60 L (.inr (.inr (r + 1)) :: st) h Q | _ => False)) ∧
  (∀ (n d : Nat) (L : List (Option iV)) (r : List iV) (m : Nat) (h : iH) (Q : Option iV → iH → Prop), G sp sc [52] d mX8_doer (n + 1) 60 L (.inr (.inr (m + 2)) :: r) h Q = (match h.1[m]? with | some (.inl (ci, fs)) => (match lkF 8 21 ci with | some k => (match fs[k]? with | some v => G sp sc [52] d mX8_doer n 63 L (v :: r) h Q | none => False) | none => False) | _ => False)) ∧
  (∀ (n d : Nat) (L : List (Option iV)) (st : List iV) (h : iH) (Q : Option iV → iH → Prop), G sp sc [52] d mX8_doer (n + 1) 63 L st h Q = (match ld L 1 with | some (.inl x) => G sp sc [52] d mX8_doer n 64 L (.inl x :: st) h Q | _ => False)) ∧
  (∀ (n d : Nat) (L : List (Option iV)) (st : List iV) (h : iH) (Q : Option iV → iH → Prop), G sp sc [52] d mX8_doer (n + 1) 64 L st h Q = (match ld L 3 with | some (.inl x) => G sp sc [52] d mX8_doer n 65 L (.inl x :: st) h Q | _ => False)) ∧
  (∀ (n d : Nat) (L : List (Option iV)) (r : List iV) (z0 : iV) (z1 : iV) (h : iH) (Q : Option iV → iH → Prop), G sp sc [52] (d + 1) mX8_doer (n + 1) 65 L (z1 :: z0 :: r) h Q = (cs r ≤ 8 ∧ Call sp sc d mX8_place [z0, z1] h (fun q h1 => GC sp sc [52] (d + 1) mX8_doer n 68 L q r h h1 Q))) ∧
  (∀ (n d : Nat) (L : List (Option iV)) (r : List iV) (j : Int) (m : Nat) (h : iH) (Q : Option iV → iH → Prop), G sp sc [52] d mX8_doer (n + 1) 68 L (.inl j :: .inr (.inr (m + 2)) :: r) h Q = (match h.1[m]? with | some (.inr (.inl (0, xs))) => inA j xs.length = true ∧ G sp sc [52] d mX8_doer n 69 L (.inl (xs.getD j.toNat 0) :: r) h Q | _ => False)) ∧
  (∀ (n d : Nat) (L : List (Option iV)) (r : List iV) (x : Int) (h : iH) (Q : Option iV → iH → Prop), G sp sc [52] d mX8_doer (n + 1) 69 L (.inl x :: r) h Q = (match st1 L 7 (.inl x) with | some L' => G sp sc [52] d mX8_doer n 71 L' r h Q | none => False)) ∧
  (∀ (n d : Nat) (L : List (Option iV)) (st : List iV) (h : iH) (Q : Option iV → iH → Prop), G sp sc [52] d mX8_doer (n + 1) 71 L st h Q = (match ld L 7 with | some (.inl x) => G sp sc [52] d mX8_doer n 73 L (.inl x :: st) h Q | _ => False)) ∧
  (∀ (n d : Nat) (L : List (Option iV)) (st : List iV) (h : iH) (Q : Option iV → iH → Prop), G sp sc [52] d mX8_doer (n + 1) 73 L st h Q = G sp sc [52] d mX8_doer n 74 L (.inl (-1) :: st) h Q) ∧
  (∀ (n d : Nat) (L : List (Option iV)) (a : Int) (b : Int) (r : List iV) (h : iH) (Q : Option iV → iH → Prop), G sp sc [52] d mX8_doer (n + 1) 74 L (.inl b :: .inl a :: r) h Q = ((inI a = true ∧ inI b = true) ∧ (a = b → G sp sc [52] d mX8_doer n 80 L r h Q) ∧ (¬ (a = b) → G sp sc [52] d mX8_doer n 77 L r h Q))) ∧
  (∀ (n d : Nat) (L : List (Option iV)) (st : List iV) (h : iH) (Q : Option iV → iH → Prop), G sp sc [52] d mX8_doer (n + 1) 77 L st h Q = (match ld L 7 with | some (.inl x) => G sp sc [52] d mX8_doer n 79 L (.inl x :: st) h Q | _ => False)) ∧
  (∀ (n d : Nat) (L : List (Option iV)) (r : List iV) (x : Int) (h : iH) (Q : Option iV → iH → Prop), G sp sc [52] d mX8_doer (n + 1) 79 L (.inl x :: r) h Q = (match st1 L 3 (.inl x) with | some L' => G sp sc [52] d mX8_doer n 80 L' r h Q | none => False)) ∧
  (∀ (n d : Nat) (L : List (Option iV)) (st : List iV) (h : iH) (Q : Option iV → iH → Prop), G sp sc [52] d mX8_doer (n + 1) 80 L st h Q = (match ld L 6 with | some (.inl x) => (match st1 L 6 (.inl (x + 1)) with | some L' => G sp sc [52] d mX8_doer n 83 L' st h Q | none => False) | _ => False)) ∧
  (∀ (n d : Nat) (L : List (Option iV)) (st : List iV) (h : iH) (Q : Option iV → iH → Prop), G sp sc [52] d mX8_doer (n + 1) 83 L st h Q = Run sp sc d mX8_doer 52 L st h Q) ∧
  (∀ (n d : Nat) (L : List (Option iV)) (st : List iV) (h : iH) (Q : Option iV → iH → Prop), G sp sc [52] d mX8_doer (n + 1) 86 L st h Q = (match ld L 3 with | some (.inl x) => G sp sc [52] d mX8_doer n 87 L (.inl x :: st) h Q | _ => False)) ∧
  (∀ (n d : Nat) (L : List (Option iV)) (a : Int) (h : iH) (Q : Option iV → iH → Prop), G sp sc [52] d mX8_doer (n + 1) 87 L [.inl a] h Q = Q (some (.inl a)) h) ∧
  lkF 8 21 8 = some 2 ∧
  lkF 8 30 8 = some 6 ∧
  lkF 8 33 8 = some 7 ∧
  lkF 8 39 8 = some 9 ∧
  lkF 8 42 8 = some 10 := ⟨by intros; exact G_at (by decide +kernel : fetch mX8_doer 0 = some (.iload_n 1)),
  by intros; exact G_at (by decide +kernel : fetch mX8_doer 1 = some (.ifCond .ne 12)),
  by intros; exact G_at (by decide +kernel : fetch mX8_doer 4 = some (.aload_n 0)),
  by intros; exact G_own (by decide +kernel : fetch mX8_doer 5 = some (.getfield 30)) (by decide +kernel),
  by intros; exact G_at (by decide +kernel : fetch mX8_doer 8 = some (.iload_n 2)),
  by intros; exact G_at (by decide +kernel : fetch mX8_doer 9 = some (.iaload)),
  by intros; exact G_at (by decide +kernel : fetch mX8_doer 10 = some (.goto 9)),
  by intros; exact G_at (by decide +kernel : fetch mX8_doer 13 = some (.aload_n 0)),
  by intros; exact G_own (by decide +kernel : fetch mX8_doer 14 = some (.getfield 33)) (by decide +kernel),
  by intros; exact G_at (by decide +kernel : fetch mX8_doer 17 = some (.iload_n 2)),
  by intros; exact G_at (by decide +kernel : fetch mX8_doer 18 = some (.iaload)),
  by intros; exact G_at (by decide +kernel : fetch mX8_doer 19 = some (.istore_n 3)),
  by intros; exact G_at (by decide +kernel : fetch mX8_doer 20 = some (.aload_n 0)),
  by intros; exact G_own (by decide +kernel : fetch mX8_doer 21 = some (.getfield 39)) (by decide +kernel),
  by intros; exact G_at (by decide +kernel : fetch mX8_doer 24 = some (.iload_n 2)),
  by intros; exact G_at (by decide +kernel : fetch mX8_doer 25 = some (.iaload)),
  by intros; exact G_at (by decide +kernel : fetch mX8_doer 26 = some (.istore 4)),
  by intros; exact G_at (by decide +kernel : fetch mX8_doer 28 = some (.iload 4)),
  by intros; exact G_callS (k := 1) (kd := 1) (by decide +kernel : fetch mX8_doer 30 = some (.invokestatic 86)) (by decide +kernel) (by decide +kernel) (by decide +kernel) rfl (by decide),
  by intros; exact G_at (by decide +kernel : fetch mX8_doer 33 = some (.ifCond .eq 13)),
  by intros; exact G_at (by decide +kernel : fetch mX8_doer 36 = some (.aload_n 0)),
  by intros; exact G_own (by decide +kernel : fetch mX8_doer 37 = some (.getfield 42)) (by decide +kernel),
  by intros; exact G_at (by decide +kernel : fetch mX8_doer 40 = some (.iload 4)),
  by intros; exact G_at (by decide +kernel : fetch mX8_doer 42 = some (.iaload)),
  by intros; exact G_at (by decide +kernel : fetch mX8_doer 43 = some (.goto 4)),
  by intros; exact G_at (by decide +kernel : fetch mX8_doer 46 = some (.iconst 0)),
  by intros; exact G_at (by decide +kernel : fetch mX8_doer 47 = some (.istore 5)),
  by intros; exact G_at (by decide +kernel : fetch mX8_doer 49 = some (.iconst 0)),
  by intros; exact G_at (by decide +kernel : fetch mX8_doer 50 = some (.istore 6)),
  by intros; exact G_at (by decide +kernel : fetch mX8_doer 52 = some (.iload 6)),
  by intros; exact G_at (by decide +kernel : fetch mX8_doer 54 = some (.iload 5)),
  by intros; exact G_at (by decide +kernel : fetch mX8_doer 56 = some (.if_icmp .ge 30)),
  by intros; exact G_at (by decide +kernel : fetch mX8_doer 59 = some (.aload_n 0)),
  by intros; exact G_own (by decide +kernel : fetch mX8_doer 60 = some (.getfield 21)) (by decide +kernel),
  by intros; exact G_at (by decide +kernel : fetch mX8_doer 63 = some (.iload_n 1)),
  by intros; exact G_at (by decide +kernel : fetch mX8_doer 64 = some (.iload_n 3)),
  by intros; exact G_callS (k := 2) (kd := 0) (by decide +kernel : fetch mX8_doer 65 = some (.invokestatic 60)) (by decide +kernel) (by decide +kernel) (by decide +kernel) rfl (by decide),
  by intros; exact G_at (by decide +kernel : fetch mX8_doer 68 = some (.iaload)),
  by intros; exact G_at (by decide +kernel : fetch mX8_doer 69 = some (.istore 7)),
  by intros; exact G_at (by decide +kernel : fetch mX8_doer 71 = some (.iload 7)),
  by intros; exact G_at (by decide +kernel : fetch mX8_doer 73 = some (.iconst (-1))),
  by intros; exact G_at (by decide +kernel : fetch mX8_doer 74 = some (.if_icmp .eq 6)),
  by intros; exact G_at (by decide +kernel : fetch mX8_doer 77 = some (.iload 7)),
  by intros; exact G_at (by decide +kernel : fetch mX8_doer 79 = some (.istore_n 3)),
  by intros; exact G_at (by decide +kernel : fetch mX8_doer 80 = some (.iinc 6 1)),
  by intros; exact G_at (by decide +kernel : fetch mX8_doer 83 = some (.goto (-31))),
  by intros; exact G_at (by decide +kernel : fetch mX8_doer 86 = some (.iload_n 3)),
  by intros; exact G_reti (by decide +kernel : fetch mX8_doer 87 = some (.ireturn)) (by decide +kernel),
  by decide +kernel,
  by decide +kernel,
  by decide +kernel,
  by decide +kernel,
  by decide +kernel⟩
theorem gX8_howMany : (∀ (n d : Nat) (L : List (Option iV)) (st : List iV) (h : iH) (Q : Option iV → iH → Prop), G sp sc [4] d mX8_howMany (n + 1) 0 L st h Q = G sp sc [4] d mX8_howMany n 1 L (.inl 0 :: st) h Q) ∧
  (∀ (n d : Nat) (L : List (Option iV)) (r : List iV) (x : Int) (h : iH) (Q : Option iV → iH → Prop), G sp sc [4] d mX8_howMany (n + 1) 1 L (.inl x :: r) h Q = (match st1 L 2 (.inl x) with | some L' => G sp sc [4] d mX8_howMany n 2 L' r h Q | none => False)) ∧
  (∀ (n d : Nat) (L : List (Option iV)) (st : List iV) (h : iH) (Q : Option iV → iH → Prop), G sp sc [4] d mX8_howMany (n + 1) 2 L st h Q = G sp sc [4] d mX8_howMany n 3 L (.inl 0 :: st) h Q) ∧
  (∀ (n d : Nat) (L : List (Option iV)) (r : List iV) (x : Int) (h : iH) (Q : Option iV → iH → Prop), G sp sc [4] d mX8_howMany (n + 1) 3 L (.inl x :: r) h Q = (match st1 L 3 (.inl x) with | some L' => Run sp sc d mX8_howMany 4 L' r h Q | none => False)) ∧
  (∀ (n d : Nat) (L : List (Option iV)) (st : List iV) (h : iH) (Q : Option iV → iH → Prop), G sp sc [4] d mX8_howMany (n + 1) 4 L st h Q = (match ld L 3 with | some (.inl x) => G sp sc [4] d mX8_howMany n 5 L (.inl x :: st) h Q | _ => False)) ∧
  (∀ (n d : Nat) (L : List (Option iV)) (st : List iV) (h : iH) (Q : Option iV → iH → Prop), G sp sc [4] d mX8_howMany (n + 1) 5 L st h Q = (match ld L 0 with | some (.inr (.inr (r + 1))) => G sp sc [4] d mX8_howMany n 6 L (.inr (.inr (r + 1)) :: st) h Q | _ => False)) ∧
  (∀ (n d : Nat) (L : List (Option iV)) (r : List iV) (m : Nat) (h : iH) (Q : Option iV → iH → Prop), G sp sc [4] d mX8_howMany (n + 1) 6 L (.inr (.inr (m + 2)) :: r) h Q = (match h.1[m]? with | some (.inl (ci, fs)) => (match lkF 8 57 ci with | some k => (match fs[k]? with | some v => G sp sc [4] d mX8_howMany n 9 L (v :: r) h Q | none => False) | none => False) | _ => False)) ∧
  (∀ (n d : Nat) (L : List (Option iV)) (a : Int) (b : Int) (r : List iV) (h : iH) (Q : Option iV → iH → Prop), G sp sc [4] d mX8_howMany (n + 1) 9 L (.inl b :: .inl a :: r) h Q = ((inI a = true ∧ inI b = true) ∧ (b ≤ a → G sp sc [4] d mX8_howMany n 31 L r h Q) ∧ (¬ (b ≤ a) → G sp sc [4] d mX8_howMany n 12 L r h Q))) ∧
  (∀ (n d : Nat) (L : List (Option iV)) (st : List iV) (h : iH) (Q : Option iV → iH → Prop), G sp sc [4] d mX8_howMany (n + 1) 12 L st h Q = (match ld L 0 with | some (.inr (.inr (r + 1))) => G sp sc [4] d mX8_howMany n 13 L (.inr (.inr (r + 1)) :: st) h Q | _ => False)) ∧
  (∀ (n d : Nat) (L : List (Option iV)) (r : List iV) (m : Nat) (h : iH) (Q : Option iV → iH → Prop), G sp sc [4] d mX8_howMany (n + 1) 13 L (.inr (.inr (m + 2)) :: r) h Q = (match h.1[m]? with | some (.inl (ci, fs)) => (match lkF 8 36 ci with | some k => (match fs[k]? with | some v => G sp sc [4] d mX8_howMany n 16 L (v :: r) h Q | none => False) | none => False) | _ => False)) ∧
  (∀ (n d : Nat) (L : List (Option iV)) (st : List iV) (h : iH) (Q : Option iV → iH → Prop), G sp sc [4] d mX8_howMany (n + 1) 16 L st h Q = (match ld L 3 with | some (.inl x) => G sp sc [4] d mX8_howMany n 17 L (.inl x :: st) h Q | _ => False)) ∧
  (∀ (n d : Nat) (L : List (Option iV)) (r : List iV) (j : Int) (m : Nat) (h : iH) (Q : Option iV → iH → Prop), G sp sc [4] d mX8_howMany (n + 1) 17 L (.inl j :: .inr (.inr (m + 2)) :: r) h Q = (match h.1[m]? with | some (.inr (.inl (0, xs))) => inA j xs.length = true ∧ G sp sc [4] d mX8_howMany n 18 L (.inl (xs.getD j.toNat 0) :: r) h Q | _ => False)) ∧
  (∀ (n d : Nat) (L : List (Option iV)) (st : List iV) (h : iH) (Q : Option iV → iH → Prop), G sp sc [4] d mX8_howMany (n + 1) 18 L st h Q = (match ld L 1 with | some (.inl x) => G sp sc [4] d mX8_howMany n 19 L (.inl x :: st) h Q | _ => False)) ∧
  (∀ (n d : Nat) (L : List (Option iV)) (a : Int) (b : Int) (r : List iV) (h : iH) (Q : Option iV → iH → Prop), G sp sc [4] d mX8_howMany (n + 1) 19 L (.inl b :: .inl a :: r) h Q = ((inI a = true ∧ inI b = true) ∧ (¬ a = b → G sp sc [4] d mX8_howMany n 25 L r h Q) ∧ (¬ (¬ a = b) → G sp sc [4] d mX8_howMany n 22 L r h Q))) ∧
  (∀ (n d : Nat) (L : List (Option iV)) (st : List iV) (h : iH) (Q : Option iV → iH → Prop), G sp sc [4] d mX8_howMany (n + 1) 22 L st h Q = (match ld L 2 with | some (.inl x) => (match st1 L 2 (.inl (x + 1)) with | some L' => G sp sc [4] d mX8_howMany n 25 L' st h Q | none => False) | _ => False)) ∧
  (∀ (n d : Nat) (L : List (Option iV)) (st : List iV) (h : iH) (Q : Option iV → iH → Prop), G sp sc [4] d mX8_howMany (n + 1) 25 L st h Q = (match ld L 3 with | some (.inl x) => (match st1 L 3 (.inl (x + 1)) with | some L' => G sp sc [4] d mX8_howMany n 28 L' st h Q | none => False) | _ => False)) ∧
  (∀ (n d : Nat) (L : List (Option iV)) (st : List iV) (h : iH) (Q : Option iV → iH → Prop), G sp sc [4] d mX8_howMany (n + 1) 28 L st h Q = Run sp sc d mX8_howMany 4 L st h Q) ∧
  (∀ (n d : Nat) (L : List (Option iV)) (st : List iV) (h : iH) (Q : Option iV → iH → Prop), G sp sc [4] d mX8_howMany (n + 1) 31 L st h Q = (match ld L 2 with | some (.inl x) => G sp sc [4] d mX8_howMany n 32 L (.inl x :: st) h Q | _ => False)) ∧
  (∀ (n d : Nat) (L : List (Option iV)) (a : Int) (h : iH) (Q : Option iV → iH → Prop), G sp sc [4] d mX8_howMany (n + 1) 32 L [.inl a] h Q = Q (some (.inl a)) h) ∧
  lkF 8 36 8 = some 8 ∧
  lkF 8 57 8 = some 5 := ⟨by intros; exact G_at (by decide +kernel : fetch mX8_howMany 0 = some (.iconst 0)),
  by intros; exact G_at (by decide +kernel : fetch mX8_howMany 1 = some (.istore_n 2)),
  by intros; exact G_at (by decide +kernel : fetch mX8_howMany 2 = some (.iconst 0)),
  by intros; exact G_at (by decide +kernel : fetch mX8_howMany 3 = some (.istore_n 3)),
  by intros; exact G_at (by decide +kernel : fetch mX8_howMany 4 = some (.iload_n 3)),
  by intros; exact G_at (by decide +kernel : fetch mX8_howMany 5 = some (.aload_n 0)),
  by intros; exact G_own (by decide +kernel : fetch mX8_howMany 6 = some (.getfield 57)) (by decide +kernel),
  by intros; exact G_at (by decide +kernel : fetch mX8_howMany 9 = some (.if_icmp .ge 22)),
  by intros; exact G_at (by decide +kernel : fetch mX8_howMany 12 = some (.aload_n 0)),
  by intros; exact G_own (by decide +kernel : fetch mX8_howMany 13 = some (.getfield 36)) (by decide +kernel),
  by intros; exact G_at (by decide +kernel : fetch mX8_howMany 16 = some (.iload_n 3)),
  by intros; exact G_at (by decide +kernel : fetch mX8_howMany 17 = some (.iaload)),
  by intros; exact G_at (by decide +kernel : fetch mX8_howMany 18 = some (.iload_n 1)),
  by intros; exact G_at (by decide +kernel : fetch mX8_howMany 19 = some (.if_icmp .ne 6)),
  by intros; exact G_at (by decide +kernel : fetch mX8_howMany 22 = some (.iinc 2 1)),
  by intros; exact G_at (by decide +kernel : fetch mX8_howMany 25 = some (.iinc 3 1)),
  by intros; exact G_at (by decide +kernel : fetch mX8_howMany 28 = some (.goto (-24))),
  by intros; exact G_at (by decide +kernel : fetch mX8_howMany 31 = some (.iload_n 2)),
  by intros; exact G_reti (by decide +kernel : fetch mX8_howMany 32 = some (.ireturn)) (by decide +kernel),
  by decide +kernel,
  by decide +kernel⟩
theorem gX8_drawLikings : (∀ (n d : Nat) (L : List (Option iV)) (st : List iV) (h : iH) (Q : Option iV → iH → Prop), G sp sc [4, 12, 26] d mX8_drawLikings (n + 1) 0 L st h Q = (match ld L 1 with | some (.inl x) => G sp sc [4, 12, 26] d mX8_drawLikings n 1 L (.inl x :: st) h Q | _ => False)) ∧
  (∀ (n d : Nat) (L : List (Option iV)) (r : List iV) (x : Int) (h : iH) (Q : Option iV → iH → Prop), G sp sc [4, 12, 26] d mX8_drawLikings (n + 1) 1 L (.inl x :: r) h Q = (match st1 L 2 (.inl x) with | some L' => G sp sc [4, 12, 26] d mX8_drawLikings n 2 L' r h Q | none => False)) ∧
  (∀ (n d : Nat) (L : List (Option iV)) (st : List iV) (h : iH) (Q : Option iV → iH → Prop), G sp sc [4, 12, 26] d mX8_drawLikings (n + 1) 2 L st h Q = G sp sc [4, 12, 26] d mX8_drawLikings n 3 L (.inl 0 :: st) h Q) ∧
  (∀ (n d : Nat) (L : List (Option iV)) (r : List iV) (x : Int) (h : iH) (Q : Option iV → iH → Prop), G sp sc [4, 12, 26] d mX8_drawLikings (n + 1) 3 L (.inl x :: r) h Q = (match st1 L 3 (.inl x) with | some L' => Run sp sc d mX8_drawLikings 4 L' r h Q | none => False)) ∧
  (∀ (n d : Nat) (L : List (Option iV)) (st : List iV) (h : iH) (Q : Option iV → iH → Prop), G sp sc [4, 12, 26] d mX8_drawLikings (n + 1) 4 L st h Q = (match ld L 3 with | some (.inl x) => G sp sc [4, 12, 26] d mX8_drawLikings n 5 L (.inl x :: st) h Q | _ => False)) ∧
  (∀ (n d : Nat) (L : List (Option iV)) (st : List iV) (h : iH) (Q : Option iV → iH → Prop), G sp sc [4, 12, 26] d mX8_drawLikings (n + 1) 5 L st h Q = G sp sc [4, 12, 26] d mX8_drawLikings n 6 L (.inl 1 :: st) h Q) ∧
  (∀ (n d : Nat) (L : List (Option iV)) (a : Int) (b : Int) (r : List iV) (h : iH) (Q : Option iV → iH → Prop), G sp sc [4, 12, 26] d mX8_drawLikings (n + 1) 6 L (.inl b :: .inl a :: r) h Q = ((inI a = true ∧ inI b = true) ∧ (b < a → G sp sc [4, 12, 26] d mX8_drawLikings n 85 L r h Q) ∧ (¬ (b < a) → G sp sc [4, 12, 26] d mX8_drawLikings n 9 L r h Q))) ∧
  (∀ (n d : Nat) (L : List (Option iV)) (st : List iV) (h : iH) (Q : Option iV → iH → Prop), G sp sc [4, 12, 26] d mX8_drawLikings (n + 1) 9 L st h Q = G sp sc [4, 12, 26] d mX8_drawLikings n 10 L (.inl 0 :: st) h Q) ∧
  (∀ (n d : Nat) (L : List (Option iV)) (r : List iV) (x : Int) (h : iH) (Q : Option iV → iH → Prop), G sp sc [4, 12, 26] d mX8_drawLikings (n + 1) 10 L (.inl x :: r) h Q = (match st1 L 4 (.inl x) with | some L' => Run sp sc d mX8_drawLikings 12 L' r h Q | none => False)) ∧
  (∀ (n d : Nat) (L : List (Option iV)) (st : List iV) (h : iH) (Q : Option iV → iH → Prop), G sp sc [4, 12, 26] d mX8_drawLikings (n + 1) 12 L st h Q = (match ld L 4 with | some (.inl x) => G sp sc [4, 12, 26] d mX8_drawLikings n 14 L (.inl x :: st) h Q | _ => False)) ∧
  (∀ (n d : Nat) (L : List (Option iV)) (st : List iV) (h : iH) (Q : Option iV → iH → Prop), G sp sc [4, 12, 26] d mX8_drawLikings (n + 1) 14 L st h Q = (match ld L 0 with | some (.inr (.inr (r + 1))) => G sp sc [4, 12, 26] d mX8_drawLikings n 15 L (.inr (.inr (r + 1)) :: st) h Q | _ => False)) ∧
  (∀ (n d : Nat) (L : List (Option iV)) (r : List iV) (m : Nat) (h : iH) (Q : Option iV → iH → Prop), G sp sc [4, 12, 26] d mX8_drawLikings (n + 1) 15 L (.inr (.inr (m + 2)) :: r) h Q = (match h.1[m]? with | some (.inl (ci, fs)) => (match lkF 8 9 ci with | some k => (match fs[k]? with | some v => G sp sc [4, 12, 26] d mX8_drawLikings n 18 L (v :: r) h Q | none => False) | none => False) | _ => False)) ∧
  (∀ (n d : Nat) (L : List (Option iV)) (st : List iV) (h : iH) (Q : Option iV → iH → Prop), G sp sc [4, 12, 26] d mX8_drawLikings (n + 1) 18 L st h Q = (match ld L 3 with | some (.inl x) => G sp sc [4, 12, 26] d mX8_drawLikings n 19 L (.inl x :: st) h Q | _ => False)) ∧
  (∀ (n d : Nat) (L : List (Option iV)) (r : List iV) (j : Int) (m : Nat) (h : iH) (Q : Option iV → iH → Prop), G sp sc [4, 12, 26] d mX8_drawLikings (n + 1) 19 L (.inl j :: .inr (.inr (m + 2)) :: r) h Q = (match h.1[m]? with | some (.inr (.inl (0, xs))) => inA j xs.length = true ∧ G sp sc [4, 12, 26] d mX8_drawLikings n 20 L (.inl (xs.getD j.toNat 0) :: r) h Q | _ => False)) ∧
  (∀ (n d : Nat) (L : List (Option iV)) (a : Int) (b : Int) (r : List iV) (h : iH) (Q : Option iV → iH → Prop), G sp sc [4, 12, 26] d mX8_drawLikings (n + 1) 20 L (.inl b :: .inl a :: r) h Q = ((inI a = true ∧ inI b = true) ∧ (b ≤ a → G sp sc [4, 12, 26] d mX8_drawLikings n 79 L r h Q) ∧ (¬ (b ≤ a) → G sp sc [4, 12, 26] d mX8_drawLikings n 23 L r h Q))) ∧
  (∀ (n d : Nat) (L : List (Option iV)) (st : List iV) (h : iH) (Q : Option iV → iH → Prop), G sp sc [4, 12, 26] d mX8_drawLikings (n + 1) 23 L st h Q = G sp sc [4, 12, 26] d mX8_drawLikings n 24 L (.inl 0 :: st) h Q) ∧
  (∀ (n d : Nat) (L : List (Option iV)) (r : List iV) (x : Int) (h : iH) (Q : Option iV → iH → Prop), G sp sc [4, 12, 26] d mX8_drawLikings (n + 1) 24 L (.inl x :: r) h Q = (match st1 L 5 (.inl x) with | some L' => Run sp sc d mX8_drawLikings 26 L' r h Q | none => False)) ∧
  (∀ (n d : Nat) (L : List (Option iV)) (st : List iV) (h : iH) (Q : Option iV → iH → Prop), G sp sc [4, 12, 26] d mX8_drawLikings (n + 1) 26 L st h Q = (match ld L 5 with | some (.inl x) => G sp sc [4, 12, 26] d mX8_drawLikings n 28 L (.inl x :: st) h Q | _ => False)) ∧
  (∀ (n d : Nat) (L : List (Option iV)) (st : List iV) (h : iH) (Q : Option iV → iH → Prop), G sp sc [4, 12, 26] d mX8_drawLikings (n + 1) 28 L st h Q = (match ld L 0 with | some (.inr (.inr (r + 1))) => G sp sc [4, 12, 26] d mX8_drawLikings n 29 L (.inr (.inr (r + 1)) :: st) h Q | _ => False)) ∧
  (∀ (n d : Nat) (L : List (Option iV)) (r : List iV) (m : Nat) (h : iH) (Q : Option iV → iH → Prop), G sp sc [4, 12, 26] d mX8_drawLikings (n + 1) 29 L (.inr (.inr (m + 2)) :: r) h Q = (match h.1[m]? with | some (.inl (ci, fs)) => (match lkF 8 9 ci with | some k => (match fs[k]? with | some v => G sp sc [4, 12, 26] d mX8_drawLikings n 32 L (v :: r) h Q | none => False) | none => False) | _ => False)) ∧
  (∀ (n d : Nat) (L : List (Option iV)) (st : List iV) (h : iH) (Q : Option iV → iH → Prop), G sp sc [4, 12, 26] d mX8_drawLikings (n + 1) 32 L st h Q = G sp sc [4, 12, 26] d mX8_drawLikings n 33 L (.inl 1 :: st) h Q) ∧
  (∀ (n d : Nat) (L : List (Option iV)) (st : List iV) (h : iH) (Q : Option iV → iH → Prop), G sp sc [4, 12, 26] d mX8_drawLikings (n + 1) 33 L st h Q = (match ld L 3 with | some (.inl x) => G sp sc [4, 12, 26] d mX8_drawLikings n 34 L (.inl x :: st) h Q | _ => False)) ∧
  (∀ (n d : Nat) (L : List (Option iV)) (a : Int) (b : Int) (r : List iV) (h : iH) (Q : Option iV → iH → Prop), G sp sc [4, 12, 26] d mX8_drawLikings (n + 1) 34 L (.inl b :: .inl a :: r) h Q = G sp sc [4, 12, 26] d mX8_drawLikings n 35 L (.inl (a - b) :: r) h Q) ∧
  (∀ (n d : Nat) (L : List (Option iV)) (r : List iV) (j : Int) (m : Nat) (h : iH) (Q : Option iV → iH → Prop), G sp sc [4, 12, 26] d mX8_drawLikings (n + 1) 35 L (.inl j :: .inr (.inr (m + 2)) :: r) h Q = (match h.1[m]? with | some (.inr (.inl (0, xs))) => inA j xs.length = true ∧ G sp sc [4, 12, 26] d mX8_drawLikings n 36 L (.inl (xs.getD j.toNat 0) :: r) h Q | _ => False)) ∧
  (∀ (n d : Nat) (L : List (Option iV)) (a : Int) (b : Int) (r : List iV) (h : iH) (Q : Option iV → iH → Prop), G sp sc [4, 12, 26] d mX8_drawLikings (n + 1) 36 L (.inl b :: .inl a :: r) h Q = ((inI a = true ∧ inI b = true) ∧ (b ≤ a → G sp sc [4, 12, 26] d mX8_drawLikings n 73 L r h Q) ∧ (¬ (b ≤ a) → G sp sc [4, 12, 26] d mX8_drawLikings n 39 L r h Q))) ∧
  (∀ (n d : Nat) (L : List (Option iV)) (st : List iV) (h : iH) (Q : Option iV → iH → Prop), G sp sc [4, 12, 26] d mX8_drawLikings (n + 1) 39 L st h Q = (match ld L 2 with | some (.inl x) => G sp sc [4, 12, 26] d mX8_drawLikings n 40 L (.inl x :: st) h Q | _ => False)) ∧
  (∀ (n d : Nat) (L : List (Option iV)) (st : List iV) (h : iH) (Q : Option iV → iH → Prop), G sp sc [4, 12, 26] d mX8_drawLikings (n + 1) 40 L st h Q = G sp sc [4, 12, 26] d mX8_drawLikings n 42 L (.inl (1103515245) :: st) h Q) ∧
  (∀ (n d : Nat) (L : List (Option iV)) (a : Int) (b : Int) (r : List iV) (h : iH) (Q : Option iV → iH → Prop), G sp sc [4, 12, 26] d mX8_drawLikings (n + 1) 42 L (.inl b :: .inl a :: r) h Q = G sp sc [4, 12, 26] d mX8_drawLikings n 43 L (.inl (a * b) :: r) h Q) ∧
  (∀ (n d : Nat) (L : List (Option iV)) (st : List iV) (h : iH) (Q : Option iV → iH → Prop), G sp sc [4, 12, 26] d mX8_drawLikings (n + 1) 43 L st h Q = ((-32768 ≤ (12345 : Int) ∧ (12345 : Int) < 32768) ∧ G sp sc [4, 12, 26] d mX8_drawLikings n 46 L (.inl 12345 :: st) h Q)) ∧
  (∀ (n d : Nat) (L : List (Option iV)) (a : Int) (b : Int) (r : List iV) (h : iH) (Q : Option iV → iH → Prop), G sp sc [4, 12, 26] d mX8_drawLikings (n + 1) 46 L (.inl b :: .inl a :: r) h Q = G sp sc [4, 12, 26] d mX8_drawLikings n 47 L (.inl (a + b) :: r) h Q) ∧
  (∀ (n d : Nat) (L : List (Option iV)) (r : List iV) (x : Int) (h : iH) (Q : Option iV → iH → Prop), G sp sc [4, 12, 26] d mX8_drawLikings (n + 1) 47 L (.inl x :: r) h Q = (match st1 L 2 (.inl x) with | some L' => G sp sc [4, 12, 26] d mX8_drawLikings n 48 L' r h Q | none => False)) ∧
  (∀ (n d : Nat) (L : List (Option iV)) (st : List iV) (h : iH) (Q : Option iV → iH → Prop), G sp sc [4, 12, 26] d mX8_drawLikings (n + 1) 48 L st h Q = (match ld L 0 with | some (.inr (.inr (r + 1))) => G sp sc [4, 12, 26] d mX8_drawLikings n 49 L (.inr (.inr (r + 1)) :: st) h Q | _ => False)) ∧
  (∀ (n d : Nat) (L : List (Option iV)) (st : List iV) (h : iH) (Q : Option iV → iH → Prop), G sp sc [4, 12, 26] d mX8_drawLikings (n + 1) 49 L st h Q = (match ld L 3 with | some (.inl x) => G sp sc [4, 12, 26] d mX8_drawLikings n 50 L (.inl x :: st) h Q | _ => False)) ∧
  (∀ (n d : Nat) (L : List (Option iV)) (st : List iV) (h : iH) (Q : Option iV → iH → Prop), G sp sc [4, 12, 26] d mX8_drawLikings (n + 1) 50 L st h Q = (match ld L 4 with | some (.inl x) => G sp sc [4, 12, 26] d mX8_drawLikings n 52 L (.inl x :: st) h Q | _ => False)) ∧
  (∀ (n d : Nat) (L : List (Option iV)) (st : List iV) (h : iH) (Q : Option iV → iH → Prop), G sp sc [4, 12, 26] d mX8_drawLikings (n + 1) 52 L st h Q = (match ld L 5 with | some (.inl x) => G sp sc [4, 12, 26] d mX8_drawLikings n 54 L (.inl x :: st) h Q | _ => False)) ∧
  (∀ (n d : Nat) (L : List (Option iV)) (st : List iV) (h : iH) (Q : Option iV → iH → Prop), G sp sc [4, 12, 26] d mX8_drawLikings (n + 1) 54 L st h Q = (match ld L 2 with | some (.inl x) => G sp sc [4, 12, 26] d mX8_drawLikings n 55 L (.inl x :: st) h Q | _ => False)) ∧
  (∀ (n d : Nat) (L : List (Option iV)) (st : List iV) (h : iH) (Q : Option iV → iH → Prop), G sp sc [4, 12, 26] d mX8_drawLikings (n + 1) 55 L st h Q = G sp sc [4, 12, 26] d mX8_drawLikings n 57 L (.inl (2147483647) :: st) h Q) ∧
  (∀ (n d : Nat) (L : List (Option iV)) (a : Int) (b : Int) (r : List iV) (h : iH) (Q : Option iV → iH → Prop), G sp sc [4, 12, 26] d mX8_drawLikings (n + 1) 57 L (.inl b :: .inl a :: r) h Q = G sp sc [4, 12, 26] d mX8_drawLikings n 58 L (.inl (bAnd a b) :: r) h Q) ∧
  (∀ (n d : Nat) (L : List (Option iV)) (st : List iV) (h : iH) (Q : Option iV → iH → Prop), G sp sc [4, 12, 26] d mX8_drawLikings (n + 1) 58 L st h Q = G sp sc [4, 12, 26] d mX8_drawLikings n 60 L (.inl (65536) :: st) h Q) ∧
  (∀ (n d : Nat) (L : List (Option iV)) (a : Int) (b : Int) (r : List iV) (h : iH) (Q : Option iV → iH → Prop), G sp sc [4, 12, 26] d mX8_drawLikings (n + 1) 60 L (.inl b :: .inl a :: r) h Q = ((inI a = true ∧ inI b = true ∧ 0 < b) ∧ G sp sc [4, 12, 26] d mX8_drawLikings n 61 L (.inl (a.tdiv b) :: r) h Q)) ∧
  (∀ (n d : Nat) (L : List (Option iV)) (st : List iV) (h : iH) (Q : Option iV → iH → Prop), G sp sc [4, 12, 26] d mX8_drawLikings (n + 1) 61 L st h Q = ((-128 ≤ (60 : Int) ∧ (60 : Int) < 128) ∧ G sp sc [4, 12, 26] d mX8_drawLikings n 63 L (.inl 60 :: st) h Q)) ∧
  (∀ (n d : Nat) (L : List (Option iV)) (a : Int) (b : Int) (r : List iV) (h : iH) (Q : Option iV → iH → Prop), G sp sc [4, 12, 26] d mX8_drawLikings (n + 1) 63 L (.inl b :: .inl a :: r) h Q = ((inI a = true ∧ inI b = true ∧ 0 < b) ∧ G sp sc [4, 12, 26] d mX8_drawLikings n 64 L (.inl (a.tmod b) :: r) h Q)) ∧
  (∀ (n d : Nat) (L : List (Option iV)) (r : List iV) (m : Nat) (z0 : iV) (z1 : iV) (z2 : iV) (z3 : iV) (h : iH) (Q : Option iV → iH → Prop), G sp sc [4, 12, 26] (d + 1) mX8_drawLikings (n + 1) 64 L (z3 :: z2 :: z1 :: z0 :: .inr (.inr (m + 2)) :: r) h Q = (match h.1[m]? with | some (.inl (ci, _)) => (match lkC 8 76 ci with | some (y1, n1, kd) => (n1 = 4 ∧ (kd = 2 ∨ kd = 3 ∨ kd = 8) ∧ cs r ≤ 8) ∧ Call sp sc d y1 [.inr (.inr (m + 2)), z0, z1, z2, z3] h (fun q h1 => GC sp sc [4, 12, 26] (d + 1) mX8_drawLikings n 67 L q r h h1 Q) | none => False) | _ => False)) ∧
  (∀ (n d : Nat) (L : List (Option iV)) (st : List iV) (h : iH) (Q : Option iV → iH → Prop), G sp sc [4, 12, 26] d mX8_drawLikings (n + 1) 67 L st h Q = (match ld L 5 with | some (.inl x) => (match st1 L 5 (.inl (x + 1)) with | some L' => G sp sc [4, 12, 26] d mX8_drawLikings n 70 L' st h Q | none => False) | _ => False)) ∧
  (∀ (n d : Nat) (L : List (Option iV)) (st : List iV) (h : iH) (Q : Option iV → iH → Prop), G sp sc [4, 12, 26] d mX8_drawLikings (n + 1) 70 L st h Q = Run sp sc d mX8_drawLikings 26 L st h Q) ∧
  (∀ (n d : Nat) (L : List (Option iV)) (st : List iV) (h : iH) (Q : Option iV → iH → Prop), G sp sc [4, 12, 26] d mX8_drawLikings (n + 1) 73 L st h Q = (match ld L 4 with | some (.inl x) => (match st1 L 4 (.inl (x + 1)) with | some L' => G sp sc [4, 12, 26] d mX8_drawLikings n 76 L' st h Q | none => False) | _ => False)) ∧
  (∀ (n d : Nat) (L : List (Option iV)) (st : List iV) (h : iH) (Q : Option iV → iH → Prop), G sp sc [4, 12, 26] d mX8_drawLikings (n + 1) 76 L st h Q = Run sp sc d mX8_drawLikings 12 L st h Q) ∧
  (∀ (n d : Nat) (L : List (Option iV)) (st : List iV) (h : iH) (Q : Option iV → iH → Prop), G sp sc [4, 12, 26] d mX8_drawLikings (n + 1) 79 L st h Q = (match ld L 3 with | some (.inl x) => (match st1 L 3 (.inl (x + 1)) with | some L' => G sp sc [4, 12, 26] d mX8_drawLikings n 82 L' st h Q | none => False) | _ => False)) ∧
  (∀ (n d : Nat) (L : List (Option iV)) (st : List iV) (h : iH) (Q : Option iV → iH → Prop), G sp sc [4, 12, 26] d mX8_drawLikings (n + 1) 82 L st h Q = Run sp sc d mX8_drawLikings 4 L st h Q) ∧
  (∀ (n d : Nat) (L : List (Option iV)) (st : List iV) (h : iH) (Q : Option iV → iH → Prop), G sp sc [4, 12, 26] d mX8_drawLikings (n + 1) 85 L st h Q = (match ld L 2 with | some (.inl x) => G sp sc [4, 12, 26] d mX8_drawLikings n 86 L (.inl x :: st) h Q | _ => False)) ∧
  (∀ (n d : Nat) (L : List (Option iV)) (a : Int) (h : iH) (Q : Option iV → iH → Prop), G sp sc [4, 12, 26] d mX8_drawLikings (n + 1) 86 L [.inl a] h Q = Q (some (.inl a)) h) ∧
  lkC 8 76 8 = some (mX8_setLiking, 4, 2) ∧
  lkF 8 9 8 = some 0 := ⟨by intros; exact G_at (by decide +kernel : fetch mX8_drawLikings 0 = some (.iload_n 1)),
  by intros; exact G_at (by decide +kernel : fetch mX8_drawLikings 1 = some (.istore_n 2)),
  by intros; exact G_at (by decide +kernel : fetch mX8_drawLikings 2 = some (.iconst 0)),
  by intros; exact G_at (by decide +kernel : fetch mX8_drawLikings 3 = some (.istore_n 3)),
  by intros; exact G_at (by decide +kernel : fetch mX8_drawLikings 4 = some (.iload_n 3)),
  by intros; exact G_at (by decide +kernel : fetch mX8_drawLikings 5 = some (.iconst 1)),
  by intros; exact G_at (by decide +kernel : fetch mX8_drawLikings 6 = some (.if_icmp .gt 79)),
  by intros; exact G_at (by decide +kernel : fetch mX8_drawLikings 9 = some (.iconst 0)),
  by intros; exact G_at (by decide +kernel : fetch mX8_drawLikings 10 = some (.istore 4)),
  by intros; exact G_at (by decide +kernel : fetch mX8_drawLikings 12 = some (.iload 4)),
  by intros; exact G_at (by decide +kernel : fetch mX8_drawLikings 14 = some (.aload_n 0)),
  by intros; exact G_own (by decide +kernel : fetch mX8_drawLikings 15 = some (.getfield 9)) (by decide +kernel),
  by intros; exact G_at (by decide +kernel : fetch mX8_drawLikings 18 = some (.iload_n 3)),
  by intros; exact G_at (by decide +kernel : fetch mX8_drawLikings 19 = some (.iaload)),
  by intros; exact G_at (by decide +kernel : fetch mX8_drawLikings 20 = some (.if_icmp .ge 59)),
  by intros; exact G_at (by decide +kernel : fetch mX8_drawLikings 23 = some (.iconst 0)),
  by intros; exact G_at (by decide +kernel : fetch mX8_drawLikings 24 = some (.istore 5)),
  by intros; exact G_at (by decide +kernel : fetch mX8_drawLikings 26 = some (.iload 5)),
  by intros; exact G_at (by decide +kernel : fetch mX8_drawLikings 28 = some (.aload_n 0)),
  by intros; exact G_own (by decide +kernel : fetch mX8_drawLikings 29 = some (.getfield 9)) (by decide +kernel),
  by intros; exact G_at (by decide +kernel : fetch mX8_drawLikings 32 = some (.iconst 1)),
  by intros; exact G_at (by decide +kernel : fetch mX8_drawLikings 33 = some (.iload_n 3)),
  by intros; exact G_at (by decide +kernel : fetch mX8_drawLikings 34 = some (.isub)),
  by intros; exact G_at (by decide +kernel : fetch mX8_drawLikings 35 = some (.iaload)),
  by intros; exact G_at (by decide +kernel : fetch mX8_drawLikings 36 = some (.if_icmp .ge 37)),
  by intros; exact G_at (by decide +kernel : fetch mX8_drawLikings 39 = some (.iload_n 2)),
  by intros; exact G_ldc (by decide +kernel : fetch mX8_drawLikings 40 = some (.ldc 89)) (by decide +kernel),
  by intros; exact G_at (by decide +kernel : fetch mX8_drawLikings 42 = some (.imul)),
  by intros; exact G_at (by decide +kernel : fetch mX8_drawLikings 43 = some (.sipush 12345)),
  by intros; exact G_at (by decide +kernel : fetch mX8_drawLikings 46 = some (.iadd)),
  by intros; exact G_at (by decide +kernel : fetch mX8_drawLikings 47 = some (.istore_n 2)),
  by intros; exact G_at (by decide +kernel : fetch mX8_drawLikings 48 = some (.aload_n 0)),
  by intros; exact G_at (by decide +kernel : fetch mX8_drawLikings 49 = some (.iload_n 3)),
  by intros; exact G_at (by decide +kernel : fetch mX8_drawLikings 50 = some (.iload 4)),
  by intros; exact G_at (by decide +kernel : fetch mX8_drawLikings 52 = some (.iload 5)),
  by intros; exact G_at (by decide +kernel : fetch mX8_drawLikings 54 = some (.iload_n 2)),
  by intros; exact G_ldc (by decide +kernel : fetch mX8_drawLikings 55 = some (.ldc 90)) (by decide +kernel),
  by intros; exact G_at (by decide +kernel : fetch mX8_drawLikings 57 = some (.iand)),
  by intros; exact G_ldc (by decide +kernel : fetch mX8_drawLikings 58 = some (.ldc 91)) (by decide +kernel),
  by intros; exact G_at (by decide +kernel : fetch mX8_drawLikings 60 = some (.idiv)),
  by intros; exact G_at (by decide +kernel : fetch mX8_drawLikings 61 = some (.bipush 60)),
  by intros; exact G_at (by decide +kernel : fetch mX8_drawLikings 63 = some (.irem)),
  by intros; exact G_callV (by decide +kernel : fetch mX8_drawLikings 64 = some (.invokevirtual 76)) (by decide +kernel) (by decide +kernel) rfl,
  by intros; exact G_at (by decide +kernel : fetch mX8_drawLikings 67 = some (.iinc 5 1)),
  by intros; exact G_at (by decide +kernel : fetch mX8_drawLikings 70 = some (.goto (-44))),
  by intros; exact G_at (by decide +kernel : fetch mX8_drawLikings 73 = some (.iinc 4 1)),
  by intros; exact G_at (by decide +kernel : fetch mX8_drawLikings 76 = some (.goto (-64))),
  by intros; exact G_at (by decide +kernel : fetch mX8_drawLikings 79 = some (.iinc 3 1)),
  by intros; exact G_at (by decide +kernel : fetch mX8_drawLikings 82 = some (.goto (-78))),
  by intros; exact G_at (by decide +kernel : fetch mX8_drawLikings 85 = some (.iload_n 2)),
  by intros; exact G_reti (by decide +kernel : fetch mX8_drawLikings 86 = some (.ireturn)) (by decide +kernel),
  by decide +kernel,
  by decide +kernel⟩
theorem gX8_takeFrom : (∀ (n d : Nat) (L : List (Option iV)) (st : List iV) (h : iH) (Q : Option iV → iH → Prop), G sp sc [188] d mX8_takeFrom (n + 1) 0 L st h Q = (match ld L 1 with | some (.inr (.inr (r + 1))) => G sp sc [188] d mX8_takeFrom n 1 L (.inr (.inr (r + 1)) :: st) h Q | _ => False)) ∧
  (∀ (n d : Nat) (L : List (Option iV)) (r : List iV) (m : Nat) (h : iH) (Q : Option iV → iH → Prop), G sp sc [188] d mX8_takeFrom (n + 1) 1 L (.inr (.inr (m + 2)) :: r) h Q = (match h.1[m]? with | some (.inl (ci, fs)) => (match lkF 8 9 ci with | some k => (match fs[k]? with | some v => G sp sc [188] d mX8_takeFrom n 4 L (v :: r) h Q | none => False) | none => False) | _ => False)) ∧
  (∀ (n d : Nat) (L : List (Option iV)) (st : List iV) (h : iH) (Q : Option iV → iH → Prop), G sp sc [188] d mX8_takeFrom (n + 1) 4 L st h Q = G sp sc [188] d mX8_takeFrom n 5 L (.inl 0 :: st) h Q) ∧
  (∀ (n d : Nat) (L : List (Option iV)) (st : List iV) (h : iH) (Q : Option iV → iH → Prop), G sp sc [188] d mX8_takeFrom (n + 1) 5 L st h Q = (match ld L 0 with | some (.inr (.inr (r + 1))) => G sp sc [188] d mX8_takeFrom n 6 L (.inr (.inr (r + 1)) :: st) h Q | _ => False)) ∧
  (∀ (n d : Nat) (L : List (Option iV)) (r : List iV) (m : Nat) (h : iH) (Q : Option iV → iH → Prop), G sp sc [188] d mX8_takeFrom (n + 1) 6 L (.inr (.inr (m + 2)) :: r) h Q = (match h.1[m]? with | some (.inl (ci, fs)) => (match lkF 8 9 ci with | some k => (match fs[k]? with | some v => G sp sc [188] d mX8_takeFrom n 9 L (v :: r) h Q | none => False) | none => False) | _ => False)) ∧
  (∀ (n d : Nat) (L : List (Option iV)) (st : List iV) (h : iH) (Q : Option iV → iH → Prop), G sp sc [188] d mX8_takeFrom (n + 1) 9 L st h Q = G sp sc [188] d mX8_takeFrom n 10 L (.inl 0 :: st) h Q) ∧
  (∀ (n d : Nat) (L : List (Option iV)) (st : List iV) (h : iH) (Q : Option iV → iH → Prop), G sp sc [188] d mX8_takeFrom (n + 1) 10 L st h Q = (match ld L 0 with | some (.inr (.inr (r + 1))) => G sp sc [188] d mX8_takeFrom n 11 L (.inr (.inr (r + 1)) :: st) h Q | _ => False)) ∧
  (∀ (n d : Nat) (L : List (Option iV)) (r : List iV) (m : Nat) (h : iH) (Q : Option iV → iH → Prop), G sp sc [188] d mX8_takeFrom (n + 1) 11 L (.inr (.inr (m + 2)) :: r) h Q = (match h.1[m]? with | some (.inl (ci, fs)) => (match lkF 8 9 ci with | some k => (match fs[k]? with | some v => G sp sc [188] d mX8_takeFrom n 14 L (v :: r) h Q | none => False) | none => False) | _ => False)) ∧
  (∀ (n d : Nat) (L : List (Option iV)) (r : List iV) (m : Nat) (h : iH) (Q : Option iV → iH → Prop), G sp sc [188] d mX8_takeFrom (n + 1) 14 L (.inr (.inr (m + 2)) :: r) h Q = (match h.1[m]? with | some (.inr (.inl (t, xs))) => t < 6 ∧ G sp sc [188] d mX8_takeFrom n 15 L (.inl (xs.length : Int) :: r) h Q | some (.inr (.inr (t, rs))) => t < 6 ∧ G sp sc [188] d mX8_takeFrom n 15 L (.inl (rs.length : Int) :: r) h Q | _ => False)) ∧
  (∀ (n d : Nat) (L : List (Option iV)) (st : List iV) (h : iH) (Q : Option iV → iH → Prop), G sp sc [188] d mX8_takeFrom (n + 1) 18 L st h Q = (match ld L 1 with | some (.inr (.inr (r + 1))) => G sp sc [188] d mX8_takeFrom n 19 L (.inr (.inr (r + 1)) :: st) h Q | _ => False)) ∧
  (∀ (n d : Nat) (L : List (Option iV)) (r : List iV) (m : Nat) (h : iH) (Q : Option iV → iH → Prop), G sp sc [188] d mX8_takeFrom (n + 1) 19 L (.inr (.inr (m + 2)) :: r) h Q = (match h.1[m]? with | some (.inl (ci, fs)) => (match lkF 8 21 ci with | some k => (match fs[k]? with | some v => G sp sc [188] d mX8_takeFrom n 22 L (v :: r) h Q | none => False) | none => False) | _ => False)) ∧
  (∀ (n d : Nat) (L : List (Option iV)) (st : List iV) (h : iH) (Q : Option iV → iH → Prop), G sp sc [188] d mX8_takeFrom (n + 1) 22 L st h Q = G sp sc [188] d mX8_takeFrom n 23 L (.inl 0 :: st) h Q) ∧
  (∀ (n d : Nat) (L : List (Option iV)) (st : List iV) (h : iH) (Q : Option iV → iH → Prop), G sp sc [188] d mX8_takeFrom (n + 1) 23 L st h Q = (match ld L 0 with | some (.inr (.inr (r + 1))) => G sp sc [188] d mX8_takeFrom n 24 L (.inr (.inr (r + 1)) :: st) h Q | _ => False)) ∧
  (∀ (n d : Nat) (L : List (Option iV)) (r : List iV) (m : Nat) (h : iH) (Q : Option iV → iH → Prop), G sp sc [188] d mX8_takeFrom (n + 1) 24 L (.inr (.inr (m + 2)) :: r) h Q = (match h.1[m]? with | some (.inl (ci, fs)) => (match lkF 8 21 ci with | some k => (match fs[k]? with | some v => G sp sc [188] d mX8_takeFrom n 27 L (v :: r) h Q | none => False) | none => False) | _ => False)) ∧
  (∀ (n d : Nat) (L : List (Option iV)) (st : List iV) (h : iH) (Q : Option iV → iH → Prop), G sp sc [188] d mX8_takeFrom (n + 1) 27 L st h Q = G sp sc [188] d mX8_takeFrom n 28 L (.inl 0 :: st) h Q) ∧
  (∀ (n d : Nat) (L : List (Option iV)) (st : List iV) (h : iH) (Q : Option iV → iH → Prop), G sp sc [188] d mX8_takeFrom (n + 1) 28 L st h Q = (match ld L 0 with | some (.inr (.inr (r + 1))) => G sp sc [188] d mX8_takeFrom n 29 L (.inr (.inr (r + 1)) :: st) h Q | _ => False)) ∧
  (∀ (n d : Nat) (L : List (Option iV)) (r : List iV) (m : Nat) (h : iH) (Q : Option iV → iH → Prop), G sp sc [188] d mX8_takeFrom (n + 1) 29 L (.inr (.inr (m + 2)) :: r) h Q = (match h.1[m]? with | some (.inl (ci, fs)) => (match lkF 8 21 ci with | some k => (match fs[k]? with | some v => G sp sc [188] d mX8_takeFrom n 32 L (v :: r) h Q | none => False) | none => False) | _ => False)) ∧
  (∀ (n d : Nat) (L : List (Option iV)) (r : List iV) (m : Nat) (h : iH) (Q : Option iV → iH → Prop), G sp sc [188] d mX8_takeFrom (n + 1) 32 L (.inr (.inr (m + 2)) :: r) h Q = (match h.1[m]? with | some (.inr (.inl (t, xs))) => t < 6 ∧ G sp sc [188] d mX8_takeFrom n 33 L (.inl (xs.length : Int) :: r) h Q | some (.inr (.inr (t, rs))) => t < 6 ∧ G sp sc [188] d mX8_takeFrom n 33 L (.inl (rs.length : Int) :: r) h Q | _ => False)) ∧
  (∀ (n d : Nat) (L : List (Option iV)) (st : List iV) (h : iH) (Q : Option iV → iH → Prop), G sp sc [188] d mX8_takeFrom (n + 1) 36 L st h Q = (match ld L 1 with | some (.inr (.inr (r + 1))) => G sp sc [188] d mX8_takeFrom n 37 L (.inr (.inr (r + 1)) :: st) h Q | _ => False)) ∧
  (∀ (n d : Nat) (L : List (Option iV)) (r : List iV) (m : Nat) (h : iH) (Q : Option iV → iH → Prop), G sp sc [188] d mX8_takeFrom (n + 1) 37 L (.inr (.inr (m + 2)) :: r) h Q = (match h.1[m]? with | some (.inl (ci, fs)) => (match lkF 8 24 ci with | some k => (match fs[k]? with | some v => G sp sc [188] d mX8_takeFrom n 40 L (v :: r) h Q | none => False) | none => False) | _ => False)) ∧
  (∀ (n d : Nat) (L : List (Option iV)) (st : List iV) (h : iH) (Q : Option iV → iH → Prop), G sp sc [188] d mX8_takeFrom (n + 1) 40 L st h Q = G sp sc [188] d mX8_takeFrom n 41 L (.inl 0 :: st) h Q) ∧
  (∀ (n d : Nat) (L : List (Option iV)) (st : List iV) (h : iH) (Q : Option iV → iH → Prop), G sp sc [188] d mX8_takeFrom (n + 1) 41 L st h Q = (match ld L 0 with | some (.inr (.inr (r + 1))) => G sp sc [188] d mX8_takeFrom n 42 L (.inr (.inr (r + 1)) :: st) h Q | _ => False)) ∧
  (∀ (n d : Nat) (L : List (Option iV)) (r : List iV) (m : Nat) (h : iH) (Q : Option iV → iH → Prop), G sp sc [188] d mX8_takeFrom (n + 1) 42 L (.inr (.inr (m + 2)) :: r) h Q = (match h.1[m]? with | some (.inl (ci, fs)) => (match lkF 8 24 ci with | some k => (match fs[k]? with | some v => G sp sc [188] d mX8_takeFrom n 45 L (v :: r) h Q | none => False) | none => False) | _ => False)) ∧
  (∀ (n d : Nat) (L : List (Option iV)) (st : List iV) (h : iH) (Q : Option iV → iH → Prop), G sp sc [188] d mX8_takeFrom (n + 1) 45 L st h Q = G sp sc [188] d mX8_takeFrom n 46 L (.inl 0 :: st) h Q) ∧
  (∀ (n d : Nat) (L : List (Option iV)) (st : List iV) (h : iH) (Q : Option iV → iH → Prop), G sp sc [188] d mX8_takeFrom (n + 1) 46 L st h Q = (match ld L 0 with | some (.inr (.inr (r + 1))) => G sp sc [188] d mX8_takeFrom n 47 L (.inr (.inr (r + 1)) :: st) h Q | _ => False)) ∧
  (∀ (n d : Nat) (L : List (Option iV)) (r : List iV) (m : Nat) (h : iH) (Q : Option iV → iH → Prop), G sp sc [188] d mX8_takeFrom (n + 1) 47 L (.inr (.inr (m + 2)) :: r) h Q = (match h.1[m]? with | some (.inl (ci, fs)) => (match lkF 8 24 ci with | some k => (match fs[k]? with | some v => G sp sc [188] d mX8_takeFrom n 50 L (v :: r) h Q | none => False) | none => False) | _ => False)) ∧
  (∀ (n d : Nat) (L : List (Option iV)) (r : List iV) (m : Nat) (h : iH) (Q : Option iV → iH → Prop), G sp sc [188] d mX8_takeFrom (n + 1) 50 L (.inr (.inr (m + 2)) :: r) h Q = (match h.1[m]? with | some (.inr (.inl (t, xs))) => t < 6 ∧ G sp sc [188] d mX8_takeFrom n 51 L (.inl (xs.length : Int) :: r) h Q | some (.inr (.inr (t, rs))) => t < 6 ∧ G sp sc [188] d mX8_takeFrom n 51 L (.inl (rs.length : Int) :: r) h Q | _ => False)) ∧
  (∀ (n d : Nat) (L : List (Option iV)) (st : List iV) (h : iH) (Q : Option iV → iH → Prop), G sp sc [188] d mX8_takeFrom (n + 1) 54 L st h Q = (match ld L 1 with | some (.inr (.inr (r + 1))) => G sp sc [188] d mX8_takeFrom n 55 L (.inr (.inr (r + 1)) :: st) h Q | _ => False)) ∧
  (∀ (n d : Nat) (L : List (Option iV)) (r : List iV) (m : Nat) (h : iH) (Q : Option iV → iH → Prop), G sp sc [188] d mX8_takeFrom (n + 1) 55 L (.inr (.inr (m + 2)) :: r) h Q = (match h.1[m]? with | some (.inl (ci, fs)) => (match lkF 8 27 ci with | some k => (match fs[k]? with | some v => G sp sc [188] d mX8_takeFrom n 58 L (v :: r) h Q | none => False) | none => False) | _ => False)) ∧
  (∀ (n d : Nat) (L : List (Option iV)) (st : List iV) (h : iH) (Q : Option iV → iH → Prop), G sp sc [188] d mX8_takeFrom (n + 1) 58 L st h Q = G sp sc [188] d mX8_takeFrom n 59 L (.inl 0 :: st) h Q) ∧
  (∀ (n d : Nat) (L : List (Option iV)) (st : List iV) (h : iH) (Q : Option iV → iH → Prop), G sp sc [188] d mX8_takeFrom (n + 1) 59 L st h Q = (match ld L 0 with | some (.inr (.inr (r + 1))) => G sp sc [188] d mX8_takeFrom n 60 L (.inr (.inr (r + 1)) :: st) h Q | _ => False)) ∧
  (∀ (n d : Nat) (L : List (Option iV)) (r : List iV) (m : Nat) (h : iH) (Q : Option iV → iH → Prop), G sp sc [188] d mX8_takeFrom (n + 1) 60 L (.inr (.inr (m + 2)) :: r) h Q = (match h.1[m]? with | some (.inl (ci, fs)) => (match lkF 8 27 ci with | some k => (match fs[k]? with | some v => G sp sc [188] d mX8_takeFrom n 63 L (v :: r) h Q | none => False) | none => False) | _ => False)) ∧
  (∀ (n d : Nat) (L : List (Option iV)) (st : List iV) (h : iH) (Q : Option iV → iH → Prop), G sp sc [188] d mX8_takeFrom (n + 1) 63 L st h Q = G sp sc [188] d mX8_takeFrom n 64 L (.inl 0 :: st) h Q) ∧
  (∀ (n d : Nat) (L : List (Option iV)) (st : List iV) (h : iH) (Q : Option iV → iH → Prop), G sp sc [188] d mX8_takeFrom (n + 1) 64 L st h Q = (match ld L 0 with | some (.inr (.inr (r + 1))) => G sp sc [188] d mX8_takeFrom n 65 L (.inr (.inr (r + 1)) :: st) h Q | _ => False)) ∧
  (∀ (n d : Nat) (L : List (Option iV)) (r : List iV) (m : Nat) (h : iH) (Q : Option iV → iH → Prop), G sp sc [188] d mX8_takeFrom (n + 1) 65 L (.inr (.inr (m + 2)) :: r) h Q = (match h.1[m]? with | some (.inl (ci, fs)) => (match lkF 8 27 ci with | some k => (match fs[k]? with | some v => G sp sc [188] d mX8_takeFrom n 68 L (v :: r) h Q | none => False) | none => False) | _ => False)) ∧
  (∀ (n d : Nat) (L : List (Option iV)) (r : List iV) (m : Nat) (h : iH) (Q : Option iV → iH → Prop), G sp sc [188] d mX8_takeFrom (n + 1) 68 L (.inr (.inr (m + 2)) :: r) h Q = (match h.1[m]? with | some (.inr (.inl (t, xs))) => t < 6 ∧ G sp sc [188] d mX8_takeFrom n 69 L (.inl (xs.length : Int) :: r) h Q | some (.inr (.inr (t, rs))) => t < 6 ∧ G sp sc [188] d mX8_takeFrom n 69 L (.inl (rs.length : Int) :: r) h Q | _ => False)) ∧
  (∀ (n d : Nat) (L : List (Option iV)) (st : List iV) (h : iH) (Q : Option iV → iH → Prop), G sp sc [188] d mX8_takeFrom (n + 1) 72 L st h Q = (match ld L 1 with | some (.inr (.inr (r + 1))) => G sp sc [188] d mX8_takeFrom n 73 L (.inr (.inr (r + 1)) :: st) h Q | _ => False)) ∧
  (∀ (n d : Nat) (L : List (Option iV)) (r : List iV) (m : Nat) (h : iH) (Q : Option iV → iH → Prop), G sp sc [188] d mX8_takeFrom (n + 1) 73 L (.inr (.inr (m + 2)) :: r) h Q = (match h.1[m]? with | some (.inl (ci, fs)) => (match lkF 8 30 ci with | some k => (match fs[k]? with | some v => G sp sc [188] d mX8_takeFrom n 76 L (v :: r) h Q | none => False) | none => False) | _ => False)) ∧
  (∀ (n d : Nat) (L : List (Option iV)) (st : List iV) (h : iH) (Q : Option iV → iH → Prop), G sp sc [188] d mX8_takeFrom (n + 1) 76 L st h Q = G sp sc [188] d mX8_takeFrom n 77 L (.inl 0 :: st) h Q) ∧
  (∀ (n d : Nat) (L : List (Option iV)) (st : List iV) (h : iH) (Q : Option iV → iH → Prop), G sp sc [188] d mX8_takeFrom (n + 1) 77 L st h Q = (match ld L 0 with | some (.inr (.inr (r + 1))) => G sp sc [188] d mX8_takeFrom n 78 L (.inr (.inr (r + 1)) :: st) h Q | _ => False)) ∧
  (∀ (n d : Nat) (L : List (Option iV)) (r : List iV) (m : Nat) (h : iH) (Q : Option iV → iH → Prop), G sp sc [188] d mX8_takeFrom (n + 1) 78 L (.inr (.inr (m + 2)) :: r) h Q = (match h.1[m]? with | some (.inl (ci, fs)) => (match lkF 8 30 ci with | some k => (match fs[k]? with | some v => G sp sc [188] d mX8_takeFrom n 81 L (v :: r) h Q | none => False) | none => False) | _ => False)) ∧
  (∀ (n d : Nat) (L : List (Option iV)) (st : List iV) (h : iH) (Q : Option iV → iH → Prop), G sp sc [188] d mX8_takeFrom (n + 1) 81 L st h Q = G sp sc [188] d mX8_takeFrom n 82 L (.inl 0 :: st) h Q) ∧
  (∀ (n d : Nat) (L : List (Option iV)) (st : List iV) (h : iH) (Q : Option iV → iH → Prop), G sp sc [188] d mX8_takeFrom (n + 1) 82 L st h Q = (match ld L 0 with | some (.inr (.inr (r + 1))) => G sp sc [188] d mX8_takeFrom n 83 L (.inr (.inr (r + 1)) :: st) h Q | _ => False)) ∧
  (∀ (n d : Nat) (L : List (Option iV)) (r : List iV) (m : Nat) (h : iH) (Q : Option iV → iH → Prop), G sp sc [188] d mX8_takeFrom (n + 1) 83 L (.inr (.inr (m + 2)) :: r) h Q = (match h.1[m]? with | some (.inl (ci, fs)) => (match lkF 8 30 ci with | some k => (match fs[k]? with | some v => G sp sc [188] d mX8_takeFrom n 86 L (v :: r) h Q | none => False) | none => False) | _ => False)) ∧
  (∀ (n d : Nat) (L : List (Option iV)) (r : List iV) (m : Nat) (h : iH) (Q : Option iV → iH → Prop), G sp sc [188] d mX8_takeFrom (n + 1) 86 L (.inr (.inr (m + 2)) :: r) h Q = (match h.1[m]? with | some (.inr (.inl (t, xs))) => t < 6 ∧ G sp sc [188] d mX8_takeFrom n 87 L (.inl (xs.length : Int) :: r) h Q | some (.inr (.inr (t, rs))) => t < 6 ∧ G sp sc [188] d mX8_takeFrom n 87 L (.inl (rs.length : Int) :: r) h Q | _ => False)) ∧
  (∀ (n d : Nat) (L : List (Option iV)) (st : List iV) (h : iH) (Q : Option iV → iH → Prop), G sp sc [188] d mX8_takeFrom (n + 1) 90 L st h Q = (match ld L 1 with | some (.inr (.inr (r + 1))) => G sp sc [188] d mX8_takeFrom n 91 L (.inr (.inr (r + 1)) :: st) h Q | _ => False)) ∧
  (∀ (n d : Nat) (L : List (Option iV)) (r : List iV) (m : Nat) (h : iH) (Q : Option iV → iH → Prop), G sp sc [188] d mX8_takeFrom (n + 1) 91 L (.inr (.inr (m + 2)) :: r) h Q = (match h.1[m]? with | some (.inl (ci, fs)) => (match lkF 8 33 ci with | some k => (match fs[k]? with | some v => G sp sc [188] d mX8_takeFrom n 94 L (v :: r) h Q | none => False) | none => False) | _ => False)) ∧
  (∀ (n d : Nat) (L : List (Option iV)) (st : List iV) (h : iH) (Q : Option iV → iH → Prop), G sp sc [188] d mX8_takeFrom (n + 1) 94 L st h Q = G sp sc [188] d mX8_takeFrom n 95 L (.inl 0 :: st) h Q) ∧
  (∀ (n d : Nat) (L : List (Option iV)) (st : List iV) (h : iH) (Q : Option iV → iH → Prop), G sp sc [188] d mX8_takeFrom (n + 1) 95 L st h Q = (match ld L 0 with | some (.inr (.inr (r + 1))) => G sp sc [188] d mX8_takeFrom n 96 L (.inr (.inr (r + 1)) :: st) h Q | _ => False)) ∧
  (∀ (n d : Nat) (L : List (Option iV)) (r : List iV) (m : Nat) (h : iH) (Q : Option iV → iH → Prop), G sp sc [188] d mX8_takeFrom (n + 1) 96 L (.inr (.inr (m + 2)) :: r) h Q = (match h.1[m]? with | some (.inl (ci, fs)) => (match lkF 8 33 ci with | some k => (match fs[k]? with | some v => G sp sc [188] d mX8_takeFrom n 99 L (v :: r) h Q | none => False) | none => False) | _ => False)) ∧
  (∀ (n d : Nat) (L : List (Option iV)) (st : List iV) (h : iH) (Q : Option iV → iH → Prop), G sp sc [188] d mX8_takeFrom (n + 1) 99 L st h Q = G sp sc [188] d mX8_takeFrom n 100 L (.inl 0 :: st) h Q) ∧
  (∀ (n d : Nat) (L : List (Option iV)) (st : List iV) (h : iH) (Q : Option iV → iH → Prop), G sp sc [188] d mX8_takeFrom (n + 1) 100 L st h Q = (match ld L 0 with | some (.inr (.inr (r + 1))) => G sp sc [188] d mX8_takeFrom n 101 L (.inr (.inr (r + 1)) :: st) h Q | _ => False)) ∧
  (∀ (n d : Nat) (L : List (Option iV)) (r : List iV) (m : Nat) (h : iH) (Q : Option iV → iH → Prop), G sp sc [188] d mX8_takeFrom (n + 1) 101 L (.inr (.inr (m + 2)) :: r) h Q = (match h.1[m]? with | some (.inl (ci, fs)) => (match lkF 8 33 ci with | some k => (match fs[k]? with | some v => G sp sc [188] d mX8_takeFrom n 104 L (v :: r) h Q | none => False) | none => False) | _ => False)) ∧
  (∀ (n d : Nat) (L : List (Option iV)) (r : List iV) (m : Nat) (h : iH) (Q : Option iV → iH → Prop), G sp sc [188] d mX8_takeFrom (n + 1) 104 L (.inr (.inr (m + 2)) :: r) h Q = (match h.1[m]? with | some (.inr (.inl (t, xs))) => t < 6 ∧ G sp sc [188] d mX8_takeFrom n 105 L (.inl (xs.length : Int) :: r) h Q | some (.inr (.inr (t, rs))) => t < 6 ∧ G sp sc [188] d mX8_takeFrom n 105 L (.inl (rs.length : Int) :: r) h Q | _ => False)) ∧
  (∀ (n d : Nat) (L : List (Option iV)) (st : List iV) (h : iH) (Q : Option iV → iH → Prop), G sp sc [188] d mX8_takeFrom (n + 1) 108 L st h Q = (match ld L 1 with | some (.inr (.inr (r + 1))) => G sp sc [188] d mX8_takeFrom n 109 L (.inr (.inr (r + 1)) :: st) h Q | _ => False)) ∧
  (∀ (n d : Nat) (L : List (Option iV)) (r : List iV) (m : Nat) (h : iH) (Q : Option iV → iH → Prop), G sp sc [188] d mX8_takeFrom (n + 1) 109 L (.inr (.inr (m + 2)) :: r) h Q = (match h.1[m]? with | some (.inl (ci, fs)) => (match lkF 8 36 ci with | some k => (match fs[k]? with | some v => G sp sc [188] d mX8_takeFrom n 112 L (v :: r) h Q | none => False) | none => False) | _ => False)) ∧
  (∀ (n d : Nat) (L : List (Option iV)) (st : List iV) (h : iH) (Q : Option iV → iH → Prop), G sp sc [188] d mX8_takeFrom (n + 1) 112 L st h Q = G sp sc [188] d mX8_takeFrom n 113 L (.inl 0 :: st) h Q) ∧
  (∀ (n d : Nat) (L : List (Option iV)) (st : List iV) (h : iH) (Q : Option iV → iH → Prop), G sp sc [188] d mX8_takeFrom (n + 1) 113 L st h Q = (match ld L 0 with | some (.inr (.inr (r + 1))) => G sp sc [188] d mX8_takeFrom n 114 L (.inr (.inr (r + 1)) :: st) h Q | _ => False)) ∧
  (∀ (n d : Nat) (L : List (Option iV)) (r : List iV) (m : Nat) (h : iH) (Q : Option iV → iH → Prop), G sp sc [188] d mX8_takeFrom (n + 1) 114 L (.inr (.inr (m + 2)) :: r) h Q = (match h.1[m]? with | some (.inl (ci, fs)) => (match lkF 8 36 ci with | some k => (match fs[k]? with | some v => G sp sc [188] d mX8_takeFrom n 117 L (v :: r) h Q | none => False) | none => False) | _ => False)) ∧
  (∀ (n d : Nat) (L : List (Option iV)) (st : List iV) (h : iH) (Q : Option iV → iH → Prop), G sp sc [188] d mX8_takeFrom (n + 1) 117 L st h Q = G sp sc [188] d mX8_takeFrom n 118 L (.inl 0 :: st) h Q) ∧
  (∀ (n d : Nat) (L : List (Option iV)) (st : List iV) (h : iH) (Q : Option iV → iH → Prop), G sp sc [188] d mX8_takeFrom (n + 1) 118 L st h Q = (match ld L 0 with | some (.inr (.inr (r + 1))) => G sp sc [188] d mX8_takeFrom n 119 L (.inr (.inr (r + 1)) :: st) h Q | _ => False)) ∧
  (∀ (n d : Nat) (L : List (Option iV)) (r : List iV) (m : Nat) (h : iH) (Q : Option iV → iH → Prop), G sp sc [188] d mX8_takeFrom (n + 1) 119 L (.inr (.inr (m + 2)) :: r) h Q = (match h.1[m]? with | some (.inl (ci, fs)) => (match lkF 8 36 ci with | some k => (match fs[k]? with | some v => G sp sc [188] d mX8_takeFrom n 122 L (v :: r) h Q | none => False) | none => False) | _ => False)) ∧
  (∀ (n d : Nat) (L : List (Option iV)) (r : List iV) (m : Nat) (h : iH) (Q : Option iV → iH → Prop), G sp sc [188] d mX8_takeFrom (n + 1) 122 L (.inr (.inr (m + 2)) :: r) h Q = (match h.1[m]? with | some (.inr (.inl (t, xs))) => t < 6 ∧ G sp sc [188] d mX8_takeFrom n 123 L (.inl (xs.length : Int) :: r) h Q | some (.inr (.inr (t, rs))) => t < 6 ∧ G sp sc [188] d mX8_takeFrom n 123 L (.inl (rs.length : Int) :: r) h Q | _ => False)) ∧
  (∀ (n d : Nat) (L : List (Option iV)) (st : List iV) (h : iH) (Q : Option iV → iH → Prop), G sp sc [188] d mX8_takeFrom (n + 1) 126 L st h Q = (match ld L 1 with | some (.inr (.inr (r + 1))) => G sp sc [188] d mX8_takeFrom n 127 L (.inr (.inr (r + 1)) :: st) h Q | _ => False)) ∧
  (∀ (n d : Nat) (L : List (Option iV)) (r : List iV) (m : Nat) (h : iH) (Q : Option iV → iH → Prop), G sp sc [188] d mX8_takeFrom (n + 1) 127 L (.inr (.inr (m + 2)) :: r) h Q = (match h.1[m]? with | some (.inl (ci, fs)) => (match lkF 8 39 ci with | some k => (match fs[k]? with | some v => G sp sc [188] d mX8_takeFrom n 130 L (v :: r) h Q | none => False) | none => False) | _ => False)) ∧
  (∀ (n d : Nat) (L : List (Option iV)) (st : List iV) (h : iH) (Q : Option iV → iH → Prop), G sp sc [188] d mX8_takeFrom (n + 1) 130 L st h Q = G sp sc [188] d mX8_takeFrom n 131 L (.inl 0 :: st) h Q) ∧
  (∀ (n d : Nat) (L : List (Option iV)) (st : List iV) (h : iH) (Q : Option iV → iH → Prop), G sp sc [188] d mX8_takeFrom (n + 1) 131 L st h Q = (match ld L 0 with | some (.inr (.inr (r + 1))) => G sp sc [188] d mX8_takeFrom n 132 L (.inr (.inr (r + 1)) :: st) h Q | _ => False)) ∧
  (∀ (n d : Nat) (L : List (Option iV)) (r : List iV) (m : Nat) (h : iH) (Q : Option iV → iH → Prop), G sp sc [188] d mX8_takeFrom (n + 1) 132 L (.inr (.inr (m + 2)) :: r) h Q = (match h.1[m]? with | some (.inl (ci, fs)) => (match lkF 8 39 ci with | some k => (match fs[k]? with | some v => G sp sc [188] d mX8_takeFrom n 135 L (v :: r) h Q | none => False) | none => False) | _ => False)) ∧
  (∀ (n d : Nat) (L : List (Option iV)) (st : List iV) (h : iH) (Q : Option iV → iH → Prop), G sp sc [188] d mX8_takeFrom (n + 1) 135 L st h Q = G sp sc [188] d mX8_takeFrom n 136 L (.inl 0 :: st) h Q) ∧
  (∀ (n d : Nat) (L : List (Option iV)) (st : List iV) (h : iH) (Q : Option iV → iH → Prop), G sp sc [188] d mX8_takeFrom (n + 1) 136 L st h Q = (match ld L 0 with | some (.inr (.inr (r + 1))) => G sp sc [188] d mX8_takeFrom n 137 L (.inr (.inr (r + 1)) :: st) h Q | _ => False)) ∧
  (∀ (n d : Nat) (L : List (Option iV)) (r : List iV) (m : Nat) (h : iH) (Q : Option iV → iH → Prop), G sp sc [188] d mX8_takeFrom (n + 1) 137 L (.inr (.inr (m + 2)) :: r) h Q = (match h.1[m]? with | some (.inl (ci, fs)) => (match lkF 8 39 ci with | some k => (match fs[k]? with | some v => G sp sc [188] d mX8_takeFrom n 140 L (v :: r) h Q | none => False) | none => False) | _ => False)) ∧
  (∀ (n d : Nat) (L : List (Option iV)) (r : List iV) (m : Nat) (h : iH) (Q : Option iV → iH → Prop), G sp sc [188] d mX8_takeFrom (n + 1) 140 L (.inr (.inr (m + 2)) :: r) h Q = (match h.1[m]? with | some (.inr (.inl (t, xs))) => t < 6 ∧ G sp sc [188] d mX8_takeFrom n 141 L (.inl (xs.length : Int) :: r) h Q | some (.inr (.inr (t, rs))) => t < 6 ∧ G sp sc [188] d mX8_takeFrom n 141 L (.inl (rs.length : Int) :: r) h Q | _ => False)) ∧
  (∀ (n d : Nat) (L : List (Option iV)) (st : List iV) (h : iH) (Q : Option iV → iH → Prop), G sp sc [188] d mX8_takeFrom (n + 1) 144 L st h Q = (match ld L 1 with | some (.inr (.inr (r + 1))) => G sp sc [188] d mX8_takeFrom n 145 L (.inr (.inr (r + 1)) :: st) h Q | _ => False)) ∧
  (∀ (n d : Nat) (L : List (Option iV)) (r : List iV) (m : Nat) (h : iH) (Q : Option iV → iH → Prop), G sp sc [188] d mX8_takeFrom (n + 1) 145 L (.inr (.inr (m + 2)) :: r) h Q = (match h.1[m]? with | some (.inl (ci, fs)) => (match lkF 8 42 ci with | some k => (match fs[k]? with | some v => G sp sc [188] d mX8_takeFrom n 148 L (v :: r) h Q | none => False) | none => False) | _ => False)) ∧
  (∀ (n d : Nat) (L : List (Option iV)) (st : List iV) (h : iH) (Q : Option iV → iH → Prop), G sp sc [188] d mX8_takeFrom (n + 1) 148 L st h Q = G sp sc [188] d mX8_takeFrom n 149 L (.inl 0 :: st) h Q) ∧
  (∀ (n d : Nat) (L : List (Option iV)) (st : List iV) (h : iH) (Q : Option iV → iH → Prop), G sp sc [188] d mX8_takeFrom (n + 1) 149 L st h Q = (match ld L 0 with | some (.inr (.inr (r + 1))) => G sp sc [188] d mX8_takeFrom n 150 L (.inr (.inr (r + 1)) :: st) h Q | _ => False)) ∧
  (∀ (n d : Nat) (L : List (Option iV)) (r : List iV) (m : Nat) (h : iH) (Q : Option iV → iH → Prop), G sp sc [188] d mX8_takeFrom (n + 1) 150 L (.inr (.inr (m + 2)) :: r) h Q = (match h.1[m]? with | some (.inl (ci, fs)) => (match lkF 8 42 ci with | some k => (match fs[k]? with | some v => G sp sc [188] d mX8_takeFrom n 153 L (v :: r) h Q | none => False) | none => False) | _ => False)) ∧
  (∀ (n d : Nat) (L : List (Option iV)) (st : List iV) (h : iH) (Q : Option iV → iH → Prop), G sp sc [188] d mX8_takeFrom (n + 1) 153 L st h Q = G sp sc [188] d mX8_takeFrom n 154 L (.inl 0 :: st) h Q) ∧
  (∀ (n d : Nat) (L : List (Option iV)) (st : List iV) (h : iH) (Q : Option iV → iH → Prop), G sp sc [188] d mX8_takeFrom (n + 1) 154 L st h Q = (match ld L 0 with | some (.inr (.inr (r + 1))) => G sp sc [188] d mX8_takeFrom n 155 L (.inr (.inr (r + 1)) :: st) h Q | _ => False)) ∧
  (∀ (n d : Nat) (L : List (Option iV)) (r : List iV) (m : Nat) (h : iH) (Q : Option iV → iH → Prop), G sp sc [188] d mX8_takeFrom (n + 1) 155 L (.inr (.inr (m + 2)) :: r) h Q = (match h.1[m]? with | some (.inl (ci, fs)) => (match lkF 8 42 ci with | some k => (match fs[k]? with | some v => G sp sc [188] d mX8_takeFrom n 158 L (v :: r) h Q | none => False) | none => False) | _ => False)) ∧
  (∀ (n d : Nat) (L : List (Option iV)) (r : List iV) (m : Nat) (h : iH) (Q : Option iV → iH → Prop), G sp sc [188] d mX8_takeFrom (n + 1) 158 L (.inr (.inr (m + 2)) :: r) h Q = (match h.1[m]? with | some (.inr (.inl (t, xs))) => t < 6 ∧ G sp sc [188] d mX8_takeFrom n 159 L (.inl (xs.length : Int) :: r) h Q | some (.inr (.inr (t, rs))) => t < 6 ∧ G sp sc [188] d mX8_takeFrom n 159 L (.inl (rs.length : Int) :: r) h Q | _ => False)) ∧
  (∀ (n d : Nat) (L : List (Option iV)) (st : List iV) (h : iH) (Q : Option iV → iH → Prop), G sp sc [188] d mX8_takeFrom (n + 1) 162 L st h Q = (match ld L 0 with | some (.inr (.inr (r + 1))) => G sp sc [188] d mX8_takeFrom n 163 L (.inr (.inr (r + 1)) :: st) h Q | _ => False)) ∧
  (∀ (n d : Nat) (L : List (Option iV)) (st : List iV) (h : iH) (Q : Option iV → iH → Prop), G sp sc [188] d mX8_takeFrom (n + 1) 163 L st h Q = (match ld L 1 with | some (.inr (.inr (r + 1))) => G sp sc [188] d mX8_takeFrom n 164 L (.inr (.inr (r + 1)) :: st) h Q | _ => False)) ∧
  (∀ (n d : Nat) (L : List (Option iV)) (r : List iV) (m : Nat) (h : iH) (Q : Option iV → iH → Prop), G sp sc [188] d mX8_takeFrom (n + 1) 164 L (.inr (.inr (m + 2)) :: r) h Q = (match h.1[m]? with | some (.inl (ci, fs)) => (match lkF 8 57 ci with | some k => (match fs[k]? with | some v => G sp sc [188] d mX8_takeFrom n 167 L (v :: r) h Q | none => False) | none => False) | _ => False)) ∧
  (∀ (n d : Nat) (L : List (Option iV)) (r : List iV) (v : iV) (m : Nat) (h : iH) (Q : Option iV → iH → Prop), G sp sc [188] d mX8_takeFrom (n + 1) 167 L (v :: .inr (.inr (m + 2)) :: r) h Q = (match h.1[m]? with | some (.inl (ci, fs)) => (match lkF 8 57 ci with | some k => (fitV (tyT ci k) v = true ∧ k < fs.length ∧ pOK 8 false ci k = true) ∧ G sp sc [188] d mX8_takeFrom n 170 L r (h.1.set m (.inl (ci, fs.set k v)), h.2) Q | none => False) | _ => False)) ∧
  (∀ (n d : Nat) (L : List (Option iV)) (st : List iV) (h : iH) (Q : Option iV → iH → Prop), G sp sc [188] d mX8_takeFrom (n + 1) 170 L st h Q = (match ld L 0 with | some (.inr (.inr (r + 1))) => G sp sc [188] d mX8_takeFrom n 171 L (.inr (.inr (r + 1)) :: st) h Q | _ => False)) ∧
  (∀ (n d : Nat) (L : List (Option iV)) (st : List iV) (h : iH) (Q : Option iV → iH → Prop), G sp sc [188] d mX8_takeFrom (n + 1) 171 L st h Q = (match ld L 1 with | some (.inr (.inr (r + 1))) => G sp sc [188] d mX8_takeFrom n 172 L (.inr (.inr (r + 1)) :: st) h Q | _ => False)) ∧
  (∀ (n d : Nat) (L : List (Option iV)) (r : List iV) (m : Nat) (h : iH) (Q : Option iV → iH → Prop), G sp sc [188] d mX8_takeFrom (n + 1) 172 L (.inr (.inr (m + 2)) :: r) h Q = (match h.1[m]? with | some (.inl (ci, fs)) => (match lkF 8 45 ci with | some k => (match fs[k]? with | some v => G sp sc [188] d mX8_takeFrom n 175 L (v :: r) h Q | none => False) | none => False) | _ => False)) ∧
  (∀ (n d : Nat) (L : List (Option iV)) (r : List iV) (v : iV) (m : Nat) (h : iH) (Q : Option iV → iH → Prop), G sp sc [188] d mX8_takeFrom (n + 1) 175 L (v :: .inr (.inr (m + 2)) :: r) h Q = (match h.1[m]? with | some (.inl (ci, fs)) => (match lkF 8 45 ci with | some k => (fitV (tyT ci k) v = true ∧ k < fs.length ∧ pOK 8 false ci k = true) ∧ G sp sc [188] d mX8_takeFrom n 178 L r (h.1.set m (.inl (ci, fs.set k v)), h.2) Q | none => False) | _ => False)) ∧
  (∀ (n d : Nat) (L : List (Option iV)) (st : List iV) (h : iH) (Q : Option iV → iH → Prop), G sp sc [188] d mX8_takeFrom (n + 1) 178 L st h Q = (match ld L 0 with | some (.inr (.inr (r + 1))) => G sp sc [188] d mX8_takeFrom n 179 L (.inr (.inr (r + 1)) :: st) h Q | _ => False)) ∧
  (∀ (n d : Nat) (L : List (Option iV)) (st : List iV) (h : iH) (Q : Option iV → iH → Prop), G sp sc [188] d mX8_takeFrom (n + 1) 179 L st h Q = (match ld L 1 with | some (.inr (.inr (r + 1))) => G sp sc [188] d mX8_takeFrom n 180 L (.inr (.inr (r + 1)) :: st) h Q | _ => False)) ∧
  (∀ (n d : Nat) (L : List (Option iV)) (r : List iV) (m : Nat) (h : iH) (Q : Option iV → iH → Prop), G sp sc [188] d mX8_takeFrom (n + 1) 180 L (.inr (.inr (m + 2)) :: r) h Q = (match h.1[m]? with | some (.inl (ci, fs)) => (match lkF 8 98 ci with | some k => (match fs[k]? with | some v => G sp sc [188] d mX8_takeFrom n 183 L (v :: r) h Q | none => False) | none => False) | _ => False)) ∧
  (∀ (n d : Nat) (L : List (Option iV)) (r : List iV) (v : iV) (m : Nat) (h : iH) (Q : Option iV → iH → Prop), G sp sc [188] d mX8_takeFrom (n + 1) 183 L (v :: .inr (.inr (m + 2)) :: r) h Q = (match h.1[m]? with | some (.inl (ci, fs)) => (match lkF 8 98 ci with | some k => (fitV (tyT ci k) v = true ∧ k < fs.length ∧ pOK 8 false ci k = true) ∧ G sp sc [188] d mX8_takeFrom n 186 L r (h.1.set m (.inl (ci, fs.set k v)), h.2) Q | none => False) | _ => False)) ∧
  (∀ (n d : Nat) (L : List (Option iV)) (st : List iV) (h : iH) (Q : Option iV → iH → Prop), G sp sc [188] d mX8_takeFrom (n + 1) 186 L st h Q = G sp sc [188] d mX8_takeFrom n 187 L (.inl 0 :: st) h Q) ∧
  (∀ (n d : Nat) (L : List (Option iV)) (r : List iV) (x : Int) (h : iH) (Q : Option iV → iH → Prop), G sp sc [188] d mX8_takeFrom (n + 1) 187 L (.inl x :: r) h Q = (match st1 L 2 (.inl x) with | some L' => Run sp sc d mX8_takeFrom 188 L' r h Q | none => False)) ∧
  (∀ (n d : Nat) (L : List (Option iV)) (st : List iV) (h : iH) (Q : Option iV → iH → Prop), G sp sc [188] d mX8_takeFrom (n + 1) 188 L st h Q = (match ld L 2 with | some (.inl x) => G sp sc [188] d mX8_takeFrom n 189 L (.inl x :: st) h Q | _ => False)) ∧
  (∀ (n d : Nat) (L : List (Option iV)) (st : List iV) (h : iH) (Q : Option iV → iH → Prop), G sp sc [188] d mX8_takeFrom (n + 1) 189 L st h Q = (match ld L 0 with | some (.inr (.inr (r + 1))) => G sp sc [188] d mX8_takeFrom n 190 L (.inr (.inr (r + 1)) :: st) h Q | _ => False)) ∧
  (∀ (n d : Nat) (L : List (Option iV)) (r : List iV) (m : Nat) (h : iH) (Q : Option iV → iH → Prop), G sp sc [188] d mX8_takeFrom (n + 1) 190 L (.inr (.inr (m + 2)) :: r) h Q = (match h.1[m]? with | some (.inl (ci, fs)) => (match lkF 8 17 ci with | some k => (match fs[k]? with | some v => G sp sc [188] d mX8_takeFrom n 193 L (v :: r) h Q | none => False) | none => False) | _ => False)) ∧
  (∀ (n d : Nat) (L : List (Option iV)) (r : List iV) (m : Nat) (h : iH) (Q : Option iV → iH → Prop), G sp sc [188] d mX8_takeFrom (n + 1) 193 L (.inr (.inr (m + 2)) :: r) h Q = (match h.1[m]? with | some (.inr (.inl (t, xs))) => t < 6 ∧ G sp sc [188] d mX8_takeFrom n 194 L (.inl (xs.length : Int) :: r) h Q | some (.inr (.inr (t, rs))) => t < 6 ∧ G sp sc [188] d mX8_takeFrom n 194 L (.inl (rs.length : Int) :: r) h Q | _ => False)) ∧
  (∀ (n d : Nat) (L : List (Option iV)) (a : Int) (b : Int) (r : List iV) (h : iH) (Q : Option iV → iH → Prop), G sp sc [188] d mX8_takeFrom (n + 1) 194 L (.inl b :: .inl a :: r) h Q = ((inI a = true ∧ inI b = true) ∧ (b ≤ a → G sp sc [188] d mX8_takeFrom n 215 L r h Q) ∧ (¬ (b ≤ a) → G sp sc [188] d mX8_takeFrom n 197 L r h Q))) ∧
  (∀ (n d : Nat) (L : List (Option iV)) (st : List iV) (h : iH) (Q : Option iV → iH → Prop), G sp sc [188] d mX8_takeFrom (n + 1) 197 L st h Q = (match ld L 0 with | some (.inr (.inr (r + 1))) => G sp sc [188] d mX8_takeFrom n 198 L (.inr (.inr (r + 1)) :: st) h Q | _ => False)) ∧
  (∀ (n d : Nat) (L : List (Option iV)) (r : List iV) (m : Nat) (h : iH) (Q : Option iV → iH → Prop), G sp sc [188] d mX8_takeFrom (n + 1) 198 L (.inr (.inr (m + 2)) :: r) h Q = (match h.1[m]? with | some (.inl (ci, fs)) => (match lkF 8 17 ci with | some k => (match fs[k]? with | some v => G sp sc [188] d mX8_takeFrom n 201 L (v :: r) h Q | none => False) | none => False) | _ => False)) ∧
  (∀ (n d : Nat) (L : List (Option iV)) (st : List iV) (h : iH) (Q : Option iV → iH → Prop), G sp sc [188] d mX8_takeFrom (n + 1) 201 L st h Q = (match ld L 2 with | some (.inl x) => G sp sc [188] d mX8_takeFrom n 202 L (.inl x :: st) h Q | _ => False)) ∧
  (∀ (n d : Nat) (L : List (Option iV)) (st : List iV) (h : iH) (Q : Option iV → iH → Prop), G sp sc [188] d mX8_takeFrom (n + 1) 202 L st h Q = (match ld L 1 with | some (.inr (.inr (r + 1))) => G sp sc [188] d mX8_takeFrom n 203 L (.inr (.inr (r + 1)) :: st) h Q | _ => False)) ∧
  (∀ (n d : Nat) (L : List (Option iV)) (r : List iV) (m : Nat) (h : iH) (Q : Option iV → iH → Prop), G sp sc [188] d mX8_takeFrom (n + 1) 203 L (.inr (.inr (m + 2)) :: r) h Q = (match h.1[m]? with | some (.inl (ci, fs)) => (match lkF 8 17 ci with | some k => (match fs[k]? with | some v => G sp sc [188] d mX8_takeFrom n 206 L (v :: r) h Q | none => False) | none => False) | _ => False)) ∧
  (∀ (n d : Nat) (L : List (Option iV)) (st : List iV) (h : iH) (Q : Option iV → iH → Prop), G sp sc [188] d mX8_takeFrom (n + 1) 206 L st h Q = (match ld L 2 with | some (.inl x) => G sp sc [188] d mX8_takeFrom n 207 L (.inl x :: st) h Q | _ => False)) ∧
  (∀ (n d : Nat) (L : List (Option iV)) (r : List iV) (j : Int) (m : Nat) (h : iH) (Q : Option iV → iH → Prop), G sp sc [188] d mX8_takeFrom (n + 1) 207 L (.inl j :: .inr (.inr (m + 2)) :: r) h Q = (match h.1[m]? with | some (.inr (.inr (t, rs))) => (inA j rs.length = true ∧ 3 ≤ t ∧ t < 6) ∧ G sp sc [188] d mX8_takeFrom n 208 L (.inr (.inr (rs.getD j.toNat 0)) :: r) h Q | _ => False)) ∧
  (∀ (n d : Nat) (L : List (Option iV)) (r : List iV) (v : Nat) (j : Int) (m : Nat) (h : iH) (Q : Option iV → iH → Prop), G sp sc [188] d mX8_takeFrom (n + 1) 208 L (.inr (.inr (v + 2)) :: .inl j :: .inr (.inr (m + 2)) :: r) h Q = (match h.1[m]? with | some (.inr (.inr (t, rs))) => (match h.1[v]? with | some (.inl (ci, _)) => (inA j rs.length = true ∧ asT t ci = true) ∧ G sp sc [188] d mX8_takeFrom n 209 L r (h.1.set m (.inr (.inr (t, rs.set j.toNat (v + 2)))), h.2) Q | _ => False) | _ => False)) ∧
  (∀ (n d : Nat) (L : List (Option iV)) (st : List iV) (h : iH) (Q : Option iV → iH → Prop), G sp sc [188] d mX8_takeFrom (n + 1) 209 L st h Q = (match ld L 2 with | some (.inl x) => (match st1 L 2 (.inl (x + 1)) with | some L' => G sp sc [188] d mX8_takeFrom n 212 L' st h Q | none => False) | _ => False)) ∧
  (∀ (n d : Nat) (L : List (Option iV)) (st : List iV) (h : iH) (Q : Option iV → iH → Prop), G sp sc [188] d mX8_takeFrom (n + 1) 212 L st h Q = Run sp sc d mX8_takeFrom 188 L st h Q) ∧
  (∀ (n d : Nat) (L : List (Option iV))  (h : iH) (Q : Option iV → iH → Prop), G sp sc [188] d mX8_takeFrom (n + 1) 215 L [] h Q = Q none h) ∧
  lkF 8 17 8 = some 1 ∧
  lkF 8 21 8 = some 2 ∧
  lkF 8 24 8 = some 3 ∧
  lkF 8 27 8 = some 4 ∧
  lkF 8 30 8 = some 6 ∧
  lkF 8 33 8 = some 7 ∧
  lkF 8 36 8 = some 8 ∧
  lkF 8 39 8 = some 9 ∧
  lkF 8 42 8 = some 10 ∧
  lkF 8 45 8 = some 11 ∧
  lkF 8 57 8 = some 5 ∧
  lkF 8 9 8 = some 0 ∧
  lkF 8 98 8 = some 12 ∧
  pOK 8 false 8 11 = true ∧
  pOK 8 false 8 12 = true ∧
  pOK 8 false 8 5 = true := ⟨by intros; exact G_at (by decide +kernel : fetch mX8_takeFrom 0 = some (.aload_n 1)),
  by intros; exact G_own (by decide +kernel : fetch mX8_takeFrom 1 = some (.getfield 9)) (by decide +kernel),
  by intros; exact G_at (by decide +kernel : fetch mX8_takeFrom 4 = some (.iconst 0)),
  by intros; exact G_at (by decide +kernel : fetch mX8_takeFrom 5 = some (.aload_n 0)),
  by intros; exact G_own (by decide +kernel : fetch mX8_takeFrom 6 = some (.getfield 9)) (by decide +kernel),
  by intros; exact G_at (by decide +kernel : fetch mX8_takeFrom 9 = some (.iconst 0)),
  by intros; exact G_at (by decide +kernel : fetch mX8_takeFrom 10 = some (.aload_n 0)),
  by intros; exact G_own (by decide +kernel : fetch mX8_takeFrom 11 = some (.getfield 9)) (by decide +kernel),
  by intros; exact G_at (by decide +kernel : fetch mX8_takeFrom 14 = some (.arraylength)),
  by intros; exact G_at (by decide +kernel : fetch mX8_takeFrom 18 = some (.aload_n 1)),
  by intros; exact G_own (by decide +kernel : fetch mX8_takeFrom 19 = some (.getfield 21)) (by decide +kernel),
  by intros; exact G_at (by decide +kernel : fetch mX8_takeFrom 22 = some (.iconst 0)),
  by intros; exact G_at (by decide +kernel : fetch mX8_takeFrom 23 = some (.aload_n 0)),
  by intros; exact G_own (by decide +kernel : fetch mX8_takeFrom 24 = some (.getfield 21)) (by decide +kernel),
  by intros; exact G_at (by decide +kernel : fetch mX8_takeFrom 27 = some (.iconst 0)),
  by intros; exact G_at (by decide +kernel : fetch mX8_takeFrom 28 = some (.aload_n 0)),
  by intros; exact G_own (by decide +kernel : fetch mX8_takeFrom 29 = some (.getfield 21)) (by decide +kernel),
  by intros; exact G_at (by decide +kernel : fetch mX8_takeFrom 32 = some (.arraylength)),
  by intros; exact G_at (by decide +kernel : fetch mX8_takeFrom 36 = some (.aload_n 1)),
  by intros; exact G_own (by decide +kernel : fetch mX8_takeFrom 37 = some (.getfield 24)) (by decide +kernel),
  by intros; exact G_at (by decide +kernel : fetch mX8_takeFrom 40 = some (.iconst 0)),
  by intros; exact G_at (by decide +kernel : fetch mX8_takeFrom 41 = some (.aload_n 0)),
  by intros; exact G_own (by decide +kernel : fetch mX8_takeFrom 42 = some (.getfield 24)) (by decide +kernel),
  by intros; exact G_at (by decide +kernel : fetch mX8_takeFrom 45 = some (.iconst 0)),
  by intros; exact G_at (by decide +kernel : fetch mX8_takeFrom 46 = some (.aload_n 0)),
  by intros; exact G_own (by decide +kernel : fetch mX8_takeFrom 47 = some (.getfield 24)) (by decide +kernel),
  by intros; exact G_at (by decide +kernel : fetch mX8_takeFrom 50 = some (.arraylength)),
  by intros; exact G_at (by decide +kernel : fetch mX8_takeFrom 54 = some (.aload_n 1)),
  by intros; exact G_own (by decide +kernel : fetch mX8_takeFrom 55 = some (.getfield 27)) (by decide +kernel),
  by intros; exact G_at (by decide +kernel : fetch mX8_takeFrom 58 = some (.iconst 0)),
  by intros; exact G_at (by decide +kernel : fetch mX8_takeFrom 59 = some (.aload_n 0)),
  by intros; exact G_own (by decide +kernel : fetch mX8_takeFrom 60 = some (.getfield 27)) (by decide +kernel),
  by intros; exact G_at (by decide +kernel : fetch mX8_takeFrom 63 = some (.iconst 0)),
  by intros; exact G_at (by decide +kernel : fetch mX8_takeFrom 64 = some (.aload_n 0)),
  by intros; exact G_own (by decide +kernel : fetch mX8_takeFrom 65 = some (.getfield 27)) (by decide +kernel),
  by intros; exact G_at (by decide +kernel : fetch mX8_takeFrom 68 = some (.arraylength)),
  by intros; exact G_at (by decide +kernel : fetch mX8_takeFrom 72 = some (.aload_n 1)),
  by intros; exact G_own (by decide +kernel : fetch mX8_takeFrom 73 = some (.getfield 30)) (by decide +kernel),
  by intros; exact G_at (by decide +kernel : fetch mX8_takeFrom 76 = some (.iconst 0)),
  by intros; exact G_at (by decide +kernel : fetch mX8_takeFrom 77 = some (.aload_n 0)),
  by intros; exact G_own (by decide +kernel : fetch mX8_takeFrom 78 = some (.getfield 30)) (by decide +kernel),
  by intros; exact G_at (by decide +kernel : fetch mX8_takeFrom 81 = some (.iconst 0)),
  by intros; exact G_at (by decide +kernel : fetch mX8_takeFrom 82 = some (.aload_n 0)),
  by intros; exact G_own (by decide +kernel : fetch mX8_takeFrom 83 = some (.getfield 30)) (by decide +kernel),
  by intros; exact G_at (by decide +kernel : fetch mX8_takeFrom 86 = some (.arraylength)),
  by intros; exact G_at (by decide +kernel : fetch mX8_takeFrom 90 = some (.aload_n 1)),
  by intros; exact G_own (by decide +kernel : fetch mX8_takeFrom 91 = some (.getfield 33)) (by decide +kernel),
  by intros; exact G_at (by decide +kernel : fetch mX8_takeFrom 94 = some (.iconst 0)),
  by intros; exact G_at (by decide +kernel : fetch mX8_takeFrom 95 = some (.aload_n 0)),
  by intros; exact G_own (by decide +kernel : fetch mX8_takeFrom 96 = some (.getfield 33)) (by decide +kernel),
  by intros; exact G_at (by decide +kernel : fetch mX8_takeFrom 99 = some (.iconst 0)),
  by intros; exact G_at (by decide +kernel : fetch mX8_takeFrom 100 = some (.aload_n 0)),
  by intros; exact G_own (by decide +kernel : fetch mX8_takeFrom 101 = some (.getfield 33)) (by decide +kernel),
  by intros; exact G_at (by decide +kernel : fetch mX8_takeFrom 104 = some (.arraylength)),
  by intros; exact G_at (by decide +kernel : fetch mX8_takeFrom 108 = some (.aload_n 1)),
  by intros; exact G_own (by decide +kernel : fetch mX8_takeFrom 109 = some (.getfield 36)) (by decide +kernel),
  by intros; exact G_at (by decide +kernel : fetch mX8_takeFrom 112 = some (.iconst 0)),
  by intros; exact G_at (by decide +kernel : fetch mX8_takeFrom 113 = some (.aload_n 0)),
  by intros; exact G_own (by decide +kernel : fetch mX8_takeFrom 114 = some (.getfield 36)) (by decide +kernel),
  by intros; exact G_at (by decide +kernel : fetch mX8_takeFrom 117 = some (.iconst 0)),
  by intros; exact G_at (by decide +kernel : fetch mX8_takeFrom 118 = some (.aload_n 0)),
  by intros; exact G_own (by decide +kernel : fetch mX8_takeFrom 119 = some (.getfield 36)) (by decide +kernel),
  by intros; exact G_at (by decide +kernel : fetch mX8_takeFrom 122 = some (.arraylength)),
  by intros; exact G_at (by decide +kernel : fetch mX8_takeFrom 126 = some (.aload_n 1)),
  by intros; exact G_own (by decide +kernel : fetch mX8_takeFrom 127 = some (.getfield 39)) (by decide +kernel),
  by intros; exact G_at (by decide +kernel : fetch mX8_takeFrom 130 = some (.iconst 0)),
  by intros; exact G_at (by decide +kernel : fetch mX8_takeFrom 131 = some (.aload_n 0)),
  by intros; exact G_own (by decide +kernel : fetch mX8_takeFrom 132 = some (.getfield 39)) (by decide +kernel),
  by intros; exact G_at (by decide +kernel : fetch mX8_takeFrom 135 = some (.iconst 0)),
  by intros; exact G_at (by decide +kernel : fetch mX8_takeFrom 136 = some (.aload_n 0)),
  by intros; exact G_own (by decide +kernel : fetch mX8_takeFrom 137 = some (.getfield 39)) (by decide +kernel),
  by intros; exact G_at (by decide +kernel : fetch mX8_takeFrom 140 = some (.arraylength)),
  by intros; exact G_at (by decide +kernel : fetch mX8_takeFrom 144 = some (.aload_n 1)),
  by intros; exact G_own (by decide +kernel : fetch mX8_takeFrom 145 = some (.getfield 42)) (by decide +kernel),
  by intros; exact G_at (by decide +kernel : fetch mX8_takeFrom 148 = some (.iconst 0)),
  by intros; exact G_at (by decide +kernel : fetch mX8_takeFrom 149 = some (.aload_n 0)),
  by intros; exact G_own (by decide +kernel : fetch mX8_takeFrom 150 = some (.getfield 42)) (by decide +kernel),
  by intros; exact G_at (by decide +kernel : fetch mX8_takeFrom 153 = some (.iconst 0)),
  by intros; exact G_at (by decide +kernel : fetch mX8_takeFrom 154 = some (.aload_n 0)),
  by intros; exact G_own (by decide +kernel : fetch mX8_takeFrom 155 = some (.getfield 42)) (by decide +kernel),
  by intros; exact G_at (by decide +kernel : fetch mX8_takeFrom 158 = some (.arraylength)),
  by intros; exact G_at (by decide +kernel : fetch mX8_takeFrom 162 = some (.aload_n 0)),
  by intros; exact G_at (by decide +kernel : fetch mX8_takeFrom 163 = some (.aload_n 1)),
  by intros; exact G_own (by decide +kernel : fetch mX8_takeFrom 164 = some (.getfield 57)) (by decide +kernel),
  by intros; exact G_ownW (by decide +kernel : fetch mX8_takeFrom 167 = some (.putfield 57)) (by decide +kernel) (by decide +kernel),
  by intros; exact G_at (by decide +kernel : fetch mX8_takeFrom 170 = some (.aload_n 0)),
  by intros; exact G_at (by decide +kernel : fetch mX8_takeFrom 171 = some (.aload_n 1)),
  by intros; exact G_own (by decide +kernel : fetch mX8_takeFrom 172 = some (.getfield 45)) (by decide +kernel),
  by intros; exact G_ownW (by decide +kernel : fetch mX8_takeFrom 175 = some (.putfield 45)) (by decide +kernel) (by decide +kernel),
  by intros; exact G_at (by decide +kernel : fetch mX8_takeFrom 178 = some (.aload_n 0)),
  by intros; exact G_at (by decide +kernel : fetch mX8_takeFrom 179 = some (.aload_n 1)),
  by intros; exact G_own (by decide +kernel : fetch mX8_takeFrom 180 = some (.getfield 98)) (by decide +kernel),
  by intros; exact G_ownW (by decide +kernel : fetch mX8_takeFrom 183 = some (.putfield 98)) (by decide +kernel) (by decide +kernel),
  by intros; exact G_at (by decide +kernel : fetch mX8_takeFrom 186 = some (.iconst 0)),
  by intros; exact G_at (by decide +kernel : fetch mX8_takeFrom 187 = some (.istore_n 2)),
  by intros; exact G_at (by decide +kernel : fetch mX8_takeFrom 188 = some (.iload_n 2)),
  by intros; exact G_at (by decide +kernel : fetch mX8_takeFrom 189 = some (.aload_n 0)),
  by intros; exact G_own (by decide +kernel : fetch mX8_takeFrom 190 = some (.getfield 17)) (by decide +kernel),
  by intros; exact G_at (by decide +kernel : fetch mX8_takeFrom 193 = some (.arraylength)),
  by intros; exact G_at (by decide +kernel : fetch mX8_takeFrom 194 = some (.if_icmp .ge 21)),
  by intros; exact G_at (by decide +kernel : fetch mX8_takeFrom 197 = some (.aload_n 0)),
  by intros; exact G_own (by decide +kernel : fetch mX8_takeFrom 198 = some (.getfield 17)) (by decide +kernel),
  by intros; exact G_at (by decide +kernel : fetch mX8_takeFrom 201 = some (.iload_n 2)),
  by intros; exact G_at (by decide +kernel : fetch mX8_takeFrom 202 = some (.aload_n 1)),
  by intros; exact G_own (by decide +kernel : fetch mX8_takeFrom 203 = some (.getfield 17)) (by decide +kernel),
  by intros; exact G_at (by decide +kernel : fetch mX8_takeFrom 206 = some (.iload_n 2)),
  by intros; exact G_at (by decide +kernel : fetch mX8_takeFrom 207 = some (.aaload)),
  by intros; exact G_at (by decide +kernel : fetch mX8_takeFrom 208 = some (.aastore)),
  by intros; exact G_at (by decide +kernel : fetch mX8_takeFrom 209 = some (.iinc 2 1)),
  by intros; exact G_at (by decide +kernel : fetch mX8_takeFrom 212 = some (.goto (-24))),
  by intros; exact G_retv (by decide +kernel : fetch mX8_takeFrom 215 = some (.return_)) (by decide +kernel),
  by decide +kernel,
  by decide +kernel,
  by decide +kernel,
  by decide +kernel,
  by decide +kernel,
  by decide +kernel,
  by decide +kernel,
  by decide +kernel,
  by decide +kernel,
  by decide +kernel,
  by decide +kernel,
  by decide +kernel,
  by decide +kernel,
  by decide +kernel,
  by decide +kernel,
  by decide +kernel⟩
end GG
