section GG
variable {sp : Nat → List iV → iH → Option (Option iV × iH)} {sc : List Int}
theorem gX11_init : (∀ (n d : Nat) (L : List (Option iV)) (st : List iV) (h : iH) (Q : Option iV → iH → Prop), G sp sc [81, 203, 240] d mX11_init (n + 1) 0 L st h Q = (match ld L 0 with | some (.inr (.inr (r + 1))) => G sp sc [81, 203, 240] d mX11_init n 1 L (.inr (.inr (r + 1)) :: st) h Q | _ => False)) ∧
  (∀ (n d : Nat) (L : List (Option iV)) (r : List iV) (m : Nat) (h : iH) (Q : Option iV → iH → Prop), G sp sc [81, 203, 240] (d + 1) mX11_init (n + 1) 1 L (.inr (.inr (m + 2)) :: r) h Q = (cs r ≤ 8 ∧ G sp sc [81, 203, 240] (d + 1) mX11_init n 4 L r h Q)) ∧
  (∀ (n d : Nat) (L : List (Option iV)) (a : Int) (r : List iV) (h : iH) (Q : Option iV → iH → Prop), G sp sc [81, 203, 240] d mX11_init (n + 1) 7 L (.inl a :: r) h Q = G sp sc [81, 203, 240] d mX11_init n 8 L (.inl a :: .inl a :: r) h Q) ∧
  (∀ (n d : Nat) (L : List (Option iV)) (a : Nat) (r : List iV) (h : iH) (Q : Option iV → iH → Prop), G sp sc [81, 203, 240] d mX11_init (n + 1) 7 L (.inr (.inr a) :: r) h Q = G sp sc [81, 203, 240] d mX11_init n 8 L (.inr (.inr a) :: .inr (.inr a) :: r) h Q) ∧
  (∀ (n d : Nat) (L : List (Option iV)) (st : List iV) (h : iH) (Q : Option iV → iH → Prop), G sp sc [81, 203, 240] d mX11_init (n + 1) 8 L st h Q = G sp sc [81, 203, 240] d mX11_init n 9 L (.inl 0 :: st) h Q) ∧
  (∀ (n d : Nat) (L : List (Option iV)) (r : List iV) (m : Nat) (z0 : iV) (h : iH) (Q : Option iV → iH → Prop), G sp sc [81, 203, 240] (d + 1) mX11_init (n + 1) 9 L (z0 :: .inr (.inr (m + 2)) :: r) h Q = (match h.1[m]? with | some (.inl (ci, _)) => cs r ≤ 8 ∧ Call sp sc d mX6_init [.inr (.inr (m + 2)), z0] h (fun q h1 => GC sp sc [81, 203, 240] (d + 1) mX11_init n 12 L q r h h1 Q) | _ => False)) ∧
  (∀ (n d : Nat) (L : List (Option iV)) (r : List iV) (x : Nat) (h : iH) (Q : Option iV → iH → Prop), G sp sc [81, 203, 240] d mX11_init (n + 1) 12 L (.inr (.inr (x + 1)) :: r) h Q = (match st1 L 1 (.inr (.inr (x + 1))) with | some L' => G sp sc [81, 203, 240] d mX11_init n 13 L' r h Q | none => False)) ∧
  (∀ (n d : Nat) (L : List (Option iV)) (a : Int) (r : List iV) (h : iH) (Q : Option iV → iH → Prop), G sp sc [81, 203, 240] d mX11_init (n + 1) 16 L (.inl a :: r) h Q = G sp sc [81, 203, 240] d mX11_init n 17 L (.inl a :: .inl a :: r) h Q) ∧
  (∀ (n d : Nat) (L : List (Option iV)) (a : Nat) (r : List iV) (h : iH) (Q : Option iV → iH → Prop), G sp sc [81, 203, 240] d mX11_init (n + 1) 16 L (.inr (.inr a) :: r) h Q = G sp sc [81, 203, 240] d mX11_init n 17 L (.inr (.inr a) :: .inr (.inr a) :: r) h Q) ∧
  (∀ (n d : Nat) (L : List (Option iV)) (st : List iV) (h : iH) (Q : Option iV → iH → Prop), G sp sc [81, 203, 240] d mX11_init (n + 1) 17 L st h Q = (match ld L 1 with | some (.inr (.inr (r + 1))) => G sp sc [81, 203, 240] d mX11_init n 18 L (.inr (.inr (r + 1)) :: st) h Q | _ => False)) ∧
  (∀ (n d : Nat) (L : List (Option iV)) (r : List iV) (m : Nat) (z0 : iV) (h : iH) (Q : Option iV → iH → Prop), G sp sc [81, 203, 240] (d + 1) mX11_init (n + 1) 18 L (z0 :: .inr (.inr (m + 2)) :: r) h Q = (match h.1[m]? with | some (.inl (ci, _)) => cs r ≤ 8 ∧ Call sp sc d mX8_init [.inr (.inr (m + 2)), z0] h (fun q h1 => GC sp sc [81, 203, 240] (d + 1) mX11_init n 21 L q r h h1 Q) | _ => False)) ∧
  (∀ (n d : Nat) (L : List (Option iV)) (r : List iV) (x : Nat) (h : iH) (Q : Option iV → iH → Prop), G sp sc [81, 203, 240] d mX11_init (n + 1) 21 L (.inr (.inr (x + 1)) :: r) h Q = (match st1 L 2 (.inr (.inr (x + 1))) with | some L' => G sp sc [81, 203, 240] d mX11_init n 22 L' r h Q | none => False)) ∧
  (∀ (n d : Nat) (L : List (Option iV)) (st : List iV) (h : iH) (Q : Option iV → iH → Prop), G sp sc [81, 203, 240] d mX11_init (n + 1) 22 L st h Q = (match ld L 0 with | some (.inr (.inr (r + 1))) => G sp sc [81, 203, 240] d mX11_init n 23 L (.inr (.inr (r + 1)) :: st) h Q | _ => False)) ∧
  (∀ (n d : Nat) (L : List (Option iV)) (st : List iV) (h : iH) (Q : Option iV → iH → Prop), G sp sc [81, 203, 240] d mX11_init (n + 1) 23 L st h Q = (match ld L 2 with | some (.inr (.inr (r + 1))) => G sp sc [81, 203, 240] d mX11_init n 24 L (.inr (.inr (r + 1)) :: st) h Q | _ => False)) ∧
  (∀ (n d : Nat) (L : List (Option iV)) (r : List iV) (v : iV) (m : Nat) (h : iH) (Q : Option iV → iH → Prop), G sp sc [81, 203, 240] d mX11_init (n + 1) 24 L (v :: .inr (.inr (m + 2)) :: r) h Q = (match h.1[m]? with | some (.inl (ci, fs)) => (match lkF 11 17 ci with | some k => (fitV (tyT ci k) v = true ∧ k < fs.length ∧ pOK 11 true ci k = true) ∧ G sp sc [81, 203, 240] d mX11_init n 27 L r (h.1.set m (.inl (ci, fs.set k v)), h.2) Q | none => False) | _ => False)) ∧
  (∀ (n d : Nat) (L : List (Option iV)) (st : List iV) (h : iH) (Q : Option iV → iH → Prop), G sp sc [81, 203, 240] d mX11_init (n + 1) 27 L st h Q = (match ld L 0 with | some (.inr (.inr (r + 1))) => G sp sc [81, 203, 240] d mX11_init n 28 L (.inr (.inr (r + 1)) :: st) h Q | _ => False)) ∧
  (∀ (n d : Nat) (L : List (Option iV)) (a : Int) (r : List iV) (h : iH) (Q : Option iV → iH → Prop), G sp sc [81, 203, 240] d mX11_init (n + 1) 31 L (.inl a :: r) h Q = G sp sc [81, 203, 240] d mX11_init n 32 L (.inl a :: .inl a :: r) h Q) ∧
  (∀ (n d : Nat) (L : List (Option iV)) (a : Nat) (r : List iV) (h : iH) (Q : Option iV → iH → Prop), G sp sc [81, 203, 240] d mX11_init (n + 1) 31 L (.inr (.inr a) :: r) h Q = G sp sc [81, 203, 240] d mX11_init n 32 L (.inr (.inr a) :: .inr (.inr a) :: r) h Q) ∧
  (∀ (n d : Nat) (L : List (Option iV)) (st : List iV) (h : iH) (Q : Option iV → iH → Prop), G sp sc [81, 203, 240] d mX11_init (n + 1) 32 L st h Q = (match ld L 2 with | some (.inr (.inr (r + 1))) => G sp sc [81, 203, 240] d mX11_init n 33 L (.inr (.inr (r + 1)) :: st) h Q | _ => False)) ∧
  (∀ (n d : Nat) (L : List (Option iV)) (r : List iV) (m : Nat) (z0 : iV) (h : iH) (Q : Option iV → iH → Prop), G sp sc [81, 203, 240] (d + 1) mX11_init (n + 1) 33 L (z0 :: .inr (.inr (m + 2)) :: r) h Q = (match h.1[m]? with | some (.inl (ci, _)) => cs r ≤ 8 ∧ Call sp sc d mX4_init [.inr (.inr (m + 2)), z0] h (fun q h1 => GC sp sc [81, 203, 240] (d + 1) mX11_init n 36 L q r h h1 Q) | _ => False)) ∧
  (∀ (n d : Nat) (L : List (Option iV)) (r : List iV) (v : iV) (m : Nat) (h : iH) (Q : Option iV → iH → Prop), G sp sc [81, 203, 240] d mX11_init (n + 1) 36 L (v :: .inr (.inr (m + 2)) :: r) h Q = (match h.1[m]? with | some (.inl (ci, fs)) => (match lkF 11 28 ci with | some k => (fitV (tyT ci k) v = true ∧ k < fs.length ∧ pOK 11 true ci k = true) ∧ G sp sc [81, 203, 240] d mX11_init n 39 L r (h.1.set m (.inl (ci, fs.set k v)), h.2) Q | none => False) | _ => False)) ∧
  (∀ (n d : Nat) (L : List (Option iV)) (st : List iV) (h : iH) (Q : Option iV → iH → Prop), G sp sc [81, 203, 240] d mX11_init (n + 1) 39 L st h Q = (match ld L 0 with | some (.inr (.inr (r + 1))) => G sp sc [81, 203, 240] d mX11_init n 40 L (.inr (.inr (r + 1)) :: st) h Q | _ => False)) ∧
  (∀ (n d : Nat) (L : List (Option iV)) (a : Int) (r : List iV) (h : iH) (Q : Option iV → iH → Prop), G sp sc [81, 203, 240] d mX11_init (n + 1) 43 L (.inl a :: r) h Q = G sp sc [81, 203, 240] d mX11_init n 44 L (.inl a :: .inl a :: r) h Q) ∧
  (∀ (n d : Nat) (L : List (Option iV)) (a : Nat) (r : List iV) (h : iH) (Q : Option iV → iH → Prop), G sp sc [81, 203, 240] d mX11_init (n + 1) 43 L (.inr (.inr a) :: r) h Q = G sp sc [81, 203, 240] d mX11_init n 44 L (.inr (.inr a) :: .inr (.inr a) :: r) h Q) ∧
  (∀ (n d : Nat) (L : List (Option iV)) (st : List iV) (h : iH) (Q : Option iV → iH → Prop), G sp sc [81, 203, 240] d mX11_init (n + 1) 44 L st h Q = (match ld L 1 with | some (.inr (.inr (r + 1))) => G sp sc [81, 203, 240] d mX11_init n 45 L (.inr (.inr (r + 1)) :: st) h Q | _ => False)) ∧
  (∀ (n d : Nat) (L : List (Option iV)) (r : List iV) (m : Nat) (z0 : iV) (h : iH) (Q : Option iV → iH → Prop), G sp sc [81, 203, 240] (d + 1) mX11_init (n + 1) 45 L (z0 :: .inr (.inr (m + 2)) :: r) h Q = (match h.1[m]? with | some (.inl (ci, _)) => cs r ≤ 8 ∧ Call sp sc d mX8_init [.inr (.inr (m + 2)), z0] h (fun q h1 => GC sp sc [81, 203, 240] (d + 1) mX11_init n 48 L q r h h1 Q) | _ => False)) ∧
  (∀ (n d : Nat) (L : List (Option iV)) (r : List iV) (v : iV) (m : Nat) (h : iH) (Q : Option iV → iH → Prop), G sp sc [81, 203, 240] d mX11_init (n + 1) 48 L (v :: .inr (.inr (m + 2)) :: r) h Q = (match h.1[m]? with | some (.inl (ci, fs)) => (match lkF 11 32 ci with | some k => (fitV (tyT ci k) v = true ∧ k < fs.length ∧ pOK 11 true ci k = true) ∧ G sp sc [81, 203, 240] d mX11_init n 51 L r (h.1.set m (.inl (ci, fs.set k v)), h.2) Q | none => False) | _ => False)) ∧
  (∀ (n d : Nat) (L : List (Option iV)) (st : List iV) (h : iH) (Q : Option iV → iH → Prop), G sp sc [81, 203, 240] d mX11_init (n + 1) 51 L st h Q = (match ld L 0 with | some (.inr (.inr (r + 1))) => G sp sc [81, 203, 240] d mX11_init n 52 L (.inr (.inr (r + 1)) :: st) h Q | _ => False)) ∧
  (∀ (n d : Nat) (L : List (Option iV)) (a : Int) (r : List iV) (h : iH) (Q : Option iV → iH → Prop), G sp sc [81, 203, 240] d mX11_init (n + 1) 55 L (.inl a :: r) h Q = G sp sc [81, 203, 240] d mX11_init n 56 L (.inl a :: .inl a :: r) h Q) ∧
  (∀ (n d : Nat) (L : List (Option iV)) (a : Nat) (r : List iV) (h : iH) (Q : Option iV → iH → Prop), G sp sc [81, 203, 240] d mX11_init (n + 1) 55 L (.inr (.inr a) :: r) h Q = G sp sc [81, 203, 240] d mX11_init n 56 L (.inr (.inr a) :: .inr (.inr a) :: r) h Q) ∧
  (∀ (n d : Nat) (L : List (Option iV)) (a : Int) (r : List iV) (h : iH) (Q : Option iV → iH → Prop), G sp sc [81, 203, 240] d mX11_init (n + 1) 59 L (.inl a :: r) h Q = G sp sc [81, 203, 240] d mX11_init n 60 L (.inl a :: .inl a :: r) h Q) ∧
  (∀ (n d : Nat) (L : List (Option iV)) (a : Nat) (r : List iV) (h : iH) (Q : Option iV → iH → Prop), G sp sc [81, 203, 240] d mX11_init (n + 1) 59 L (.inr (.inr a) :: r) h Q = G sp sc [81, 203, 240] d mX11_init n 60 L (.inr (.inr a) :: .inr (.inr a) :: r) h Q) ∧
  (∀ (n d : Nat) (L : List (Option iV)) (st : List iV) (h : iH) (Q : Option iV → iH → Prop), G sp sc [81, 203, 240] d mX11_init (n + 1) 60 L st h Q = (match ld L 1 with | some (.inr (.inr (r + 1))) => G sp sc [81, 203, 240] d mX11_init n 61 L (.inr (.inr (r + 1)) :: st) h Q | _ => False)) ∧
  (∀ (n d : Nat) (L : List (Option iV)) (r : List iV) (m : Nat) (z0 : iV) (h : iH) (Q : Option iV → iH → Prop), G sp sc [81, 203, 240] (d + 1) mX11_init (n + 1) 61 L (z0 :: .inr (.inr (m + 2)) :: r) h Q = (match h.1[m]? with | some (.inl (ci, _)) => cs r ≤ 8 ∧ Call sp sc d mX8_init [.inr (.inr (m + 2)), z0] h (fun q h1 => GC sp sc [81, 203, 240] (d + 1) mX11_init n 64 L q r h h1 Q) | _ => False)) ∧
  (∀ (n d : Nat) (L : List (Option iV)) (r : List iV) (m : Nat) (z0 : iV) (h : iH) (Q : Option iV → iH → Prop), G sp sc [81, 203, 240] (d + 1) mX11_init (n + 1) 64 L (z0 :: .inr (.inr (m + 2)) :: r) h Q = (match h.1[m]? with | some (.inl (ci, _)) => cs r ≤ 8 ∧ Call sp sc d mX10_init [.inr (.inr (m + 2)), z0] h (fun q h1 => GC sp sc [81, 203, 240] (d + 1) mX11_init n 67 L q r h h1 Q) | _ => False)) ∧
  (∀ (n d : Nat) (L : List (Option iV)) (r : List iV) (v : iV) (m : Nat) (h : iH) (Q : Option iV → iH → Prop), G sp sc [81, 203, 240] d mX11_init (n + 1) 67 L (v :: .inr (.inr (m + 2)) :: r) h Q = (match h.1[m]? with | some (.inl (ci, fs)) => (match lkF 11 38 ci with | some k => (fitV (tyT ci k) v = true ∧ k < fs.length ∧ pOK 11 true ci k = true) ∧ G sp sc [81, 203, 240] d mX11_init n 70 L r (h.1.set m (.inl (ci, fs.set k v)), h.2) Q | none => False) | _ => False)) ∧
  (∀ (n d : Nat) (L : List (Option iV)) (st : List iV) (h : iH) (Q : Option iV → iH → Prop), G sp sc [81, 203, 240] d mX11_init (n + 1) 70 L st h Q = (match ld L 0 with | some (.inr (.inr (r + 1))) => G sp sc [81, 203, 240] d mX11_init n 71 L (.inr (.inr (r + 1)) :: st) h Q | _ => False)) ∧
  (∀ (n d : Nat) (L : List (Option iV)) (st : List iV) (h : iH) (Q : Option iV → iH → Prop), G sp sc [81, 203, 240] d mX11_init (n + 1) 71 L st h Q = ((-128 ≤ (60 : Int) ∧ (60 : Int) < 128) ∧ G sp sc [81, 203, 240] d mX11_init n 73 L (.inl 60 :: st) h Q)) ∧
  (∀ (n d : Nat) (L : List (Option iV)) (r : List iV) (v : iV) (m : Nat) (h : iH) (Q : Option iV → iH → Prop), G sp sc [81, 203, 240] d mX11_init (n + 1) 76 L (v :: .inr (.inr (m + 2)) :: r) h Q = (match h.1[m]? with | some (.inl (ci, fs)) => (match lkF 11 42 ci with | some k => (fitV (tyT ci k) v = true ∧ k < fs.length ∧ pOK 11 true ci k = true) ∧ G sp sc [81, 203, 240] d mX11_init n 79 L r (h.1.set m (.inl (ci, fs.set k v)), h.2) Q | none => False) | _ => False)) ∧
  (∀ (n d : Nat) (L : List (Option iV)) (st : List iV) (h : iH) (Q : Option iV → iH → Prop), G sp sc [81, 203, 240] d mX11_init (n + 1) 79 L st h Q = G sp sc [81, 203, 240] d mX11_init n 80 L (.inl 0 :: st) h Q) ∧
  (∀ (n d : Nat) (L : List (Option iV)) (r : List iV) (x : Int) (h : iH) (Q : Option iV → iH → Prop), G sp sc [81, 203, 240] d mX11_init (n + 1) 80 L (.inl x :: r) h Q = (match st1 L 3 (.inl x) with | some L' => Run sp sc d mX11_init 81 L' r h Q | none => False)) ∧
  (∀ (n d : Nat) (L : List (Option iV)) (st : List iV) (h : iH) (Q : Option iV → iH → Prop), G sp sc [81, 203, 240] d mX11_init (n + 1) 81 L st h Q = (match ld L 3 with | some (.inl x) => G sp sc [81, 203, 240] d mX11_init n 82 L (.inl x :: st) h Q | _ => False)) ∧
  (∀ (n d : Nat) (L : List (Option iV)) (st : List iV) (h : iH) (Q : Option iV → iH → Prop), G sp sc [81, 203, 240] d mX11_init (n + 1) 82 L st h Q = ((-128 ≤ (10 : Int) ∧ (10 : Int) < 128) ∧ G sp sc [81, 203, 240] d mX11_init n 84 L (.inl 10 :: st) h Q)) ∧
  (∀ (n d : Nat) (L : List (Option iV)) (a : Int) (b : Int) (r : List iV) (h : iH) (Q : Option iV → iH → Prop), G sp sc [81, 203, 240] d mX11_init (n + 1) 84 L (.inl b :: .inl a :: r) h Q = ((inI a = true ∧ inI b = true) ∧ (b ≤ a → G sp sc [81, 203, 240] d mX11_init n 192 L r h Q) ∧ (¬ (b ≤ a) → G sp sc [81, 203, 240] d mX11_init n 87 L r h Q))) ∧
  (∀ (n d : Nat) (L : List (Option iV)) (st : List iV) (h : iH) (Q : Option iV → iH → Prop), G sp sc [81, 203, 240] d mX11_init (n + 1) 87 L st h Q = (match ld L 0 with | some (.inr (.inr (r + 1))) => G sp sc [81, 203, 240] d mX11_init n 88 L (.inr (.inr (r + 1)) :: st) h Q | _ => False)) ∧
  (∀ (n d : Nat) (L : List (Option iV)) (r : List iV) (m : Nat) (h : iH) (Q : Option iV → iH → Prop), G sp sc [81, 203, 240] d mX11_init (n + 1) 88 L (.inr (.inr (m + 2)) :: r) h Q = (match h.1[m]? with | some (.inl (ci, fs)) => (match lkF 11 42 ci with | some k => (match fs[k]? with | some v => G sp sc [81, 203, 240] d mX11_init n 91 L (v :: r) h Q | none => False) | none => False) | _ => False)) ∧
  (∀ (n d : Nat) (L : List (Option iV)) (st : List iV) (h : iH) (Q : Option iV → iH → Prop), G sp sc [81, 203, 240] d mX11_init (n + 1) 91 L st h Q = (match ld L 3 with | some (.inl x) => G sp sc [81, 203, 240] d mX11_init n 92 L (.inl x :: st) h Q | _ => False)) ∧
  (∀ (n d : Nat) (L : List (Option iV)) (a : Int) (r : List iV) (h : iH) (Q : Option iV → iH → Prop), G sp sc [81, 203, 240] d mX11_init (n + 1) 95 L (.inl a :: r) h Q = G sp sc [81, 203, 240] d mX11_init n 96 L (.inl a :: .inl a :: r) h Q) ∧
  (∀ (n d : Nat) (L : List (Option iV)) (a : Nat) (r : List iV) (h : iH) (Q : Option iV → iH → Prop), G sp sc [81, 203, 240] d mX11_init (n + 1) 95 L (.inr (.inr a) :: r) h Q = G sp sc [81, 203, 240] d mX11_init n 96 L (.inr (.inr a) :: .inr (.inr a) :: r) h Q) ∧
  (∀ (n d : Nat) (L : List (Option iV)) (st : List iV) (h : iH) (Q : Option iV → iH → Prop), G sp sc [81, 203, 240] d mX11_init (n + 1) 96 L st h Q = (match ld L 3 with | some (.inl x) => G sp sc [81, 203, 240] d mX11_init n 97 L (.inl x :: st) h Q | _ => False)) ∧
  (∀ (n d : Nat) (L : List (Option iV)) (r : List iV) (m : Nat) (z0 : iV) (h : iH) (Q : Option iV → iH → Prop), G sp sc [81, 203, 240] (d + 1) mX11_init (n + 1) 97 L (z0 :: .inr (.inr (m + 2)) :: r) h Q = (match h.1[m]? with | some (.inl (ci, _)) => cs r ≤ 8 ∧ Call sp sc d mX6_init [.inr (.inr (m + 2)), z0] h (fun q h1 => GC sp sc [81, 203, 240] (d + 1) mX11_init n 100 L q r h h1 Q) | _ => False)) ∧
  (∀ (n d : Nat) (L : List (Option iV)) (r : List iV) (v : Nat) (j : Int) (m : Nat) (h : iH) (Q : Option iV → iH → Prop), G sp sc [81, 203, 240] d mX11_init (n + 1) 100 L (.inr (.inr (v + 2)) :: .inl j :: .inr (.inr (m + 2)) :: r) h Q = (match h.1[m]? with | some (.inr (.inr (t, rs))) => (match h.1[v]? with | some (.inl (ci, _)) => (inA j rs.length = true ∧ asT t ci = true) ∧ G sp sc [81, 203, 240] d mX11_init n 101 L r (h.1.set m (.inr (.inr (t, rs.set j.toNat (v + 2)))), h.2) Q | _ => False) | _ => False)) ∧
  (∀ (n d : Nat) (L : List (Option iV)) (st : List iV) (h : iH) (Q : Option iV → iH → Prop), G sp sc [81, 203, 240] d mX11_init (n + 1) 101 L st h Q = (match ld L 0 with | some (.inr (.inr (r + 1))) => G sp sc [81, 203, 240] d mX11_init n 102 L (.inr (.inr (r + 1)) :: st) h Q | _ => False)) ∧
  (∀ (n d : Nat) (L : List (Option iV)) (r : List iV) (m : Nat) (h : iH) (Q : Option iV → iH → Prop), G sp sc [81, 203, 240] d mX11_init (n + 1) 102 L (.inr (.inr (m + 2)) :: r) h Q = (match h.1[m]? with | some (.inl (ci, fs)) => (match lkF 11 42 ci with | some k => (match fs[k]? with | some v => G sp sc [81, 203, 240] d mX11_init n 105 L (v :: r) h Q | none => False) | none => False) | _ => False)) ∧
  (∀ (n d : Nat) (L : List (Option iV)) (st : List iV) (h : iH) (Q : Option iV → iH → Prop), G sp sc [81, 203, 240] d mX11_init (n + 1) 105 L st h Q = ((-128 ≤ (10 : Int) ∧ (10 : Int) < 128) ∧ G sp sc [81, 203, 240] d mX11_init n 107 L (.inl 10 :: st) h Q)) ∧
  (∀ (n d : Nat) (L : List (Option iV)) (st : List iV) (h : iH) (Q : Option iV → iH → Prop), G sp sc [81, 203, 240] d mX11_init (n + 1) 107 L st h Q = (match ld L 3 with | some (.inl x) => G sp sc [81, 203, 240] d mX11_init n 108 L (.inl x :: st) h Q | _ => False)) ∧
  (∀ (n d : Nat) (L : List (Option iV)) (a : Int) (b : Int) (r : List iV) (h : iH) (Q : Option iV → iH → Prop), G sp sc [81, 203, 240] d mX11_init (n + 1) 108 L (.inl b :: .inl a :: r) h Q = G sp sc [81, 203, 240] d mX11_init n 109 L (.inl (a + b) :: r) h Q) ∧
  (∀ (n d : Nat) (L : List (Option iV)) (a : Int) (r : List iV) (h : iH) (Q : Option iV → iH → Prop), G sp sc [81, 203, 240] d mX11_init (n + 1) 112 L (.inl a :: r) h Q = G sp sc [81, 203, 240] d mX11_init n 113 L (.inl a :: .inl a :: r) h Q) ∧
  (∀ (n d : Nat) (L : List (Option iV)) (a : Nat) (r : List iV) (h : iH) (Q : Option iV → iH → Prop), G sp sc [81, 203, 240] d mX11_init (n + 1) 112 L (.inr (.inr a) :: r) h Q = G sp sc [81, 203, 240] d mX11_init n 113 L (.inr (.inr a) :: .inr (.inr a) :: r) h Q) ∧
  (∀ (n d : Nat) (L : List (Option iV)) (st : List iV) (h : iH) (Q : Option iV → iH → Prop), G sp sc [81, 203, 240] d mX11_init (n + 1) 113 L st h Q = (match ld L 3 with | some (.inl x) => G sp sc [81, 203, 240] d mX11_init n 114 L (.inl x :: st) h Q | _ => False)) ∧
  (∀ (n d : Nat) (L : List (Option iV)) (r : List iV) (m : Nat) (z0 : iV) (h : iH) (Q : Option iV → iH → Prop), G sp sc [81, 203, 240] (d + 1) mX11_init (n + 1) 114 L (z0 :: .inr (.inr (m + 2)) :: r) h Q = (match h.1[m]? with | some (.inl (ci, _)) => cs r ≤ 8 ∧ Call sp sc d mX9_init [.inr (.inr (m + 2)), z0] h (fun q h1 => GC sp sc [81, 203, 240] (d + 1) mX11_init n 117 L q r h h1 Q) | _ => False)) ∧
  (∀ (n d : Nat) (L : List (Option iV)) (r : List iV) (v : Nat) (j : Int) (m : Nat) (h : iH) (Q : Option iV → iH → Prop), G sp sc [81, 203, 240] d mX11_init (n + 1) 117 L (.inr (.inr (v + 2)) :: .inl j :: .inr (.inr (m + 2)) :: r) h Q = (match h.1[m]? with | some (.inr (.inr (t, rs))) => (match h.1[v]? with | some (.inl (ci, _)) => (inA j rs.length = true ∧ asT t ci = true) ∧ G sp sc [81, 203, 240] d mX11_init n 118 L r (h.1.set m (.inr (.inr (t, rs.set j.toNat (v + 2)))), h.2) Q | _ => False) | _ => False)) ∧
  (∀ (n d : Nat) (L : List (Option iV)) (st : List iV) (h : iH) (Q : Option iV → iH → Prop), G sp sc [81, 203, 240] d mX11_init (n + 1) 118 L st h Q = (match ld L 0 with | some (.inr (.inr (r + 1))) => G sp sc [81, 203, 240] d mX11_init n 119 L (.inr (.inr (r + 1)) :: st) h Q | _ => False)) ∧
  (∀ (n d : Nat) (L : List (Option iV)) (r : List iV) (m : Nat) (h : iH) (Q : Option iV → iH → Prop), G sp sc [81, 203, 240] d mX11_init (n + 1) 119 L (.inr (.inr (m + 2)) :: r) h Q = (match h.1[m]? with | some (.inl (ci, fs)) => (match lkF 11 42 ci with | some k => (match fs[k]? with | some v => G sp sc [81, 203, 240] d mX11_init n 122 L (v :: r) h Q | none => False) | none => False) | _ => False)) ∧
  (∀ (n d : Nat) (L : List (Option iV)) (st : List iV) (h : iH) (Q : Option iV → iH → Prop), G sp sc [81, 203, 240] d mX11_init (n + 1) 122 L st h Q = ((-128 ≤ (20 : Int) ∧ (20 : Int) < 128) ∧ G sp sc [81, 203, 240] d mX11_init n 124 L (.inl 20 :: st) h Q)) ∧
  (∀ (n d : Nat) (L : List (Option iV)) (st : List iV) (h : iH) (Q : Option iV → iH → Prop), G sp sc [81, 203, 240] d mX11_init (n + 1) 124 L st h Q = (match ld L 3 with | some (.inl x) => G sp sc [81, 203, 240] d mX11_init n 125 L (.inl x :: st) h Q | _ => False)) ∧
  (∀ (n d : Nat) (L : List (Option iV)) (a : Int) (b : Int) (r : List iV) (h : iH) (Q : Option iV → iH → Prop), G sp sc [81, 203, 240] d mX11_init (n + 1) 125 L (.inl b :: .inl a :: r) h Q = G sp sc [81, 203, 240] d mX11_init n 126 L (.inl (a + b) :: r) h Q) ∧
  (∀ (n d : Nat) (L : List (Option iV)) (a : Int) (r : List iV) (h : iH) (Q : Option iV → iH → Prop), G sp sc [81, 203, 240] d mX11_init (n + 1) 129 L (.inl a :: r) h Q = G sp sc [81, 203, 240] d mX11_init n 130 L (.inl a :: .inl a :: r) h Q) ∧
  (∀ (n d : Nat) (L : List (Option iV)) (a : Nat) (r : List iV) (h : iH) (Q : Option iV → iH → Prop), G sp sc [81, 203, 240] d mX11_init (n + 1) 129 L (.inr (.inr a) :: r) h Q = G sp sc [81, 203, 240] d mX11_init n 130 L (.inr (.inr a) :: .inr (.inr a) :: r) h Q) ∧
  (∀ (n d : Nat) (L : List (Option iV)) (st : List iV) (h : iH) (Q : Option iV → iH → Prop), G sp sc [81, 203, 240] d mX11_init (n + 1) 130 L st h Q = (match ld L 3 with | some (.inl x) => G sp sc [81, 203, 240] d mX11_init n 131 L (.inl x :: st) h Q | _ => False)) ∧
  (∀ (n d : Nat) (L : List (Option iV)) (r : List iV) (m : Nat) (z0 : iV) (h : iH) (Q : Option iV → iH → Prop), G sp sc [81, 203, 240] (d + 1) mX11_init (n + 1) 131 L (z0 :: .inr (.inr (m + 2)) :: r) h Q = (match h.1[m]? with | some (.inl (ci, _)) => cs r ≤ 8 ∧ Call sp sc d mX0_init [.inr (.inr (m + 2)), z0] h (fun q h1 => GC sp sc [81, 203, 240] (d + 1) mX11_init n 134 L q r h h1 Q) | _ => False)) ∧
  (∀ (n d : Nat) (L : List (Option iV)) (r : List iV) (v : Nat) (j : Int) (m : Nat) (h : iH) (Q : Option iV → iH → Prop), G sp sc [81, 203, 240] d mX11_init (n + 1) 134 L (.inr (.inr (v + 2)) :: .inl j :: .inr (.inr (m + 2)) :: r) h Q = (match h.1[m]? with | some (.inr (.inr (t, rs))) => (match h.1[v]? with | some (.inl (ci, _)) => (inA j rs.length = true ∧ asT t ci = true) ∧ G sp sc [81, 203, 240] d mX11_init n 135 L r (h.1.set m (.inr (.inr (t, rs.set j.toNat (v + 2)))), h.2) Q | _ => False) | _ => False)) ∧
  (∀ (n d : Nat) (L : List (Option iV)) (st : List iV) (h : iH) (Q : Option iV → iH → Prop), G sp sc [81, 203, 240] d mX11_init (n + 1) 135 L st h Q = (match ld L 0 with | some (.inr (.inr (r + 1))) => G sp sc [81, 203, 240] d mX11_init n 136 L (.inr (.inr (r + 1)) :: st) h Q | _ => False)) ∧
  (∀ (n d : Nat) (L : List (Option iV)) (r : List iV) (m : Nat) (h : iH) (Q : Option iV → iH → Prop), G sp sc [81, 203, 240] d mX11_init (n + 1) 136 L (.inr (.inr (m + 2)) :: r) h Q = (match h.1[m]? with | some (.inl (ci, fs)) => (match lkF 11 42 ci with | some k => (match fs[k]? with | some v => G sp sc [81, 203, 240] d mX11_init n 139 L (v :: r) h Q | none => False) | none => False) | _ => False)) ∧
  (∀ (n d : Nat) (L : List (Option iV)) (st : List iV) (h : iH) (Q : Option iV → iH → Prop), G sp sc [81, 203, 240] d mX11_init (n + 1) 139 L st h Q = ((-128 ≤ (30 : Int) ∧ (30 : Int) < 128) ∧ G sp sc [81, 203, 240] d mX11_init n 141 L (.inl 30 :: st) h Q)) ∧
  (∀ (n d : Nat) (L : List (Option iV)) (st : List iV) (h : iH) (Q : Option iV → iH → Prop), G sp sc [81, 203, 240] d mX11_init (n + 1) 141 L st h Q = (match ld L 3 with | some (.inl x) => G sp sc [81, 203, 240] d mX11_init n 142 L (.inl x :: st) h Q | _ => False)) ∧
  (∀ (n d : Nat) (L : List (Option iV)) (a : Int) (b : Int) (r : List iV) (h : iH) (Q : Option iV → iH → Prop), G sp sc [81, 203, 240] d mX11_init (n + 1) 142 L (.inl b :: .inl a :: r) h Q = G sp sc [81, 203, 240] d mX11_init n 143 L (.inl (a + b) :: r) h Q) ∧
  (∀ (n d : Nat) (L : List (Option iV)) (a : Int) (r : List iV) (h : iH) (Q : Option iV → iH → Prop), G sp sc [81, 203, 240] d mX11_init (n + 1) 146 L (.inl a :: r) h Q = G sp sc [81, 203, 240] d mX11_init n 147 L (.inl a :: .inl a :: r) h Q) ∧
  (∀ (n d : Nat) (L : List (Option iV)) (a : Nat) (r : List iV) (h : iH) (Q : Option iV → iH → Prop), G sp sc [81, 203, 240] d mX11_init (n + 1) 146 L (.inr (.inr a) :: r) h Q = G sp sc [81, 203, 240] d mX11_init n 147 L (.inr (.inr a) :: .inr (.inr a) :: r) h Q) ∧
  (∀ (n d : Nat) (L : List (Option iV)) (st : List iV) (h : iH) (Q : Option iV → iH → Prop), G sp sc [81, 203, 240] d mX11_init (n + 1) 147 L st h Q = (match ld L 3 with | some (.inl x) => G sp sc [81, 203, 240] d mX11_init n 148 L (.inl x :: st) h Q | _ => False)) ∧
  (∀ (n d : Nat) (L : List (Option iV)) (r : List iV) (m : Nat) (z0 : iV) (h : iH) (Q : Option iV → iH → Prop), G sp sc [81, 203, 240] (d + 1) mX11_init (n + 1) 148 L (z0 :: .inr (.inr (m + 2)) :: r) h Q = (match h.1[m]? with | some (.inl (ci, _)) => cs r ≤ 8 ∧ Call sp sc d mX3_init [.inr (.inr (m + 2)), z0] h (fun q h1 => GC sp sc [81, 203, 240] (d + 1) mX11_init n 151 L q r h h1 Q) | _ => False)) ∧
  (∀ (n d : Nat) (L : List (Option iV)) (r : List iV) (v : Nat) (j : Int) (m : Nat) (h : iH) (Q : Option iV → iH → Prop), G sp sc [81, 203, 240] d mX11_init (n + 1) 151 L (.inr (.inr (v + 2)) :: .inl j :: .inr (.inr (m + 2)) :: r) h Q = (match h.1[m]? with | some (.inr (.inr (t, rs))) => (match h.1[v]? with | some (.inl (ci, _)) => (inA j rs.length = true ∧ asT t ci = true) ∧ G sp sc [81, 203, 240] d mX11_init n 152 L r (h.1.set m (.inr (.inr (t, rs.set j.toNat (v + 2)))), h.2) Q | _ => False) | _ => False)) ∧
  (∀ (n d : Nat) (L : List (Option iV)) (st : List iV) (h : iH) (Q : Option iV → iH → Prop), G sp sc [81, 203, 240] d mX11_init (n + 1) 152 L st h Q = (match ld L 0 with | some (.inr (.inr (r + 1))) => G sp sc [81, 203, 240] d mX11_init n 153 L (.inr (.inr (r + 1)) :: st) h Q | _ => False)) ∧
  (∀ (n d : Nat) (L : List (Option iV)) (r : List iV) (m : Nat) (h : iH) (Q : Option iV → iH → Prop), G sp sc [81, 203, 240] d mX11_init (n + 1) 153 L (.inr (.inr (m + 2)) :: r) h Q = (match h.1[m]? with | some (.inl (ci, fs)) => (match lkF 11 42 ci with | some k => (match fs[k]? with | some v => G sp sc [81, 203, 240] d mX11_init n 156 L (v :: r) h Q | none => False) | none => False) | _ => False)) ∧
  (∀ (n d : Nat) (L : List (Option iV)) (st : List iV) (h : iH) (Q : Option iV → iH → Prop), G sp sc [81, 203, 240] d mX11_init (n + 1) 156 L st h Q = ((-128 ≤ (40 : Int) ∧ (40 : Int) < 128) ∧ G sp sc [81, 203, 240] d mX11_init n 158 L (.inl 40 :: st) h Q)) ∧
  (∀ (n d : Nat) (L : List (Option iV)) (st : List iV) (h : iH) (Q : Option iV → iH → Prop), G sp sc [81, 203, 240] d mX11_init (n + 1) 158 L st h Q = (match ld L 3 with | some (.inl x) => G sp sc [81, 203, 240] d mX11_init n 159 L (.inl x :: st) h Q | _ => False)) ∧
  (∀ (n d : Nat) (L : List (Option iV)) (a : Int) (b : Int) (r : List iV) (h : iH) (Q : Option iV → iH → Prop), G sp sc [81, 203, 240] d mX11_init (n + 1) 159 L (.inl b :: .inl a :: r) h Q = G sp sc [81, 203, 240] d mX11_init n 160 L (.inl (a + b) :: r) h Q) ∧
  (∀ (n d : Nat) (L : List (Option iV)) (a : Int) (r : List iV) (h : iH) (Q : Option iV → iH → Prop), G sp sc [81, 203, 240] d mX11_init (n + 1) 163 L (.inl a :: r) h Q = G sp sc [81, 203, 240] d mX11_init n 164 L (.inl a :: .inl a :: r) h Q) ∧
  (∀ (n d : Nat) (L : List (Option iV)) (a : Nat) (r : List iV) (h : iH) (Q : Option iV → iH → Prop), G sp sc [81, 203, 240] d mX11_init (n + 1) 163 L (.inr (.inr a) :: r) h Q = G sp sc [81, 203, 240] d mX11_init n 164 L (.inr (.inr a) :: .inr (.inr a) :: r) h Q) ∧
  (∀ (n d : Nat) (L : List (Option iV)) (st : List iV) (h : iH) (Q : Option iV → iH → Prop), G sp sc [81, 203, 240] d mX11_init (n + 1) 164 L st h Q = (match ld L 3 with | some (.inl x) => G sp sc [81, 203, 240] d mX11_init n 165 L (.inl x :: st) h Q | _ => False)) ∧
  (∀ (n d : Nat) (L : List (Option iV)) (r : List iV) (m : Nat) (z0 : iV) (h : iH) (Q : Option iV → iH → Prop), G sp sc [81, 203, 240] (d + 1) mX11_init (n + 1) 165 L (z0 :: .inr (.inr (m + 2)) :: r) h Q = (match h.1[m]? with | some (.inl (ci, _)) => cs r ≤ 8 ∧ Call sp sc d mX7_init [.inr (.inr (m + 2)), z0] h (fun q h1 => GC sp sc [81, 203, 240] (d + 1) mX11_init n 168 L q r h h1 Q) | _ => False)) ∧
  (∀ (n d : Nat) (L : List (Option iV)) (r : List iV) (v : Nat) (j : Int) (m : Nat) (h : iH) (Q : Option iV → iH → Prop), G sp sc [81, 203, 240] d mX11_init (n + 1) 168 L (.inr (.inr (v + 2)) :: .inl j :: .inr (.inr (m + 2)) :: r) h Q = (match h.1[m]? with | some (.inr (.inr (t, rs))) => (match h.1[v]? with | some (.inl (ci, _)) => (inA j rs.length = true ∧ asT t ci = true) ∧ G sp sc [81, 203, 240] d mX11_init n 169 L r (h.1.set m (.inr (.inr (t, rs.set j.toNat (v + 2)))), h.2) Q | _ => False) | _ => False)) ∧
  (∀ (n d : Nat) (L : List (Option iV)) (st : List iV) (h : iH) (Q : Option iV → iH → Prop), G sp sc [81, 203, 240] d mX11_init (n + 1) 169 L st h Q = (match ld L 0 with | some (.inr (.inr (r + 1))) => G sp sc [81, 203, 240] d mX11_init n 170 L (.inr (.inr (r + 1)) :: st) h Q | _ => False)) ∧
  (∀ (n d : Nat) (L : List (Option iV)) (r : List iV) (m : Nat) (h : iH) (Q : Option iV → iH → Prop), G sp sc [81, 203, 240] d mX11_init (n + 1) 170 L (.inr (.inr (m + 2)) :: r) h Q = (match h.1[m]? with | some (.inl (ci, fs)) => (match lkF 11 42 ci with | some k => (match fs[k]? with | some v => G sp sc [81, 203, 240] d mX11_init n 173 L (v :: r) h Q | none => False) | none => False) | _ => False)) ∧
  (∀ (n d : Nat) (L : List (Option iV)) (st : List iV) (h : iH) (Q : Option iV → iH → Prop), G sp sc [81, 203, 240] d mX11_init (n + 1) 173 L st h Q = ((-128 ≤ (50 : Int) ∧ (50 : Int) < 128) ∧ G sp sc [81, 203, 240] d mX11_init n 175 L (.inl 50 :: st) h Q)) ∧
  (∀ (n d : Nat) (L : List (Option iV)) (st : List iV) (h : iH) (Q : Option iV → iH → Prop), G sp sc [81, 203, 240] d mX11_init (n + 1) 175 L st h Q = (match ld L 3 with | some (.inl x) => G sp sc [81, 203, 240] d mX11_init n 176 L (.inl x :: st) h Q | _ => False)) ∧
  (∀ (n d : Nat) (L : List (Option iV)) (a : Int) (b : Int) (r : List iV) (h : iH) (Q : Option iV → iH → Prop), G sp sc [81, 203, 240] d mX11_init (n + 1) 176 L (.inl b :: .inl a :: r) h Q = G sp sc [81, 203, 240] d mX11_init n 177 L (.inl (a + b) :: r) h Q) ∧
  (∀ (n d : Nat) (L : List (Option iV)) (a : Int) (r : List iV) (h : iH) (Q : Option iV → iH → Prop), G sp sc [81, 203, 240] d mX11_init (n + 1) 180 L (.inl a :: r) h Q = G sp sc [81, 203, 240] d mX11_init n 181 L (.inl a :: .inl a :: r) h Q) ∧
  (∀ (n d : Nat) (L : List (Option iV)) (a : Nat) (r : List iV) (h : iH) (Q : Option iV → iH → Prop), G sp sc [81, 203, 240] d mX11_init (n + 1) 180 L (.inr (.inr a) :: r) h Q = G sp sc [81, 203, 240] d mX11_init n 181 L (.inr (.inr a) :: .inr (.inr a) :: r) h Q) ∧
  (∀ (n d : Nat) (L : List (Option iV)) (st : List iV) (h : iH) (Q : Option iV → iH → Prop), G sp sc [81, 203, 240] d mX11_init (n + 1) 181 L st h Q = (match ld L 3 with | some (.inl x) => G sp sc [81, 203, 240] d mX11_init n 182 L (.inl x :: st) h Q | _ => False)) ∧
  (∀ (n d : Nat) (L : List (Option iV)) (r : List iV) (m : Nat) (z0 : iV) (h : iH) (Q : Option iV → iH → Prop), G sp sc [81, 203, 240] (d + 1) mX11_init (n + 1) 182 L (z0 :: .inr (.inr (m + 2)) :: r) h Q = (match h.1[m]? with | some (.inl (ci, _)) => cs r ≤ 8 ∧ Call sp sc d mX1_init [.inr (.inr (m + 2)), z0] h (fun q h1 => GC sp sc [81, 203, 240] (d + 1) mX11_init n 185 L q r h h1 Q) | _ => False)) ∧
  (∀ (n d : Nat) (L : List (Option iV)) (r : List iV) (v : Nat) (j : Int) (m : Nat) (h : iH) (Q : Option iV → iH → Prop), G sp sc [81, 203, 240] d mX11_init (n + 1) 185 L (.inr (.inr (v + 2)) :: .inl j :: .inr (.inr (m + 2)) :: r) h Q = (match h.1[m]? with | some (.inr (.inr (t, rs))) => (match h.1[v]? with | some (.inl (ci, _)) => (inA j rs.length = true ∧ asT t ci = true) ∧ G sp sc [81, 203, 240] d mX11_init n 186 L r (h.1.set m (.inr (.inr (t, rs.set j.toNat (v + 2)))), h.2) Q | _ => False) | _ => False)) ∧
  (∀ (n d : Nat) (L : List (Option iV)) (st : List iV) (h : iH) (Q : Option iV → iH → Prop), G sp sc [81, 203, 240] d mX11_init (n + 1) 186 L st h Q = (match ld L 3 with | some (.inl x) => (match st1 L 3 (.inl (x + 1)) with | some L' => G sp sc [81, 203, 240] d mX11_init n 189 L' st h Q | none => False) | _ => False)) ∧
  (∀ (n d : Nat) (L : List (Option iV)) (st : List iV) (h : iH) (Q : Option iV → iH → Prop), G sp sc [81, 203, 240] d mX11_init (n + 1) 189 L st h Q = Run sp sc d mX11_init 81 L st h Q) ∧
  (∀ (n d : Nat) (L : List (Option iV)) (st : List iV) (h : iH) (Q : Option iV → iH → Prop), G sp sc [81, 203, 240] d mX11_init (n + 1) 192 L st h Q = (match ld L 0 with | some (.inr (.inr (r + 1))) => G sp sc [81, 203, 240] d mX11_init n 193 L (.inr (.inr (r + 1)) :: st) h Q | _ => False)) ∧
  (∀ (n d : Nat) (L : List (Option iV)) (st : List iV) (h : iH) (Q : Option iV → iH → Prop), G sp sc [81, 203, 240] d mX11_init (n + 1) 193 L st h Q = ((-128 ≤ (8 : Int) ∧ (8 : Int) < 128) ∧ G sp sc [81, 203, 240] d mX11_init n 195 L (.inl 8 :: st) h Q)) ∧
  (∀ (n d : Nat) (L : List (Option iV)) (r : List iV) (v : iV) (m : Nat) (h : iH) (Q : Option iV → iH → Prop), G sp sc [81, 203, 240] d mX11_init (n + 1) 198 L (v :: .inr (.inr (m + 2)) :: r) h Q = (match h.1[m]? with | some (.inl (ci, fs)) => (match lkF 11 63 ci with | some k => (fitV (tyT ci k) v = true ∧ k < fs.length ∧ pOK 11 true ci k = true) ∧ G sp sc [81, 203, 240] d mX11_init n 201 L r (h.1.set m (.inl (ci, fs.set k v)), h.2) Q | none => False) | _ => False)) ∧
  (∀ (n d : Nat) (L : List (Option iV)) (st : List iV) (h : iH) (Q : Option iV → iH → Prop), G sp sc [81, 203, 240] d mX11_init (n + 1) 201 L st h Q = G sp sc [81, 203, 240] d mX11_init n 202 L (.inl 0 :: st) h Q) ∧
  (∀ (n d : Nat) (L : List (Option iV)) (r : List iV) (x : Int) (h : iH) (Q : Option iV → iH → Prop), G sp sc [81, 203, 240] d mX11_init (n + 1) 202 L (.inl x :: r) h Q = (match st1 L 3 (.inl x) with | some L' => Run sp sc d mX11_init 203 L' r h Q | none => False)) ∧
  (∀ (n d : Nat) (L : List (Option iV)) (st : List iV) (h : iH) (Q : Option iV → iH → Prop), G sp sc [81, 203, 240] d mX11_init (n + 1) 203 L st h Q = (match ld L 3 with | some (.inl x) => G sp sc [81, 203, 240] d mX11_init n 204 L (.inl x :: st) h Q | _ => False)) ∧
  (∀ (n d : Nat) (L : List (Option iV)) (st : List iV) (h : iH) (Q : Option iV → iH → Prop), G sp sc [81, 203, 240] d mX11_init (n + 1) 204 L st h Q = ((-128 ≤ (8 : Int) ∧ (8 : Int) < 128) ∧ G sp sc [81, 203, 240] d mX11_init n 206 L (.inl 8 :: st) h Q)) ∧
  (∀ (n d : Nat) (L : List (Option iV)) (a : Int) (b : Int) (r : List iV) (h : iH) (Q : Option iV → iH → Prop), G sp sc [81, 203, 240] d mX11_init (n + 1) 206 L (.inl b :: .inl a :: r) h Q = ((inI a = true ∧ inI b = true) ∧ (b ≤ a → G sp sc [81, 203, 240] d mX11_init n 229 L r h Q) ∧ (¬ (b ≤ a) → G sp sc [81, 203, 240] d mX11_init n 209 L r h Q))) ∧
  (∀ (n d : Nat) (L : List (Option iV)) (st : List iV) (h : iH) (Q : Option iV → iH → Prop), G sp sc [81, 203, 240] d mX11_init (n + 1) 209 L st h Q = (match ld L 0 with | some (.inr (.inr (r + 1))) => G sp sc [81, 203, 240] d mX11_init n 210 L (.inr (.inr (r + 1)) :: st) h Q | _ => False)) ∧
  (∀ (n d : Nat) (L : List (Option iV)) (r : List iV) (m : Nat) (h : iH) (Q : Option iV → iH → Prop), G sp sc [81, 203, 240] d mX11_init (n + 1) 210 L (.inr (.inr (m + 2)) :: r) h Q = (match h.1[m]? with | some (.inl (ci, fs)) => (match lkF 11 63 ci with | some k => (match fs[k]? with | some v => G sp sc [81, 203, 240] d mX11_init n 213 L (v :: r) h Q | none => False) | none => False) | _ => False)) ∧
  (∀ (n d : Nat) (L : List (Option iV)) (st : List iV) (h : iH) (Q : Option iV → iH → Prop), G sp sc [81, 203, 240] d mX11_init (n + 1) 213 L st h Q = (match ld L 3 with | some (.inl x) => G sp sc [81, 203, 240] d mX11_init n 214 L (.inl x :: st) h Q | _ => False)) ∧
  (∀ (n d : Nat) (L : List (Option iV)) (a : Int) (r : List iV) (h : iH) (Q : Option iV → iH → Prop), G sp sc [81, 203, 240] d mX11_init (n + 1) 217 L (.inl a :: r) h Q = G sp sc [81, 203, 240] d mX11_init n 218 L (.inl a :: .inl a :: r) h Q) ∧
  (∀ (n d : Nat) (L : List (Option iV)) (a : Nat) (r : List iV) (h : iH) (Q : Option iV → iH → Prop), G sp sc [81, 203, 240] d mX11_init (n + 1) 217 L (.inr (.inr a) :: r) h Q = G sp sc [81, 203, 240] d mX11_init n 218 L (.inr (.inr a) :: .inr (.inr a) :: r) h Q) ∧
  (∀ (n d : Nat) (L : List (Option iV)) (st : List iV) (h : iH) (Q : Option iV → iH → Prop), G sp sc [81, 203, 240] d mX11_init (n + 1) 218 L st h Q = (match ld L 1 with | some (.inr (.inr (r + 1))) => G sp sc [81, 203, 240] d mX11_init n 219 L (.inr (.inr (r + 1)) :: st) h Q | _ => False)) ∧
  (∀ (n d : Nat) (L : List (Option iV)) (r : List iV) (m : Nat) (z0 : iV) (h : iH) (Q : Option iV → iH → Prop), G sp sc [81, 203, 240] (d + 1) mX11_init (n + 1) 219 L (z0 :: .inr (.inr (m + 2)) :: r) h Q = (match h.1[m]? with | some (.inl (ci, _)) => cs r ≤ 8 ∧ Call sp sc d mX5_init [.inr (.inr (m + 2)), z0] h (fun q h1 => GC sp sc [81, 203, 240] (d + 1) mX11_init n 222 L q r h h1 Q) | _ => False)) ∧
  (∀ (n d : Nat) (L : List (Option iV)) (r : List iV) (v : Nat) (j : Int) (m : Nat) (h : iH) (Q : Option iV → iH → Prop), G sp sc [81, 203, 240] d mX11_init (n + 1) 222 L (.inr (.inr (v + 2)) :: .inl j :: .inr (.inr (m + 2)) :: r) h Q = (match h.1[m]? with | some (.inr (.inr (t, rs))) => (match h.1[v]? with | some (.inl (ci, _)) => (inA j rs.length = true ∧ asT t ci = true) ∧ G sp sc [81, 203, 240] d mX11_init n 223 L r (h.1.set m (.inr (.inr (t, rs.set j.toNat (v + 2)))), h.2) Q | _ => False) | _ => False)) ∧
  (∀ (n d : Nat) (L : List (Option iV)) (st : List iV) (h : iH) (Q : Option iV → iH → Prop), G sp sc [81, 203, 240] d mX11_init (n + 1) 223 L st h Q = (match ld L 3 with | some (.inl x) => (match st1 L 3 (.inl (x + 1)) with | some L' => G sp sc [81, 203, 240] d mX11_init n 226 L' st h Q | none => False) | _ => False)) ∧
  (∀ (n d : Nat) (L : List (Option iV)) (st : List iV) (h : iH) (Q : Option iV → iH → Prop), G sp sc [81, 203, 240] d mX11_init (n + 1) 226 L st h Q = Run sp sc d mX11_init 203 L st h Q) ∧
  (∀ (n d : Nat) (L : List (Option iV)) (st : List iV) (h : iH) (Q : Option iV → iH → Prop), G sp sc [81, 203, 240] d mX11_init (n + 1) 229 L st h Q = (match ld L 0 with | some (.inr (.inr (r + 1))) => G sp sc [81, 203, 240] d mX11_init n 230 L (.inr (.inr (r + 1)) :: st) h Q | _ => False)) ∧
  (∀ (n d : Nat) (L : List (Option iV)) (st : List iV) (h : iH) (Q : Option iV → iH → Prop), G sp sc [81, 203, 240] d mX11_init (n + 1) 230 L st h Q = ((-128 ≤ (7 : Int) ∧ (7 : Int) < 128) ∧ G sp sc [81, 203, 240] d mX11_init n 232 L (.inl 7 :: st) h Q)) ∧
  (∀ (n d : Nat) (L : List (Option iV)) (r : List iV) (v : iV) (m : Nat) (h : iH) (Q : Option iV → iH → Prop), G sp sc [81, 203, 240] d mX11_init (n + 1) 235 L (v :: .inr (.inr (m + 2)) :: r) h Q = (match h.1[m]? with | some (.inl (ci, fs)) => (match lkF 11 70 ci with | some k => (fitV (tyT ci k) v = true ∧ k < fs.length ∧ pOK 11 true ci k = true) ∧ G sp sc [81, 203, 240] d mX11_init n 238 L r (h.1.set m (.inl (ci, fs.set k v)), h.2) Q | none => False) | _ => False)) ∧
  (∀ (n d : Nat) (L : List (Option iV)) (st : List iV) (h : iH) (Q : Option iV → iH → Prop), G sp sc [81, 203, 240] d mX11_init (n + 1) 238 L st h Q = G sp sc [81, 203, 240] d mX11_init n 239 L (.inl 0 :: st) h Q) ∧
  (∀ (n d : Nat) (L : List (Option iV)) (r : List iV) (x : Int) (h : iH) (Q : Option iV → iH → Prop), G sp sc [81, 203, 240] d mX11_init (n + 1) 239 L (.inl x :: r) h Q = (match st1 L 3 (.inl x) with | some L' => Run sp sc d mX11_init 240 L' r h Q | none => False)) ∧
  (∀ (n d : Nat) (L : List (Option iV)) (st : List iV) (h : iH) (Q : Option iV → iH → Prop), G sp sc [81, 203, 240] d mX11_init (n + 1) 240 L st h Q = (match ld L 3 with | some (.inl x) => G sp sc [81, 203, 240] d mX11_init n 241 L (.inl x :: st) h Q | _ => False)) ∧
  (∀ (n d : Nat) (L : List (Option iV)) (st : List iV) (h : iH) (Q : Option iV → iH → Prop), G sp sc [81, 203, 240] d mX11_init (n + 1) 241 L st h Q = ((-128 ≤ (6 : Int) ∧ (6 : Int) < 128) ∧ G sp sc [81, 203, 240] d mX11_init n 243 L (.inl 6 :: st) h Q)) ∧
  (∀ (n d : Nat) (L : List (Option iV)) (a : Int) (b : Int) (r : List iV) (h : iH) (Q : Option iV → iH → Prop), G sp sc [81, 203, 240] d mX11_init (n + 1) 243 L (.inl b :: .inl a :: r) h Q = ((inI a = true ∧ inI b = true) ∧ (b < a → G sp sc [81, 203, 240] d mX11_init n 265 L r h Q) ∧ (¬ (b < a) → G sp sc [81, 203, 240] d mX11_init n 246 L r h Q))) ∧
  (∀ (n d : Nat) (L : List (Option iV)) (st : List iV) (h : iH) (Q : Option iV → iH → Prop), G sp sc [81, 203, 240] d mX11_init (n + 1) 246 L st h Q = (match ld L 0 with | some (.inr (.inr (r + 1))) => G sp sc [81, 203, 240] d mX11_init n 247 L (.inr (.inr (r + 1)) :: st) h Q | _ => False)) ∧
  (∀ (n d : Nat) (L : List (Option iV)) (r : List iV) (m : Nat) (h : iH) (Q : Option iV → iH → Prop), G sp sc [81, 203, 240] d mX11_init (n + 1) 247 L (.inr (.inr (m + 2)) :: r) h Q = (match h.1[m]? with | some (.inl (ci, fs)) => (match lkF 11 70 ci with | some k => (match fs[k]? with | some v => G sp sc [81, 203, 240] d mX11_init n 250 L (v :: r) h Q | none => False) | none => False) | _ => False)) ∧
  (∀ (n d : Nat) (L : List (Option iV)) (st : List iV) (h : iH) (Q : Option iV → iH → Prop), G sp sc [81, 203, 240] d mX11_init (n + 1) 250 L st h Q = (match ld L 3 with | some (.inl x) => G sp sc [81, 203, 240] d mX11_init n 251 L (.inl x :: st) h Q | _ => False)) ∧
  (∀ (n d : Nat) (L : List (Option iV)) (a : Int) (r : List iV) (h : iH) (Q : Option iV → iH → Prop), G sp sc [81, 203, 240] d mX11_init (n + 1) 254 L (.inl a :: r) h Q = G sp sc [81, 203, 240] d mX11_init n 255 L (.inl a :: .inl a :: r) h Q) ∧
  (∀ (n d : Nat) (L : List (Option iV)) (a : Nat) (r : List iV) (h : iH) (Q : Option iV → iH → Prop), G sp sc [81, 203, 240] d mX11_init (n + 1) 254 L (.inr (.inr a) :: r) h Q = G sp sc [81, 203, 240] d mX11_init n 255 L (.inr (.inr a) :: .inr (.inr a) :: r) h Q) ∧
  (∀ (n d : Nat) (L : List (Option iV)) (r : List iV) (m : Nat) (h : iH) (Q : Option iV → iH → Prop), G sp sc [81, 203, 240] (d + 1) mX11_init (n + 1) 255 L (.inr (.inr (m + 2)) :: r) h Q = (match h.1[m]? with | some (.inl (ci, _)) => cs r ≤ 8 ∧ Call sp sc d mX2_init [.inr (.inr (m + 2))] h (fun q h1 => GC sp sc [81, 203, 240] (d + 1) mX11_init n 258 L q r h h1 Q) | _ => False)) ∧
  (∀ (n d : Nat) (L : List (Option iV)) (r : List iV) (v : Nat) (j : Int) (m : Nat) (h : iH) (Q : Option iV → iH → Prop), G sp sc [81, 203, 240] d mX11_init (n + 1) 258 L (.inr (.inr (v + 2)) :: .inl j :: .inr (.inr (m + 2)) :: r) h Q = (match h.1[m]? with | some (.inr (.inr (t, rs))) => (match h.1[v]? with | some (.inl (ci, _)) => (inA j rs.length = true ∧ asT t ci = true) ∧ G sp sc [81, 203, 240] d mX11_init n 259 L r (h.1.set m (.inr (.inr (t, rs.set j.toNat (v + 2)))), h.2) Q | _ => False) | _ => False)) ∧
  (∀ (n d : Nat) (L : List (Option iV)) (st : List iV) (h : iH) (Q : Option iV → iH → Prop), G sp sc [81, 203, 240] d mX11_init (n + 1) 259 L st h Q = (match ld L 3 with | some (.inl x) => (match st1 L 3 (.inl (x + 1)) with | some L' => G sp sc [81, 203, 240] d mX11_init n 262 L' st h Q | none => False) | _ => False)) ∧
  (∀ (n d : Nat) (L : List (Option iV)) (st : List iV) (h : iH) (Q : Option iV → iH → Prop), G sp sc [81, 203, 240] d mX11_init (n + 1) 262 L st h Q = Run sp sc d mX11_init 240 L st h Q) ∧
  (∀ (n d : Nat) (L : List (Option iV))  (h : iH) (Q : Option iV → iH → Prop), G sp sc [81, 203, 240] d mX11_init (n + 1) 265 L [] h Q = Q none h) ∧
  lkF 11 17 11 = some 2 ∧
  lkF 11 28 11 = some 6 ∧
  lkF 11 32 11 = some 3 ∧
  lkF 11 38 11 = some 5 ∧
  lkF 11 42 11 = some 0 ∧
  lkF 11 63 11 = some 1 ∧
  lkF 11 70 11 = some 7 ∧
  pOK 11 true 11 0 = true ∧
  pOK 11 true 11 1 = true ∧
  pOK 11 true 11 2 = true ∧
  pOK 11 true 11 3 = true ∧
  pOK 11 true 11 5 = true ∧
  pOK 11 true 11 6 = true ∧
  pOK 11 true 11 7 = true := ⟨by intros; exact G_at (by decide +kernel : fetch mX11_init 0 = some (.aload_n 0)),
  by intros; exact G_obj (by decide +kernel : fetch mX11_init 1 = some (.invokespecial 1)) (by decide +kernel),
  by intros; exact G_at (by decide +kernel : fetch mX11_init 7 = some (.dup)),
  by intros; exact G_at (by decide +kernel : fetch mX11_init 7 = some (.dup)),
  by intros; exact G_at (by decide +kernel : fetch mX11_init 8 = some (.iconst 0)),
  by intros; exact G_callP (k := 1) (kd := 4) (by decide +kernel : fetch mX11_init 9 = some (.invokespecial 9)) (by decide +kernel) (by decide +kernel) rfl (by decide),
  by intros; exact G_at (by decide +kernel : fetch mX11_init 12 = some (.astore_n 1)),
  by intros; exact G_at (by decide +kernel : fetch mX11_init 16 = some (.dup)),
  by intros; exact G_at (by decide +kernel : fetch mX11_init 16 = some (.dup)),
  by intros; exact G_at (by decide +kernel : fetch mX11_init 17 = some (.aload_n 1)),
  by intros; exact G_callP (k := 1) (kd := 4) (by decide +kernel : fetch mX11_init 18 = some (.invokespecial 14)) (by decide +kernel) (by decide +kernel) rfl (by decide),
  by intros; exact G_at (by decide +kernel : fetch mX11_init 21 = some (.astore_n 2)),
  by intros; exact G_at (by decide +kernel : fetch mX11_init 22 = some (.aload_n 0)),
  by intros; exact G_at (by decide +kernel : fetch mX11_init 23 = some (.aload_n 2)),
  by intros; exact G_ownW (by decide +kernel : fetch mX11_init 24 = some (.putfield 17)) (by decide +kernel) (by decide +kernel),
  by intros; exact G_at (by decide +kernel : fetch mX11_init 27 = some (.aload_n 0)),
  by intros; exact G_at (by decide +kernel : fetch mX11_init 31 = some (.dup)),
  by intros; exact G_at (by decide +kernel : fetch mX11_init 31 = some (.dup)),
  by intros; exact G_at (by decide +kernel : fetch mX11_init 32 = some (.aload_n 2)),
  by intros; exact G_callP (k := 1) (kd := 4) (by decide +kernel : fetch mX11_init 33 = some (.invokespecial 25)) (by decide +kernel) (by decide +kernel) rfl (by decide),
  by intros; exact G_ownW (by decide +kernel : fetch mX11_init 36 = some (.putfield 28)) (by decide +kernel) (by decide +kernel),
  by intros; exact G_at (by decide +kernel : fetch mX11_init 39 = some (.aload_n 0)),
  by intros; exact G_at (by decide +kernel : fetch mX11_init 43 = some (.dup)),
  by intros; exact G_at (by decide +kernel : fetch mX11_init 43 = some (.dup)),
  by intros; exact G_at (by decide +kernel : fetch mX11_init 44 = some (.aload_n 1)),
  by intros; exact G_callP (k := 1) (kd := 4) (by decide +kernel : fetch mX11_init 45 = some (.invokespecial 14)) (by decide +kernel) (by decide +kernel) rfl (by decide),
  by intros; exact G_ownW (by decide +kernel : fetch mX11_init 48 = some (.putfield 32)) (by decide +kernel) (by decide +kernel),
  by intros; exact G_at (by decide +kernel : fetch mX11_init 51 = some (.aload_n 0)),
  by intros; exact G_at (by decide +kernel : fetch mX11_init 55 = some (.dup)),
  by intros; exact G_at (by decide +kernel : fetch mX11_init 55 = some (.dup)),
  by intros; exact G_at (by decide +kernel : fetch mX11_init 59 = some (.dup)),
  by intros; exact G_at (by decide +kernel : fetch mX11_init 59 = some (.dup)),
  by intros; exact G_at (by decide +kernel : fetch mX11_init 60 = some (.aload_n 1)),
  by intros; exact G_callP (k := 1) (kd := 4) (by decide +kernel : fetch mX11_init 61 = some (.invokespecial 14)) (by decide +kernel) (by decide +kernel) rfl (by decide),
  by intros; exact G_callP (k := 1) (kd := 4) (by decide +kernel : fetch mX11_init 64 = some (.invokespecial 37)) (by decide +kernel) (by decide +kernel) rfl (by decide),
  by intros; exact G_ownW (by decide +kernel : fetch mX11_init 67 = some (.putfield 38)) (by decide +kernel) (by decide +kernel),
  by intros; exact G_at (by decide +kernel : fetch mX11_init 70 = some (.aload_n 0)),
  by intros; exact G_at (by decide +kernel : fetch mX11_init 71 = some (.bipush 60)),
  by intros; exact G_ownW (by decide +kernel : fetch mX11_init 76 = some (.putfield 42)) (by decide +kernel) (by decide +kernel),
  by intros; exact G_at (by decide +kernel : fetch mX11_init 79 = some (.iconst 0)),
  by intros; exact G_at (by decide +kernel : fetch mX11_init 80 = some (.istore_n 3)),
  by intros; exact G_at (by decide +kernel : fetch mX11_init 81 = some (.iload_n 3)),
  by intros; exact G_at (by decide +kernel : fetch mX11_init 82 = some (.bipush 10)),
  by intros; exact G_at (by decide +kernel : fetch mX11_init 84 = some (.if_icmp .ge 108)),
  by intros; exact G_at (by decide +kernel : fetch mX11_init 87 = some (.aload_n 0)),
  by intros; exact G_own (by decide +kernel : fetch mX11_init 88 = some (.getfield 42)) (by decide +kernel),
  by intros; exact G_at (by decide +kernel : fetch mX11_init 91 = some (.iload_n 3)),
  by intros; exact G_at (by decide +kernel : fetch mX11_init 95 = some (.dup)),
  by intros; exact G_at (by decide +kernel : fetch mX11_init 95 = some (.dup)),
  by intros; exact G_at (by decide +kernel : fetch mX11_init 96 = some (.iload_n 3)),
  by intros; exact G_callP (k := 1) (kd := 4) (by decide +kernel : fetch mX11_init 97 = some (.invokespecial 9)) (by decide +kernel) (by decide +kernel) rfl (by decide),
  by intros; exact G_at (by decide +kernel : fetch mX11_init 100 = some (.aastore)),
  by intros; exact G_at (by decide +kernel : fetch mX11_init 101 = some (.aload_n 0)),
  by intros; exact G_own (by decide +kernel : fetch mX11_init 102 = some (.getfield 42)) (by decide +kernel),
  by intros; exact G_at (by decide +kernel : fetch mX11_init 105 = some (.bipush 10)),
  by intros; exact G_at (by decide +kernel : fetch mX11_init 107 = some (.iload_n 3)),
  by intros; exact G_at (by decide +kernel : fetch mX11_init 108 = some (.iadd)),
  by intros; exact G_at (by decide +kernel : fetch mX11_init 112 = some (.dup)),
  by intros; exact G_at (by decide +kernel : fetch mX11_init 112 = some (.dup)),
  by intros; exact G_at (by decide +kernel : fetch mX11_init 113 = some (.iload_n 3)),
  by intros; exact G_callP (k := 1) (kd := 4) (by decide +kernel : fetch mX11_init 114 = some (.invokespecial 48)) (by decide +kernel) (by decide +kernel) rfl (by decide),
  by intros; exact G_at (by decide +kernel : fetch mX11_init 117 = some (.aastore)),
  by intros; exact G_at (by decide +kernel : fetch mX11_init 118 = some (.aload_n 0)),
  by intros; exact G_own (by decide +kernel : fetch mX11_init 119 = some (.getfield 42)) (by decide +kernel),
  by intros; exact G_at (by decide +kernel : fetch mX11_init 122 = some (.bipush 20)),
  by intros; exact G_at (by decide +kernel : fetch mX11_init 124 = some (.iload_n 3)),
  by intros; exact G_at (by decide +kernel : fetch mX11_init 125 = some (.iadd)),
  by intros; exact G_at (by decide +kernel : fetch mX11_init 129 = some (.dup)),
  by intros; exact G_at (by decide +kernel : fetch mX11_init 129 = some (.dup)),
  by intros; exact G_at (by decide +kernel : fetch mX11_init 130 = some (.iload_n 3)),
  by intros; exact G_callP (k := 1) (kd := 4) (by decide +kernel : fetch mX11_init 131 = some (.invokespecial 51)) (by decide +kernel) (by decide +kernel) rfl (by decide),
  by intros; exact G_at (by decide +kernel : fetch mX11_init 134 = some (.aastore)),
  by intros; exact G_at (by decide +kernel : fetch mX11_init 135 = some (.aload_n 0)),
  by intros; exact G_own (by decide +kernel : fetch mX11_init 136 = some (.getfield 42)) (by decide +kernel),
  by intros; exact G_at (by decide +kernel : fetch mX11_init 139 = some (.bipush 30)),
  by intros; exact G_at (by decide +kernel : fetch mX11_init 141 = some (.iload_n 3)),
  by intros; exact G_at (by decide +kernel : fetch mX11_init 142 = some (.iadd)),
  by intros; exact G_at (by decide +kernel : fetch mX11_init 146 = some (.dup)),
  by intros; exact G_at (by decide +kernel : fetch mX11_init 146 = some (.dup)),
  by intros; exact G_at (by decide +kernel : fetch mX11_init 147 = some (.iload_n 3)),
  by intros; exact G_callP (k := 1) (kd := 4) (by decide +kernel : fetch mX11_init 148 = some (.invokespecial 54)) (by decide +kernel) (by decide +kernel) rfl (by decide),
  by intros; exact G_at (by decide +kernel : fetch mX11_init 151 = some (.aastore)),
  by intros; exact G_at (by decide +kernel : fetch mX11_init 152 = some (.aload_n 0)),
  by intros; exact G_own (by decide +kernel : fetch mX11_init 153 = some (.getfield 42)) (by decide +kernel),
  by intros; exact G_at (by decide +kernel : fetch mX11_init 156 = some (.bipush 40)),
  by intros; exact G_at (by decide +kernel : fetch mX11_init 158 = some (.iload_n 3)),
  by intros; exact G_at (by decide +kernel : fetch mX11_init 159 = some (.iadd)),
  by intros; exact G_at (by decide +kernel : fetch mX11_init 163 = some (.dup)),
  by intros; exact G_at (by decide +kernel : fetch mX11_init 163 = some (.dup)),
  by intros; exact G_at (by decide +kernel : fetch mX11_init 164 = some (.iload_n 3)),
  by intros; exact G_callP (k := 1) (kd := 4) (by decide +kernel : fetch mX11_init 165 = some (.invokespecial 57)) (by decide +kernel) (by decide +kernel) rfl (by decide),
  by intros; exact G_at (by decide +kernel : fetch mX11_init 168 = some (.aastore)),
  by intros; exact G_at (by decide +kernel : fetch mX11_init 169 = some (.aload_n 0)),
  by intros; exact G_own (by decide +kernel : fetch mX11_init 170 = some (.getfield 42)) (by decide +kernel),
  by intros; exact G_at (by decide +kernel : fetch mX11_init 173 = some (.bipush 50)),
  by intros; exact G_at (by decide +kernel : fetch mX11_init 175 = some (.iload_n 3)),
  by intros; exact G_at (by decide +kernel : fetch mX11_init 176 = some (.iadd)),
  by intros; exact G_at (by decide +kernel : fetch mX11_init 180 = some (.dup)),
  by intros; exact G_at (by decide +kernel : fetch mX11_init 180 = some (.dup)),
  by intros; exact G_at (by decide +kernel : fetch mX11_init 181 = some (.iload_n 3)),
  by intros; exact G_callP (k := 1) (kd := 4) (by decide +kernel : fetch mX11_init 182 = some (.invokespecial 60)) (by decide +kernel) (by decide +kernel) rfl (by decide),
  by intros; exact G_at (by decide +kernel : fetch mX11_init 185 = some (.aastore)),
  by intros; exact G_at (by decide +kernel : fetch mX11_init 186 = some (.iinc 3 1)),
  by intros; exact G_at (by decide +kernel : fetch mX11_init 189 = some (.goto (-108))),
  by intros; exact G_at (by decide +kernel : fetch mX11_init 192 = some (.aload_n 0)),
  by intros; exact G_at (by decide +kernel : fetch mX11_init 193 = some (.bipush 8)),
  by intros; exact G_ownW (by decide +kernel : fetch mX11_init 198 = some (.putfield 63)) (by decide +kernel) (by decide +kernel),
  by intros; exact G_at (by decide +kernel : fetch mX11_init 201 = some (.iconst 0)),
  by intros; exact G_at (by decide +kernel : fetch mX11_init 202 = some (.istore_n 3)),
  by intros; exact G_at (by decide +kernel : fetch mX11_init 203 = some (.iload_n 3)),
  by intros; exact G_at (by decide +kernel : fetch mX11_init 204 = some (.bipush 8)),
  by intros; exact G_at (by decide +kernel : fetch mX11_init 206 = some (.if_icmp .ge 23)),
  by intros; exact G_at (by decide +kernel : fetch mX11_init 209 = some (.aload_n 0)),
  by intros; exact G_own (by decide +kernel : fetch mX11_init 210 = some (.getfield 63)) (by decide +kernel),
  by intros; exact G_at (by decide +kernel : fetch mX11_init 213 = some (.iload_n 3)),
  by intros; exact G_at (by decide +kernel : fetch mX11_init 217 = some (.dup)),
  by intros; exact G_at (by decide +kernel : fetch mX11_init 217 = some (.dup)),
  by intros; exact G_at (by decide +kernel : fetch mX11_init 218 = some (.aload_n 1)),
  by intros; exact G_callP (k := 1) (kd := 4) (by decide +kernel : fetch mX11_init 219 = some (.invokespecial 67)) (by decide +kernel) (by decide +kernel) rfl (by decide),
  by intros; exact G_at (by decide +kernel : fetch mX11_init 222 = some (.aastore)),
  by intros; exact G_at (by decide +kernel : fetch mX11_init 223 = some (.iinc 3 1)),
  by intros; exact G_at (by decide +kernel : fetch mX11_init 226 = some (.goto (-23))),
  by intros; exact G_at (by decide +kernel : fetch mX11_init 229 = some (.aload_n 0)),
  by intros; exact G_at (by decide +kernel : fetch mX11_init 230 = some (.bipush 7)),
  by intros; exact G_ownW (by decide +kernel : fetch mX11_init 235 = some (.putfield 70)) (by decide +kernel) (by decide +kernel),
  by intros; exact G_at (by decide +kernel : fetch mX11_init 238 = some (.iconst 0)),
  by intros; exact G_at (by decide +kernel : fetch mX11_init 239 = some (.istore_n 3)),
  by intros; exact G_at (by decide +kernel : fetch mX11_init 240 = some (.iload_n 3)),
  by intros; exact G_at (by decide +kernel : fetch mX11_init 241 = some (.bipush 6)),
  by intros; exact G_at (by decide +kernel : fetch mX11_init 243 = some (.if_icmp .gt 22)),
  by intros; exact G_at (by decide +kernel : fetch mX11_init 246 = some (.aload_n 0)),
  by intros; exact G_own (by decide +kernel : fetch mX11_init 247 = some (.getfield 70)) (by decide +kernel),
  by intros; exact G_at (by decide +kernel : fetch mX11_init 250 = some (.iload_n 3)),
  by intros; exact G_at (by decide +kernel : fetch mX11_init 254 = some (.dup)),
  by intros; exact G_at (by decide +kernel : fetch mX11_init 254 = some (.dup)),
  by intros; exact G_callP (k := 0) (kd := 5) (by decide +kernel : fetch mX11_init 255 = some (.invokespecial 74)) (by decide +kernel) (by decide +kernel) rfl (by decide),
  by intros; exact G_at (by decide +kernel : fetch mX11_init 258 = some (.aastore)),
  by intros; exact G_at (by decide +kernel : fetch mX11_init 259 = some (.iinc 3 1)),
  by intros; exact G_at (by decide +kernel : fetch mX11_init 262 = some (.goto (-22))),
  by intros; exact G_retv (by decide +kernel : fetch mX11_init 265 = some (.return_)) (by decide +kernel),
  by decide +kernel,
  by decide +kernel,
  by decide +kernel,
  by decide +kernel,
  by decide +kernel,
  by decide +kernel,
  by decide +kernel,
  by decide +kernel,
  by decide +kernel,
  by decide +kernel,
  by decide +kernel,
  by decide +kernel,
  by decide +kernel,
  by decide +kernel⟩
theorem gX11_valley : (∀ (n d : Nat) (L : List (Option iV)) (st : List iV) (h : iH) (Q : Option iV → iH → Prop), G sp sc [76] d mX11_valley (n + 1) 0 L st h Q = (match ld L 1 with | some (.inl x) => G sp sc [76] d mX11_valley n 1 L (.inl x :: st) h Q | _ => False)) ∧
  (∀ (n d : Nat) (L : List (Option iV)) (r : List iV) (z0 : iV) (h : iH) (Q : Option iV → iH → Prop), G sp sc [76] (d + 1) mX11_valley (n + 1) 1 L (z0 :: r) h Q = (cs r ≤ 8 ∧ Call sp sc d mX11_isShelf [z0] h (fun q h1 => GC sp sc [76] (d + 1) mX11_valley n 4 L q r h h1 Q))) ∧
  (∀ (n d : Nat) (L : List (Option iV)) (a : Int) (r : List iV) (h : iH) (Q : Option iV → iH → Prop), G sp sc [76] d mX11_valley (n + 1) 4 L (.inl a :: r) h Q = (inI a = true ∧ (¬ a = 0 → G sp sc [76] d mX11_valley n 9 L r h Q) ∧ (¬ (¬ a = 0) → G sp sc [76] d mX11_valley n 7 L r h Q))) ∧
  (∀ (n d : Nat) (L : List (Option iV)) (st : List iV) (h : iH) (Q : Option iV → iH → Prop), G sp sc [76] d mX11_valley (n + 1) 7 L st h Q = G sp sc [76] d mX11_valley n 8 L (.inl (-1) :: st) h Q) ∧
  (∀ (n d : Nat) (L : List (Option iV)) (a : Int) (h : iH) (Q : Option iV → iH → Prop), G sp sc [76] d mX11_valley (n + 1) 8 L [.inl a] h Q = Q (some (.inl a)) h) ∧
  (∀ (n d : Nat) (L : List (Option iV)) (st : List iV) (h : iH) (Q : Option iV → iH → Prop), G sp sc [76] d mX11_valley (n + 1) 9 L st h Q = (match ld L 0 with | some (.inr (.inr (r + 1))) => G sp sc [76] d mX11_valley n 10 L (.inr (.inr (r + 1)) :: st) h Q | _ => False)) ∧
  (∀ (n d : Nat) (L : List (Option iV)) (r : List iV) (m : Nat) (h : iH) (Q : Option iV → iH → Prop), G sp sc [76] d mX11_valley (n + 1) 10 L (.inr (.inr (m + 2)) :: r) h Q = (match h.1[m]? with | some (.inl (ci, fs)) => (match lkF 11 63 ci with | some k => (match fs[k]? with | some v => G sp sc [76] d mX11_valley n 13 L (v :: r) h Q | none => False) | none => False) | _ => False)) ∧
  (∀ (n d : Nat) (L : List (Option iV)) (st : List iV) (h : iH) (Q : Option iV → iH → Prop), G sp sc [76] d mX11_valley (n + 1) 13 L st h Q = (match ld L 1 with | some (.inl x) => G sp sc [76] d mX11_valley n 14 L (.inl x :: st) h Q | _ => False)) ∧
  (∀ (n d : Nat) (L : List (Option iV)) (r : List iV) (j : Int) (m : Nat) (h : iH) (Q : Option iV → iH → Prop), G sp sc [76] d mX11_valley (n + 1) 14 L (.inl j :: .inr (.inr (m + 2)) :: r) h Q = (match h.1[m]? with | some (.inr (.inr (t, rs))) => (inA j rs.length = true ∧ 3 ≤ t ∧ t < 6) ∧ G sp sc [76] d mX11_valley n 15 L (.inr (.inr (rs.getD j.toNat 0)) :: r) h Q | _ => False)) ∧
  (∀ (n d : Nat) (L : List (Option iV)) (r : List iV) (x : Nat) (h : iH) (Q : Option iV → iH → Prop), G sp sc [76] d mX11_valley (n + 1) 15 L (.inr (.inr (x + 1)) :: r) h Q = (match st1 L 2 (.inr (.inr (x + 1))) with | some L' => G sp sc [76] d mX11_valley n 16 L' r h Q | none => False)) ∧
  (∀ (n d : Nat) (L : List (Option iV)) (st : List iV) (h : iH) (Q : Option iV → iH → Prop), G sp sc [76] d mX11_valley (n + 1) 16 L st h Q = (match ld L 2 with | some (.inr (.inr (r + 1))) => G sp sc [76] d mX11_valley n 17 L (.inr (.inr (r + 1)) :: st) h Q | _ => False)) ∧
  (∀ (n d : Nat) (L : List (Option iV)) (r : List iV) (m : Nat) (h : iH) (Q : Option iV → iH → Prop), G sp sc [76] d mX11_valley (n + 1) 17 L (.inr (.inr (m + 2)) :: r) h Q = (match h.1[m]? with | some (.inl (ci, fs)) => (match lkF 11 79 ci with | some k => (match fs[k]? with | some v => G sp sc [76] d mX11_valley n 20 L (v :: r) h Q | none => False) | none => False) | _ => False)) ∧
  (∀ (n d : Nat) (L : List (Option iV)) (a : Int) (r : List iV) (h : iH) (Q : Option iV → iH → Prop), G sp sc [76] d mX11_valley (n + 1) 20 L (.inl a :: r) h Q = (inI a = true ∧ (¬ a = 0 → G sp sc [76] d mX11_valley n 26 L r h Q) ∧ (¬ (¬ a = 0) → G sp sc [76] d mX11_valley n 23 L r h Q))) ∧
  (∀ (n d : Nat) (L : List (Option iV)) (st : List iV) (h : iH) (Q : Option iV → iH → Prop), G sp sc [76] d mX11_valley (n + 1) 23 L st h Q = ((-128 ≤ ((-11) : Int) ∧ ((-11) : Int) < 128) ∧ G sp sc [76] d mX11_valley n 25 L (.inl (-11) :: st) h Q)) ∧
  (∀ (n d : Nat) (L : List (Option iV)) (a : Int) (h : iH) (Q : Option iV → iH → Prop), G sp sc [76] d mX11_valley (n + 1) 25 L [.inl a] h Q = Q (some (.inl a)) h) ∧
  (∀ (n d : Nat) (L : List (Option iV)) (st : List iV) (h : iH) (Q : Option iV → iH → Prop), G sp sc [76] d mX11_valley (n + 1) 26 L st h Q = (match ld L 2 with | some (.inr (.inr (r + 1))) => G sp sc [76] d mX11_valley n 27 L (.inr (.inr (r + 1)) :: st) h Q | _ => False)) ∧
  (∀ (n d : Nat) (L : List (Option iV)) (r : List iV) (m : Nat) (h : iH) (Q : Option iV → iH → Prop), G sp sc [76] d mX11_valley (n + 1) 27 L (.inr (.inr (m + 2)) :: r) h Q = (match h.1[m]? with | some (.inl (ci, fs)) => (match lkF 11 79 ci with | some k => (match fs[k]? with | some v => G sp sc [76] d mX11_valley n 30 L (v :: r) h Q | none => False) | none => False) | _ => False)) ∧
  (∀ (n d : Nat) (L : List (Option iV)) (st : List iV) (h : iH) (Q : Option iV → iH → Prop), G sp sc [76] d mX11_valley (n + 1) 30 L st h Q = G sp sc [76] d mX11_valley n 31 L (.inl 2 :: st) h Q) ∧
  (∀ (n d : Nat) (L : List (Option iV)) (a : Int) (b : Int) (r : List iV) (h : iH) (Q : Option iV → iH → Prop), G sp sc [76] d mX11_valley (n + 1) 31 L (.inl b :: .inl a :: r) h Q = ((inI a = true ∧ inI b = true) ∧ (¬ a = b → G sp sc [76] d mX11_valley n 41 L r h Q) ∧ (¬ (¬ a = b) → G sp sc [76] d mX11_valley n 34 L r h Q))) ∧
  (∀ (n d : Nat) (L : List (Option iV)) (st : List iV) (h : iH) (Q : Option iV → iH → Prop), G sp sc [76] d mX11_valley (n + 1) 34 L st h Q = (match ld L 2 with | some (.inr (.inr (r + 1))) => G sp sc [76] d mX11_valley n 35 L (.inr (.inr (r + 1)) :: st) h Q | _ => False)) ∧
  (∀ (n d : Nat) (L : List (Option iV)) (r : List iV) (m : Nat) (h : iH) (Q : Option iV → iH → Prop), G sp sc [76] d mX11_valley (n + 1) 35 L (.inr (.inr (m + 2)) :: r) h Q = (match h.1[m]? with | some (.inl (ci, fs)) => (match lkF 11 83 ci with | some k => (match fs[k]? with | some v => G sp sc [76] d mX11_valley n 38 L (v :: r) h Q | none => False) | none => False) | _ => False)) ∧
  (∀ (n d : Nat) (L : List (Option iV)) (a : Int) (r : List iV) (h : iH) (Q : Option iV → iH → Prop), G sp sc [76] d mX11_valley (n + 1) 38 L (.inl a :: r) h Q = (inI a = true ∧ (a = 0 → G sp sc [76] d mX11_valley n 44 L r h Q) ∧ (¬ (a = 0) → G sp sc [76] d mX11_valley n 41 L r h Q))) ∧
  (∀ (n d : Nat) (L : List (Option iV)) (st : List iV) (h : iH) (Q : Option iV → iH → Prop), G sp sc [76] d mX11_valley (n + 1) 41 L st h Q = ((-128 ≤ ((-12) : Int) ∧ ((-12) : Int) < 128) ∧ G sp sc [76] d mX11_valley n 43 L (.inl (-12) :: st) h Q)) ∧
  (∀ (n d : Nat) (L : List (Option iV)) (a : Int) (h : iH) (Q : Option iV → iH → Prop), G sp sc [76] d mX11_valley (n + 1) 43 L [.inl a] h Q = Q (some (.inl a)) h) ∧
  (∀ (n d : Nat) (L : List (Option iV)) (st : List iV) (h : iH) (Q : Option iV → iH → Prop), G sp sc [76] d mX11_valley (n + 1) 44 L st h Q = (match ld L 2 with | some (.inr (.inr (r + 1))) => G sp sc [76] d mX11_valley n 45 L (.inr (.inr (r + 1)) :: st) h Q | _ => False)) ∧
  (∀ (n d : Nat) (L : List (Option iV)) (r : List iV) (z0 : iV) (h : iH) (Q : Option iV → iH → Prop), G sp sc [76] (d + 1) mX11_valley (n + 1) 45 L (z0 :: r) h Q = (cs r ≤ 8 ∧ Call sp sc d mX11_firstBadByte [z0] h (fun q h1 => GC sp sc [76] (d + 1) mX11_valley n 48 L q r h h1 Q))) ∧
  (∀ (n d : Nat) (L : List (Option iV)) (r : List iV) (x : Int) (h : iH) (Q : Option iV → iH → Prop), G sp sc [76] d mX11_valley (n + 1) 48 L (.inl x :: r) h Q = (match st1 L 3 (.inl x) with | some L' => G sp sc [76] d mX11_valley n 49 L' r h Q | none => False)) ∧
  (∀ (n d : Nat) (L : List (Option iV)) (st : List iV) (h : iH) (Q : Option iV → iH → Prop), G sp sc [76] d mX11_valley (n + 1) 49 L st h Q = (match ld L 3 with | some (.inl x) => G sp sc [76] d mX11_valley n 50 L (.inl x :: st) h Q | _ => False)) ∧
  (∀ (n d : Nat) (L : List (Option iV)) (a : Int) (r : List iV) (h : iH) (Q : Option iV → iH → Prop), G sp sc [76] d mX11_valley (n + 1) 50 L (.inl a :: r) h Q = (inI a = true ∧ (a < 0 → G sp sc [76] d mX11_valley n 59 L r h Q) ∧ (¬ (a < 0) → G sp sc [76] d mX11_valley n 53 L r h Q))) ∧
  (∀ (n d : Nat) (L : List (Option iV)) (st : List iV) (h : iH) (Q : Option iV → iH → Prop), G sp sc [76] d mX11_valley (n + 1) 53 L st h Q = ((-32768 ≤ ((-1000) : Int) ∧ ((-1000) : Int) < 32768) ∧ G sp sc [76] d mX11_valley n 56 L (.inl (-1000) :: st) h Q)) ∧
  (∀ (n d : Nat) (L : List (Option iV)) (st : List iV) (h : iH) (Q : Option iV → iH → Prop), G sp sc [76] d mX11_valley (n + 1) 56 L st h Q = (match ld L 3 with | some (.inl x) => G sp sc [76] d mX11_valley n 57 L (.inl x :: st) h Q | _ => False)) ∧
  (∀ (n d : Nat) (L : List (Option iV)) (a : Int) (b : Int) (r : List iV) (h : iH) (Q : Option iV → iH → Prop), G sp sc [76] d mX11_valley (n + 1) 57 L (.inl b :: .inl a :: r) h Q = G sp sc [76] d mX11_valley n 58 L (.inl (a - b) :: r) h Q) ∧
  (∀ (n d : Nat) (L : List (Option iV)) (a : Int) (h : iH) (Q : Option iV → iH → Prop), G sp sc [76] d mX11_valley (n + 1) 58 L [.inl a] h Q = Q (some (.inl a)) h) ∧
  (∀ (n d : Nat) (L : List (Option iV)) (st : List iV) (h : iH) (Q : Option iV → iH → Prop), G sp sc [76] d mX11_valley (n + 1) 59 L st h Q = (match ld L 0 with | some (.inr (.inr (r + 1))) => G sp sc [76] d mX11_valley n 60 L (.inr (.inr (r + 1)) :: st) h Q | _ => False)) ∧
  (∀ (n d : Nat) (L : List (Option iV)) (r : List iV) (m : Nat) (h : iH) (Q : Option iV → iH → Prop), G sp sc [76] d mX11_valley (n + 1) 60 L (.inr (.inr (m + 2)) :: r) h Q = (match h.1[m]? with | some (.inl (ci, fs)) => (match lkF 11 38 ci with | some k => (match fs[k]? with | some v => G sp sc [76] d mX11_valley n 63 L (v :: r) h Q | none => False) | none => False) | _ => False)) ∧
  (∀ (n d : Nat) (L : List (Option iV)) (st : List iV) (h : iH) (Q : Option iV → iH → Prop), G sp sc [76] d mX11_valley (n + 1) 63 L st h Q = (match ld L 0 with | some (.inr (.inr (r + 1))) => G sp sc [76] d mX11_valley n 64 L (.inr (.inr (r + 1)) :: st) h Q | _ => False)) ∧
  (∀ (n d : Nat) (L : List (Option iV)) (r : List iV) (m : Nat) (h : iH) (Q : Option iV → iH → Prop), G sp sc [76] d mX11_valley (n + 1) 64 L (.inr (.inr (m + 2)) :: r) h Q = (match h.1[m]? with | some (.inl (ci, fs)) => (match lkF 11 17 ci with | some k => (match fs[k]? with | some v => G sp sc [76] d mX11_valley n 67 L (v :: r) h Q | none => False) | none => False) | _ => False)) ∧
  (∀ (n d : Nat) (L : List (Option iV)) (r : List iV) (m : Nat) (z0 : iV) (h : iH) (Q : Option iV → iH → Prop), G sp sc [76] (d + 1) mX11_valley (n + 1) 67 L (z0 :: .inr (.inr (m + 2)) :: r) h Q = (match h.1[m]? with | some (.inl (ci, _)) => (match lkC 11 90 ci with | some (y1, n1, kd) => (n1 = 1 ∧ (kd = 2 ∨ kd = 3 ∨ kd = 8) ∧ cs r ≤ 8) ∧ Call sp sc d y1 [.inr (.inr (m + 2)), z0] h (fun q h1 => GC sp sc [76] (d + 1) mX11_valley n 70 L q r h h1 Q) | none => False) | _ => False)) ∧
  (∀ (n d : Nat) (L : List (Option iV)) (st : List iV) (h : iH) (Q : Option iV → iH → Prop), G sp sc [76] d mX11_valley (n + 1) 70 L st h Q = G sp sc [76] d mX11_valley n 71 L (.inl 0 :: st) h Q) ∧
  (∀ (n d : Nat) (L : List (Option iV)) (r : List iV) (x : Int) (h : iH) (Q : Option iV → iH → Prop), G sp sc [76] d mX11_valley (n + 1) 71 L (.inl x :: r) h Q = (match st1 L 4 (.inl x) with | some L' => G sp sc [76] d mX11_valley n 73 L' r h Q | none => False)) ∧
  (∀ (n d : Nat) (L : List (Option iV)) (st : List iV) (h : iH) (Q : Option iV → iH → Prop), G sp sc [76] d mX11_valley (n + 1) 73 L st h Q = G sp sc [76] d mX11_valley n 74 L (.inl 0 :: st) h Q) ∧
  (∀ (n d : Nat) (L : List (Option iV)) (r : List iV) (x : Int) (h : iH) (Q : Option iV → iH → Prop), G sp sc [76] d mX11_valley (n + 1) 74 L (.inl x :: r) h Q = (match st1 L 5 (.inl x) with | some L' => Run sp sc d mX11_valley 76 L' r h Q | none => False)) ∧
  (∀ (n d : Nat) (L : List (Option iV)) (st : List iV) (h : iH) (Q : Option iV → iH → Prop), G sp sc [76] d mX11_valley (n + 1) 76 L st h Q = (match ld L 5 with | some (.inl x) => G sp sc [76] d mX11_valley n 78 L (.inl x :: st) h Q | _ => False)) ∧
  (∀ (n d : Nat) (L : List (Option iV)) (st : List iV) (h : iH) (Q : Option iV → iH → Prop), G sp sc [76] d mX11_valley (n + 1) 78 L st h Q = (match ld L 2 with | some (.inr (.inr (r + 1))) => G sp sc [76] d mX11_valley n 79 L (.inr (.inr (r + 1)) :: st) h Q | _ => False)) ∧
  (∀ (n d : Nat) (L : List (Option iV)) (r : List iV) (m : Nat) (h : iH) (Q : Option iV → iH → Prop), G sp sc [76] d mX11_valley (n + 1) 79 L (.inr (.inr (m + 2)) :: r) h Q = (match h.1[m]? with | some (.inl (ci, fs)) => (match lkF 11 93 ci with | some k => (match fs[k]? with | some v => G sp sc [76] d mX11_valley n 82 L (v :: r) h Q | none => False) | none => False) | _ => False)) ∧
  (∀ (n d : Nat) (L : List (Option iV)) (a : Int) (b : Int) (r : List iV) (h : iH) (Q : Option iV → iH → Prop), G sp sc [76] d mX11_valley (n + 1) 82 L (.inl b :: .inl a :: r) h Q = ((inI a = true ∧ inI b = true) ∧ (b ≤ a → G sp sc [76] d mX11_valley n 123 L r h Q) ∧ (¬ (b ≤ a) → G sp sc [76] d mX11_valley n 85 L r h Q))) ∧
  (∀ (n d : Nat) (L : List (Option iV)) (st : List iV) (h : iH) (Q : Option iV → iH → Prop), G sp sc [76] d mX11_valley (n + 1) 85 L st h Q = (match ld L 2 with | some (.inr (.inr (r + 1))) => G sp sc [76] d mX11_valley n 86 L (.inr (.inr (r + 1)) :: st) h Q | _ => False)) ∧
  (∀ (n d : Nat) (L : List (Option iV)) (st : List iV) (h : iH) (Q : Option iV → iH → Prop), G sp sc [76] d mX11_valley (n + 1) 86 L st h Q = (match ld L 5 with | some (.inl x) => G sp sc [76] d mX11_valley n 88 L (.inl x :: st) h Q | _ => False)) ∧
  (∀ (n d : Nat) (L : List (Option iV)) (r : List iV) (m : Nat) (z0 : iV) (h : iH) (Q : Option iV → iH → Prop), G sp sc [76] (d + 1) mX11_valley (n + 1) 88 L (z0 :: .inr (.inr (m + 2)) :: r) h Q = (match h.1[m]? with | some (.inl (ci, _)) => (match lkC 11 96 ci with | some (y1, n1, kd) => (n1 = 1 ∧ (kd = 2 ∨ kd = 3 ∨ kd = 8) ∧ cs r ≤ 8) ∧ Call sp sc d y1 [.inr (.inr (m + 2)), z0] h (fun q h1 => GC sp sc [76] (d + 1) mX11_valley n 91 L q r h h1 Q) | none => False) | _ => False)) ∧
  (∀ (n d : Nat) (L : List (Option iV)) (r : List iV) (z0 : iV) (h : iH) (Q : Option iV → iH → Prop), G sp sc [76] (d + 1) mX11_valley (n + 1) 91 L (z0 :: r) h Q = (cs r ≤ 8 ∧ Call sp sc d mX11_digitsBehind [z0] h (fun q h1 => GC sp sc [76] (d + 1) mX11_valley n 94 L q r h h1 Q))) ∧
  (∀ (n d : Nat) (L : List (Option iV)) (a : Int) (r : List iV) (h : iH) (Q : Option iV → iH → Prop), G sp sc [76] d mX11_valley (n + 1) 94 L (.inl a :: r) h Q = (inI a = true ∧ (a ≤ 0 → G sp sc [76] d mX11_valley n 117 L r h Q) ∧ (¬ (a ≤ 0) → G sp sc [76] d mX11_valley n 97 L r h Q))) ∧
  (∀ (n d : Nat) (L : List (Option iV)) (st : List iV) (h : iH) (Q : Option iV → iH → Prop), G sp sc [76] d mX11_valley (n + 1) 97 L st h Q = (match ld L 0 with | some (.inr (.inr (r + 1))) => G sp sc [76] d mX11_valley n 98 L (.inr (.inr (r + 1)) :: st) h Q | _ => False)) ∧
  (∀ (n d : Nat) (L : List (Option iV)) (st : List iV) (h : iH) (Q : Option iV → iH → Prop), G sp sc [76] d mX11_valley (n + 1) 98 L st h Q = (match ld L 2 with | some (.inr (.inr (r + 1))) => G sp sc [76] d mX11_valley n 99 L (.inr (.inr (r + 1)) :: st) h Q | _ => False)) ∧
  (∀ (n d : Nat) (L : List (Option iV)) (st : List iV) (h : iH) (Q : Option iV → iH → Prop), G sp sc [76] d mX11_valley (n + 1) 99 L st h Q = (match ld L 5 with | some (.inl x) => G sp sc [76] d mX11_valley n 101 L (.inl x :: st) h Q | _ => False)) ∧
  (∀ (n d : Nat) (L : List (Option iV)) (r : List iV) (m : Nat) (z0 : iV) (z1 : iV) (h : iH) (Q : Option iV → iH → Prop), G sp sc [76] (d + 1) mX11_valley (n + 1) 101 L (z1 :: z0 :: .inr (.inr (m + 2)) :: r) h Q = (match h.1[m]? with | some (.inl (ci, _)) => (match lkC 11 103 ci with | some (y1, n1, kd) => (n1 = 2 ∧ (kd = 2 ∨ kd = 3 ∨ kd = 8) ∧ cs r ≤ 8) ∧ Call sp sc d y1 [.inr (.inr (m + 2)), z0, z1] h (fun q h1 => GC sp sc [76] (d + 1) mX11_valley n 104 L q r h h1 Q) | none => False) | _ => False)) ∧
  (∀ (n d : Nat) (L : List (Option iV)) (a : Int) (r : List iV) (h : iH) (Q : Option iV → iH → Prop), G sp sc [76] d mX11_valley (n + 1) 104 L (.inl a :: r) h Q = (inI a = true ∧ (¬ a = 0 → G sp sc [76] d mX11_valley n 114 L r h Q) ∧ (¬ (¬ a = 0) → G sp sc [76] d mX11_valley n 107 L r h Q))) ∧
  (∀ (n d : Nat) (L : List (Option iV)) (st : List iV) (h : iH) (Q : Option iV → iH → Prop), G sp sc [76] d mX11_valley (n + 1) 107 L st h Q = ((-32768 ≤ ((-2000) : Int) ∧ ((-2000) : Int) < 32768) ∧ G sp sc [76] d mX11_valley n 110 L (.inl (-2000) :: st) h Q)) ∧
  (∀ (n d : Nat) (L : List (Option iV)) (st : List iV) (h : iH) (Q : Option iV → iH → Prop), G sp sc [76] d mX11_valley (n + 1) 110 L st h Q = (match ld L 5 with | some (.inl x) => G sp sc [76] d mX11_valley n 112 L (.inl x :: st) h Q | _ => False)) ∧
  (∀ (n d : Nat) (L : List (Option iV)) (a : Int) (b : Int) (r : List iV) (h : iH) (Q : Option iV → iH → Prop), G sp sc [76] d mX11_valley (n + 1) 112 L (.inl b :: .inl a :: r) h Q = G sp sc [76] d mX11_valley n 113 L (.inl (a - b) :: r) h Q) ∧
  (∀ (n d : Nat) (L : List (Option iV)) (a : Int) (h : iH) (Q : Option iV → iH → Prop), G sp sc [76] d mX11_valley (n + 1) 113 L [.inl a] h Q = Q (some (.inl a)) h) ∧
  (∀ (n d : Nat) (L : List (Option iV)) (st : List iV) (h : iH) (Q : Option iV → iH → Prop), G sp sc [76] d mX11_valley (n + 1) 114 L st h Q = (match ld L 4 with | some (.inl x) => (match st1 L 4 (.inl (x + 1)) with | some L' => G sp sc [76] d mX11_valley n 117 L' st h Q | none => False) | _ => False)) ∧
  (∀ (n d : Nat) (L : List (Option iV)) (st : List iV) (h : iH) (Q : Option iV → iH → Prop), G sp sc [76] d mX11_valley (n + 1) 117 L st h Q = (match ld L 5 with | some (.inl x) => (match st1 L 5 (.inl (x + 1)) with | some L' => G sp sc [76] d mX11_valley n 120 L' st h Q | none => False) | _ => False)) ∧
  (∀ (n d : Nat) (L : List (Option iV)) (st : List iV) (h : iH) (Q : Option iV → iH → Prop), G sp sc [76] d mX11_valley (n + 1) 120 L st h Q = Run sp sc d mX11_valley 76 L st h Q) ∧
  (∀ (n d : Nat) (L : List (Option iV)) (st : List iV) (h : iH) (Q : Option iV → iH → Prop), G sp sc [76] d mX11_valley (n + 1) 123 L st h Q = (match ld L 0 with | some (.inr (.inr (r + 1))) => G sp sc [76] d mX11_valley n 124 L (.inr (.inr (r + 1)) :: st) h Q | _ => False)) ∧
  (∀ (n d : Nat) (L : List (Option iV)) (r : List iV) (m : Nat) (h : iH) (Q : Option iV → iH → Prop), G sp sc [76] d mX11_valley (n + 1) 124 L (.inr (.inr (m + 2)) :: r) h Q = (match h.1[m]? with | some (.inl (ci, fs)) => (match lkF 11 17 ci with | some k => (match fs[k]? with | some v => G sp sc [76] d mX11_valley n 127 L (v :: r) h Q | none => False) | none => False) | _ => False)) ∧
  (∀ (n d : Nat) (L : List (Option iV)) (st : List iV) (h : iH) (Q : Option iV → iH → Prop), G sp sc [76] d mX11_valley (n + 1) 127 L st h Q = (match ld L 0 with | some (.inr (.inr (r + 1))) => G sp sc [76] d mX11_valley n 128 L (.inr (.inr (r + 1)) :: st) h Q | _ => False)) ∧
  (∀ (n d : Nat) (L : List (Option iV)) (r : List iV) (m : Nat) (h : iH) (Q : Option iV → iH → Prop), G sp sc [76] d mX11_valley (n + 1) 128 L (.inr (.inr (m + 2)) :: r) h Q = (match h.1[m]? with | some (.inl (ci, fs)) => (match lkF 11 38 ci with | some k => (match fs[k]? with | some v => G sp sc [76] d mX11_valley n 131 L (v :: r) h Q | none => False) | none => False) | _ => False)) ∧
  (∀ (n d : Nat) (L : List (Option iV)) (r : List iV) (m : Nat) (h : iH) (Q : Option iV → iH → Prop), G sp sc [76] d mX11_valley (n + 1) 131 L (.inr (.inr (m + 2)) :: r) h Q = (match h.1[m]? with | some (.inl (ci, fs)) => (match lkF 11 107 ci with | some k => (match fs[k]? with | some v => G sp sc [76] d mX11_valley n 134 L (v :: r) h Q | none => False) | none => False) | _ => False)) ∧
  (∀ (n d : Nat) (L : List (Option iV)) (r : List iV) (m : Nat) (z0 : iV) (h : iH) (Q : Option iV → iH → Prop), G sp sc [76] (d + 1) mX11_valley (n + 1) 134 L (z0 :: .inr (.inr (m + 2)) :: r) h Q = (match h.1[m]? with | some (.inl (ci, _)) => (match lkC 11 110 ci with | some (y1, n1, kd) => (n1 = 1 ∧ (kd = 2 ∨ kd = 3 ∨ kd = 8) ∧ cs r ≤ 8) ∧ Call sp sc d y1 [.inr (.inr (m + 2)), z0] h (fun q h1 => GC sp sc [76] (d + 1) mX11_valley n 137 L q r h h1 Q) | none => False) | _ => False)) ∧
  (∀ (n d : Nat) (L : List (Option iV)) (st : List iV) (h : iH) (Q : Option iV → iH → Prop), G sp sc [76] d mX11_valley (n + 1) 137 L st h Q = (match ld L 4 with | some (.inl x) => G sp sc [76] d mX11_valley n 139 L (.inl x :: st) h Q | _ => False)) ∧
  (∀ (n d : Nat) (L : List (Option iV)) (a : Int) (h : iH) (Q : Option iV → iH → Prop), G sp sc [76] d mX11_valley (n + 1) 139 L [.inl a] h Q = Q (some (.inl a)) h) ∧
  lkC 11 103 11 = some (mX11_doStatement, 2, 2) ∧
  lkC 11 110 8 = some (mX8_takeFrom, 1, 2) ∧
  lkC 11 90 10 = some (mX10_begin, 1, 2) ∧
  lkC 11 96 5 = some (mX5_byteAt, 1, 2) ∧
  lkF 11 107 10 = some 0 ∧
  lkF 11 17 11 = some 2 ∧
  lkF 11 38 11 = some 5 ∧
  lkF 11 63 11 = some 1 ∧
  lkF 11 79 5 = some 0 ∧
  lkF 11 83 5 = some 2 ∧
  lkF 11 93 5 = some 3 := ⟨by intros; exact G_at (by decide +kernel : fetch mX11_valley 0 = some (.iload_n 1)),
  by intros; exact G_callS (k := 1) (kd := 0) (by decide +kernel : fetch mX11_valley 1 = some (.invokestatic 75)) (by decide +kernel) (by decide +kernel) (by decide +kernel) rfl (by decide),
  by intros; exact G_at (by decide +kernel : fetch mX11_valley 4 = some (.ifCond .ne 5)),
  by intros; exact G_at (by decide +kernel : fetch mX11_valley 7 = some (.iconst (-1))),
  by intros; exact G_reti (by decide +kernel : fetch mX11_valley 8 = some (.ireturn)) (by decide +kernel),
  by intros; exact G_at (by decide +kernel : fetch mX11_valley 9 = some (.aload_n 0)),
  by intros; exact G_own (by decide +kernel : fetch mX11_valley 10 = some (.getfield 63)) (by decide +kernel),
  by intros; exact G_at (by decide +kernel : fetch mX11_valley 13 = some (.iload_n 1)),
  by intros; exact G_at (by decide +kernel : fetch mX11_valley 14 = some (.aaload)),
  by intros; exact G_at (by decide +kernel : fetch mX11_valley 15 = some (.astore_n 2)),
  by intros; exact G_at (by decide +kernel : fetch mX11_valley 16 = some (.aload_n 2)),
  by intros; exact G_own (by decide +kernel : fetch mX11_valley 17 = some (.getfield 79)) (by decide +kernel),
  by intros; exact G_at (by decide +kernel : fetch mX11_valley 20 = some (.ifCond .ne 6)),
  by intros; exact G_at (by decide +kernel : fetch mX11_valley 23 = some (.bipush (-11))),
  by intros; exact G_reti (by decide +kernel : fetch mX11_valley 25 = some (.ireturn)) (by decide +kernel),
  by intros; exact G_at (by decide +kernel : fetch mX11_valley 26 = some (.aload_n 2)),
  by intros; exact G_own (by decide +kernel : fetch mX11_valley 27 = some (.getfield 79)) (by decide +kernel),
  by intros; exact G_at (by decide +kernel : fetch mX11_valley 30 = some (.iconst 2)),
  by intros; exact G_at (by decide +kernel : fetch mX11_valley 31 = some (.if_icmp .ne 10)),
  by intros; exact G_at (by decide +kernel : fetch mX11_valley 34 = some (.aload_n 2)),
  by intros; exact G_own (by decide +kernel : fetch mX11_valley 35 = some (.getfield 83)) (by decide +kernel),
  by intros; exact G_at (by decide +kernel : fetch mX11_valley 38 = some (.ifCond .eq 6)),
  by intros; exact G_at (by decide +kernel : fetch mX11_valley 41 = some (.bipush (-12))),
  by intros; exact G_reti (by decide +kernel : fetch mX11_valley 43 = some (.ireturn)) (by decide +kernel),
  by intros; exact G_at (by decide +kernel : fetch mX11_valley 44 = some (.aload_n 2)),
  by intros; exact G_callS (k := 1) (kd := 0) (by decide +kernel : fetch mX11_valley 45 = some (.invokestatic 86)) (by decide +kernel) (by decide +kernel) (by decide +kernel) rfl (by decide),
  by intros; exact G_at (by decide +kernel : fetch mX11_valley 48 = some (.istore_n 3)),
  by intros; exact G_at (by decide +kernel : fetch mX11_valley 49 = some (.iload_n 3)),
  by intros; exact G_at (by decide +kernel : fetch mX11_valley 50 = some (.ifCond .lt 9)),
  by intros; exact G_at (by decide +kernel : fetch mX11_valley 53 = some (.sipush (-1000))),
  by intros; exact G_at (by decide +kernel : fetch mX11_valley 56 = some (.iload_n 3)),
  by intros; exact G_at (by decide +kernel : fetch mX11_valley 57 = some (.isub)),
  by intros; exact G_reti (by decide +kernel : fetch mX11_valley 58 = some (.ireturn)) (by decide +kernel),
  by intros; exact G_at (by decide +kernel : fetch mX11_valley 59 = some (.aload_n 0)),
  by intros; exact G_own (by decide +kernel : fetch mX11_valley 60 = some (.getfield 38)) (by decide +kernel),
  by intros; exact G_at (by decide +kernel : fetch mX11_valley 63 = some (.aload_n 0)),
  by intros; exact G_own (by decide +kernel : fetch mX11_valley 64 = some (.getfield 17)) (by decide +kernel),
  by intros; exact G_callV (by decide +kernel : fetch mX11_valley 67 = some (.invokevirtual 90)) (by decide +kernel) (by decide +kernel) rfl,
  by intros; exact G_at (by decide +kernel : fetch mX11_valley 70 = some (.iconst 0)),
  by intros; exact G_at (by decide +kernel : fetch mX11_valley 71 = some (.istore 4)),
  by intros; exact G_at (by decide +kernel : fetch mX11_valley 73 = some (.iconst 0)),
  by intros; exact G_at (by decide +kernel : fetch mX11_valley 74 = some (.istore 5)),
  by intros; exact G_at (by decide +kernel : fetch mX11_valley 76 = some (.iload 5)),
  by intros; exact G_at (by decide +kernel : fetch mX11_valley 78 = some (.aload_n 2)),
  by intros; exact G_own (by decide +kernel : fetch mX11_valley 79 = some (.getfield 93)) (by decide +kernel),
  by intros; exact G_at (by decide +kernel : fetch mX11_valley 82 = some (.if_icmp .ge 41)),
  by intros; exact G_at (by decide +kernel : fetch mX11_valley 85 = some (.aload_n 2)),
  by intros; exact G_at (by decide +kernel : fetch mX11_valley 86 = some (.iload 5)),
  by intros; exact G_callV (by decide +kernel : fetch mX11_valley 88 = some (.invokevirtual 96)) (by decide +kernel) (by decide +kernel) rfl,
  by intros; exact G_callS (k := 1) (kd := 0) (by decide +kernel : fetch mX11_valley 91 = some (.invokestatic 100)) (by decide +kernel) (by decide +kernel) (by decide +kernel) rfl (by decide),
  by intros; exact G_at (by decide +kernel : fetch mX11_valley 94 = some (.ifCond .le 23)),
  by intros; exact G_at (by decide +kernel : fetch mX11_valley 97 = some (.aload_n 0)),
  by intros; exact G_at (by decide +kernel : fetch mX11_valley 98 = some (.aload_n 2)),
  by intros; exact G_at (by decide +kernel : fetch mX11_valley 99 = some (.iload 5)),
  by intros; exact G_callV (by decide +kernel : fetch mX11_valley 101 = some (.invokevirtual 103)) (by decide +kernel) (by decide +kernel) rfl,
  by intros; exact G_at (by decide +kernel : fetch mX11_valley 104 = some (.ifCond .ne 10)),
  by intros; exact G_at (by decide +kernel : fetch mX11_valley 107 = some (.sipush (-2000))),
  by intros; exact G_at (by decide +kernel : fetch mX11_valley 110 = some (.iload 5)),
  by intros; exact G_at (by decide +kernel : fetch mX11_valley 112 = some (.isub)),
  by intros; exact G_reti (by decide +kernel : fetch mX11_valley 113 = some (.ireturn)) (by decide +kernel),
  by intros; exact G_at (by decide +kernel : fetch mX11_valley 114 = some (.iinc 4 1)),
  by intros; exact G_at (by decide +kernel : fetch mX11_valley 117 = some (.iinc 5 1)),
  by intros; exact G_at (by decide +kernel : fetch mX11_valley 120 = some (.goto (-44))),
  by intros; exact G_at (by decide +kernel : fetch mX11_valley 123 = some (.aload_n 0)),
  by intros; exact G_own (by decide +kernel : fetch mX11_valley 124 = some (.getfield 17)) (by decide +kernel),
  by intros; exact G_at (by decide +kernel : fetch mX11_valley 127 = some (.aload_n 0)),
  by intros; exact G_own (by decide +kernel : fetch mX11_valley 128 = some (.getfield 38)) (by decide +kernel),
  by intros; exact G_own (by decide +kernel : fetch mX11_valley 131 = some (.getfield 107)) (by decide +kernel),
  by intros; exact G_callV (by decide +kernel : fetch mX11_valley 134 = some (.invokevirtual 110)) (by decide +kernel) (by decide +kernel) rfl,
  by intros; exact G_at (by decide +kernel : fetch mX11_valley 137 = some (.iload 4)),
  by intros; exact G_reti (by decide +kernel : fetch mX11_valley 139 = some (.ireturn)) (by decide +kernel),
  by decide +kernel,
  by decide +kernel,
  by decide +kernel,
  by decide +kernel,
  by decide +kernel,
  by decide +kernel,
  by decide +kernel,
  by decide +kernel,
  by decide +kernel,
  by decide +kernel,
  by decide +kernel⟩
theorem gX11_one : (∀ (n d : Nat) (L : List (Option iV)) (st : List iV) (h : iH) (Q : Option iV → iH → Prop), G sp sc [] d mX11_one (n + 1) 0 L st h Q = (match ld L 0 with | some (.inr (.inr (r + 1))) => G sp sc [] d mX11_one n 1 L (.inr (.inr (r + 1)) :: st) h Q | _ => False)) ∧
  (∀ (n d : Nat) (L : List (Option iV)) (r : List iV) (m : Nat) (h : iH) (Q : Option iV → iH → Prop), G sp sc [] d mX11_one (n + 1) 1 L (.inr (.inr (m + 2)) :: r) h Q = (match h.1[m]? with | some (.inl (ci, fs)) => (match lkF 11 17 ci with | some k => (match fs[k]? with | some v => G sp sc [] d mX11_one n 4 L (v :: r) h Q | none => False) | none => False) | _ => False)) ∧
  (∀ (n d : Nat) (L : List (Option iV)) (st : List iV) (h : iH) (Q : Option iV → iH → Prop), G sp sc [] d mX11_one (n + 1) 4 L st h Q = (match ld L 1 with | some (.inl x) => G sp sc [] d mX11_one n 5 L (.inl x :: st) h Q | _ => False)) ∧
  (∀ (n d : Nat) (L : List (Option iV)) (st : List iV) (h : iH) (Q : Option iV → iH → Prop), G sp sc [] d mX11_one (n + 1) 5 L st h Q = (match ld L 2 with | some (.inl x) => G sp sc [] d mX11_one n 6 L (.inl x :: st) h Q | _ => False)) ∧
  (∀ (n d : Nat) (L : List (Option iV)) (r : List iV) (m : Nat) (z0 : iV) (z1 : iV) (h : iH) (Q : Option iV → iH → Prop), G sp sc [] (d + 1) mX11_one (n + 1) 6 L (z1 :: z0 :: .inr (.inr (m + 2)) :: r) h Q = (match h.1[m]? with | some (.inl (ci, _)) => (match lkC 11 113 ci with | some (y1, n1, kd) => (n1 = 2 ∧ (kd = 2 ∨ kd = 3 ∨ kd = 8) ∧ cs r ≤ 8) ∧ Call sp sc d y1 [.inr (.inr (m + 2)), z0, z1] h (fun q h1 => GC sp sc [] (d + 1) mX11_one n 9 L q r h h1 Q) | none => False) | _ => False)) ∧
  (∀ (n d : Nat) (L : List (Option iV)) (a : Int) (r : List iV) (h : iH) (Q : Option iV → iH → Prop), G sp sc [] d mX11_one (n + 1) 9 L (.inl a :: r) h Q = (inI a = true ∧ (¬ a = 0 → G sp sc [] d mX11_one n 14 L r h Q) ∧ (¬ (¬ a = 0) → G sp sc [] d mX11_one n 12 L r h Q))) ∧
  (∀ (n d : Nat) (L : List (Option iV)) (st : List iV) (h : iH) (Q : Option iV → iH → Prop), G sp sc [] d mX11_one (n + 1) 12 L st h Q = G sp sc [] d mX11_one n 13 L (.inl (-1) :: st) h Q) ∧
  (∀ (n d : Nat) (L : List (Option iV)) (a : Int) (h : iH) (Q : Option iV → iH → Prop), G sp sc [] d mX11_one (n + 1) 13 L [.inl a] h Q = Q (some (.inl a)) h) ∧
  (∀ (n d : Nat) (L : List (Option iV)) (st : List iV) (h : iH) (Q : Option iV → iH → Prop), G sp sc [] d mX11_one (n + 1) 14 L st h Q = (match ld L 3 with | some (.inl x) => G sp sc [] d mX11_one n 15 L (.inl x :: st) h Q | _ => False)) ∧
  (∀ (n d : Nat) (L : List (Option iV)) (a : Int) (r : List iV) (h : iH) (Q : Option iV → iH → Prop), G sp sc [] d mX11_one (n + 1) 15 L (.inl a :: r) h Q = (inI a = true ∧ ((a < 0 ∨ 4 < a) → G sp sc [] d mX11_one n 121 L r h Q) ∧ (¬ (a < 0 ∨ 4 < a) → (match (#[33, 46, 59, 76, 89] : Array Int)[(a - (0 : Int)).toNat]? with | some off => (match jmp 15 off with | some q => GK sp sc [] d mX11_one n q L r h Q | none => False) | none => False)))) ∧
  (∀ (n d : Nat) (L : List (Option iV)) (st : List iV) (h : iH) (Q : Option iV → iH → Prop), G sp sc [] d mX11_one (n + 1) 48 L st h Q = (match ld L 0 with | some (.inr (.inr (r + 1))) => G sp sc [] d mX11_one n 49 L (.inr (.inr (r + 1)) :: st) h Q | _ => False)) ∧
  (∀ (n d : Nat) (L : List (Option iV)) (r : List iV) (m : Nat) (h : iH) (Q : Option iV → iH → Prop), G sp sc [] d mX11_one (n + 1) 49 L (.inr (.inr (m + 2)) :: r) h Q = (match h.1[m]? with | some (.inl (ci, fs)) => (match lkF 11 17 ci with | some k => (match fs[k]? with | some v => G sp sc [] d mX11_one n 52 L (v :: r) h Q | none => False) | none => False) | _ => False)) ∧
  (∀ (n d : Nat) (L : List (Option iV)) (st : List iV) (h : iH) (Q : Option iV → iH → Prop), G sp sc [] d mX11_one (n + 1) 52 L st h Q = (match ld L 1 with | some (.inl x) => G sp sc [] d mX11_one n 53 L (.inl x :: st) h Q | _ => False)) ∧
  (∀ (n d : Nat) (L : List (Option iV)) (st : List iV) (h : iH) (Q : Option iV → iH → Prop), G sp sc [] d mX11_one (n + 1) 53 L st h Q = (match ld L 2 with | some (.inl x) => G sp sc [] d mX11_one n 54 L (.inl x :: st) h Q | _ => False)) ∧
  (∀ (n d : Nat) (L : List (Option iV)) (r : List iV) (m : Nat) (z0 : iV) (z1 : iV) (h : iH) (Q : Option iV → iH → Prop), G sp sc [] (d + 1) mX11_one (n + 1) 54 L (z1 :: z0 :: .inr (.inr (m + 2)) :: r) h Q = (match h.1[m]? with | some (.inl (ci, _)) => (match lkC 11 117 ci with | some (y1, n1, kd) => (n1 = 2 ∧ (kd = 2 ∨ kd = 3 ∨ kd = 8) ∧ cs r ≤ 8) ∧ Call sp sc d y1 [.inr (.inr (m + 2)), z0, z1] h (fun q h1 => GC sp sc [] (d + 1) mX11_one n 57 L q r h h1 Q) | none => False) | _ => False)) ∧
  (∀ (n d : Nat) (L : List (Option iV)) (r : List iV) (m : Nat) (h : iH) (Q : Option iV → iH → Prop), G sp sc [] (d + 1) mX11_one (n + 1) 57 L (.inr (.inr (m + 2)) :: r) h Q = (match h.1[m]? with | some (.inl (ci, _)) => (match lkC 11 121 ci with | some (y1, n1, kd) => (n1 = 0 ∧ (kd = 2 ∨ kd = 3 ∨ kd = 8) ∧ cs r ≤ 8) ∧ Call sp sc d y1 [.inr (.inr (m + 2))] h (fun q h1 => GC sp sc [] (d + 1) mX11_one n 60 L q r h h1 Q) | none => False) | _ => False)) ∧
  (∀ (n d : Nat) (L : List (Option iV)) (a : Int) (h : iH) (Q : Option iV → iH → Prop), G sp sc [] d mX11_one (n + 1) 60 L [.inl a] h Q = Q (some (.inl a)) h) ∧
  (∀ (n d : Nat) (L : List (Option iV)) (st : List iV) (h : iH) (Q : Option iV → iH → Prop), G sp sc [] d mX11_one (n + 1) 61 L st h Q = (match ld L 0 with | some (.inr (.inr (r + 1))) => G sp sc [] d mX11_one n 62 L (.inr (.inr (r + 1)) :: st) h Q | _ => False)) ∧
  (∀ (n d : Nat) (L : List (Option iV)) (r : List iV) (m : Nat) (h : iH) (Q : Option iV → iH → Prop), G sp sc [] d mX11_one (n + 1) 62 L (.inr (.inr (m + 2)) :: r) h Q = (match h.1[m]? with | some (.inl (ci, fs)) => (match lkF 11 17 ci with | some k => (match fs[k]? with | some v => G sp sc [] d mX11_one n 65 L (v :: r) h Q | none => False) | none => False) | _ => False)) ∧
  (∀ (n d : Nat) (L : List (Option iV)) (st : List iV) (h : iH) (Q : Option iV → iH → Prop), G sp sc [] d mX11_one (n + 1) 65 L st h Q = (match ld L 1 with | some (.inl x) => G sp sc [] d mX11_one n 66 L (.inl x :: st) h Q | _ => False)) ∧
  (∀ (n d : Nat) (L : List (Option iV)) (st : List iV) (h : iH) (Q : Option iV → iH → Prop), G sp sc [] d mX11_one (n + 1) 66 L st h Q = (match ld L 2 with | some (.inl x) => G sp sc [] d mX11_one n 67 L (.inl x :: st) h Q | _ => False)) ∧
  (∀ (n d : Nat) (L : List (Option iV)) (r : List iV) (m : Nat) (z0 : iV) (z1 : iV) (h : iH) (Q : Option iV → iH → Prop), G sp sc [] (d + 1) mX11_one (n + 1) 67 L (z1 :: z0 :: .inr (.inr (m + 2)) :: r) h Q = (match h.1[m]? with | some (.inl (ci, _)) => (match lkC 11 117 ci with | some (y1, n1, kd) => (n1 = 2 ∧ (kd = 2 ∨ kd = 3 ∨ kd = 8) ∧ cs r ≤ 8) ∧ Call sp sc d y1 [.inr (.inr (m + 2)), z0, z1] h (fun q h1 => GC sp sc [] (d + 1) mX11_one n 70 L q r h h1 Q) | none => False) | _ => False)) ∧
  (∀ (n d : Nat) (L : List (Option iV)) (r : List iV) (m : Nat) (h : iH) (Q : Option iV → iH → Prop), G sp sc [] d mX11_one (n + 1) 70 L (.inr (.inr (m + 2)) :: r) h Q = (match h.1[m]? with | some (.inl (ci, fs)) => (match lkF 11 125 ci with | some k => (match fs[k]? with | some v => G sp sc [] d mX11_one n 73 L (v :: r) h Q | none => False) | none => False) | _ => False)) ∧
  (∀ (n d : Nat) (L : List (Option iV)) (a : Int) (h : iH) (Q : Option iV → iH → Prop), G sp sc [] d mX11_one (n + 1) 73 L [.inl a] h Q = Q (some (.inl a)) h) ∧
  (∀ (n d : Nat) (L : List (Option iV)) (st : List iV) (h : iH) (Q : Option iV → iH → Prop), G sp sc [] d mX11_one (n + 1) 74 L st h Q = (match ld L 0 with | some (.inr (.inr (r + 1))) => G sp sc [] d mX11_one n 75 L (.inr (.inr (r + 1)) :: st) h Q | _ => False)) ∧
  (∀ (n d : Nat) (L : List (Option iV)) (r : List iV) (m : Nat) (h : iH) (Q : Option iV → iH → Prop), G sp sc [] d mX11_one (n + 1) 75 L (.inr (.inr (m + 2)) :: r) h Q = (match h.1[m]? with | some (.inl (ci, fs)) => (match lkF 11 17 ci with | some k => (match fs[k]? with | some v => G sp sc [] d mX11_one n 78 L (v :: r) h Q | none => False) | none => False) | _ => False)) ∧
  (∀ (n d : Nat) (L : List (Option iV)) (r : List iV) (m : Nat) (h : iH) (Q : Option iV → iH → Prop), G sp sc [] d mX11_one (n + 1) 78 L (.inr (.inr (m + 2)) :: r) h Q = (match h.1[m]? with | some (.inl (ci, fs)) => (match lkF 11 128 ci with | some k => (match fs[k]? with | some v => G sp sc [] d mX11_one n 81 L (v :: r) h Q | none => False) | none => False) | _ => False)) ∧
  (∀ (n d : Nat) (L : List (Option iV)) (st : List iV) (h : iH) (Q : Option iV → iH → Prop), G sp sc [] d mX11_one (n + 1) 81 L st h Q = (match ld L 1 with | some (.inl x) => G sp sc [] d mX11_one n 82 L (.inl x :: st) h Q | _ => False)) ∧
  (∀ (n d : Nat) (L : List (Option iV)) (st : List iV) (h : iH) (Q : Option iV → iH → Prop), G sp sc [] d mX11_one (n + 1) 82 L st h Q = (match ld L 2 with | some (.inl x) => G sp sc [] d mX11_one n 83 L (.inl x :: st) h Q | _ => False)) ∧
  (∀ (n d : Nat) (L : List (Option iV)) (r : List iV) (z0 : iV) (z1 : iV) (h : iH) (Q : Option iV → iH → Prop), G sp sc [] (d + 1) mX11_one (n + 1) 83 L (z1 :: z0 :: r) h Q = (cs r ≤ 8 ∧ Call sp sc d mX8_place [z0, z1] h (fun q h1 => GC sp sc [] (d + 1) mX11_one n 86 L q r h h1 Q))) ∧
  (∀ (n d : Nat) (L : List (Option iV)) (r : List iV) (j : Int) (m : Nat) (h : iH) (Q : Option iV → iH → Prop), G sp sc [] d mX11_one (n + 1) 86 L (.inl j :: .inr (.inr (m + 2)) :: r) h Q = (match h.1[m]? with | some (.inr (.inl (0, xs))) => inA j xs.length = true ∧ G sp sc [] d mX11_one n 87 L (.inl (xs.getD j.toNat 0) :: r) h Q | _ => False)) ∧
  (∀ (n d : Nat) (L : List (Option iV)) (r : List iV) (z0 : iV) (h : iH) (Q : Option iV → iH → Prop), G sp sc [] (d + 1) mX11_one (n + 1) 87 L (z0 :: r) h Q = (cs r ≤ 8 ∧ Call sp sc d mX11_orNone [z0] h (fun q h1 => GC sp sc [] (d + 1) mX11_one n 90 L q r h h1 Q))) ∧
  (∀ (n d : Nat) (L : List (Option iV)) (a : Int) (h : iH) (Q : Option iV → iH → Prop), G sp sc [] d mX11_one (n + 1) 90 L [.inl a] h Q = Q (some (.inl a)) h) ∧
  (∀ (n d : Nat) (L : List (Option iV)) (st : List iV) (h : iH) (Q : Option iV → iH → Prop), G sp sc [] d mX11_one (n + 1) 91 L st h Q = (match ld L 0 with | some (.inr (.inr (r + 1))) => G sp sc [] d mX11_one n 92 L (.inr (.inr (r + 1)) :: st) h Q | _ => False)) ∧
  (∀ (n d : Nat) (L : List (Option iV)) (r : List iV) (m : Nat) (h : iH) (Q : Option iV → iH → Prop), G sp sc [] d mX11_one (n + 1) 92 L (.inr (.inr (m + 2)) :: r) h Q = (match h.1[m]? with | some (.inl (ci, fs)) => (match lkF 11 17 ci with | some k => (match fs[k]? with | some v => G sp sc [] d mX11_one n 95 L (v :: r) h Q | none => False) | none => False) | _ => False)) ∧
  (∀ (n d : Nat) (L : List (Option iV)) (st : List iV) (h : iH) (Q : Option iV → iH → Prop), G sp sc [] d mX11_one (n + 1) 95 L st h Q = (match ld L 1 with | some (.inl x) => G sp sc [] d mX11_one n 96 L (.inl x :: st) h Q | _ => False)) ∧
  (∀ (n d : Nat) (L : List (Option iV)) (st : List iV) (h : iH) (Q : Option iV → iH → Prop), G sp sc [] d mX11_one (n + 1) 96 L st h Q = (match ld L 2 with | some (.inl x) => G sp sc [] d mX11_one n 97 L (.inl x :: st) h Q | _ => False)) ∧
  (∀ (n d : Nat) (L : List (Option iV)) (r : List iV) (m : Nat) (z0 : iV) (z1 : iV) (h : iH) (Q : Option iV → iH → Prop), G sp sc [] (d + 1) mX11_one (n + 1) 97 L (z1 :: z0 :: .inr (.inr (m + 2)) :: r) h Q = (match h.1[m]? with | some (.inl (ci, _)) => (match lkC 11 117 ci with | some (y1, n1, kd) => (n1 = 2 ∧ (kd = 2 ∨ kd = 3 ∨ kd = 8) ∧ cs r ≤ 8) ∧ Call sp sc d y1 [.inr (.inr (m + 2)), z0, z1] h (fun q h1 => GC sp sc [] (d + 1) mX11_one n 100 L q r h h1 Q) | none => False) | _ => False)) ∧
  (∀ (n d : Nat) (L : List (Option iV)) (r : List iV) (m : Nat) (h : iH) (Q : Option iV → iH → Prop), G sp sc [] (d + 1) mX11_one (n + 1) 100 L (.inr (.inr (m + 2)) :: r) h Q = (match h.1[m]? with | some (.inl (ci, _)) => (match lkC 11 139 ci with | some (y1, n1, kd) => (n1 = 0 ∧ (kd = 2 ∨ kd = 3 ∨ kd = 8) ∧ cs r ≤ 8) ∧ Call sp sc d y1 [.inr (.inr (m + 2))] h (fun q h1 => GC sp sc [] (d + 1) mX11_one n 103 L q r h h1 Q) | none => False) | _ => False)) ∧
  (∀ (n d : Nat) (L : List (Option iV)) (a : Int) (h : iH) (Q : Option iV → iH → Prop), G sp sc [] d mX11_one (n + 1) 103 L [.inl a] h Q = Q (some (.inl a)) h) ∧
  (∀ (n d : Nat) (L : List (Option iV)) (st : List iV) (h : iH) (Q : Option iV → iH → Prop), G sp sc [] d mX11_one (n + 1) 104 L st h Q = (match ld L 0 with | some (.inr (.inr (r + 1))) => G sp sc [] d mX11_one n 105 L (.inr (.inr (r + 1)) :: st) h Q | _ => False)) ∧
  (∀ (n d : Nat) (L : List (Option iV)) (r : List iV) (m : Nat) (h : iH) (Q : Option iV → iH → Prop), G sp sc [] d mX11_one (n + 1) 105 L (.inr (.inr (m + 2)) :: r) h Q = (match h.1[m]? with | some (.inl (ci, fs)) => (match lkF 11 17 ci with | some k => (match fs[k]? with | some v => G sp sc [] d mX11_one n 108 L (v :: r) h Q | none => False) | none => False) | _ => False)) ∧
  (∀ (n d : Nat) (L : List (Option iV)) (r : List iV) (m : Nat) (h : iH) (Q : Option iV → iH → Prop), G sp sc [] d mX11_one (n + 1) 108 L (.inr (.inr (m + 2)) :: r) h Q = (match h.1[m]? with | some (.inl (ci, fs)) => (match lkF 11 142 ci with | some k => (match fs[k]? with | some v => G sp sc [] d mX11_one n 111 L (v :: r) h Q | none => False) | none => False) | _ => False)) ∧
  (∀ (n d : Nat) (L : List (Option iV)) (st : List iV) (h : iH) (Q : Option iV → iH → Prop), G sp sc [] d mX11_one (n + 1) 111 L st h Q = (match ld L 1 with | some (.inl x) => G sp sc [] d mX11_one n 112 L (.inl x :: st) h Q | _ => False)) ∧
  (∀ (n d : Nat) (L : List (Option iV)) (st : List iV) (h : iH) (Q : Option iV → iH → Prop), G sp sc [] d mX11_one (n + 1) 112 L st h Q = (match ld L 2 with | some (.inl x) => G sp sc [] d mX11_one n 113 L (.inl x :: st) h Q | _ => False)) ∧
  (∀ (n d : Nat) (L : List (Option iV)) (r : List iV) (z0 : iV) (z1 : iV) (h : iH) (Q : Option iV → iH → Prop), G sp sc [] (d + 1) mX11_one (n + 1) 113 L (z1 :: z0 :: r) h Q = (cs r ≤ 8 ∧ Call sp sc d mX8_place [z0, z1] h (fun q h1 => GC sp sc [] (d + 1) mX11_one n 116 L q r h h1 Q))) ∧
  (∀ (n d : Nat) (L : List (Option iV)) (r : List iV) (j : Int) (m : Nat) (h : iH) (Q : Option iV → iH → Prop), G sp sc [] d mX11_one (n + 1) 116 L (.inl j :: .inr (.inr (m + 2)) :: r) h Q = (match h.1[m]? with | some (.inr (.inl (0, xs))) => inA j xs.length = true ∧ G sp sc [] d mX11_one n 117 L (.inl (xs.getD j.toNat 0) :: r) h Q | _ => False)) ∧
  (∀ (n d : Nat) (L : List (Option iV)) (r : List iV) (z0 : iV) (h : iH) (Q : Option iV → iH → Prop), G sp sc [] (d + 1) mX11_one (n + 1) 117 L (z0 :: r) h Q = (cs r ≤ 8 ∧ Call sp sc d mX11_orNone [z0] h (fun q h1 => GC sp sc [] (d + 1) mX11_one n 120 L q r h h1 Q))) ∧
  (∀ (n d : Nat) (L : List (Option iV)) (a : Int) (h : iH) (Q : Option iV → iH → Prop), G sp sc [] d mX11_one (n + 1) 120 L [.inl a] h Q = Q (some (.inl a)) h) ∧
  (∀ (n d : Nat) (L : List (Option iV)) (st : List iV) (h : iH) (Q : Option iV → iH → Prop), G sp sc [] d mX11_one (n + 1) 121 L st h Q = G sp sc [] d mX11_one n 122 L (.inl (-1) :: st) h Q) ∧
  (∀ (n d : Nat) (L : List (Option iV)) (a : Int) (h : iH) (Q : Option iV → iH → Prop), G sp sc [] d mX11_one (n + 1) 122 L [.inl a] h Q = Q (some (.inl a)) h) ∧
  lkC 11 113 8 = some (mX8_hasOne, 2, 2) ∧
  lkC 11 117 8 = some (mX8_natureOf, 2, 2) ∧
  lkC 11 121 0 = some (mX0_kind, 0, 3) ∧
  lkC 11 121 1 = some (mX1_kind, 0, 3) ∧
  lkC 11 121 3 = some (mX3_kind, 0, 3) ∧
  lkC 11 121 6 = some (mX6_kind, 0, 2) ∧
  lkC 11 121 7 = some (mX7_kind, 0, 3) ∧
  lkC 11 121 9 = some (mX9_kind, 0, 3) ∧
  lkC 11 139 0 = some (mX0_sulking, 0, 3) ∧
  lkC 11 139 1 = some (mX6_sulking, 0, 3) ∧
  lkC 11 139 3 = some (mX3_sulking, 0, 3) ∧
  lkC 11 139 6 = some (mX6_sulking, 0, 2) ∧
  lkC 11 139 7 = some (mX7_sulking, 0, 3) ∧
  lkC 11 139 9 = some (mX6_sulking, 0, 3) ∧
  lkF 11 125 0 = some 0 ∧
  lkF 11 125 1 = some 0 ∧
  lkF 11 125 3 = some 0 ∧
  lkF 11 125 6 = some 0 ∧
  lkF 11 125 7 = some 0 ∧
  lkF 11 125 9 = some 0 ∧
  lkF 11 128 8 = some 2 ∧
  lkF 11 142 8 = some 3 ∧
  lkF 11 17 11 = some 2 := ⟨by intros; exact G_at (by decide +kernel : fetch mX11_one 0 = some (.aload_n 0)),
  by intros; exact G_own (by decide +kernel : fetch mX11_one 1 = some (.getfield 17)) (by decide +kernel),
  by intros; exact G_at (by decide +kernel : fetch mX11_one 4 = some (.iload_n 1)),
  by intros; exact G_at (by decide +kernel : fetch mX11_one 5 = some (.iload_n 2)),
  by intros; exact G_callV (by decide +kernel : fetch mX11_one 6 = some (.invokevirtual 113)) (by decide +kernel) (by decide +kernel) rfl,
  by intros; exact G_at (by decide +kernel : fetch mX11_one 9 = some (.ifCond .ne 5)),
  by intros; exact G_at (by decide +kernel : fetch mX11_one 12 = some (.iconst (-1))),
  by intros; exact G_reti (by decide +kernel : fetch mX11_one 13 = some (.ireturn)) (by decide +kernel),
  by intros; exact G_at (by decide +kernel : fetch mX11_one 14 = some (.iload_n 3)),
  by intros; exact G_at (by decide +kernel : fetch mX11_one 15 = some (.tableswitch 106 0 4 #[33, 46, 59, 76, 89])),
  by intros; exact G_at (by decide +kernel : fetch mX11_one 48 = some (.aload_n 0)),
  by intros; exact G_own (by decide +kernel : fetch mX11_one 49 = some (.getfield 17)) (by decide +kernel),
  by intros; exact G_at (by decide +kernel : fetch mX11_one 52 = some (.iload_n 1)),
  by intros; exact G_at (by decide +kernel : fetch mX11_one 53 = some (.iload_n 2)),
  by intros; exact G_callV (by decide +kernel : fetch mX11_one 54 = some (.invokevirtual 117)) (by decide +kernel) (by decide +kernel) rfl,
  by intros; exact G_callV (by decide +kernel : fetch mX11_one 57 = some (.invokevirtual 121)) (by decide +kernel) (by decide +kernel) rfl,
  by intros; exact G_reti (by decide +kernel : fetch mX11_one 60 = some (.ireturn)) (by decide +kernel),
  by intros; exact G_at (by decide +kernel : fetch mX11_one 61 = some (.aload_n 0)),
  by intros; exact G_own (by decide +kernel : fetch mX11_one 62 = some (.getfield 17)) (by decide +kernel),
  by intros; exact G_at (by decide +kernel : fetch mX11_one 65 = some (.iload_n 1)),
  by intros; exact G_at (by decide +kernel : fetch mX11_one 66 = some (.iload_n 2)),
  by intros; exact G_callV (by decide +kernel : fetch mX11_one 67 = some (.invokevirtual 117)) (by decide +kernel) (by decide +kernel) rfl,
  by intros; exact G_own (by decide +kernel : fetch mX11_one 70 = some (.getfield 125)) (by decide +kernel),
  by intros; exact G_reti (by decide +kernel : fetch mX11_one 73 = some (.ireturn)) (by decide +kernel),
  by intros; exact G_at (by decide +kernel : fetch mX11_one 74 = some (.aload_n 0)),
  by intros; exact G_own (by decide +kernel : fetch mX11_one 75 = some (.getfield 17)) (by decide +kernel),
  by intros; exact G_own (by decide +kernel : fetch mX11_one 78 = some (.getfield 128)) (by decide +kernel),
  by intros; exact G_at (by decide +kernel : fetch mX11_one 81 = some (.iload_n 1)),
  by intros; exact G_at (by decide +kernel : fetch mX11_one 82 = some (.iload_n 2)),
  by intros; exact G_callS (k := 2) (kd := 0) (by decide +kernel : fetch mX11_one 83 = some (.invokestatic 132)) (by decide +kernel) (by decide +kernel) (by decide +kernel) rfl (by decide),
  by intros; exact G_at (by decide +kernel : fetch mX11_one 86 = some (.iaload)),
  by intros; exact G_callS (k := 1) (kd := 0) (by decide +kernel : fetch mX11_one 87 = some (.invokestatic 136)) (by decide +kernel) (by decide +kernel) (by decide +kernel) rfl (by decide),
  by intros; exact G_reti (by decide +kernel : fetch mX11_one 90 = some (.ireturn)) (by decide +kernel),
  by intros; exact G_at (by decide +kernel : fetch mX11_one 91 = some (.aload_n 0)),
  by intros; exact G_own (by decide +kernel : fetch mX11_one 92 = some (.getfield 17)) (by decide +kernel),
  by intros; exact G_at (by decide +kernel : fetch mX11_one 95 = some (.iload_n 1)),
  by intros; exact G_at (by decide +kernel : fetch mX11_one 96 = some (.iload_n 2)),
  by intros; exact G_callV (by decide +kernel : fetch mX11_one 97 = some (.invokevirtual 117)) (by decide +kernel) (by decide +kernel) rfl,
  by intros; exact G_callV (by decide +kernel : fetch mX11_one 100 = some (.invokevirtual 139)) (by decide +kernel) (by decide +kernel) rfl,
  by intros; exact G_reti (by decide +kernel : fetch mX11_one 103 = some (.ireturn)) (by decide +kernel),
  by intros; exact G_at (by decide +kernel : fetch mX11_one 104 = some (.aload_n 0)),
  by intros; exact G_own (by decide +kernel : fetch mX11_one 105 = some (.getfield 17)) (by decide +kernel),
  by intros; exact G_own (by decide +kernel : fetch mX11_one 108 = some (.getfield 142)) (by decide +kernel),
  by intros; exact G_at (by decide +kernel : fetch mX11_one 111 = some (.iload_n 1)),
  by intros; exact G_at (by decide +kernel : fetch mX11_one 112 = some (.iload_n 2)),
  by intros; exact G_callS (k := 2) (kd := 0) (by decide +kernel : fetch mX11_one 113 = some (.invokestatic 132)) (by decide +kernel) (by decide +kernel) (by decide +kernel) rfl (by decide),
  by intros; exact G_at (by decide +kernel : fetch mX11_one 116 = some (.iaload)),
  by intros; exact G_callS (k := 1) (kd := 0) (by decide +kernel : fetch mX11_one 117 = some (.invokestatic 136)) (by decide +kernel) (by decide +kernel) (by decide +kernel) rfl (by decide),
  by intros; exact G_reti (by decide +kernel : fetch mX11_one 120 = some (.ireturn)) (by decide +kernel),
  by intros; exact G_at (by decide +kernel : fetch mX11_one 121 = some (.iconst (-1))),
  by intros; exact G_reti (by decide +kernel : fetch mX11_one 122 = some (.ireturn)) (by decide +kernel),
  by decide +kernel,
  by decide +kernel,
  by decide +kernel,
  by decide +kernel,
  by decide +kernel,
  by decide +kernel,
  by decide +kernel,
  by decide +kernel,
  by decide +kernel,
  by decide +kernel,
  by decide +kernel,
  by decide +kernel,
  by decide +kernel,
  by decide +kernel,
  by decide +kernel,
  by decide +kernel,
  by decide +kernel,
  by decide +kernel,
  by decide +kernel,
  by decide +kernel,
  by decide +kernel,
  by decide +kernel,
  by decide +kernel⟩
theorem gX11_grows : (∀ (n d : Nat) (L : List (Option iV)) (st : List iV) (h : iH) (Q : Option iV → iH → Prop), G sp sc [] d mX11_grows (n + 1) 0 L st h Q = (match ld L 0 with | some (.inr (.inr (r + 1))) => G sp sc [] d mX11_grows n 1 L (.inr (.inr (r + 1)) :: st) h Q | _ => False)) ∧
  (∀ (n d : Nat) (L : List (Option iV)) (r : List iV) (m : Nat) (h : iH) (Q : Option iV → iH → Prop), G sp sc [] d mX11_grows (n + 1) 1 L (.inr (.inr (m + 2)) :: r) h Q = (match h.1[m]? with | some (.inl (ci, fs)) => (match lkF 11 17 ci with | some k => (match fs[k]? with | some v => G sp sc [] d mX11_grows n 4 L (v :: r) h Q | none => False) | none => False) | _ => False)) ∧
  (∀ (n d : Nat) (L : List (Option iV)) (st : List iV) (h : iH) (Q : Option iV → iH → Prop), G sp sc [] d mX11_grows (n + 1) 4 L st h Q = (match ld L 1 with | some (.inl x) => G sp sc [] d mX11_grows n 5 L (.inl x :: st) h Q | _ => False)) ∧
  (∀ (n d : Nat) (L : List (Option iV)) (st : List iV) (h : iH) (Q : Option iV → iH → Prop), G sp sc [] d mX11_grows (n + 1) 5 L st h Q = (match ld L 2 with | some (.inl x) => G sp sc [] d mX11_grows n 6 L (.inl x :: st) h Q | _ => False)) ∧
  (∀ (n d : Nat) (L : List (Option iV)) (r : List iV) (m : Nat) (z0 : iV) (z1 : iV) (h : iH) (Q : Option iV → iH → Prop), G sp sc [] (d + 1) mX11_grows (n + 1) 6 L (z1 :: z0 :: .inr (.inr (m + 2)) :: r) h Q = (match h.1[m]? with | some (.inl (ci, _)) => (match lkC 11 113 ci with | some (y1, n1, kd) => (n1 = 2 ∧ (kd = 2 ∨ kd = 3 ∨ kd = 8) ∧ cs r ≤ 8) ∧ Call sp sc d y1 [.inr (.inr (m + 2)), z0, z1] h (fun q h1 => GC sp sc [] (d + 1) mX11_grows n 9 L q r h h1 Q) | none => False) | _ => False)) ∧
  (∀ (n d : Nat) (L : List (Option iV)) (a : Int) (r : List iV) (h : iH) (Q : Option iV → iH → Prop), G sp sc [] d mX11_grows (n + 1) 9 L (.inl a :: r) h Q = (inI a = true ∧ (a = 0 → G sp sc [] d mX11_grows n 21 L r h Q) ∧ (¬ (a = 0) → G sp sc [] d mX11_grows n 12 L r h Q))) ∧
  (∀ (n d : Nat) (L : List (Option iV)) (st : List iV) (h : iH) (Q : Option iV → iH → Prop), G sp sc [] d mX11_grows (n + 1) 12 L st h Q = (match ld L 3 with | some (.inl x) => G sp sc [] d mX11_grows n 13 L (.inl x :: st) h Q | _ => False)) ∧
  (∀ (n d : Nat) (L : List (Option iV)) (a : Int) (r : List iV) (h : iH) (Q : Option iV → iH → Prop), G sp sc [] d mX11_grows (n + 1) 13 L (.inl a :: r) h Q = (inI a = true ∧ (a < 0 → G sp sc [] d mX11_grows n 21 L r h Q) ∧ (¬ (a < 0) → G sp sc [] d mX11_grows n 16 L r h Q))) ∧
  (∀ (n d : Nat) (L : List (Option iV)) (st : List iV) (h : iH) (Q : Option iV → iH → Prop), G sp sc [] d mX11_grows (n + 1) 16 L st h Q = (match ld L 3 with | some (.inl x) => G sp sc [] d mX11_grows n 17 L (.inl x :: st) h Q | _ => False)) ∧
  (∀ (n d : Nat) (L : List (Option iV)) (st : List iV) (h : iH) (Q : Option iV → iH → Prop), G sp sc [] d mX11_grows (n + 1) 17 L st h Q = G sp sc [] d mX11_grows n 18 L (.inl 1 :: st) h Q) ∧
  (∀ (n d : Nat) (L : List (Option iV)) (a : Int) (b : Int) (r : List iV) (h : iH) (Q : Option iV → iH → Prop), G sp sc [] d mX11_grows (n + 1) 18 L (.inl b :: .inl a :: r) h Q = ((inI a = true ∧ inI b = true) ∧ (a ≤ b → G sp sc [] d mX11_grows n 23 L r h Q) ∧ (¬ (a ≤ b) → G sp sc [] d mX11_grows n 21 L r h Q))) ∧
  (∀ (n d : Nat) (L : List (Option iV)) (st : List iV) (h : iH) (Q : Option iV → iH → Prop), G sp sc [] d mX11_grows (n + 1) 21 L st h Q = G sp sc [] d mX11_grows n 22 L (.inl (-1) :: st) h Q) ∧
  (∀ (n d : Nat) (L : List (Option iV)) (a : Int) (h : iH) (Q : Option iV → iH → Prop), G sp sc [] d mX11_grows (n + 1) 22 L [.inl a] h Q = Q (some (.inl a)) h) ∧
  (∀ (n d : Nat) (L : List (Option iV)) (st : List iV) (h : iH) (Q : Option iV → iH → Prop), G sp sc [] d mX11_grows (n + 1) 23 L st h Q = (match ld L 0 with | some (.inr (.inr (r + 1))) => G sp sc [] d mX11_grows n 24 L (.inr (.inr (r + 1)) :: st) h Q | _ => False)) ∧
  (∀ (n d : Nat) (L : List (Option iV)) (r : List iV) (m : Nat) (h : iH) (Q : Option iV → iH → Prop), G sp sc [] d mX11_grows (n + 1) 24 L (.inr (.inr (m + 2)) :: r) h Q = (match h.1[m]? with | some (.inl (ci, fs)) => (match lkF 11 17 ci with | some k => (match fs[k]? with | some v => G sp sc [] d mX11_grows n 27 L (v :: r) h Q | none => False) | none => False) | _ => False)) ∧
  (∀ (n d : Nat) (L : List (Option iV)) (st : List iV) (h : iH) (Q : Option iV → iH → Prop), G sp sc [] d mX11_grows (n + 1) 27 L st h Q = (match ld L 1 with | some (.inl x) => G sp sc [] d mX11_grows n 28 L (.inl x :: st) h Q | _ => False)) ∧
  (∀ (n d : Nat) (L : List (Option iV)) (st : List iV) (h : iH) (Q : Option iV → iH → Prop), G sp sc [] d mX11_grows (n + 1) 28 L st h Q = (match ld L 2 with | some (.inl x) => G sp sc [] d mX11_grows n 29 L (.inl x :: st) h Q | _ => False)) ∧
  (∀ (n d : Nat) (L : List (Option iV)) (r : List iV) (m : Nat) (z0 : iV) (z1 : iV) (h : iH) (Q : Option iV → iH → Prop), G sp sc [] (d + 1) mX11_grows (n + 1) 29 L (z1 :: z0 :: .inr (.inr (m + 2)) :: r) h Q = (match h.1[m]? with | some (.inl (ci, _)) => (match lkC 11 117 ci with | some (y1, n1, kd) => (n1 = 2 ∧ (kd = 2 ∨ kd = 3 ∨ kd = 8) ∧ cs r ≤ 8) ∧ Call sp sc d y1 [.inr (.inr (m + 2)), z0, z1] h (fun q h1 => GC sp sc [] (d + 1) mX11_grows n 32 L q r h h1 Q) | none => False) | _ => False)) ∧
  (∀ (n d : Nat) (L : List (Option iV)) (st : List iV) (h : iH) (Q : Option iV → iH → Prop), G sp sc [] d mX11_grows (n + 1) 32 L st h Q = (match ld L 3 with | some (.inl x) => G sp sc [] d mX11_grows n 33 L (.inl x :: st) h Q | _ => False)) ∧
  (∀ (n d : Nat) (L : List (Option iV)) (st : List iV) (h : iH) (Q : Option iV → iH → Prop), G sp sc [] d mX11_grows (n + 1) 33 L st h Q = G sp sc [] d mX11_grows n 34 L (.inl 1 :: st) h Q) ∧
  (∀ (n d : Nat) (L : List (Option iV)) (a : Int) (b : Int) (r : List iV) (h : iH) (Q : Option iV → iH → Prop), G sp sc [] d mX11_grows (n + 1) 34 L (.inl b :: .inl a :: r) h Q = ((inI a = true ∧ inI b = true) ∧ (¬ a = b → G sp sc [] d mX11_grows n 41 L r h Q) ∧ (¬ (¬ a = b) → G sp sc [] d mX11_grows n 37 L r h Q))) ∧
  (∀ (n d : Nat) (L : List (Option iV)) (st : List iV) (h : iH) (Q : Option iV → iH → Prop), G sp sc [] d mX11_grows (n + 1) 37 L st h Q = G sp sc [] d mX11_grows n 38 L (.inl 1 :: st) h Q) ∧
  (∀ (n d : Nat) (L : List (Option iV)) (st : List iV) (h : iH) (Q : Option iV → iH → Prop), G sp sc [] d mX11_grows (n + 1) 38 L st h Q = G sp sc [] d mX11_grows n 42 L st h Q) ∧
  (∀ (n d : Nat) (L : List (Option iV)) (st : List iV) (h : iH) (Q : Option iV → iH → Prop), G sp sc [] d mX11_grows (n + 1) 41 L st h Q = G sp sc [] d mX11_grows n 42 L (.inl 0 :: st) h Q) ∧
  (∀ (n d : Nat) (L : List (Option iV)) (r : List iV) (m : Nat) (z0 : iV) (h : iH) (Q : Option iV → iH → Prop), G sp sc [] (d + 1) mX11_grows (n + 1) 42 L (z0 :: .inr (.inr (m + 2)) :: r) h Q = (match h.1[m]? with | some (.inl (ci, _)) => (match lkC 11 145 ci with | some (y1, n1, kd) => (n1 = 1 ∧ (kd = 2 ∨ kd = 3 ∨ kd = 8) ∧ cs r ≤ 8) ∧ Call sp sc d y1 [.inr (.inr (m + 2)), z0] h (fun q h1 => GC sp sc [] (d + 1) mX11_grows n 45 L q r h h1 Q) | none => False) | _ => False)) ∧
  (∀ (n d : Nat) (L : List (Option iV)) (a : Int) (h : iH) (Q : Option iV → iH → Prop), G sp sc [] d mX11_grows (n + 1) 45 L [.inl a] h Q = Q (some (.inl a)) h) ∧
  lkC 11 113 8 = some (mX8_hasOne, 2, 2) ∧
  lkC 11 117 8 = some (mX8_natureOf, 2, 2) ∧
  lkC 11 145 0 = some (mX0_growth, 1, 3) ∧
  lkC 11 145 1 = some (mX1_growth, 1, 3) ∧
  lkC 11 145 3 = some (mX9_growth, 1, 3) ∧
  lkC 11 145 6 = some (mX6_growth, 1, 2) ∧
  lkC 11 145 7 = some (mX7_growth, 1, 3) ∧
  lkC 11 145 9 = some (mX9_growth, 1, 3) ∧
  lkF 11 17 11 = some 2 := ⟨by intros; exact G_at (by decide +kernel : fetch mX11_grows 0 = some (.aload_n 0)),
  by intros; exact G_own (by decide +kernel : fetch mX11_grows 1 = some (.getfield 17)) (by decide +kernel),
  by intros; exact G_at (by decide +kernel : fetch mX11_grows 4 = some (.iload_n 1)),
  by intros; exact G_at (by decide +kernel : fetch mX11_grows 5 = some (.iload_n 2)),
  by intros; exact G_callV (by decide +kernel : fetch mX11_grows 6 = some (.invokevirtual 113)) (by decide +kernel) (by decide +kernel) rfl,
  by intros; exact G_at (by decide +kernel : fetch mX11_grows 9 = some (.ifCond .eq 12)),
  by intros; exact G_at (by decide +kernel : fetch mX11_grows 12 = some (.iload_n 3)),
  by intros; exact G_at (by decide +kernel : fetch mX11_grows 13 = some (.ifCond .lt 8)),
  by intros; exact G_at (by decide +kernel : fetch mX11_grows 16 = some (.iload_n 3)),
  by intros; exact G_at (by decide +kernel : fetch mX11_grows 17 = some (.iconst 1)),
  by intros; exact G_at (by decide +kernel : fetch mX11_grows 18 = some (.if_icmp .le 5)),
  by intros; exact G_at (by decide +kernel : fetch mX11_grows 21 = some (.iconst (-1))),
  by intros; exact G_reti (by decide +kernel : fetch mX11_grows 22 = some (.ireturn)) (by decide +kernel),
  by intros; exact G_at (by decide +kernel : fetch mX11_grows 23 = some (.aload_n 0)),
  by intros; exact G_own (by decide +kernel : fetch mX11_grows 24 = some (.getfield 17)) (by decide +kernel),
  by intros; exact G_at (by decide +kernel : fetch mX11_grows 27 = some (.iload_n 1)),
  by intros; exact G_at (by decide +kernel : fetch mX11_grows 28 = some (.iload_n 2)),
  by intros; exact G_callV (by decide +kernel : fetch mX11_grows 29 = some (.invokevirtual 117)) (by decide +kernel) (by decide +kernel) rfl,
  by intros; exact G_at (by decide +kernel : fetch mX11_grows 32 = some (.iload_n 3)),
  by intros; exact G_at (by decide +kernel : fetch mX11_grows 33 = some (.iconst 1)),
  by intros; exact G_at (by decide +kernel : fetch mX11_grows 34 = some (.if_icmp .ne 7)),
  by intros; exact G_at (by decide +kernel : fetch mX11_grows 37 = some (.iconst 1)),
  by intros; exact G_at (by decide +kernel : fetch mX11_grows 38 = some (.goto 4)),
  by intros; exact G_at (by decide +kernel : fetch mX11_grows 41 = some (.iconst 0)),
  by intros; exact G_callV (by decide +kernel : fetch mX11_grows 42 = some (.invokevirtual 145)) (by decide +kernel) (by decide +kernel) rfl,
  by intros; exact G_reti (by decide +kernel : fetch mX11_grows 45 = some (.ireturn)) (by decide +kernel),
  by decide +kernel,
  by decide +kernel,
  by decide +kernel,
  by decide +kernel,
  by decide +kernel,
  by decide +kernel,
  by decide +kernel,
  by decide +kernel,
  by decide +kernel⟩
theorem gX11_retells : (∀ (n d : Nat) (L : List (Option iV)) (st : List iV) (h : iH) (Q : Option iV → iH → Prop), G sp sc [] d mX11_retells (n + 1) 0 L st h Q = (match ld L 0 with | some (.inr (.inr (r + 1))) => G sp sc [] d mX11_retells n 1 L (.inr (.inr (r + 1)) :: st) h Q | _ => False)) ∧
  (∀ (n d : Nat) (L : List (Option iV)) (r : List iV) (m : Nat) (h : iH) (Q : Option iV → iH → Prop), G sp sc [] d mX11_retells (n + 1) 1 L (.inr (.inr (m + 2)) :: r) h Q = (match h.1[m]? with | some (.inl (ci, fs)) => (match lkF 11 17 ci with | some k => (match fs[k]? with | some v => G sp sc [] d mX11_retells n 4 L (v :: r) h Q | none => False) | none => False) | _ => False)) ∧
  (∀ (n d : Nat) (L : List (Option iV)) (st : List iV) (h : iH) (Q : Option iV → iH → Prop), G sp sc [] d mX11_retells (n + 1) 4 L st h Q = (match ld L 1 with | some (.inl x) => G sp sc [] d mX11_retells n 5 L (.inl x :: st) h Q | _ => False)) ∧
  (∀ (n d : Nat) (L : List (Option iV)) (st : List iV) (h : iH) (Q : Option iV → iH → Prop), G sp sc [] d mX11_retells (n + 1) 5 L st h Q = (match ld L 2 with | some (.inl x) => G sp sc [] d mX11_retells n 6 L (.inl x :: st) h Q | _ => False)) ∧
  (∀ (n d : Nat) (L : List (Option iV)) (r : List iV) (m : Nat) (z0 : iV) (z1 : iV) (h : iH) (Q : Option iV → iH → Prop), G sp sc [] (d + 1) mX11_retells (n + 1) 6 L (z1 :: z0 :: .inr (.inr (m + 2)) :: r) h Q = (match h.1[m]? with | some (.inl (ci, _)) => (match lkC 11 113 ci with | some (y1, n1, kd) => (n1 = 2 ∧ (kd = 2 ∨ kd = 3 ∨ kd = 8) ∧ cs r ≤ 8) ∧ Call sp sc d y1 [.inr (.inr (m + 2)), z0, z1] h (fun q h1 => GC sp sc [] (d + 1) mX11_retells n 9 L q r h h1 Q) | none => False) | _ => False)) ∧
  (∀ (n d : Nat) (L : List (Option iV)) (a : Int) (r : List iV) (h : iH) (Q : Option iV → iH → Prop), G sp sc [] d mX11_retells (n + 1) 9 L (.inl a :: r) h Q = (inI a = true ∧ (a = 0 → G sp sc [] d mX11_retells n 22 L r h Q) ∧ (¬ (a = 0) → G sp sc [] d mX11_retells n 12 L r h Q))) ∧
  (∀ (n d : Nat) (L : List (Option iV)) (st : List iV) (h : iH) (Q : Option iV → iH → Prop), G sp sc [] d mX11_retells (n + 1) 12 L st h Q = (match ld L 3 with | some (.inl x) => G sp sc [] d mX11_retells n 13 L (.inl x :: st) h Q | _ => False)) ∧
  (∀ (n d : Nat) (L : List (Option iV)) (a : Int) (r : List iV) (h : iH) (Q : Option iV → iH → Prop), G sp sc [] d mX11_retells (n + 1) 13 L (.inl a :: r) h Q = (inI a = true ∧ (a < 0 → G sp sc [] d mX11_retells n 22 L r h Q) ∧ (¬ (a < 0) → G sp sc [] d mX11_retells n 16 L r h Q))) ∧
  (∀ (n d : Nat) (L : List (Option iV)) (st : List iV) (h : iH) (Q : Option iV → iH → Prop), G sp sc [] d mX11_retells (n + 1) 16 L st h Q = (match ld L 3 with | some (.inl x) => G sp sc [] d mX11_retells n 17 L (.inl x :: st) h Q | _ => False)) ∧
  (∀ (n d : Nat) (L : List (Option iV)) (st : List iV) (h : iH) (Q : Option iV → iH → Prop), G sp sc [] d mX11_retells (n + 1) 17 L st h Q = ((-128 ≤ (99 : Int) ∧ (99 : Int) < 128) ∧ G sp sc [] d mX11_retells n 19 L (.inl 99 :: st) h Q)) ∧
  (∀ (n d : Nat) (L : List (Option iV)) (a : Int) (b : Int) (r : List iV) (h : iH) (Q : Option iV → iH → Prop), G sp sc [] d mX11_retells (n + 1) 19 L (.inl b :: .inl a :: r) h Q = ((inI a = true ∧ inI b = true) ∧ (a ≤ b → G sp sc [] d mX11_retells n 24 L r h Q) ∧ (¬ (a ≤ b) → G sp sc [] d mX11_retells n 22 L r h Q))) ∧
  (∀ (n d : Nat) (L : List (Option iV)) (st : List iV) (h : iH) (Q : Option iV → iH → Prop), G sp sc [] d mX11_retells (n + 1) 22 L st h Q = G sp sc [] d mX11_retells n 23 L (.inl (-1) :: st) h Q) ∧
  (∀ (n d : Nat) (L : List (Option iV)) (a : Int) (h : iH) (Q : Option iV → iH → Prop), G sp sc [] d mX11_retells (n + 1) 23 L [.inl a] h Q = Q (some (.inl a)) h) ∧
  (∀ (n d : Nat) (L : List (Option iV)) (st : List iV) (h : iH) (Q : Option iV → iH → Prop), G sp sc [] d mX11_retells (n + 1) 24 L st h Q = (match ld L 0 with | some (.inr (.inr (r + 1))) => G sp sc [] d mX11_retells n 25 L (.inr (.inr (r + 1)) :: st) h Q | _ => False)) ∧
  (∀ (n d : Nat) (L : List (Option iV)) (r : List iV) (m : Nat) (h : iH) (Q : Option iV → iH → Prop), G sp sc [] d mX11_retells (n + 1) 25 L (.inr (.inr (m + 2)) :: r) h Q = (match h.1[m]? with | some (.inl (ci, fs)) => (match lkF 11 17 ci with | some k => (match fs[k]? with | some v => G sp sc [] d mX11_retells n 28 L (v :: r) h Q | none => False) | none => False) | _ => False)) ∧
  (∀ (n d : Nat) (L : List (Option iV)) (st : List iV) (h : iH) (Q : Option iV → iH → Prop), G sp sc [] d mX11_retells (n + 1) 28 L st h Q = (match ld L 1 with | some (.inl x) => G sp sc [] d mX11_retells n 29 L (.inl x :: st) h Q | _ => False)) ∧
  (∀ (n d : Nat) (L : List (Option iV)) (st : List iV) (h : iH) (Q : Option iV → iH → Prop), G sp sc [] d mX11_retells (n + 1) 29 L st h Q = (match ld L 2 with | some (.inl x) => G sp sc [] d mX11_retells n 30 L (.inl x :: st) h Q | _ => False)) ∧
  (∀ (n d : Nat) (L : List (Option iV)) (r : List iV) (m : Nat) (z0 : iV) (z1 : iV) (h : iH) (Q : Option iV → iH → Prop), G sp sc [] (d + 1) mX11_retells (n + 1) 30 L (z1 :: z0 :: .inr (.inr (m + 2)) :: r) h Q = (match h.1[m]? with | some (.inl (ci, _)) => (match lkC 11 117 ci with | some (y1, n1, kd) => (n1 = 2 ∧ (kd = 2 ∨ kd = 3 ∨ kd = 8) ∧ cs r ≤ 8) ∧ Call sp sc d y1 [.inr (.inr (m + 2)), z0, z1] h (fun q h1 => GC sp sc [] (d + 1) mX11_retells n 33 L q r h h1 Q) | none => False) | _ => False)) ∧
  (∀ (n d : Nat) (L : List (Option iV)) (st : List iV) (h : iH) (Q : Option iV → iH → Prop), G sp sc [] d mX11_retells (n + 1) 33 L st h Q = (match ld L 3 with | some (.inl x) => G sp sc [] d mX11_retells n 34 L (.inl x :: st) h Q | _ => False)) ∧
  (∀ (n d : Nat) (L : List (Option iV)) (r : List iV) (m : Nat) (z0 : iV) (h : iH) (Q : Option iV → iH → Prop), G sp sc [] (d + 1) mX11_retells (n + 1) 34 L (z0 :: .inr (.inr (m + 2)) :: r) h Q = (match h.1[m]? with | some (.inl (ci, _)) => (match lkC 11 149 ci with | some (y1, n1, kd) => (n1 = 1 ∧ (kd = 2 ∨ kd = 3 ∨ kd = 8) ∧ cs r ≤ 8) ∧ Call sp sc d y1 [.inr (.inr (m + 2)), z0] h (fun q h1 => GC sp sc [] (d + 1) mX11_retells n 37 L q r h h1 Q) | none => False) | _ => False)) ∧
  (∀ (n d : Nat) (L : List (Option iV)) (a : Int) (h : iH) (Q : Option iV → iH → Prop), G sp sc [] d mX11_retells (n + 1) 37 L [.inl a] h Q = Q (some (.inl a)) h) ∧
  lkC 11 113 8 = some (mX8_hasOne, 2, 2) ∧
  lkC 11 117 8 = some (mX8_natureOf, 2, 2) ∧
  lkC 11 149 0 = some (mX0_retold, 1, 3) ∧
  lkC 11 149 1 = some (mX1_retold, 1, 3) ∧
  lkC 11 149 3 = some (mX3_retold, 1, 3) ∧
  lkC 11 149 6 = some (mX6_retold, 1, 2) ∧
  lkC 11 149 7 = some (mX7_retold, 1, 3) ∧
  lkC 11 149 9 = some (mX9_retold, 1, 3) ∧
  lkF 11 17 11 = some 2 := ⟨by intros; exact G_at (by decide +kernel : fetch mX11_retells 0 = some (.aload_n 0)),
  by intros; exact G_own (by decide +kernel : fetch mX11_retells 1 = some (.getfield 17)) (by decide +kernel),
  by intros; exact G_at (by decide +kernel : fetch mX11_retells 4 = some (.iload_n 1)),
  by intros; exact G_at (by decide +kernel : fetch mX11_retells 5 = some (.iload_n 2)),
  by intros; exact G_callV (by decide +kernel : fetch mX11_retells 6 = some (.invokevirtual 113)) (by decide +kernel) (by decide +kernel) rfl,
  by intros; exact G_at (by decide +kernel : fetch mX11_retells 9 = some (.ifCond .eq 13)),
  by intros; exact G_at (by decide +kernel : fetch mX11_retells 12 = some (.iload_n 3)),
  by intros; exact G_at (by decide +kernel : fetch mX11_retells 13 = some (.ifCond .lt 9)),
  by intros; exact G_at (by decide +kernel : fetch mX11_retells 16 = some (.iload_n 3)),
  by intros; exact G_at (by decide +kernel : fetch mX11_retells 17 = some (.bipush 99)),
  by intros; exact G_at (by decide +kernel : fetch mX11_retells 19 = some (.if_icmp .le 5)),
  by intros; exact G_at (by decide +kernel : fetch mX11_retells 22 = some (.iconst (-1))),
  by intros; exact G_reti (by decide +kernel : fetch mX11_retells 23 = some (.ireturn)) (by decide +kernel),
  by intros; exact G_at (by decide +kernel : fetch mX11_retells 24 = some (.aload_n 0)),
  by intros; exact G_own (by decide +kernel : fetch mX11_retells 25 = some (.getfield 17)) (by decide +kernel),
  by intros; exact G_at (by decide +kernel : fetch mX11_retells 28 = some (.iload_n 1)),
  by intros; exact G_at (by decide +kernel : fetch mX11_retells 29 = some (.iload_n 2)),
  by intros; exact G_callV (by decide +kernel : fetch mX11_retells 30 = some (.invokevirtual 117)) (by decide +kernel) (by decide +kernel) rfl,
  by intros; exact G_at (by decide +kernel : fetch mX11_retells 33 = some (.iload_n 3)),
  by intros; exact G_callV (by decide +kernel : fetch mX11_retells 34 = some (.invokevirtual 149)) (by decide +kernel) (by decide +kernel) rfl,
  by intros; exact G_reti (by decide +kernel : fetch mX11_retells 37 = some (.ireturn)) (by decide +kernel),
  by decide +kernel,
  by decide +kernel,
  by decide +kernel,
  by decide +kernel,
  by decide +kernel,
  by decide +kernel,
  by decide +kernel,
  by decide +kernel,
  by decide +kernel⟩
theorem gX11_comes : (∀ (n d : Nat) (L : List (Option iV)) (st : List iV) (h : iH) (Q : Option iV → iH → Prop), G sp sc [] d mX11_comes (n + 1) 0 L st h Q = (match ld L 1 with | some (.inl x) => G sp sc [] d mX11_comes n 1 L (.inl x :: st) h Q | _ => False)) ∧
  (∀ (n d : Nat) (L : List (Option iV)) (r : List iV) (z0 : iV) (h : iH) (Q : Option iV → iH → Prop), G sp sc [] (d + 1) mX11_comes (n + 1) 1 L (z0 :: r) h Q = (cs r ≤ 8 ∧ Call sp sc d mX11_isShelf [z0] h (fun q h1 => GC sp sc [] (d + 1) mX11_comes n 4 L q r h h1 Q))) ∧
  (∀ (n d : Nat) (L : List (Option iV)) (a : Int) (r : List iV) (h : iH) (Q : Option iV → iH → Prop), G sp sc [] d mX11_comes (n + 1) 4 L (.inl a :: r) h Q = (inI a = true ∧ (a = 0 → G sp sc [] d mX11_comes n 14 L r h Q) ∧ (¬ (a = 0) → G sp sc [] d mX11_comes n 7 L r h Q))) ∧
  (∀ (n d : Nat) (L : List (Option iV)) (st : List iV) (h : iH) (Q : Option iV → iH → Prop), G sp sc [] d mX11_comes (n + 1) 7 L st h Q = (match ld L 2 with | some (.inl x) => G sp sc [] d mX11_comes n 8 L (.inl x :: st) h Q | _ => False)) ∧
  (∀ (n d : Nat) (L : List (Option iV)) (r : List iV) (z0 : iV) (h : iH) (Q : Option iV → iH → Prop), G sp sc [] (d + 1) mX11_comes (n + 1) 8 L (z0 :: r) h Q = (cs r ≤ 8 ∧ Call sp sc d mX11_isSide [z0] h (fun q h1 => GC sp sc [] (d + 1) mX11_comes n 11 L q r h h1 Q))) ∧
  (∀ (n d : Nat) (L : List (Option iV)) (a : Int) (r : List iV) (h : iH) (Q : Option iV → iH → Prop), G sp sc [] d mX11_comes (n + 1) 11 L (.inl a :: r) h Q = (inI a = true ∧ (¬ a = 0 → G sp sc [] d mX11_comes n 16 L r h Q) ∧ (¬ (¬ a = 0) → G sp sc [] d mX11_comes n 14 L r h Q))) ∧
  (∀ (n d : Nat) (L : List (Option iV)) (st : List iV) (h : iH) (Q : Option iV → iH → Prop), G sp sc [] d mX11_comes (n + 1) 14 L st h Q = G sp sc [] d mX11_comes n 15 L (.inl (-1) :: st) h Q) ∧
  (∀ (n d : Nat) (L : List (Option iV)) (a : Int) (h : iH) (Q : Option iV → iH → Prop), G sp sc [] d mX11_comes (n + 1) 15 L [.inl a] h Q = Q (some (.inl a)) h) ∧
  (∀ (n d : Nat) (L : List (Option iV)) (st : List iV) (h : iH) (Q : Option iV → iH → Prop), G sp sc [] d mX11_comes (n + 1) 16 L st h Q = (match ld L 0 with | some (.inr (.inr (r + 1))) => G sp sc [] d mX11_comes n 17 L (.inr (.inr (r + 1)) :: st) h Q | _ => False)) ∧
  (∀ (n d : Nat) (L : List (Option iV)) (r : List iV) (m : Nat) (h : iH) (Q : Option iV → iH → Prop), G sp sc [] d mX11_comes (n + 1) 17 L (.inr (.inr (m + 2)) :: r) h Q = (match h.1[m]? with | some (.inl (ci, fs)) => (match lkF 11 63 ci with | some k => (match fs[k]? with | some v => G sp sc [] d mX11_comes n 20 L (v :: r) h Q | none => False) | none => False) | _ => False)) ∧
  (∀ (n d : Nat) (L : List (Option iV)) (st : List iV) (h : iH) (Q : Option iV → iH → Prop), G sp sc [] d mX11_comes (n + 1) 20 L st h Q = (match ld L 1 with | some (.inl x) => G sp sc [] d mX11_comes n 21 L (.inl x :: st) h Q | _ => False)) ∧
  (∀ (n d : Nat) (L : List (Option iV)) (r : List iV) (j : Int) (m : Nat) (h : iH) (Q : Option iV → iH → Prop), G sp sc [] d mX11_comes (n + 1) 21 L (.inl j :: .inr (.inr (m + 2)) :: r) h Q = (match h.1[m]? with | some (.inr (.inr (t, rs))) => (inA j rs.length = true ∧ 3 ≤ t ∧ t < 6) ∧ G sp sc [] d mX11_comes n 22 L (.inr (.inr (rs.getD j.toNat 0)) :: r) h Q | _ => False)) ∧
  (∀ (n d : Nat) (L : List (Option iV)) (r : List iV) (m : Nat) (h : iH) (Q : Option iV → iH → Prop), G sp sc [] (d + 1) mX11_comes (n + 1) 22 L (.inr (.inr (m + 2)) :: r) h Q = (match h.1[m]? with | some (.inl (ci, _)) => (match lkC 11 155 ci with | some (y1, n1, kd) => (n1 = 0 ∧ (kd = 2 ∨ kd = 3 ∨ kd = 8) ∧ cs r ≤ 8) ∧ Call sp sc d y1 [.inr (.inr (m + 2))] h (fun q h1 => GC sp sc [] (d + 1) mX11_comes n 25 L q r h h1 Q) | none => False) | _ => False)) ∧
  (∀ (n d : Nat) (L : List (Option iV)) (r : List iV) (x : Int) (h : iH) (Q : Option iV → iH → Prop), G sp sc [] d mX11_comes (n + 1) 25 L (.inl x :: r) h Q = (match st1 L 3 (.inl x) with | some L' => G sp sc [] d mX11_comes n 26 L' r h Q | none => False)) ∧
  (∀ (n d : Nat) (L : List (Option iV)) (st : List iV) (h : iH) (Q : Option iV → iH → Prop), G sp sc [] d mX11_comes (n + 1) 26 L st h Q = (match ld L 3 with | some (.inl x) => G sp sc [] d mX11_comes n 27 L (.inl x :: st) h Q | _ => False)) ∧
  (∀ (n d : Nat) (L : List (Option iV)) (a : Int) (r : List iV) (h : iH) (Q : Option iV → iH → Prop), G sp sc [] d mX11_comes (n + 1) 27 L (.inl a :: r) h Q = (inI a = true ∧ (a = 0 → G sp sc [] d mX11_comes n 32 L r h Q) ∧ (¬ (a = 0) → G sp sc [] d mX11_comes n 30 L r h Q))) ∧
  (∀ (n d : Nat) (L : List (Option iV)) (st : List iV) (h : iH) (Q : Option iV → iH → Prop), G sp sc [] d mX11_comes (n + 1) 30 L st h Q = (match ld L 3 with | some (.inl x) => G sp sc [] d mX11_comes n 31 L (.inl x :: st) h Q | _ => False)) ∧
  (∀ (n d : Nat) (L : List (Option iV)) (a : Int) (h : iH) (Q : Option iV → iH → Prop), G sp sc [] d mX11_comes (n + 1) 31 L [.inl a] h Q = Q (some (.inl a)) h) ∧
  (∀ (n d : Nat) (L : List (Option iV)) (st : List iV) (h : iH) (Q : Option iV → iH → Prop), G sp sc [] d mX11_comes (n + 1) 32 L st h Q = (match ld L 0 with | some (.inr (.inr (r + 1))) => G sp sc [] d mX11_comes n 33 L (.inr (.inr (r + 1)) :: st) h Q | _ => False)) ∧
  (∀ (n d : Nat) (L : List (Option iV)) (r : List iV) (m : Nat) (h : iH) (Q : Option iV → iH → Prop), G sp sc [] d mX11_comes (n + 1) 33 L (.inr (.inr (m + 2)) :: r) h Q = (match h.1[m]? with | some (.inl (ci, fs)) => (match lkF 11 17 ci with | some k => (match fs[k]? with | some v => G sp sc [] d mX11_comes n 36 L (v :: r) h Q | none => False) | none => False) | _ => False)) ∧
  (∀ (n d : Nat) (L : List (Option iV)) (st : List iV) (h : iH) (Q : Option iV → iH → Prop), G sp sc [] d mX11_comes (n + 1) 36 L st h Q = (match ld L 2 with | some (.inl x) => G sp sc [] d mX11_comes n 37 L (.inl x :: st) h Q | _ => False)) ∧
  (∀ (n d : Nat) (L : List (Option iV)) (st : List iV) (h : iH) (Q : Option iV → iH → Prop), G sp sc [] d mX11_comes (n + 1) 37 L st h Q = (match ld L 0 with | some (.inr (.inr (r + 1))) => G sp sc [] d mX11_comes n 38 L (.inr (.inr (r + 1)) :: st) h Q | _ => False)) ∧
  (∀ (n d : Nat) (L : List (Option iV)) (r : List iV) (m : Nat) (h : iH) (Q : Option iV → iH → Prop), G sp sc [] d mX11_comes (n + 1) 38 L (.inr (.inr (m + 2)) :: r) h Q = (match h.1[m]? with | some (.inl (ci, fs)) => (match lkF 11 63 ci with | some k => (match fs[k]? with | some v => G sp sc [] d mX11_comes n 41 L (v :: r) h Q | none => False) | none => False) | _ => False)) ∧
  (∀ (n d : Nat) (L : List (Option iV)) (st : List iV) (h : iH) (Q : Option iV → iH → Prop), G sp sc [] d mX11_comes (n + 1) 41 L st h Q = (match ld L 1 with | some (.inl x) => G sp sc [] d mX11_comes n 42 L (.inl x :: st) h Q | _ => False)) ∧
  (∀ (n d : Nat) (L : List (Option iV)) (r : List iV) (j : Int) (m : Nat) (h : iH) (Q : Option iV → iH → Prop), G sp sc [] d mX11_comes (n + 1) 42 L (.inl j :: .inr (.inr (m + 2)) :: r) h Q = (match h.1[m]? with | some (.inr (.inr (t, rs))) => (inA j rs.length = true ∧ 3 ≤ t ∧ t < 6) ∧ G sp sc [] d mX11_comes n 43 L (.inr (.inr (rs.getD j.toNat 0)) :: r) h Q | _ => False)) ∧
  (∀ (n d : Nat) (L : List (Option iV)) (r : List iV) (m : Nat) (h : iH) (Q : Option iV → iH → Prop), G sp sc [] d mX11_comes (n + 1) 43 L (.inr (.inr (m + 2)) :: r) h Q = (match h.1[m]? with | some (.inl (ci, fs)) => (match lkF 11 158 ci with | some k => (match fs[k]? with | some v => G sp sc [] d mX11_comes n 46 L (v :: r) h Q | none => False) | none => False) | _ => False)) ∧
  (∀ (n d : Nat) (L : List (Option iV)) (r : List iV) (m : Nat) (z0 : iV) (z1 : iV) (h : iH) (Q : Option iV → iH → Prop), G sp sc [] (d + 1) mX11_comes (n + 1) 46 L (z1 :: z0 :: .inr (.inr (m + 2)) :: r) h Q = (match h.1[m]? with | some (.inl (ci, _)) => (match lkC 11 162 ci with | some (y1, n1, kd) => (n1 = 2 ∧ (kd = 2 ∨ kd = 3 ∨ kd = 8) ∧ cs r ≤ 8) ∧ Call sp sc d y1 [.inr (.inr (m + 2)), z0, z1] h (fun q h1 => GC sp sc [] (d + 1) mX11_comes n 49 L q r h h1 Q) | none => False) | _ => False)) ∧
  (∀ (n d : Nat) (L : List (Option iV)) (a : Int) (h : iH) (Q : Option iV → iH → Prop), G sp sc [] d mX11_comes (n + 1) 49 L [.inl a] h Q = Q (some (.inl a)) h) ∧
  lkC 11 155 5 = some (mX5_refusalAsNature, 0, 2) ∧
  lkC 11 162 8 = some (mX8_admit, 2, 2) ∧
  lkF 11 158 5 = some 1 ∧
  lkF 11 17 11 = some 2 ∧
  lkF 11 63 11 = some 1 := ⟨by intros; exact G_at (by decide +kernel : fetch mX11_comes 0 = some (.iload_n 1)),
  by intros; exact G_callS (k := 1) (kd := 0) (by decide +kernel : fetch mX11_comes 1 = some (.invokestatic 75)) (by decide +kernel) (by decide +kernel) (by decide +kernel) rfl (by decide),
  by intros; exact G_at (by decide +kernel : fetch mX11_comes 4 = some (.ifCond .eq 10)),
  by intros; exact G_at (by decide +kernel : fetch mX11_comes 7 = some (.iload_n 2)),
  by intros; exact G_callS (k := 1) (kd := 0) (by decide +kernel : fetch mX11_comes 8 = some (.invokestatic 152)) (by decide +kernel) (by decide +kernel) (by decide +kernel) rfl (by decide),
  by intros; exact G_at (by decide +kernel : fetch mX11_comes 11 = some (.ifCond .ne 5)),
  by intros; exact G_at (by decide +kernel : fetch mX11_comes 14 = some (.iconst (-1))),
  by intros; exact G_reti (by decide +kernel : fetch mX11_comes 15 = some (.ireturn)) (by decide +kernel),
  by intros; exact G_at (by decide +kernel : fetch mX11_comes 16 = some (.aload_n 0)),
  by intros; exact G_own (by decide +kernel : fetch mX11_comes 17 = some (.getfield 63)) (by decide +kernel),
  by intros; exact G_at (by decide +kernel : fetch mX11_comes 20 = some (.iload_n 1)),
  by intros; exact G_at (by decide +kernel : fetch mX11_comes 21 = some (.aaload)),
  by intros; exact G_callV (by decide +kernel : fetch mX11_comes 22 = some (.invokevirtual 155)) (by decide +kernel) (by decide +kernel) rfl,
  by intros; exact G_at (by decide +kernel : fetch mX11_comes 25 = some (.istore_n 3)),
  by intros; exact G_at (by decide +kernel : fetch mX11_comes 26 = some (.iload_n 3)),
  by intros; exact G_at (by decide +kernel : fetch mX11_comes 27 = some (.ifCond .eq 5)),
  by intros; exact G_at (by decide +kernel : fetch mX11_comes 30 = some (.iload_n 3)),
  by intros; exact G_reti (by decide +kernel : fetch mX11_comes 31 = some (.ireturn)) (by decide +kernel),
  by intros; exact G_at (by decide +kernel : fetch mX11_comes 32 = some (.aload_n 0)),
  by intros; exact G_own (by decide +kernel : fetch mX11_comes 33 = some (.getfield 17)) (by decide +kernel),
  by intros; exact G_at (by decide +kernel : fetch mX11_comes 36 = some (.iload_n 2)),
  by intros; exact G_at (by decide +kernel : fetch mX11_comes 37 = some (.aload_n 0)),
  by intros; exact G_own (by decide +kernel : fetch mX11_comes 38 = some (.getfield 63)) (by decide +kernel),
  by intros; exact G_at (by decide +kernel : fetch mX11_comes 41 = some (.iload_n 1)),
  by intros; exact G_at (by decide +kernel : fetch mX11_comes 42 = some (.aaload)),
  by intros; exact G_own (by decide +kernel : fetch mX11_comes 43 = some (.getfield 158)) (by decide +kernel),
  by intros; exact G_callV (by decide +kernel : fetch mX11_comes 46 = some (.invokevirtual 162)) (by decide +kernel) (by decide +kernel) rfl,
  by intros; exact G_reti (by decide +kernel : fetch mX11_comes 49 = some (.ireturn)) (by decide +kernel),
  by decide +kernel,
  by decide +kernel,
  by decide +kernel,
  by decide +kernel,
  by decide +kernel⟩
theorem gX11_likes : (∀ (n d : Nat) (L : List (Option iV)) (st : List iV) (h : iH) (Q : Option iV → iH → Prop), G sp sc [] d mX11_likes (n + 1) 0 L st h Q = (match ld L 0 with | some (.inr (.inr (r + 1))) => G sp sc [] d mX11_likes n 1 L (.inr (.inr (r + 1)) :: st) h Q | _ => False)) ∧
  (∀ (n d : Nat) (L : List (Option iV)) (r : List iV) (m : Nat) (h : iH) (Q : Option iV → iH → Prop), G sp sc [] d mX11_likes (n + 1) 1 L (.inr (.inr (m + 2)) :: r) h Q = (match h.1[m]? with | some (.inl (ci, fs)) => (match lkF 11 17 ci with | some k => (match fs[k]? with | some v => G sp sc [] d mX11_likes n 4 L (v :: r) h Q | none => False) | none => False) | _ => False)) ∧
  (∀ (n d : Nat) (L : List (Option iV)) (st : List iV) (h : iH) (Q : Option iV → iH → Prop), G sp sc [] d mX11_likes (n + 1) 4 L st h Q = (match ld L 1 with | some (.inl x) => G sp sc [] d mX11_likes n 5 L (.inl x :: st) h Q | _ => False)) ∧
  (∀ (n d : Nat) (L : List (Option iV)) (st : List iV) (h : iH) (Q : Option iV → iH → Prop), G sp sc [] d mX11_likes (n + 1) 5 L st h Q = (match ld L 2 with | some (.inl x) => G sp sc [] d mX11_likes n 6 L (.inl x :: st) h Q | _ => False)) ∧
  (∀ (n d : Nat) (L : List (Option iV)) (st : List iV) (h : iH) (Q : Option iV → iH → Prop), G sp sc [] d mX11_likes (n + 1) 6 L st h Q = (match ld L 3 with | some (.inl x) => G sp sc [] d mX11_likes n 7 L (.inl x :: st) h Q | _ => False)) ∧
  (∀ (n d : Nat) (L : List (Option iV)) (r : List iV) (m : Nat) (z0 : iV) (z1 : iV) (z2 : iV) (h : iH) (Q : Option iV → iH → Prop), G sp sc [] (d + 1) mX11_likes (n + 1) 7 L (z2 :: z1 :: z0 :: .inr (.inr (m + 2)) :: r) h Q = (match h.1[m]? with | some (.inl (ci, _)) => (match lkC 11 166 ci with | some (y1, n1, kd) => (n1 = 3 ∧ (kd = 2 ∨ kd = 3 ∨ kd = 8) ∧ cs r ≤ 8) ∧ Call sp sc d y1 [.inr (.inr (m + 2)), z0, z1, z2] h (fun q h1 => GC sp sc [] (d + 1) mX11_likes n 10 L q r h h1 Q) | none => False) | _ => False)) ∧
  (∀ (n d : Nat) (L : List (Option iV)) (a : Int) (r : List iV) (h : iH) (Q : Option iV → iH → Prop), G sp sc [] d mX11_likes (n + 1) 10 L (.inl a :: r) h Q = (inI a = true ∧ (a = 0 → G sp sc [] d mX11_likes n 26 L r h Q) ∧ (¬ (a = 0) → G sp sc [] d mX11_likes n 13 L r h Q))) ∧
  (∀ (n d : Nat) (L : List (Option iV)) (st : List iV) (h : iH) (Q : Option iV → iH → Prop), G sp sc [] d mX11_likes (n + 1) 13 L st h Q = (match ld L 0 with | some (.inr (.inr (r + 1))) => G sp sc [] d mX11_likes n 14 L (.inr (.inr (r + 1)) :: st) h Q | _ => False)) ∧
  (∀ (n d : Nat) (L : List (Option iV)) (r : List iV) (m : Nat) (h : iH) (Q : Option iV → iH → Prop), G sp sc [] d mX11_likes (n + 1) 14 L (.inr (.inr (m + 2)) :: r) h Q = (match h.1[m]? with | some (.inl (ci, fs)) => (match lkF 11 17 ci with | some k => (match fs[k]? with | some v => G sp sc [] d mX11_likes n 17 L (v :: r) h Q | none => False) | none => False) | _ => False)) ∧
  (∀ (n d : Nat) (L : List (Option iV)) (st : List iV) (h : iH) (Q : Option iV → iH → Prop), G sp sc [] d mX11_likes (n + 1) 17 L st h Q = (match ld L 1 with | some (.inl x) => G sp sc [] d mX11_likes n 18 L (.inl x :: st) h Q | _ => False)) ∧
  (∀ (n d : Nat) (L : List (Option iV)) (st : List iV) (h : iH) (Q : Option iV → iH → Prop), G sp sc [] d mX11_likes (n + 1) 18 L st h Q = (match ld L 2 with | some (.inl x) => G sp sc [] d mX11_likes n 19 L (.inl x :: st) h Q | _ => False)) ∧
  (∀ (n d : Nat) (L : List (Option iV)) (st : List iV) (h : iH) (Q : Option iV → iH → Prop), G sp sc [] d mX11_likes (n + 1) 19 L st h Q = (match ld L 3 with | some (.inl x) => G sp sc [] d mX11_likes n 20 L (.inl x :: st) h Q | _ => False)) ∧
  (∀ (n d : Nat) (L : List (Option iV)) (r : List iV) (m : Nat) (z0 : iV) (z1 : iV) (z2 : iV) (h : iH) (Q : Option iV → iH → Prop), G sp sc [] (d + 1) mX11_likes (n + 1) 20 L (z2 :: z1 :: z0 :: .inr (.inr (m + 2)) :: r) h Q = (match h.1[m]? with | some (.inl (ci, _)) => (match lkC 11 170 ci with | some (y1, n1, kd) => (n1 = 3 ∧ (kd = 2 ∨ kd = 3 ∨ kd = 8) ∧ cs r ≤ 8) ∧ Call sp sc d y1 [.inr (.inr (m + 2)), z0, z1, z2] h (fun q h1 => GC sp sc [] (d + 1) mX11_likes n 23 L q r h h1 Q) | none => False) | _ => False)) ∧
  (∀ (n d : Nat) (L : List (Option iV)) (st : List iV) (h : iH) (Q : Option iV → iH → Prop), G sp sc [] d mX11_likes (n + 1) 23 L st h Q = G sp sc [] d mX11_likes n 27 L st h Q) ∧
  (∀ (n d : Nat) (L : List (Option iV)) (st : List iV) (h : iH) (Q : Option iV → iH → Prop), G sp sc [] d mX11_likes (n + 1) 26 L st h Q = G sp sc [] d mX11_likes n 27 L (.inl (-1) :: st) h Q) ∧
  (∀ (n d : Nat) (L : List (Option iV)) (a : Int) (h : iH) (Q : Option iV → iH → Prop), G sp sc [] d mX11_likes (n + 1) 27 L [.inl a] h Q = Q (some (.inl a)) h) ∧
  lkC 11 166 8 = some (mX8_hasTwo, 3, 2) ∧
  lkC 11 170 8 = some (mX8_liking, 3, 2) ∧
  lkF 11 17 11 = some 2 := ⟨by intros; exact G_at (by decide +kernel : fetch mX11_likes 0 = some (.aload_n 0)),
  by intros; exact G_own (by decide +kernel : fetch mX11_likes 1 = some (.getfield 17)) (by decide +kernel),
  by intros; exact G_at (by decide +kernel : fetch mX11_likes 4 = some (.iload_n 1)),
  by intros; exact G_at (by decide +kernel : fetch mX11_likes 5 = some (.iload_n 2)),
  by intros; exact G_at (by decide +kernel : fetch mX11_likes 6 = some (.iload_n 3)),
  by intros; exact G_callV (by decide +kernel : fetch mX11_likes 7 = some (.invokevirtual 166)) (by decide +kernel) (by decide +kernel) rfl,
  by intros; exact G_at (by decide +kernel : fetch mX11_likes 10 = some (.ifCond .eq 16)),
  by intros; exact G_at (by decide +kernel : fetch mX11_likes 13 = some (.aload_n 0)),
  by intros; exact G_own (by decide +kernel : fetch mX11_likes 14 = some (.getfield 17)) (by decide +kernel),
  by intros; exact G_at (by decide +kernel : fetch mX11_likes 17 = some (.iload_n 1)),
  by intros; exact G_at (by decide +kernel : fetch mX11_likes 18 = some (.iload_n 2)),
  by intros; exact G_at (by decide +kernel : fetch mX11_likes 19 = some (.iload_n 3)),
  by intros; exact G_callV (by decide +kernel : fetch mX11_likes 20 = some (.invokevirtual 170)) (by decide +kernel) (by decide +kernel) rfl,
  by intros; exact G_at (by decide +kernel : fetch mX11_likes 23 = some (.goto 4)),
  by intros; exact G_at (by decide +kernel : fetch mX11_likes 26 = some (.iconst (-1))),
  by intros; exact G_reti (by decide +kernel : fetch mX11_likes 27 = some (.ireturn)) (by decide +kernel),
  by decide +kernel,
  by decide +kernel,
  by decide +kernel⟩
theorem gX11_like : (∀ (n d : Nat) (L : List (Option iV)) (st : List iV) (h : iH) (Q : Option iV → iH → Prop), G sp sc [] d mX11_like (n + 1) 0 L st h Q = (match ld L 0 with | some (.inr (.inr (r + 1))) => G sp sc [] d mX11_like n 1 L (.inr (.inr (r + 1)) :: st) h Q | _ => False)) ∧
  (∀ (n d : Nat) (L : List (Option iV)) (r : List iV) (m : Nat) (h : iH) (Q : Option iV → iH → Prop), G sp sc [] d mX11_like (n + 1) 1 L (.inr (.inr (m + 2)) :: r) h Q = (match h.1[m]? with | some (.inl (ci, fs)) => (match lkF 11 17 ci with | some k => (match fs[k]? with | some v => G sp sc [] d mX11_like n 4 L (v :: r) h Q | none => False) | none => False) | _ => False)) ∧
  (∀ (n d : Nat) (L : List (Option iV)) (st : List iV) (h : iH) (Q : Option iV → iH → Prop), G sp sc [] d mX11_like (n + 1) 4 L st h Q = (match ld L 1 with | some (.inl x) => G sp sc [] d mX11_like n 5 L (.inl x :: st) h Q | _ => False)) ∧
  (∀ (n d : Nat) (L : List (Option iV)) (st : List iV) (h : iH) (Q : Option iV → iH → Prop), G sp sc [] d mX11_like (n + 1) 5 L st h Q = (match ld L 2 with | some (.inl x) => G sp sc [] d mX11_like n 6 L (.inl x :: st) h Q | _ => False)) ∧
  (∀ (n d : Nat) (L : List (Option iV)) (st : List iV) (h : iH) (Q : Option iV → iH → Prop), G sp sc [] d mX11_like (n + 1) 6 L st h Q = (match ld L 3 with | some (.inl x) => G sp sc [] d mX11_like n 7 L (.inl x :: st) h Q | _ => False)) ∧
  (∀ (n d : Nat) (L : List (Option iV)) (r : List iV) (m : Nat) (z0 : iV) (z1 : iV) (z2 : iV) (h : iH) (Q : Option iV → iH → Prop), G sp sc [] (d + 1) mX11_like (n + 1) 7 L (z2 :: z1 :: z0 :: .inr (.inr (m + 2)) :: r) h Q = (match h.1[m]? with | some (.inl (ci, _)) => (match lkC 11 166 ci with | some (y1, n1, kd) => (n1 = 3 ∧ (kd = 2 ∨ kd = 3 ∨ kd = 8) ∧ cs r ≤ 8) ∧ Call sp sc d y1 [.inr (.inr (m + 2)), z0, z1, z2] h (fun q h1 => GC sp sc [] (d + 1) mX11_like n 10 L q r h h1 Q) | none => False) | _ => False)) ∧
  (∀ (n d : Nat) (L : List (Option iV)) (a : Int) (r : List iV) (h : iH) (Q : Option iV → iH → Prop), G sp sc [] d mX11_like (n + 1) 10 L (.inl a :: r) h Q = (inI a = true ∧ (a = 0 → G sp sc [] d mX11_like n 25 L r h Q) ∧ (¬ (a = 0) → G sp sc [] d mX11_like n 13 L r h Q))) ∧
  (∀ (n d : Nat) (L : List (Option iV)) (st : List iV) (h : iH) (Q : Option iV → iH → Prop), G sp sc [] d mX11_like (n + 1) 13 L st h Q = (match ld L 4 with | some (.inl x) => G sp sc [] d mX11_like n 15 L (.inl x :: st) h Q | _ => False)) ∧
  (∀ (n d : Nat) (L : List (Option iV)) (a : Int) (r : List iV) (h : iH) (Q : Option iV → iH → Prop), G sp sc [] d mX11_like (n + 1) 15 L (.inl a :: r) h Q = (inI a = true ∧ (a < 0 → G sp sc [] d mX11_like n 25 L r h Q) ∧ (¬ (a < 0) → G sp sc [] d mX11_like n 18 L r h Q))) ∧
  (∀ (n d : Nat) (L : List (Option iV)) (st : List iV) (h : iH) (Q : Option iV → iH → Prop), G sp sc [] d mX11_like (n + 1) 18 L st h Q = (match ld L 4 with | some (.inl x) => G sp sc [] d mX11_like n 20 L (.inl x :: st) h Q | _ => False)) ∧
  (∀ (n d : Nat) (L : List (Option iV)) (st : List iV) (h : iH) (Q : Option iV → iH → Prop), G sp sc [] d mX11_like (n + 1) 20 L st h Q = ((-128 ≤ (99 : Int) ∧ (99 : Int) < 128) ∧ G sp sc [] d mX11_like n 22 L (.inl 99 :: st) h Q)) ∧
  (∀ (n d : Nat) (L : List (Option iV)) (a : Int) (b : Int) (r : List iV) (h : iH) (Q : Option iV → iH → Prop), G sp sc [] d mX11_like (n + 1) 22 L (.inl b :: .inl a :: r) h Q = ((inI a = true ∧ inI b = true) ∧ (a ≤ b → G sp sc [] d mX11_like n 27 L r h Q) ∧ (¬ (a ≤ b) → G sp sc [] d mX11_like n 25 L r h Q))) ∧
  (∀ (n d : Nat) (L : List (Option iV)) (st : List iV) (h : iH) (Q : Option iV → iH → Prop), G sp sc [] d mX11_like (n + 1) 25 L st h Q = G sp sc [] d mX11_like n 26 L (.inl (-1) :: st) h Q) ∧
  (∀ (n d : Nat) (L : List (Option iV)) (a : Int) (h : iH) (Q : Option iV → iH → Prop), G sp sc [] d mX11_like (n + 1) 26 L [.inl a] h Q = Q (some (.inl a)) h) ∧
  (∀ (n d : Nat) (L : List (Option iV)) (st : List iV) (h : iH) (Q : Option iV → iH → Prop), G sp sc [] d mX11_like (n + 1) 27 L st h Q = (match ld L 0 with | some (.inr (.inr (r + 1))) => G sp sc [] d mX11_like n 28 L (.inr (.inr (r + 1)) :: st) h Q | _ => False)) ∧
  (∀ (n d : Nat) (L : List (Option iV)) (r : List iV) (m : Nat) (h : iH) (Q : Option iV → iH → Prop), G sp sc [] d mX11_like (n + 1) 28 L (.inr (.inr (m + 2)) :: r) h Q = (match h.1[m]? with | some (.inl (ci, fs)) => (match lkF 11 17 ci with | some k => (match fs[k]? with | some v => G sp sc [] d mX11_like n 31 L (v :: r) h Q | none => False) | none => False) | _ => False)) ∧
  (∀ (n d : Nat) (L : List (Option iV)) (st : List iV) (h : iH) (Q : Option iV → iH → Prop), G sp sc [] d mX11_like (n + 1) 31 L st h Q = (match ld L 1 with | some (.inl x) => G sp sc [] d mX11_like n 32 L (.inl x :: st) h Q | _ => False)) ∧
  (∀ (n d : Nat) (L : List (Option iV)) (st : List iV) (h : iH) (Q : Option iV → iH → Prop), G sp sc [] d mX11_like (n + 1) 32 L st h Q = (match ld L 2 with | some (.inl x) => G sp sc [] d mX11_like n 33 L (.inl x :: st) h Q | _ => False)) ∧
  (∀ (n d : Nat) (L : List (Option iV)) (st : List iV) (h : iH) (Q : Option iV → iH → Prop), G sp sc [] d mX11_like (n + 1) 33 L st h Q = (match ld L 3 with | some (.inl x) => G sp sc [] d mX11_like n 34 L (.inl x :: st) h Q | _ => False)) ∧
  (∀ (n d : Nat) (L : List (Option iV)) (r : List iV) (m : Nat) (z0 : iV) (z1 : iV) (z2 : iV) (h : iH) (Q : Option iV → iH → Prop), G sp sc [] (d + 1) mX11_like (n + 1) 34 L (z2 :: z1 :: z0 :: .inr (.inr (m + 2)) :: r) h Q = (match h.1[m]? with | some (.inl (ci, _)) => (match lkC 11 170 ci with | some (y1, n1, kd) => (n1 = 3 ∧ (kd = 2 ∨ kd = 3 ∨ kd = 8) ∧ cs r ≤ 8) ∧ Call sp sc d y1 [.inr (.inr (m + 2)), z0, z1, z2] h (fun q h1 => GC sp sc [] (d + 1) mX11_like n 37 L q r h h1 Q) | none => False) | _ => False)) ∧
  (∀ (n d : Nat) (L : List (Option iV)) (r : List iV) (x : Int) (h : iH) (Q : Option iV → iH → Prop), G sp sc [] d mX11_like (n + 1) 37 L (.inl x :: r) h Q = (match st1 L 5 (.inl x) with | some L' => G sp sc [] d mX11_like n 39 L' r h Q | none => False)) ∧
  (∀ (n d : Nat) (L : List (Option iV)) (st : List iV) (h : iH) (Q : Option iV → iH → Prop), G sp sc [] d mX11_like (n + 1) 39 L st h Q = (match ld L 0 with | some (.inr (.inr (r + 1))) => G sp sc [] d mX11_like n 40 L (.inr (.inr (r + 1)) :: st) h Q | _ => False)) ∧
  (∀ (n d : Nat) (L : List (Option iV)) (r : List iV) (m : Nat) (h : iH) (Q : Option iV → iH → Prop), G sp sc [] d mX11_like (n + 1) 40 L (.inr (.inr (m + 2)) :: r) h Q = (match h.1[m]? with | some (.inl (ci, fs)) => (match lkF 11 17 ci with | some k => (match fs[k]? with | some v => G sp sc [] d mX11_like n 43 L (v :: r) h Q | none => False) | none => False) | _ => False)) ∧
  (∀ (n d : Nat) (L : List (Option iV)) (st : List iV) (h : iH) (Q : Option iV → iH → Prop), G sp sc [] d mX11_like (n + 1) 43 L st h Q = (match ld L 1 with | some (.inl x) => G sp sc [] d mX11_like n 44 L (.inl x :: st) h Q | _ => False)) ∧
  (∀ (n d : Nat) (L : List (Option iV)) (st : List iV) (h : iH) (Q : Option iV → iH → Prop), G sp sc [] d mX11_like (n + 1) 44 L st h Q = (match ld L 2 with | some (.inl x) => G sp sc [] d mX11_like n 45 L (.inl x :: st) h Q | _ => False)) ∧
  (∀ (n d : Nat) (L : List (Option iV)) (st : List iV) (h : iH) (Q : Option iV → iH → Prop), G sp sc [] d mX11_like (n + 1) 45 L st h Q = (match ld L 3 with | some (.inl x) => G sp sc [] d mX11_like n 46 L (.inl x :: st) h Q | _ => False)) ∧
  (∀ (n d : Nat) (L : List (Option iV)) (st : List iV) (h : iH) (Q : Option iV → iH → Prop), G sp sc [] d mX11_like (n + 1) 46 L st h Q = (match ld L 4 with | some (.inl x) => G sp sc [] d mX11_like n 48 L (.inl x :: st) h Q | _ => False)) ∧
  (∀ (n d : Nat) (L : List (Option iV)) (r : List iV) (m : Nat) (z0 : iV) (z1 : iV) (z2 : iV) (z3 : iV) (h : iH) (Q : Option iV → iH → Prop), G sp sc [] (d + 1) mX11_like (n + 1) 48 L (z3 :: z2 :: z1 :: z0 :: .inr (.inr (m + 2)) :: r) h Q = (match h.1[m]? with | some (.inl (ci, _)) => (match lkC 11 174 ci with | some (y1, n1, kd) => (n1 = 4 ∧ (kd = 2 ∨ kd = 3 ∨ kd = 8) ∧ cs r ≤ 8) ∧ Call sp sc d y1 [.inr (.inr (m + 2)), z0, z1, z2, z3] h (fun q h1 => GC sp sc [] (d + 1) mX11_like n 51 L q r h h1 Q) | none => False) | _ => False)) ∧
  (∀ (n d : Nat) (L : List (Option iV)) (st : List iV) (h : iH) (Q : Option iV → iH → Prop), G sp sc [] d mX11_like (n + 1) 51 L st h Q = (match ld L 5 with | some (.inl x) => G sp sc [] d mX11_like n 53 L (.inl x :: st) h Q | _ => False)) ∧
  (∀ (n d : Nat) (L : List (Option iV)) (a : Int) (h : iH) (Q : Option iV → iH → Prop), G sp sc [] d mX11_like (n + 1) 53 L [.inl a] h Q = Q (some (.inl a)) h) ∧
  lkC 11 166 8 = some (mX8_hasTwo, 3, 2) ∧
  lkC 11 170 8 = some (mX8_liking, 3, 2) ∧
  lkC 11 174 8 = some (mX8_setLiking, 4, 2) ∧
  lkF 11 17 11 = some 2 := ⟨by intros; exact G_at (by decide +kernel : fetch mX11_like 0 = some (.aload_n 0)),
  by intros; exact G_own (by decide +kernel : fetch mX11_like 1 = some (.getfield 17)) (by decide +kernel),
  by intros; exact G_at (by decide +kernel : fetch mX11_like 4 = some (.iload_n 1)),
  by intros; exact G_at (by decide +kernel : fetch mX11_like 5 = some (.iload_n 2)),
  by intros; exact G_at (by decide +kernel : fetch mX11_like 6 = some (.iload_n 3)),
  by intros; exact G_callV (by decide +kernel : fetch mX11_like 7 = some (.invokevirtual 166)) (by decide +kernel) (by decide +kernel) rfl,
  by intros; exact G_at (by decide +kernel : fetch mX11_like 10 = some (.ifCond .eq 15)),
  by intros; exact G_at (by decide +kernel : fetch mX11_like 13 = some (.iload 4)),
  by intros; exact G_at (by decide +kernel : fetch mX11_like 15 = some (.ifCond .lt 10)),
  by intros; exact G_at (by decide +kernel : fetch mX11_like 18 = some (.iload 4)),
  by intros; exact G_at (by decide +kernel : fetch mX11_like 20 = some (.bipush 99)),
  by intros; exact G_at (by decide +kernel : fetch mX11_like 22 = some (.if_icmp .le 5)),
  by intros; exact G_at (by decide +kernel : fetch mX11_like 25 = some (.iconst (-1))),
  by intros; exact G_reti (by decide +kernel : fetch mX11_like 26 = some (.ireturn)) (by decide +kernel),
  by intros; exact G_at (by decide +kernel : fetch mX11_like 27 = some (.aload_n 0)),
  by intros; exact G_own (by decide +kernel : fetch mX11_like 28 = some (.getfield 17)) (by decide +kernel),
  by intros; exact G_at (by decide +kernel : fetch mX11_like 31 = some (.iload_n 1)),
  by intros; exact G_at (by decide +kernel : fetch mX11_like 32 = some (.iload_n 2)),
  by intros; exact G_at (by decide +kernel : fetch mX11_like 33 = some (.iload_n 3)),
  by intros; exact G_callV (by decide +kernel : fetch mX11_like 34 = some (.invokevirtual 170)) (by decide +kernel) (by decide +kernel) rfl,
  by intros; exact G_at (by decide +kernel : fetch mX11_like 37 = some (.istore 5)),
  by intros; exact G_at (by decide +kernel : fetch mX11_like 39 = some (.aload_n 0)),
  by intros; exact G_own (by decide +kernel : fetch mX11_like 40 = some (.getfield 17)) (by decide +kernel),
  by intros; exact G_at (by decide +kernel : fetch mX11_like 43 = some (.iload_n 1)),
  by intros; exact G_at (by decide +kernel : fetch mX11_like 44 = some (.iload_n 2)),
  by intros; exact G_at (by decide +kernel : fetch mX11_like 45 = some (.iload_n 3)),
  by intros; exact G_at (by decide +kernel : fetch mX11_like 46 = some (.iload 4)),
  by intros; exact G_callV (by decide +kernel : fetch mX11_like 48 = some (.invokevirtual 174)) (by decide +kernel) (by decide +kernel) rfl,
  by intros; exact G_at (by decide +kernel : fetch mX11_like 51 = some (.iload 5)),
  by intros; exact G_reti (by decide +kernel : fetch mX11_like 53 = some (.ireturn)) (by decide +kernel),
  by decide +kernel,
  by decide +kernel,
  by decide +kernel,
  by decide +kernel⟩
theorem gX11_sends : (∀ (n d : Nat) (L : List (Option iV)) (st : List iV) (h : iH) (Q : Option iV → iH → Prop), G sp sc [] d mX11_sends (n + 1) 0 L st h Q = (match ld L 0 with | some (.inr (.inr (r + 1))) => G sp sc [] d mX11_sends n 1 L (.inr (.inr (r + 1)) :: st) h Q | _ => False)) ∧
  (∀ (n d : Nat) (L : List (Option iV)) (r : List iV) (m : Nat) (h : iH) (Q : Option iV → iH → Prop), G sp sc [] d mX11_sends (n + 1) 1 L (.inr (.inr (m + 2)) :: r) h Q = (match h.1[m]? with | some (.inl (ci, fs)) => (match lkF 11 17 ci with | some k => (match fs[k]? with | some v => G sp sc [] d mX11_sends n 4 L (v :: r) h Q | none => False) | none => False) | _ => False)) ∧
  (∀ (n d : Nat) (L : List (Option iV)) (st : List iV) (h : iH) (Q : Option iV → iH → Prop), G sp sc [] d mX11_sends (n + 1) 4 L st h Q = (match ld L 1 with | some (.inl x) => G sp sc [] d mX11_sends n 5 L (.inl x :: st) h Q | _ => False)) ∧
  (∀ (n d : Nat) (L : List (Option iV)) (st : List iV) (h : iH) (Q : Option iV → iH → Prop), G sp sc [] d mX11_sends (n + 1) 5 L st h Q = (match ld L 2 with | some (.inl x) => G sp sc [] d mX11_sends n 6 L (.inl x :: st) h Q | _ => False)) ∧
  (∀ (n d : Nat) (L : List (Option iV)) (r : List iV) (m : Nat) (z0 : iV) (z1 : iV) (h : iH) (Q : Option iV → iH → Prop), G sp sc [] (d + 1) mX11_sends (n + 1) 6 L (z1 :: z0 :: .inr (.inr (m + 2)) :: r) h Q = (match h.1[m]? with | some (.inl (ci, _)) => (match lkC 11 113 ci with | some (y1, n1, kd) => (n1 = 2 ∧ (kd = 2 ∨ kd = 3 ∨ kd = 8) ∧ cs r ≤ 8) ∧ Call sp sc d y1 [.inr (.inr (m + 2)), z0, z1] h (fun q h1 => GC sp sc [] (d + 1) mX11_sends n 9 L q r h h1 Q) | none => False) | _ => False)) ∧
  (∀ (n d : Nat) (L : List (Option iV)) (a : Int) (r : List iV) (h : iH) (Q : Option iV → iH → Prop), G sp sc [] d mX11_sends (n + 1) 9 L (.inl a :: r) h Q = (inI a = true ∧ (a = 0 → G sp sc [] d mX11_sends n 24 L r h Q) ∧ (¬ (a = 0) → G sp sc [] d mX11_sends n 12 L r h Q))) ∧
  (∀ (n d : Nat) (L : List (Option iV)) (st : List iV) (h : iH) (Q : Option iV → iH → Prop), G sp sc [] d mX11_sends (n + 1) 12 L st h Q = (match ld L 0 with | some (.inr (.inr (r + 1))) => G sp sc [] d mX11_sends n 13 L (.inr (.inr (r + 1)) :: st) h Q | _ => False)) ∧
  (∀ (n d : Nat) (L : List (Option iV)) (r : List iV) (m : Nat) (h : iH) (Q : Option iV → iH → Prop), G sp sc [] d mX11_sends (n + 1) 13 L (.inr (.inr (m + 2)) :: r) h Q = (match h.1[m]? with | some (.inl (ci, fs)) => (match lkF 11 17 ci with | some k => (match fs[k]? with | some v => G sp sc [] d mX11_sends n 16 L (v :: r) h Q | none => False) | none => False) | _ => False)) ∧
  (∀ (n d : Nat) (L : List (Option iV)) (st : List iV) (h : iH) (Q : Option iV → iH → Prop), G sp sc [] d mX11_sends (n + 1) 16 L st h Q = (match ld L 1 with | some (.inl x) => G sp sc [] d mX11_sends n 17 L (.inl x :: st) h Q | _ => False)) ∧
  (∀ (n d : Nat) (L : List (Option iV)) (st : List iV) (h : iH) (Q : Option iV → iH → Prop), G sp sc [] d mX11_sends (n + 1) 17 L st h Q = (match ld L 3 with | some (.inl x) => G sp sc [] d mX11_sends n 18 L (.inl x :: st) h Q | _ => False)) ∧
  (∀ (n d : Nat) (L : List (Option iV)) (r : List iV) (m : Nat) (z0 : iV) (z1 : iV) (h : iH) (Q : Option iV → iH → Prop), G sp sc [] (d + 1) mX11_sends (n + 1) 18 L (z1 :: z0 :: .inr (.inr (m + 2)) :: r) h Q = (match h.1[m]? with | some (.inl (ci, _)) => (match lkC 11 113 ci with | some (y1, n1, kd) => (n1 = 2 ∧ (kd = 2 ∨ kd = 3 ∨ kd = 8) ∧ cs r ≤ 8) ∧ Call sp sc d y1 [.inr (.inr (m + 2)), z0, z1] h (fun q h1 => GC sp sc [] (d + 1) mX11_sends n 21 L q r h h1 Q) | none => False) | _ => False)) ∧
  (∀ (n d : Nat) (L : List (Option iV)) (a : Int) (r : List iV) (h : iH) (Q : Option iV → iH → Prop), G sp sc [] d mX11_sends (n + 1) 21 L (.inl a :: r) h Q = (inI a = true ∧ (¬ a = 0 → G sp sc [] d mX11_sends n 26 L r h Q) ∧ (¬ (¬ a = 0) → G sp sc [] d mX11_sends n 24 L r h Q))) ∧
  (∀ (n d : Nat) (L : List (Option iV)) (st : List iV) (h : iH) (Q : Option iV → iH → Prop), G sp sc [] d mX11_sends (n + 1) 24 L st h Q = G sp sc [] d mX11_sends n 25 L (.inl (-1) :: st) h Q) ∧
  (∀ (n d : Nat) (L : List (Option iV)) (a : Int) (h : iH) (Q : Option iV → iH → Prop), G sp sc [] d mX11_sends (n + 1) 25 L [.inl a] h Q = Q (some (.inl a)) h) ∧
  (∀ (n d : Nat) (L : List (Option iV)) (st : List iV) (h : iH) (Q : Option iV → iH → Prop), G sp sc [] d mX11_sends (n + 1) 26 L st h Q = (match ld L 0 with | some (.inr (.inr (r + 1))) => G sp sc [] d mX11_sends n 27 L (.inr (.inr (r + 1)) :: st) h Q | _ => False)) ∧
  (∀ (n d : Nat) (L : List (Option iV)) (r : List iV) (m : Nat) (h : iH) (Q : Option iV → iH → Prop), G sp sc [] d mX11_sends (n + 1) 27 L (.inr (.inr (m + 2)) :: r) h Q = (match h.1[m]? with | some (.inl (ci, fs)) => (match lkF 11 17 ci with | some k => (match fs[k]? with | some v => G sp sc [] d mX11_sends n 30 L (v :: r) h Q | none => False) | none => False) | _ => False)) ∧
  (∀ (n d : Nat) (L : List (Option iV)) (r : List iV) (m : Nat) (h : iH) (Q : Option iV → iH → Prop), G sp sc [] d mX11_sends (n + 1) 30 L (.inr (.inr (m + 2)) :: r) h Q = (match h.1[m]? with | some (.inl (ci, fs)) => (match lkF 11 128 ci with | some k => (match fs[k]? with | some v => G sp sc [] d mX11_sends n 33 L (v :: r) h Q | none => False) | none => False) | _ => False)) ∧
  (∀ (n d : Nat) (L : List (Option iV)) (st : List iV) (h : iH) (Q : Option iV → iH → Prop), G sp sc [] d mX11_sends (n + 1) 33 L st h Q = (match ld L 1 with | some (.inl x) => G sp sc [] d mX11_sends n 34 L (.inl x :: st) h Q | _ => False)) ∧
  (∀ (n d : Nat) (L : List (Option iV)) (st : List iV) (h : iH) (Q : Option iV → iH → Prop), G sp sc [] d mX11_sends (n + 1) 34 L st h Q = (match ld L 2 with | some (.inl x) => G sp sc [] d mX11_sends n 35 L (.inl x :: st) h Q | _ => False)) ∧
  (∀ (n d : Nat) (L : List (Option iV)) (r : List iV) (z0 : iV) (z1 : iV) (h : iH) (Q : Option iV → iH → Prop), G sp sc [] (d + 1) mX11_sends (n + 1) 35 L (z1 :: z0 :: r) h Q = (cs r ≤ 8 ∧ Call sp sc d mX8_place [z0, z1] h (fun q h1 => GC sp sc [] (d + 1) mX11_sends n 38 L q r h h1 Q))) ∧
  (∀ (n d : Nat) (L : List (Option iV)) (r : List iV) (j : Int) (m : Nat) (h : iH) (Q : Option iV → iH → Prop), G sp sc [] d mX11_sends (n + 1) 38 L (.inl j :: .inr (.inr (m + 2)) :: r) h Q = (match h.1[m]? with | some (.inr (.inl (0, xs))) => inA j xs.length = true ∧ G sp sc [] d mX11_sends n 39 L (.inl (xs.getD j.toNat 0) :: r) h Q | _ => False)) ∧
  (∀ (n d : Nat) (L : List (Option iV)) (r : List iV) (x : Int) (h : iH) (Q : Option iV → iH → Prop), G sp sc [] d mX11_sends (n + 1) 39 L (.inl x :: r) h Q = (match st1 L 4 (.inl x) with | some L' => G sp sc [] d mX11_sends n 41 L' r h Q | none => False)) ∧
  (∀ (n d : Nat) (L : List (Option iV)) (st : List iV) (h : iH) (Q : Option iV → iH → Prop), G sp sc [] d mX11_sends (n + 1) 41 L st h Q = (match ld L 0 with | some (.inr (.inr (r + 1))) => G sp sc [] d mX11_sends n 42 L (.inr (.inr (r + 1)) :: st) h Q | _ => False)) ∧
  (∀ (n d : Nat) (L : List (Option iV)) (r : List iV) (m : Nat) (h : iH) (Q : Option iV → iH → Prop), G sp sc [] d mX11_sends (n + 1) 42 L (.inr (.inr (m + 2)) :: r) h Q = (match h.1[m]? with | some (.inl (ci, fs)) => (match lkF 11 17 ci with | some k => (match fs[k]? with | some v => G sp sc [] d mX11_sends n 45 L (v :: r) h Q | none => False) | none => False) | _ => False)) ∧
  (∀ (n d : Nat) (L : List (Option iV)) (st : List iV) (h : iH) (Q : Option iV → iH → Prop), G sp sc [] d mX11_sends (n + 1) 45 L st h Q = (match ld L 1 with | some (.inl x) => G sp sc [] d mX11_sends n 46 L (.inl x :: st) h Q | _ => False)) ∧
  (∀ (n d : Nat) (L : List (Option iV)) (st : List iV) (h : iH) (Q : Option iV → iH → Prop), G sp sc [] d mX11_sends (n + 1) 46 L st h Q = (match ld L 2 with | some (.inl x) => G sp sc [] d mX11_sends n 47 L (.inl x :: st) h Q | _ => False)) ∧
  (∀ (n d : Nat) (L : List (Option iV)) (st : List iV) (h : iH) (Q : Option iV → iH → Prop), G sp sc [] d mX11_sends (n + 1) 47 L st h Q = (match ld L 3 with | some (.inl x) => G sp sc [] d mX11_sends n 48 L (.inl x :: st) h Q | _ => False)) ∧
  (∀ (n d : Nat) (L : List (Option iV)) (r : List iV) (m : Nat) (z0 : iV) (z1 : iV) (z2 : iV) (h : iH) (Q : Option iV → iH → Prop), G sp sc [] (d + 1) mX11_sends (n + 1) 48 L (z2 :: z1 :: z0 :: .inr (.inr (m + 2)) :: r) h Q = (match h.1[m]? with | some (.inl (ci, _)) => (match lkC 11 178 ci with | some (y1, n1, kd) => (n1 = 3 ∧ (kd = 2 ∨ kd = 3 ∨ kd = 8) ∧ cs r ≤ 8) ∧ Call sp sc d y1 [.inr (.inr (m + 2)), z0, z1, z2] h (fun q h1 => GC sp sc [] (d + 1) mX11_sends n 51 L q r h h1 Q) | none => False) | _ => False)) ∧
  (∀ (n d : Nat) (L : List (Option iV)) (st : List iV) (h : iH) (Q : Option iV → iH → Prop), G sp sc [] d mX11_sends (n + 1) 51 L st h Q = (match ld L 4 with | some (.inl x) => G sp sc [] d mX11_sends n 53 L (.inl x :: st) h Q | _ => False)) ∧
  (∀ (n d : Nat) (L : List (Option iV)) (r : List iV) (z0 : iV) (h : iH) (Q : Option iV → iH → Prop), G sp sc [] (d + 1) mX11_sends (n + 1) 53 L (z0 :: r) h Q = (cs r ≤ 8 ∧ Call sp sc d mX11_orNone [z0] h (fun q h1 => GC sp sc [] (d + 1) mX11_sends n 56 L q r h h1 Q))) ∧
  (∀ (n d : Nat) (L : List (Option iV)) (a : Int) (h : iH) (Q : Option iV → iH → Prop), G sp sc [] d mX11_sends (n + 1) 56 L [.inl a] h Q = Q (some (.inl a)) h) ∧
  lkC 11 113 8 = some (mX8_hasOne, 2, 2) ∧
  lkC 11 178 8 = some (mX8_setDeputy, 3, 2) ∧
  lkF 11 128 8 = some 2 ∧
  lkF 11 17 11 = some 2 := ⟨by intros; exact G_at (by decide +kernel : fetch mX11_sends 0 = some (.aload_n 0)),
  by intros; exact G_own (by decide +kernel : fetch mX11_sends 1 = some (.getfield 17)) (by decide +kernel),
  by intros; exact G_at (by decide +kernel : fetch mX11_sends 4 = some (.iload_n 1)),
  by intros; exact G_at (by decide +kernel : fetch mX11_sends 5 = some (.iload_n 2)),
  by intros; exact G_callV (by decide +kernel : fetch mX11_sends 6 = some (.invokevirtual 113)) (by decide +kernel) (by decide +kernel) rfl,
  by intros; exact G_at (by decide +kernel : fetch mX11_sends 9 = some (.ifCond .eq 15)),
  by intros; exact G_at (by decide +kernel : fetch mX11_sends 12 = some (.aload_n 0)),
  by intros; exact G_own (by decide +kernel : fetch mX11_sends 13 = some (.getfield 17)) (by decide +kernel),
  by intros; exact G_at (by decide +kernel : fetch mX11_sends 16 = some (.iload_n 1)),
  by intros; exact G_at (by decide +kernel : fetch mX11_sends 17 = some (.iload_n 3)),
  by intros; exact G_callV (by decide +kernel : fetch mX11_sends 18 = some (.invokevirtual 113)) (by decide +kernel) (by decide +kernel) rfl,
  by intros; exact G_at (by decide +kernel : fetch mX11_sends 21 = some (.ifCond .ne 5)),
  by intros; exact G_at (by decide +kernel : fetch mX11_sends 24 = some (.iconst (-1))),
  by intros; exact G_reti (by decide +kernel : fetch mX11_sends 25 = some (.ireturn)) (by decide +kernel),
  by intros; exact G_at (by decide +kernel : fetch mX11_sends 26 = some (.aload_n 0)),
  by intros; exact G_own (by decide +kernel : fetch mX11_sends 27 = some (.getfield 17)) (by decide +kernel),
  by intros; exact G_own (by decide +kernel : fetch mX11_sends 30 = some (.getfield 128)) (by decide +kernel),
  by intros; exact G_at (by decide +kernel : fetch mX11_sends 33 = some (.iload_n 1)),
  by intros; exact G_at (by decide +kernel : fetch mX11_sends 34 = some (.iload_n 2)),
  by intros; exact G_callS (k := 2) (kd := 0) (by decide +kernel : fetch mX11_sends 35 = some (.invokestatic 132)) (by decide +kernel) (by decide +kernel) (by decide +kernel) rfl (by decide),
  by intros; exact G_at (by decide +kernel : fetch mX11_sends 38 = some (.iaload)),
  by intros; exact G_at (by decide +kernel : fetch mX11_sends 39 = some (.istore 4)),
  by intros; exact G_at (by decide +kernel : fetch mX11_sends 41 = some (.aload_n 0)),
  by intros; exact G_own (by decide +kernel : fetch mX11_sends 42 = some (.getfield 17)) (by decide +kernel),
  by intros; exact G_at (by decide +kernel : fetch mX11_sends 45 = some (.iload_n 1)),
  by intros; exact G_at (by decide +kernel : fetch mX11_sends 46 = some (.iload_n 2)),
  by intros; exact G_at (by decide +kernel : fetch mX11_sends 47 = some (.iload_n 3)),
  by intros; exact G_callV (by decide +kernel : fetch mX11_sends 48 = some (.invokevirtual 178)) (by decide +kernel) (by decide +kernel) rfl,
  by intros; exact G_at (by decide +kernel : fetch mX11_sends 51 = some (.iload 4)),
  by intros; exact G_callS (k := 1) (kd := 0) (by decide +kernel : fetch mX11_sends 53 = some (.invokestatic 136)) (by decide +kernel) (by decide +kernel) (by decide +kernel) rfl (by decide),
  by intros; exact G_reti (by decide +kernel : fetch mX11_sends 56 = some (.ireturn)) (by decide +kernel),
  by decide +kernel,
  by decide +kernel,
  by decide +kernel,
  by decide +kernel⟩
theorem gX11_couple : (∀ (n d : Nat) (L : List (Option iV)) (st : List iV) (h : iH) (Q : Option iV → iH → Prop), G sp sc [] d mX11_couple (n + 1) 0 L st h Q = (match ld L 0 with | some (.inr (.inr (r + 1))) => G sp sc [] d mX11_couple n 1 L (.inr (.inr (r + 1)) :: st) h Q | _ => False)) ∧
  (∀ (n d : Nat) (L : List (Option iV)) (r : List iV) (m : Nat) (h : iH) (Q : Option iV → iH → Prop), G sp sc [] d mX11_couple (n + 1) 1 L (.inr (.inr (m + 2)) :: r) h Q = (match h.1[m]? with | some (.inl (ci, fs)) => (match lkF 11 17 ci with | some k => (match fs[k]? with | some v => G sp sc [] d mX11_couple n 4 L (v :: r) h Q | none => False) | none => False) | _ => False)) ∧
  (∀ (n d : Nat) (L : List (Option iV)) (st : List iV) (h : iH) (Q : Option iV → iH → Prop), G sp sc [] d mX11_couple (n + 1) 4 L st h Q = (match ld L 1 with | some (.inl x) => G sp sc [] d mX11_couple n 5 L (.inl x :: st) h Q | _ => False)) ∧
  (∀ (n d : Nat) (L : List (Option iV)) (st : List iV) (h : iH) (Q : Option iV → iH → Prop), G sp sc [] d mX11_couple (n + 1) 5 L st h Q = (match ld L 2 with | some (.inl x) => G sp sc [] d mX11_couple n 6 L (.inl x :: st) h Q | _ => False)) ∧
  (∀ (n d : Nat) (L : List (Option iV)) (r : List iV) (m : Nat) (z0 : iV) (z1 : iV) (h : iH) (Q : Option iV → iH → Prop), G sp sc [] (d + 1) mX11_couple (n + 1) 6 L (z1 :: z0 :: .inr (.inr (m + 2)) :: r) h Q = (match h.1[m]? with | some (.inl (ci, _)) => (match lkC 11 182 ci with | some (y1, n1, kd) => (n1 = 2 ∧ (kd = 2 ∨ kd = 3 ∨ kd = 8) ∧ cs r ≤ 8) ∧ Call sp sc d y1 [.inr (.inr (m + 2)), z0, z1] h (fun q h1 => GC sp sc [] (d + 1) mX11_couple n 9 L q r h h1 Q) | none => False) | _ => False)) ∧
  (∀ (n d : Nat) (L : List (Option iV)) (a : Int) (h : iH) (Q : Option iV → iH → Prop), G sp sc [] d mX11_couple (n + 1) 9 L [.inl a] h Q = Q (some (.inl a)) h) ∧
  lkC 11 182 8 = some (mX8_pair, 2, 2) ∧
  lkF 11 17 11 = some 2 := ⟨by intros; exact G_at (by decide +kernel : fetch mX11_couple 0 = some (.aload_n 0)),
  by intros; exact G_own (by decide +kernel : fetch mX11_couple 1 = some (.getfield 17)) (by decide +kernel),
  by intros; exact G_at (by decide +kernel : fetch mX11_couple 4 = some (.iload_n 1)),
  by intros; exact G_at (by decide +kernel : fetch mX11_couple 5 = some (.iload_n 2)),
  by intros; exact G_callV (by decide +kernel : fetch mX11_couple 6 = some (.invokevirtual 182)) (by decide +kernel) (by decide +kernel) rfl,
  by intros; exact G_reti (by decide +kernel : fetch mX11_couple 9 = some (.ireturn)) (by decide +kernel),
  by decide +kernel,
  by decide +kernel⟩
theorem gX11_about : (∀ (n d : Nat) (L : List (Option iV)) (st : List iV) (h : iH) (Q : Option iV → iH → Prop), G sp sc [] d mX11_about (n + 1) 0 L st h Q = (match ld L 0 with | some (.inr (.inr (r + 1))) => G sp sc [] d mX11_about n 1 L (.inr (.inr (r + 1)) :: st) h Q | _ => False)) ∧
  (∀ (n d : Nat) (L : List (Option iV)) (r : List iV) (m : Nat) (h : iH) (Q : Option iV → iH → Prop), G sp sc [] d mX11_about (n + 1) 1 L (.inr (.inr (m + 2)) :: r) h Q = (match h.1[m]? with | some (.inl (ci, fs)) => (match lkF 11 17 ci with | some k => (match fs[k]? with | some v => G sp sc [] d mX11_about n 4 L (v :: r) h Q | none => False) | none => False) | _ => False)) ∧
  (∀ (n d : Nat) (L : List (Option iV)) (st : List iV) (h : iH) (Q : Option iV → iH → Prop), G sp sc [] d mX11_about (n + 1) 4 L st h Q = (match ld L 1 with | some (.inl x) => G sp sc [] d mX11_about n 5 L (.inl x :: st) h Q | _ => False)) ∧
  (∀ (n d : Nat) (L : List (Option iV)) (r : List iV) (m : Nat) (z0 : iV) (h : iH) (Q : Option iV → iH → Prop), G sp sc [] (d + 1) mX11_about (n + 1) 5 L (z0 :: .inr (.inr (m + 2)) :: r) h Q = (match h.1[m]? with | some (.inl (ci, _)) => (match lkC 11 185 ci with | some (y1, n1, kd) => (n1 = 1 ∧ (kd = 2 ∨ kd = 3 ∨ kd = 8) ∧ cs r ≤ 8) ∧ Call sp sc d y1 [.inr (.inr (m + 2)), z0] h (fun q h1 => GC sp sc [] (d + 1) mX11_about n 8 L q r h h1 Q) | none => False) | _ => False)) ∧
  (∀ (n d : Nat) (L : List (Option iV)) (a : Int) (r : List iV) (h : iH) (Q : Option iV → iH → Prop), G sp sc [] d mX11_about (n + 1) 8 L (.inl a :: r) h Q = (inI a = true ∧ (¬ a = 0 → G sp sc [] d mX11_about n 13 L r h Q) ∧ (¬ (¬ a = 0) → G sp sc [] d mX11_about n 11 L r h Q))) ∧
  (∀ (n d : Nat) (L : List (Option iV)) (st : List iV) (h : iH) (Q : Option iV → iH → Prop), G sp sc [] d mX11_about (n + 1) 11 L st h Q = G sp sc [] d mX11_about n 12 L (.inl (-1) :: st) h Q) ∧
  (∀ (n d : Nat) (L : List (Option iV)) (a : Int) (h : iH) (Q : Option iV → iH → Prop), G sp sc [] d mX11_about (n + 1) 12 L [.inl a] h Q = Q (some (.inl a)) h) ∧
  (∀ (n d : Nat) (L : List (Option iV)) (st : List iV) (h : iH) (Q : Option iV → iH → Prop), G sp sc [] d mX11_about (n + 1) 13 L st h Q = (match ld L 2 with | some (.inl x) => G sp sc [] d mX11_about n 14 L (.inl x :: st) h Q | _ => False)) ∧
  (∀ (n d : Nat) (L : List (Option iV)) (a : Int) (r : List iV) (h : iH) (Q : Option iV → iH → Prop), G sp sc [] d mX11_about (n + 1) 14 L (.inl a :: r) h Q = (inI a = true ∧ ((a < 0 ∨ 5 < a) → G sp sc [] d mX11_about n 144 L r h Q) ∧ (¬ (a < 0 ∨ 5 < a) → (match (#[38, 48, 58, 68, 78, 104] : Array Int)[(a - (0 : Int)).toNat]? with | some off => (match jmp 14 off with | some q => GK sp sc [] d mX11_about n q L r h Q | none => False) | none => False)))) ∧
  (∀ (n d : Nat) (L : List (Option iV)) (st : List iV) (h : iH) (Q : Option iV → iH → Prop), G sp sc [] d mX11_about (n + 1) 52 L st h Q = (match ld L 0 with | some (.inr (.inr (r + 1))) => G sp sc [] d mX11_about n 53 L (.inr (.inr (r + 1)) :: st) h Q | _ => False)) ∧
  (∀ (n d : Nat) (L : List (Option iV)) (r : List iV) (m : Nat) (h : iH) (Q : Option iV → iH → Prop), G sp sc [] d mX11_about (n + 1) 53 L (.inr (.inr (m + 2)) :: r) h Q = (match h.1[m]? with | some (.inl (ci, fs)) => (match lkF 11 17 ci with | some k => (match fs[k]? with | some v => G sp sc [] d mX11_about n 56 L (v :: r) h Q | none => False) | none => False) | _ => False)) ∧
  (∀ (n d : Nat) (L : List (Option iV)) (r : List iV) (m : Nat) (h : iH) (Q : Option iV → iH → Prop), G sp sc [] d mX11_about (n + 1) 56 L (.inr (.inr (m + 2)) :: r) h Q = (match h.1[m]? with | some (.inl (ci, fs)) => (match lkF 11 188 ci with | some k => (match fs[k]? with | some v => G sp sc [] d mX11_about n 59 L (v :: r) h Q | none => False) | none => False) | _ => False)) ∧
  (∀ (n d : Nat) (L : List (Option iV)) (st : List iV) (h : iH) (Q : Option iV → iH → Prop), G sp sc [] d mX11_about (n + 1) 59 L st h Q = (match ld L 1 with | some (.inl x) => G sp sc [] d mX11_about n 60 L (.inl x :: st) h Q | _ => False)) ∧
  (∀ (n d : Nat) (L : List (Option iV)) (r : List iV) (j : Int) (m : Nat) (h : iH) (Q : Option iV → iH → Prop), G sp sc [] d mX11_about (n + 1) 60 L (.inl j :: .inr (.inr (m + 2)) :: r) h Q = (match h.1[m]? with | some (.inr (.inl (0, xs))) => inA j xs.length = true ∧ G sp sc [] d mX11_about n 61 L (.inl (xs.getD j.toNat 0) :: r) h Q | _ => False)) ∧
  (∀ (n d : Nat) (L : List (Option iV)) (a : Int) (h : iH) (Q : Option iV → iH → Prop), G sp sc [] d mX11_about (n + 1) 61 L [.inl a] h Q = Q (some (.inl a)) h) ∧
  (∀ (n d : Nat) (L : List (Option iV)) (st : List iV) (h : iH) (Q : Option iV → iH → Prop), G sp sc [] d mX11_about (n + 1) 62 L st h Q = (match ld L 0 with | some (.inr (.inr (r + 1))) => G sp sc [] d mX11_about n 63 L (.inr (.inr (r + 1)) :: st) h Q | _ => False)) ∧
  (∀ (n d : Nat) (L : List (Option iV)) (r : List iV) (m : Nat) (h : iH) (Q : Option iV → iH → Prop), G sp sc [] d mX11_about (n + 1) 63 L (.inr (.inr (m + 2)) :: r) h Q = (match h.1[m]? with | some (.inl (ci, fs)) => (match lkF 11 17 ci with | some k => (match fs[k]? with | some v => G sp sc [] d mX11_about n 66 L (v :: r) h Q | none => False) | none => False) | _ => False)) ∧
  (∀ (n d : Nat) (L : List (Option iV)) (r : List iV) (m : Nat) (h : iH) (Q : Option iV → iH → Prop), G sp sc [] d mX11_about (n + 1) 66 L (.inr (.inr (m + 2)) :: r) h Q = (match h.1[m]? with | some (.inl (ci, fs)) => (match lkF 11 191 ci with | some k => (match fs[k]? with | some v => G sp sc [] d mX11_about n 69 L (v :: r) h Q | none => False) | none => False) | _ => False)) ∧
  (∀ (n d : Nat) (L : List (Option iV)) (st : List iV) (h : iH) (Q : Option iV → iH → Prop), G sp sc [] d mX11_about (n + 1) 69 L st h Q = (match ld L 1 with | some (.inl x) => G sp sc [] d mX11_about n 70 L (.inl x :: st) h Q | _ => False)) ∧
  (∀ (n d : Nat) (L : List (Option iV)) (r : List iV) (j : Int) (m : Nat) (h : iH) (Q : Option iV → iH → Prop), G sp sc [] d mX11_about (n + 1) 70 L (.inl j :: .inr (.inr (m + 2)) :: r) h Q = (match h.1[m]? with | some (.inr (.inl (0, xs))) => inA j xs.length = true ∧ G sp sc [] d mX11_about n 71 L (.inl (xs.getD j.toNat 0) :: r) h Q | _ => False)) ∧
  (∀ (n d : Nat) (L : List (Option iV)) (a : Int) (h : iH) (Q : Option iV → iH → Prop), G sp sc [] d mX11_about (n + 1) 71 L [.inl a] h Q = Q (some (.inl a)) h) ∧
  (∀ (n d : Nat) (L : List (Option iV)) (st : List iV) (h : iH) (Q : Option iV → iH → Prop), G sp sc [] d mX11_about (n + 1) 72 L st h Q = (match ld L 0 with | some (.inr (.inr (r + 1))) => G sp sc [] d mX11_about n 73 L (.inr (.inr (r + 1)) :: st) h Q | _ => False)) ∧
  (∀ (n d : Nat) (L : List (Option iV)) (r : List iV) (m : Nat) (h : iH) (Q : Option iV → iH → Prop), G sp sc [] d mX11_about (n + 1) 73 L (.inr (.inr (m + 2)) :: r) h Q = (match h.1[m]? with | some (.inl (ci, fs)) => (match lkF 11 17 ci with | some k => (match fs[k]? with | some v => G sp sc [] d mX11_about n 76 L (v :: r) h Q | none => False) | none => False) | _ => False)) ∧
  (∀ (n d : Nat) (L : List (Option iV)) (r : List iV) (m : Nat) (h : iH) (Q : Option iV → iH → Prop), G sp sc [] d mX11_about (n + 1) 76 L (.inr (.inr (m + 2)) :: r) h Q = (match h.1[m]? with | some (.inl (ci, fs)) => (match lkF 11 194 ci with | some k => (match fs[k]? with | some v => G sp sc [] d mX11_about n 79 L (v :: r) h Q | none => False) | none => False) | _ => False)) ∧
  (∀ (n d : Nat) (L : List (Option iV)) (st : List iV) (h : iH) (Q : Option iV → iH → Prop), G sp sc [] d mX11_about (n + 1) 79 L st h Q = (match ld L 1 with | some (.inl x) => G sp sc [] d mX11_about n 80 L (.inl x :: st) h Q | _ => False)) ∧
  (∀ (n d : Nat) (L : List (Option iV)) (r : List iV) (j : Int) (m : Nat) (h : iH) (Q : Option iV → iH → Prop), G sp sc [] d mX11_about (n + 1) 80 L (.inl j :: .inr (.inr (m + 2)) :: r) h Q = (match h.1[m]? with | some (.inr (.inl (0, xs))) => inA j xs.length = true ∧ G sp sc [] d mX11_about n 81 L (.inl (xs.getD j.toNat 0) :: r) h Q | _ => False)) ∧
  (∀ (n d : Nat) (L : List (Option iV)) (a : Int) (h : iH) (Q : Option iV → iH → Prop), G sp sc [] d mX11_about (n + 1) 81 L [.inl a] h Q = Q (some (.inl a)) h) ∧
  (∀ (n d : Nat) (L : List (Option iV)) (st : List iV) (h : iH) (Q : Option iV → iH → Prop), G sp sc [] d mX11_about (n + 1) 82 L st h Q = (match ld L 0 with | some (.inr (.inr (r + 1))) => G sp sc [] d mX11_about n 83 L (.inr (.inr (r + 1)) :: st) h Q | _ => False)) ∧
  (∀ (n d : Nat) (L : List (Option iV)) (r : List iV) (m : Nat) (h : iH) (Q : Option iV → iH → Prop), G sp sc [] d mX11_about (n + 1) 83 L (.inr (.inr (m + 2)) :: r) h Q = (match h.1[m]? with | some (.inl (ci, fs)) => (match lkF 11 17 ci with | some k => (match fs[k]? with | some v => G sp sc [] d mX11_about n 86 L (v :: r) h Q | none => False) | none => False) | _ => False)) ∧
  (∀ (n d : Nat) (L : List (Option iV)) (r : List iV) (m : Nat) (h : iH) (Q : Option iV → iH → Prop), G sp sc [] d mX11_about (n + 1) 86 L (.inr (.inr (m + 2)) :: r) h Q = (match h.1[m]? with | some (.inl (ci, fs)) => (match lkF 11 197 ci with | some k => (match fs[k]? with | some v => G sp sc [] d mX11_about n 89 L (v :: r) h Q | none => False) | none => False) | _ => False)) ∧
  (∀ (n d : Nat) (L : List (Option iV)) (st : List iV) (h : iH) (Q : Option iV → iH → Prop), G sp sc [] d mX11_about (n + 1) 89 L st h Q = (match ld L 1 with | some (.inl x) => G sp sc [] d mX11_about n 90 L (.inl x :: st) h Q | _ => False)) ∧
  (∀ (n d : Nat) (L : List (Option iV)) (r : List iV) (j : Int) (m : Nat) (h : iH) (Q : Option iV → iH → Prop), G sp sc [] d mX11_about (n + 1) 90 L (.inl j :: .inr (.inr (m + 2)) :: r) h Q = (match h.1[m]? with | some (.inr (.inl (0, xs))) => inA j xs.length = true ∧ G sp sc [] d mX11_about n 91 L (.inl (xs.getD j.toNat 0) :: r) h Q | _ => False)) ∧
  (∀ (n d : Nat) (L : List (Option iV)) (a : Int) (h : iH) (Q : Option iV → iH → Prop), G sp sc [] d mX11_about (n + 1) 91 L [.inl a] h Q = Q (some (.inl a)) h) ∧
  (∀ (n d : Nat) (L : List (Option iV)) (st : List iV) (h : iH) (Q : Option iV → iH → Prop), G sp sc [] d mX11_about (n + 1) 92 L st h Q = (match ld L 0 with | some (.inr (.inr (r + 1))) => G sp sc [] d mX11_about n 93 L (.inr (.inr (r + 1)) :: st) h Q | _ => False)) ∧
  (∀ (n d : Nat) (L : List (Option iV)) (r : List iV) (m : Nat) (h : iH) (Q : Option iV → iH → Prop), G sp sc [] d mX11_about (n + 1) 93 L (.inr (.inr (m + 2)) :: r) h Q = (match h.1[m]? with | some (.inl (ci, fs)) => (match lkF 11 17 ci with | some k => (match fs[k]? with | some v => G sp sc [] d mX11_about n 96 L (v :: r) h Q | none => False) | none => False) | _ => False)) ∧
  (∀ (n d : Nat) (L : List (Option iV)) (st : List iV) (h : iH) (Q : Option iV → iH → Prop), G sp sc [] d mX11_about (n + 1) 96 L st h Q = (match ld L 1 with | some (.inl x) => G sp sc [] d mX11_about n 97 L (.inl x :: st) h Q | _ => False)) ∧
  (∀ (n d : Nat) (L : List (Option iV)) (r : List iV) (m : Nat) (z0 : iV) (h : iH) (Q : Option iV → iH → Prop), G sp sc [] (d + 1) mX11_about (n + 1) 97 L (z0 :: .inr (.inr (m + 2)) :: r) h Q = (match h.1[m]? with | some (.inl (ci, _)) => (match lkC 11 200 ci with | some (y1, n1, kd) => (n1 = 1 ∧ (kd = 2 ∨ kd = 3 ∨ kd = 8) ∧ cs r ≤ 8) ∧ Call sp sc d y1 [.inr (.inr (m + 2)), z0] h (fun q h1 => GC sp sc [] (d + 1) mX11_about n 100 L q r h h1 Q) | none => False) | _ => False)) ∧
  (∀ (n d : Nat) (L : List (Option iV)) (a : Int) (r : List iV) (h : iH) (Q : Option iV → iH → Prop), G sp sc [] d mX11_about (n + 1) 100 L (.inl a :: r) h Q = (inI a = true ∧ (a = 0 → G sp sc [] d mX11_about n 115 L r h Q) ∧ (¬ (a = 0) → G sp sc [] d mX11_about n 103 L r h Q))) ∧
  (∀ (n d : Nat) (L : List (Option iV)) (st : List iV) (h : iH) (Q : Option iV → iH → Prop), G sp sc [] d mX11_about (n + 1) 103 L st h Q = (match ld L 0 with | some (.inr (.inr (r + 1))) => G sp sc [] d mX11_about n 104 L (.inr (.inr (r + 1)) :: st) h Q | _ => False)) ∧
  (∀ (n d : Nat) (L : List (Option iV)) (r : List iV) (m : Nat) (h : iH) (Q : Option iV → iH → Prop), G sp sc [] d mX11_about (n + 1) 104 L (.inr (.inr (m + 2)) :: r) h Q = (match h.1[m]? with | some (.inl (ci, fs)) => (match lkF 11 17 ci with | some k => (match fs[k]? with | some v => G sp sc [] d mX11_about n 107 L (v :: r) h Q | none => False) | none => False) | _ => False)) ∧
  (∀ (n d : Nat) (L : List (Option iV)) (st : List iV) (h : iH) (Q : Option iV → iH → Prop), G sp sc [] d mX11_about (n + 1) 107 L st h Q = G sp sc [] d mX11_about n 108 L (.inl 0 :: st) h Q) ∧
  (∀ (n d : Nat) (L : List (Option iV)) (st : List iV) (h : iH) (Q : Option iV → iH → Prop), G sp sc [] d mX11_about (n + 1) 108 L st h Q = (match ld L 1 with | some (.inl x) => G sp sc [] d mX11_about n 109 L (.inl x :: st) h Q | _ => False)) ∧
  (∀ (n d : Nat) (L : List (Option iV)) (r : List iV) (m : Nat) (z0 : iV) (z1 : iV) (h : iH) (Q : Option iV → iH → Prop), G sp sc [] (d + 1) mX11_about (n + 1) 109 L (z1 :: z0 :: .inr (.inr (m + 2)) :: r) h Q = (match h.1[m]? with | some (.inl (ci, _)) => (match lkC 11 203 ci with | some (y1, n1, kd) => (n1 = 2 ∧ (kd = 2 ∨ kd = 3 ∨ kd = 8) ∧ cs r ≤ 8) ∧ Call sp sc d y1 [.inr (.inr (m + 2)), z0, z1] h (fun q h1 => GC sp sc [] (d + 1) mX11_about n 112 L q r h h1 Q) | none => False) | _ => False)) ∧
  (∀ (n d : Nat) (L : List (Option iV)) (st : List iV) (h : iH) (Q : Option iV → iH → Prop), G sp sc [] d mX11_about (n + 1) 112 L st h Q = G sp sc [] d mX11_about n 117 L st h Q) ∧
  (∀ (n d : Nat) (L : List (Option iV)) (st : List iV) (h : iH) (Q : Option iV → iH → Prop), G sp sc [] d mX11_about (n + 1) 115 L st h Q = ((-128 ≤ ((-4) : Int) ∧ ((-4) : Int) < 128) ∧ G sp sc [] d mX11_about n 117 L (.inl (-4) :: st) h Q)) ∧
  (∀ (n d : Nat) (L : List (Option iV)) (a : Int) (h : iH) (Q : Option iV → iH → Prop), G sp sc [] d mX11_about (n + 1) 117 L [.inl a] h Q = Q (some (.inl a)) h) ∧
  (∀ (n d : Nat) (L : List (Option iV)) (st : List iV) (h : iH) (Q : Option iV → iH → Prop), G sp sc [] d mX11_about (n + 1) 118 L st h Q = (match ld L 0 with | some (.inr (.inr (r + 1))) => G sp sc [] d mX11_about n 119 L (.inr (.inr (r + 1)) :: st) h Q | _ => False)) ∧
  (∀ (n d : Nat) (L : List (Option iV)) (r : List iV) (m : Nat) (h : iH) (Q : Option iV → iH → Prop), G sp sc [] d mX11_about (n + 1) 119 L (.inr (.inr (m + 2)) :: r) h Q = (match h.1[m]? with | some (.inl (ci, fs)) => (match lkF 11 17 ci with | some k => (match fs[k]? with | some v => G sp sc [] d mX11_about n 122 L (v :: r) h Q | none => False) | none => False) | _ => False)) ∧
  (∀ (n d : Nat) (L : List (Option iV)) (st : List iV) (h : iH) (Q : Option iV → iH → Prop), G sp sc [] d mX11_about (n + 1) 122 L st h Q = (match ld L 1 with | some (.inl x) => G sp sc [] d mX11_about n 123 L (.inl x :: st) h Q | _ => False)) ∧
  (∀ (n d : Nat) (L : List (Option iV)) (r : List iV) (m : Nat) (z0 : iV) (h : iH) (Q : Option iV → iH → Prop), G sp sc [] (d + 1) mX11_about (n + 1) 123 L (z0 :: .inr (.inr (m + 2)) :: r) h Q = (match h.1[m]? with | some (.inl (ci, _)) => (match lkC 11 200 ci with | some (y1, n1, kd) => (n1 = 1 ∧ (kd = 2 ∨ kd = 3 ∨ kd = 8) ∧ cs r ≤ 8) ∧ Call sp sc d y1 [.inr (.inr (m + 2)), z0] h (fun q h1 => GC sp sc [] (d + 1) mX11_about n 126 L q r h h1 Q) | none => False) | _ => False)) ∧
  (∀ (n d : Nat) (L : List (Option iV)) (a : Int) (r : List iV) (h : iH) (Q : Option iV → iH → Prop), G sp sc [] d mX11_about (n + 1) 126 L (.inl a :: r) h Q = (inI a = true ∧ (a = 0 → G sp sc [] d mX11_about n 141 L r h Q) ∧ (¬ (a = 0) → G sp sc [] d mX11_about n 129 L r h Q))) ∧
  (∀ (n d : Nat) (L : List (Option iV)) (st : List iV) (h : iH) (Q : Option iV → iH → Prop), G sp sc [] d mX11_about (n + 1) 129 L st h Q = (match ld L 0 with | some (.inr (.inr (r + 1))) => G sp sc [] d mX11_about n 130 L (.inr (.inr (r + 1)) :: st) h Q | _ => False)) ∧
  (∀ (n d : Nat) (L : List (Option iV)) (r : List iV) (m : Nat) (h : iH) (Q : Option iV → iH → Prop), G sp sc [] d mX11_about (n + 1) 130 L (.inr (.inr (m + 2)) :: r) h Q = (match h.1[m]? with | some (.inl (ci, fs)) => (match lkF 11 17 ci with | some k => (match fs[k]? with | some v => G sp sc [] d mX11_about n 133 L (v :: r) h Q | none => False) | none => False) | _ => False)) ∧
  (∀ (n d : Nat) (L : List (Option iV)) (st : List iV) (h : iH) (Q : Option iV → iH → Prop), G sp sc [] d mX11_about (n + 1) 133 L st h Q = G sp sc [] d mX11_about n 134 L (.inl 1 :: st) h Q) ∧
  (∀ (n d : Nat) (L : List (Option iV)) (st : List iV) (h : iH) (Q : Option iV → iH → Prop), G sp sc [] d mX11_about (n + 1) 134 L st h Q = (match ld L 1 with | some (.inl x) => G sp sc [] d mX11_about n 135 L (.inl x :: st) h Q | _ => False)) ∧
  (∀ (n d : Nat) (L : List (Option iV)) (r : List iV) (m : Nat) (z0 : iV) (z1 : iV) (h : iH) (Q : Option iV → iH → Prop), G sp sc [] (d + 1) mX11_about (n + 1) 135 L (z1 :: z0 :: .inr (.inr (m + 2)) :: r) h Q = (match h.1[m]? with | some (.inl (ci, _)) => (match lkC 11 203 ci with | some (y1, n1, kd) => (n1 = 2 ∧ (kd = 2 ∨ kd = 3 ∨ kd = 8) ∧ cs r ≤ 8) ∧ Call sp sc d y1 [.inr (.inr (m + 2)), z0, z1] h (fun q h1 => GC sp sc [] (d + 1) mX11_about n 138 L q r h h1 Q) | none => False) | _ => False)) ∧
  (∀ (n d : Nat) (L : List (Option iV)) (st : List iV) (h : iH) (Q : Option iV → iH → Prop), G sp sc [] d mX11_about (n + 1) 138 L st h Q = G sp sc [] d mX11_about n 143 L st h Q) ∧
  (∀ (n d : Nat) (L : List (Option iV)) (st : List iV) (h : iH) (Q : Option iV → iH → Prop), G sp sc [] d mX11_about (n + 1) 141 L st h Q = ((-128 ≤ ((-4) : Int) ∧ ((-4) : Int) < 128) ∧ G sp sc [] d mX11_about n 143 L (.inl (-4) :: st) h Q)) ∧
  (∀ (n d : Nat) (L : List (Option iV)) (a : Int) (h : iH) (Q : Option iV → iH → Prop), G sp sc [] d mX11_about (n + 1) 143 L [.inl a] h Q = Q (some (.inl a)) h) ∧
  (∀ (n d : Nat) (L : List (Option iV)) (st : List iV) (h : iH) (Q : Option iV → iH → Prop), G sp sc [] d mX11_about (n + 1) 144 L st h Q = G sp sc [] d mX11_about n 145 L (.inl (-1) :: st) h Q) ∧
  (∀ (n d : Nat) (L : List (Option iV)) (a : Int) (h : iH) (Q : Option iV → iH → Prop), G sp sc [] d mX11_about (n + 1) 145 L [.inl a] h Q = Q (some (.inl a)) h) ∧
  lkC 11 185 8 = some (mX8_hasCouple, 1, 2) ∧
  lkC 11 200 8 = some (mX8_goesOn, 1, 2) ∧
  lkC 11 203 8 = some (mX8_doer, 2, 2) ∧
  lkF 11 17 11 = some 2 ∧
  lkF 11 188 8 = some 6 ∧
  lkF 11 191 8 = some 7 ∧
  lkF 11 194 8 = some 8 ∧
  lkF 11 197 8 = some 9 := ⟨by intros; exact G_at (by decide +kernel : fetch mX11_about 0 = some (.aload_n 0)),
  by intros; exact G_own (by decide +kernel : fetch mX11_about 1 = some (.getfield 17)) (by decide +kernel),
  by intros; exact G_at (by decide +kernel : fetch mX11_about 4 = some (.iload_n 1)),
  by intros; exact G_callV (by decide +kernel : fetch mX11_about 5 = some (.invokevirtual 185)) (by decide +kernel) (by decide +kernel) rfl,
  by intros; exact G_at (by decide +kernel : fetch mX11_about 8 = some (.ifCond .ne 5)),
  by intros; exact G_at (by decide +kernel : fetch mX11_about 11 = some (.iconst (-1))),
  by intros; exact G_reti (by decide +kernel : fetch mX11_about 12 = some (.ireturn)) (by decide +kernel),
  by intros; exact G_at (by decide +kernel : fetch mX11_about 13 = some (.iload_n 2)),
  by intros; exact G_at (by decide +kernel : fetch mX11_about 14 = some (.tableswitch 130 0 5 #[38, 48, 58, 68, 78, 104])),
  by intros; exact G_at (by decide +kernel : fetch mX11_about 52 = some (.aload_n 0)),
  by intros; exact G_own (by decide +kernel : fetch mX11_about 53 = some (.getfield 17)) (by decide +kernel),
  by intros; exact G_own (by decide +kernel : fetch mX11_about 56 = some (.getfield 188)) (by decide +kernel),
  by intros; exact G_at (by decide +kernel : fetch mX11_about 59 = some (.iload_n 1)),
  by intros; exact G_at (by decide +kernel : fetch mX11_about 60 = some (.iaload)),
  by intros; exact G_reti (by decide +kernel : fetch mX11_about 61 = some (.ireturn)) (by decide +kernel),
  by intros; exact G_at (by decide +kernel : fetch mX11_about 62 = some (.aload_n 0)),
  by intros; exact G_own (by decide +kernel : fetch mX11_about 63 = some (.getfield 17)) (by decide +kernel),
  by intros; exact G_own (by decide +kernel : fetch mX11_about 66 = some (.getfield 191)) (by decide +kernel),
  by intros; exact G_at (by decide +kernel : fetch mX11_about 69 = some (.iload_n 1)),
  by intros; exact G_at (by decide +kernel : fetch mX11_about 70 = some (.iaload)),
  by intros; exact G_reti (by decide +kernel : fetch mX11_about 71 = some (.ireturn)) (by decide +kernel),
  by intros; exact G_at (by decide +kernel : fetch mX11_about 72 = some (.aload_n 0)),
  by intros; exact G_own (by decide +kernel : fetch mX11_about 73 = some (.getfield 17)) (by decide +kernel),
  by intros; exact G_own (by decide +kernel : fetch mX11_about 76 = some (.getfield 194)) (by decide +kernel),
  by intros; exact G_at (by decide +kernel : fetch mX11_about 79 = some (.iload_n 1)),
  by intros; exact G_at (by decide +kernel : fetch mX11_about 80 = some (.iaload)),
  by intros; exact G_reti (by decide +kernel : fetch mX11_about 81 = some (.ireturn)) (by decide +kernel),
  by intros; exact G_at (by decide +kernel : fetch mX11_about 82 = some (.aload_n 0)),
  by intros; exact G_own (by decide +kernel : fetch mX11_about 83 = some (.getfield 17)) (by decide +kernel),
  by intros; exact G_own (by decide +kernel : fetch mX11_about 86 = some (.getfield 197)) (by decide +kernel),
  by intros; exact G_at (by decide +kernel : fetch mX11_about 89 = some (.iload_n 1)),
  by intros; exact G_at (by decide +kernel : fetch mX11_about 90 = some (.iaload)),
  by intros; exact G_reti (by decide +kernel : fetch mX11_about 91 = some (.ireturn)) (by decide +kernel),
  by intros; exact G_at (by decide +kernel : fetch mX11_about 92 = some (.aload_n 0)),
  by intros; exact G_own (by decide +kernel : fetch mX11_about 93 = some (.getfield 17)) (by decide +kernel),
  by intros; exact G_at (by decide +kernel : fetch mX11_about 96 = some (.iload_n 1)),
  by intros; exact G_callV (by decide +kernel : fetch mX11_about 97 = some (.invokevirtual 200)) (by decide +kernel) (by decide +kernel) rfl,
  by intros; exact G_at (by decide +kernel : fetch mX11_about 100 = some (.ifCond .eq 15)),
  by intros; exact G_at (by decide +kernel : fetch mX11_about 103 = some (.aload_n 0)),
  by intros; exact G_own (by decide +kernel : fetch mX11_about 104 = some (.getfield 17)) (by decide +kernel),
  by intros; exact G_at (by decide +kernel : fetch mX11_about 107 = some (.iconst 0)),
  by intros; exact G_at (by decide +kernel : fetch mX11_about 108 = some (.iload_n 1)),
  by intros; exact G_callV (by decide +kernel : fetch mX11_about 109 = some (.invokevirtual 203)) (by decide +kernel) (by decide +kernel) rfl,
  by intros; exact G_at (by decide +kernel : fetch mX11_about 112 = some (.goto 5)),
  by intros; exact G_at (by decide +kernel : fetch mX11_about 115 = some (.bipush (-4))),
  by intros; exact G_reti (by decide +kernel : fetch mX11_about 117 = some (.ireturn)) (by decide +kernel),
  by intros; exact G_at (by decide +kernel : fetch mX11_about 118 = some (.aload_n 0)),
  by intros; exact G_own (by decide +kernel : fetch mX11_about 119 = some (.getfield 17)) (by decide +kernel),
  by intros; exact G_at (by decide +kernel : fetch mX11_about 122 = some (.iload_n 1)),
  by intros; exact G_callV (by decide +kernel : fetch mX11_about 123 = some (.invokevirtual 200)) (by decide +kernel) (by decide +kernel) rfl,
  by intros; exact G_at (by decide +kernel : fetch mX11_about 126 = some (.ifCond .eq 15)),
  by intros; exact G_at (by decide +kernel : fetch mX11_about 129 = some (.aload_n 0)),
  by intros; exact G_own (by decide +kernel : fetch mX11_about 130 = some (.getfield 17)) (by decide +kernel),
  by intros; exact G_at (by decide +kernel : fetch mX11_about 133 = some (.iconst 1)),
  by intros; exact G_at (by decide +kernel : fetch mX11_about 134 = some (.iload_n 1)),
  by intros; exact G_callV (by decide +kernel : fetch mX11_about 135 = some (.invokevirtual 203)) (by decide +kernel) (by decide +kernel) rfl,
  by intros; exact G_at (by decide +kernel : fetch mX11_about 138 = some (.goto 5)),
  by intros; exact G_at (by decide +kernel : fetch mX11_about 141 = some (.bipush (-4))),
  by intros; exact G_reti (by decide +kernel : fetch mX11_about 143 = some (.ireturn)) (by decide +kernel),
  by intros; exact G_at (by decide +kernel : fetch mX11_about 144 = some (.iconst (-1))),
  by intros; exact G_reti (by decide +kernel : fetch mX11_about 145 = some (.ireturn)) (by decide +kernel),
  by decide +kernel,
  by decide +kernel,
  by decide +kernel,
  by decide +kernel,
  by decide +kernel,
  by decide +kernel,
  by decide +kernel,
  by decide +kernel⟩
theorem gX11_who : (∀ (n d : Nat) (L : List (Option iV)) (st : List iV) (h : iH) (Q : Option iV → iH → Prop), G sp sc [] d mX11_who (n + 1) 0 L st h Q = (match ld L 1 with | some (.inl x) => G sp sc [] d mX11_who n 1 L (.inl x :: st) h Q | _ => False)) ∧
  (∀ (n d : Nat) (L : List (Option iV)) (r : List iV) (z0 : iV) (h : iH) (Q : Option iV → iH → Prop), G sp sc [] (d + 1) mX11_who (n + 1) 1 L (z0 :: r) h Q = (cs r ≤ 8 ∧ Call sp sc d mX11_isDeed [z0] h (fun q h1 => GC sp sc [] (d + 1) mX11_who n 4 L q r h h1 Q))) ∧
  (∀ (n d : Nat) (L : List (Option iV)) (a : Int) (r : List iV) (h : iH) (Q : Option iV → iH → Prop), G sp sc [] d mX11_who (n + 1) 4 L (.inl a :: r) h Q = (inI a = true ∧ (a = 0 → G sp sc [] d mX11_who n 16 L r h Q) ∧ (¬ (a = 0) → G sp sc [] d mX11_who n 7 L r h Q))) ∧
  (∀ (n d : Nat) (L : List (Option iV)) (st : List iV) (h : iH) (Q : Option iV → iH → Prop), G sp sc [] d mX11_who (n + 1) 7 L st h Q = (match ld L 2 with | some (.inl x) => G sp sc [] d mX11_who n 8 L (.inl x :: st) h Q | _ => False)) ∧
  (∀ (n d : Nat) (L : List (Option iV)) (a : Int) (r : List iV) (h : iH) (Q : Option iV → iH → Prop), G sp sc [] d mX11_who (n + 1) 8 L (.inl a :: r) h Q = (inI a = true ∧ (a < 0 → G sp sc [] d mX11_who n 16 L r h Q) ∧ (¬ (a < 0) → G sp sc [] d mX11_who n 11 L r h Q))) ∧
  (∀ (n d : Nat) (L : List (Option iV)) (st : List iV) (h : iH) (Q : Option iV → iH → Prop), G sp sc [] d mX11_who (n + 1) 11 L st h Q = (match ld L 2 with | some (.inl x) => G sp sc [] d mX11_who n 12 L (.inl x :: st) h Q | _ => False)) ∧
  (∀ (n d : Nat) (L : List (Option iV)) (st : List iV) (h : iH) (Q : Option iV → iH → Prop), G sp sc [] d mX11_who (n + 1) 12 L st h Q = G sp sc [] d mX11_who n 13 L (.inl 2 :: st) h Q) ∧
  (∀ (n d : Nat) (L : List (Option iV)) (a : Int) (b : Int) (r : List iV) (h : iH) (Q : Option iV → iH → Prop), G sp sc [] d mX11_who (n + 1) 13 L (.inl b :: .inl a :: r) h Q = ((inI a = true ∧ inI b = true) ∧ (a ≤ b → G sp sc [] d mX11_who n 18 L r h Q) ∧ (¬ (a ≤ b) → G sp sc [] d mX11_who n 16 L r h Q))) ∧
  (∀ (n d : Nat) (L : List (Option iV)) (st : List iV) (h : iH) (Q : Option iV → iH → Prop), G sp sc [] d mX11_who (n + 1) 16 L st h Q = G sp sc [] d mX11_who n 17 L (.inl (-1) :: st) h Q) ∧
  (∀ (n d : Nat) (L : List (Option iV)) (a : Int) (h : iH) (Q : Option iV → iH → Prop), G sp sc [] d mX11_who (n + 1) 17 L [.inl a] h Q = Q (some (.inl a)) h) ∧
  (∀ (n d : Nat) (L : List (Option iV)) (st : List iV) (h : iH) (Q : Option iV → iH → Prop), G sp sc [] d mX11_who (n + 1) 18 L st h Q = (match ld L 0 with | some (.inr (.inr (r + 1))) => G sp sc [] d mX11_who n 19 L (.inr (.inr (r + 1)) :: st) h Q | _ => False)) ∧
  (∀ (n d : Nat) (L : List (Option iV)) (r : List iV) (m : Nat) (h : iH) (Q : Option iV → iH → Prop), G sp sc [] d mX11_who (n + 1) 19 L (.inr (.inr (m + 2)) :: r) h Q = (match h.1[m]? with | some (.inl (ci, fs)) => (match lkF 11 17 ci with | some k => (match fs[k]? with | some v => G sp sc [] d mX11_who n 22 L (v :: r) h Q | none => False) | none => False) | _ => False)) ∧
  (∀ (n d : Nat) (L : List (Option iV)) (r : List iV) (m : Nat) (h : iH) (Q : Option iV → iH → Prop), G sp sc [] d mX11_who (n + 1) 22 L (.inr (.inr (m + 2)) :: r) h Q = (match h.1[m]? with | some (.inl (ci, fs)) => (match lkF 11 209 ci with | some k => (match fs[k]? with | some v => G sp sc [] d mX11_who n 25 L (v :: r) h Q | none => False) | none => False) | _ => False)) ∧
  (∀ (n d : Nat) (L : List (Option iV)) (st : List iV) (h : iH) (Q : Option iV → iH → Prop), G sp sc [] d mX11_who (n + 1) 25 L st h Q = (match ld L 1 with | some (.inl x) => G sp sc [] d mX11_who n 26 L (.inl x :: st) h Q | _ => False)) ∧
  (∀ (n d : Nat) (L : List (Option iV)) (r : List iV) (j : Int) (m : Nat) (h : iH) (Q : Option iV → iH → Prop), G sp sc [] d mX11_who (n + 1) 26 L (.inl j :: .inr (.inr (m + 2)) :: r) h Q = (match h.1[m]? with | some (.inr (.inl (0, xs))) => inA j xs.length = true ∧ G sp sc [] d mX11_who n 27 L (.inl (xs.getD j.toNat 0) :: r) h Q | _ => False)) ∧
  (∀ (n d : Nat) (L : List (Option iV)) (r : List iV) (x : Int) (h : iH) (Q : Option iV → iH → Prop), G sp sc [] d mX11_who (n + 1) 27 L (.inl x :: r) h Q = (match st1 L 3 (.inl x) with | some L' => G sp sc [] d mX11_who n 28 L' r h Q | none => False)) ∧
  (∀ (n d : Nat) (L : List (Option iV)) (st : List iV) (h : iH) (Q : Option iV → iH → Prop), G sp sc [] d mX11_who (n + 1) 28 L st h Q = (match ld L 0 with | some (.inr (.inr (r + 1))) => G sp sc [] d mX11_who n 29 L (.inr (.inr (r + 1)) :: st) h Q | _ => False)) ∧
  (∀ (n d : Nat) (L : List (Option iV)) (r : List iV) (m : Nat) (h : iH) (Q : Option iV → iH → Prop), G sp sc [] d mX11_who (n + 1) 29 L (.inr (.inr (m + 2)) :: r) h Q = (match h.1[m]? with | some (.inl (ci, fs)) => (match lkF 11 17 ci with | some k => (match fs[k]? with | some v => G sp sc [] d mX11_who n 32 L (v :: r) h Q | none => False) | none => False) | _ => False)) ∧
  (∀ (n d : Nat) (L : List (Option iV)) (r : List iV) (m : Nat) (h : iH) (Q : Option iV → iH → Prop), G sp sc [] d mX11_who (n + 1) 32 L (.inr (.inr (m + 2)) :: r) h Q = (match h.1[m]? with | some (.inl (ci, fs)) => (match lkF 11 209 ci with | some k => (match fs[k]? with | some v => G sp sc [] d mX11_who n 35 L (v :: r) h Q | none => False) | none => False) | _ => False)) ∧
  (∀ (n d : Nat) (L : List (Option iV)) (st : List iV) (h : iH) (Q : Option iV → iH → Prop), G sp sc [] d mX11_who (n + 1) 35 L st h Q = (match ld L 1 with | some (.inl x) => G sp sc [] d mX11_who n 36 L (.inl x :: st) h Q | _ => False)) ∧
  (∀ (n d : Nat) (L : List (Option iV)) (st : List iV) (h : iH) (Q : Option iV → iH → Prop), G sp sc [] d mX11_who (n + 1) 36 L st h Q = (match ld L 2 with | some (.inl x) => G sp sc [] d mX11_who n 37 L (.inl x :: st) h Q | _ => False)) ∧
  (∀ (n d : Nat) (L : List (Option iV)) (r : List iV) (v : Int) (j : Int) (m : Nat) (h : iH) (Q : Option iV → iH → Prop), G sp sc [] d mX11_who (n + 1) 37 L (.inl v :: .inl j :: .inr (.inr (m + 2)) :: r) h Q = (match h.1[m]? with | some (.inr (.inl (0, xs))) => inA j xs.length = true ∧ G sp sc [] d mX11_who n 38 L r (h.1.set m (.inr (.inl (0, xs.set j.toNat v))), h.2) Q | _ => False)) ∧
  (∀ (n d : Nat) (L : List (Option iV)) (st : List iV) (h : iH) (Q : Option iV → iH → Prop), G sp sc [] d mX11_who (n + 1) 38 L st h Q = (match ld L 3 with | some (.inl x) => G sp sc [] d mX11_who n 39 L (.inl x :: st) h Q | _ => False)) ∧
  (∀ (n d : Nat) (L : List (Option iV)) (a : Int) (h : iH) (Q : Option iV → iH → Prop), G sp sc [] d mX11_who (n + 1) 39 L [.inl a] h Q = Q (some (.inl a)) h) ∧
  lkF 11 17 11 = some 2 ∧
  lkF 11 209 8 = some 10 := ⟨by intros; exact G_at (by decide +kernel : fetch mX11_who 0 = some (.iload_n 1)),
  by intros; exact G_callS (k := 1) (kd := 0) (by decide +kernel : fetch mX11_who 1 = some (.invokestatic 206)) (by decide +kernel) (by decide +kernel) (by decide +kernel) rfl (by decide),
  by intros; exact G_at (by decide +kernel : fetch mX11_who 4 = some (.ifCond .eq 12)),
  by intros; exact G_at (by decide +kernel : fetch mX11_who 7 = some (.iload_n 2)),
  by intros; exact G_at (by decide +kernel : fetch mX11_who 8 = some (.ifCond .lt 8)),
  by intros; exact G_at (by decide +kernel : fetch mX11_who 11 = some (.iload_n 2)),
  by intros; exact G_at (by decide +kernel : fetch mX11_who 12 = some (.iconst 2)),
  by intros; exact G_at (by decide +kernel : fetch mX11_who 13 = some (.if_icmp .le 5)),
  by intros; exact G_at (by decide +kernel : fetch mX11_who 16 = some (.iconst (-1))),
  by intros; exact G_reti (by decide +kernel : fetch mX11_who 17 = some (.ireturn)) (by decide +kernel),
  by intros; exact G_at (by decide +kernel : fetch mX11_who 18 = some (.aload_n 0)),
  by intros; exact G_own (by decide +kernel : fetch mX11_who 19 = some (.getfield 17)) (by decide +kernel),
  by intros; exact G_own (by decide +kernel : fetch mX11_who 22 = some (.getfield 209)) (by decide +kernel),
  by intros; exact G_at (by decide +kernel : fetch mX11_who 25 = some (.iload_n 1)),
  by intros; exact G_at (by decide +kernel : fetch mX11_who 26 = some (.iaload)),
  by intros; exact G_at (by decide +kernel : fetch mX11_who 27 = some (.istore_n 3)),
  by intros; exact G_at (by decide +kernel : fetch mX11_who 28 = some (.aload_n 0)),
  by intros; exact G_own (by decide +kernel : fetch mX11_who 29 = some (.getfield 17)) (by decide +kernel),
  by intros; exact G_own (by decide +kernel : fetch mX11_who 32 = some (.getfield 209)) (by decide +kernel),
  by intros; exact G_at (by decide +kernel : fetch mX11_who 35 = some (.iload_n 1)),
  by intros; exact G_at (by decide +kernel : fetch mX11_who 36 = some (.iload_n 2)),
  by intros; exact G_at (by decide +kernel : fetch mX11_who 37 = some (.iastore)),
  by intros; exact G_at (by decide +kernel : fetch mX11_who 38 = some (.iload_n 3)),
  by intros; exact G_reti (by decide +kernel : fetch mX11_who 39 = some (.ireturn)) (by decide +kernel),
  by decide +kernel,
  by decide +kernel⟩
theorem gX11_slip : (∀ (n d : Nat) (L : List (Option iV)) (st : List iV) (h : iH) (Q : Option iV → iH → Prop), G sp sc [] d mX11_slip (n + 1) 0 L st h Q = (match ld L 1 with | some (.inl x) => G sp sc [] d mX11_slip n 1 L (.inl x :: st) h Q | _ => False)) ∧
  (∀ (n d : Nat) (L : List (Option iV)) (a : Int) (r : List iV) (h : iH) (Q : Option iV → iH → Prop), G sp sc [] d mX11_slip (n + 1) 1 L (.inl a :: r) h Q = (inI a = true ∧ (a < 0 → G sp sc [] d mX11_slip n 10 L r h Q) ∧ (¬ (a < 0) → G sp sc [] d mX11_slip n 4 L r h Q))) ∧
  (∀ (n d : Nat) (L : List (Option iV)) (st : List iV) (h : iH) (Q : Option iV → iH → Prop), G sp sc [] d mX11_slip (n + 1) 4 L st h Q = (match ld L 1 with | some (.inl x) => G sp sc [] d mX11_slip n 5 L (.inl x :: st) h Q | _ => False)) ∧
  (∀ (n d : Nat) (L : List (Option iV)) (st : List iV) (h : iH) (Q : Option iV → iH → Prop), G sp sc [] d mX11_slip (n + 1) 5 L st h Q = ((-128 ≤ (99 : Int) ∧ (99 : Int) < 128) ∧ G sp sc [] d mX11_slip n 7 L (.inl 99 :: st) h Q)) ∧
  (∀ (n d : Nat) (L : List (Option iV)) (a : Int) (b : Int) (r : List iV) (h : iH) (Q : Option iV → iH → Prop), G sp sc [] d mX11_slip (n + 1) 7 L (.inl b :: .inl a :: r) h Q = ((inI a = true ∧ inI b = true) ∧ (a ≤ b → G sp sc [] d mX11_slip n 12 L r h Q) ∧ (¬ (a ≤ b) → G sp sc [] d mX11_slip n 10 L r h Q))) ∧
  (∀ (n d : Nat) (L : List (Option iV)) (st : List iV) (h : iH) (Q : Option iV → iH → Prop), G sp sc [] d mX11_slip (n + 1) 10 L st h Q = G sp sc [] d mX11_slip n 11 L (.inl (-1) :: st) h Q) ∧
  (∀ (n d : Nat) (L : List (Option iV)) (a : Int) (h : iH) (Q : Option iV → iH → Prop), G sp sc [] d mX11_slip (n + 1) 11 L [.inl a] h Q = Q (some (.inl a)) h) ∧
  (∀ (n d : Nat) (L : List (Option iV)) (st : List iV) (h : iH) (Q : Option iV → iH → Prop), G sp sc [] d mX11_slip (n + 1) 12 L st h Q = (match ld L 0 with | some (.inr (.inr (r + 1))) => G sp sc [] d mX11_slip n 13 L (.inr (.inr (r + 1)) :: st) h Q | _ => False)) ∧
  (∀ (n d : Nat) (L : List (Option iV)) (r : List iV) (m : Nat) (h : iH) (Q : Option iV → iH → Prop), G sp sc [] d mX11_slip (n + 1) 13 L (.inr (.inr (m + 2)) :: r) h Q = (match h.1[m]? with | some (.inl (ci, fs)) => (match lkF 11 17 ci with | some k => (match fs[k]? with | some v => G sp sc [] d mX11_slip n 16 L (v :: r) h Q | none => False) | none => False) | _ => False)) ∧
  (∀ (n d : Nat) (L : List (Option iV)) (r : List iV) (m : Nat) (h : iH) (Q : Option iV → iH → Prop), G sp sc [] d mX11_slip (n + 1) 16 L (.inr (.inr (m + 2)) :: r) h Q = (match h.1[m]? with | some (.inl (ci, fs)) => (match lkF 11 212 ci with | some k => (match fs[k]? with | some v => G sp sc [] d mX11_slip n 19 L (v :: r) h Q | none => False) | none => False) | _ => False)) ∧
  (∀ (n d : Nat) (L : List (Option iV)) (r : List iV) (x : Int) (h : iH) (Q : Option iV → iH → Prop), G sp sc [] d mX11_slip (n + 1) 19 L (.inl x :: r) h Q = (match st1 L 2 (.inl x) with | some L' => G sp sc [] d mX11_slip n 20 L' r h Q | none => False)) ∧
  (∀ (n d : Nat) (L : List (Option iV)) (st : List iV) (h : iH) (Q : Option iV → iH → Prop), G sp sc [] d mX11_slip (n + 1) 20 L st h Q = (match ld L 0 with | some (.inr (.inr (r + 1))) => G sp sc [] d mX11_slip n 21 L (.inr (.inr (r + 1)) :: st) h Q | _ => False)) ∧
  (∀ (n d : Nat) (L : List (Option iV)) (r : List iV) (m : Nat) (h : iH) (Q : Option iV → iH → Prop), G sp sc [] d mX11_slip (n + 1) 21 L (.inr (.inr (m + 2)) :: r) h Q = (match h.1[m]? with | some (.inl (ci, fs)) => (match lkF 11 17 ci with | some k => (match fs[k]? with | some v => G sp sc [] d mX11_slip n 24 L (v :: r) h Q | none => False) | none => False) | _ => False)) ∧
  (∀ (n d : Nat) (L : List (Option iV)) (st : List iV) (h : iH) (Q : Option iV → iH → Prop), G sp sc [] d mX11_slip (n + 1) 24 L st h Q = (match ld L 1 with | some (.inl x) => G sp sc [] d mX11_slip n 25 L (.inl x :: st) h Q | _ => False)) ∧
  (∀ (n d : Nat) (L : List (Option iV)) (r : List iV) (v : iV) (m : Nat) (h : iH) (Q : Option iV → iH → Prop), G sp sc [] d mX11_slip (n + 1) 25 L (v :: .inr (.inr (m + 2)) :: r) h Q = (match h.1[m]? with | some (.inl (ci, fs)) => (match lkF 11 212 ci with | some k => (fitV (tyT ci k) v = true ∧ k < fs.length ∧ pOK 11 false ci k = true) ∧ G sp sc [] d mX11_slip n 28 L r (h.1.set m (.inl (ci, fs.set k v)), h.2) Q | none => False) | _ => False)) ∧
  (∀ (n d : Nat) (L : List (Option iV)) (st : List iV) (h : iH) (Q : Option iV → iH → Prop), G sp sc [] d mX11_slip (n + 1) 28 L st h Q = (match ld L 2 with | some (.inl x) => G sp sc [] d mX11_slip n 29 L (.inl x :: st) h Q | _ => False)) ∧
  (∀ (n d : Nat) (L : List (Option iV)) (a : Int) (h : iH) (Q : Option iV → iH → Prop), G sp sc [] d mX11_slip (n + 1) 29 L [.inl a] h Q = Q (some (.inl a)) h) ∧
  lkF 11 17 11 = some 2 ∧
  lkF 11 212 8 = some 11 ∧
  pOK 11 false 8 11 = true := ⟨by intros; exact G_at (by decide +kernel : fetch mX11_slip 0 = some (.iload_n 1)),
  by intros; exact G_at (by decide +kernel : fetch mX11_slip 1 = some (.ifCond .lt 9)),
  by intros; exact G_at (by decide +kernel : fetch mX11_slip 4 = some (.iload_n 1)),
  by intros; exact G_at (by decide +kernel : fetch mX11_slip 5 = some (.bipush 99)),
  by intros; exact G_at (by decide +kernel : fetch mX11_slip 7 = some (.if_icmp .le 5)),
  by intros; exact G_at (by decide +kernel : fetch mX11_slip 10 = some (.iconst (-1))),
  by intros; exact G_reti (by decide +kernel : fetch mX11_slip 11 = some (.ireturn)) (by decide +kernel),
  by intros; exact G_at (by decide +kernel : fetch mX11_slip 12 = some (.aload_n 0)),
  by intros; exact G_own (by decide +kernel : fetch mX11_slip 13 = some (.getfield 17)) (by decide +kernel),
  by intros; exact G_own (by decide +kernel : fetch mX11_slip 16 = some (.getfield 212)) (by decide +kernel),
  by intros; exact G_at (by decide +kernel : fetch mX11_slip 19 = some (.istore_n 2)),
  by intros; exact G_at (by decide +kernel : fetch mX11_slip 20 = some (.aload_n 0)),
  by intros; exact G_own (by decide +kernel : fetch mX11_slip 21 = some (.getfield 17)) (by decide +kernel),
  by intros; exact G_at (by decide +kernel : fetch mX11_slip 24 = some (.iload_n 1)),
  by intros; exact G_ownW (by decide +kernel : fetch mX11_slip 25 = some (.putfield 212)) (by decide +kernel) (by decide +kernel),
  by intros; exact G_at (by decide +kernel : fetch mX11_slip 28 = some (.iload_n 2)),
  by intros; exact G_reti (by decide +kernel : fetch mX11_slip 29 = some (.ireturn)) (by decide +kernel),
  by decide +kernel,
  by decide +kernel,
  by decide +kernel⟩
theorem gX11_days : (∀ (n d : Nat) (L : List (Option iV)) (st : List iV) (h : iH) (Q : Option iV → iH → Prop), G sp sc [] d mX11_days (n + 1) 0 L st h Q = (match ld L 1 with | some (.inl x) => G sp sc [] d mX11_days n 1 L (.inl x :: st) h Q | _ => False)) ∧
  (∀ (n d : Nat) (L : List (Option iV)) (st : List iV) (h : iH) (Q : Option iV → iH → Prop), G sp sc [] d mX11_days (n + 1) 1 L st h Q = G sp sc [] d mX11_days n 2 L (.inl 1 :: st) h Q) ∧
  (∀ (n d : Nat) (L : List (Option iV)) (a : Int) (b : Int) (r : List iV) (h : iH) (Q : Option iV → iH → Prop), G sp sc [] d mX11_days (n + 1) 2 L (.inl b :: .inl a :: r) h Q = ((inI a = true ∧ inI b = true) ∧ (a < b → G sp sc [] d mX11_days n 11 L r h Q) ∧ (¬ (a < b) → G sp sc [] d mX11_days n 5 L r h Q))) ∧
  (∀ (n d : Nat) (L : List (Option iV)) (st : List iV) (h : iH) (Q : Option iV → iH → Prop), G sp sc [] d mX11_days (n + 1) 5 L st h Q = (match ld L 1 with | some (.inl x) => G sp sc [] d mX11_days n 6 L (.inl x :: st) h Q | _ => False)) ∧
  (∀ (n d : Nat) (L : List (Option iV)) (st : List iV) (h : iH) (Q : Option iV → iH → Prop), G sp sc [] d mX11_days (n + 1) 6 L st h Q = ((-128 ≤ (60 : Int) ∧ (60 : Int) < 128) ∧ G sp sc [] d mX11_days n 8 L (.inl 60 :: st) h Q)) ∧
  (∀ (n d : Nat) (L : List (Option iV)) (a : Int) (b : Int) (r : List iV) (h : iH) (Q : Option iV → iH → Prop), G sp sc [] d mX11_days (n + 1) 8 L (.inl b :: .inl a :: r) h Q = ((inI a = true ∧ inI b = true) ∧ (a ≤ b → G sp sc [] d mX11_days n 13 L r h Q) ∧ (¬ (a ≤ b) → G sp sc [] d mX11_days n 11 L r h Q))) ∧
  (∀ (n d : Nat) (L : List (Option iV)) (st : List iV) (h : iH) (Q : Option iV → iH → Prop), G sp sc [] d mX11_days (n + 1) 11 L st h Q = G sp sc [] d mX11_days n 12 L (.inl (-1) :: st) h Q) ∧
  (∀ (n d : Nat) (L : List (Option iV)) (a : Int) (h : iH) (Q : Option iV → iH → Prop), G sp sc [] d mX11_days (n + 1) 12 L [.inl a] h Q = Q (some (.inl a)) h) ∧
  (∀ (n d : Nat) (L : List (Option iV)) (st : List iV) (h : iH) (Q : Option iV → iH → Prop), G sp sc [] d mX11_days (n + 1) 13 L st h Q = (match ld L 0 with | some (.inr (.inr (r + 1))) => G sp sc [] d mX11_days n 14 L (.inr (.inr (r + 1)) :: st) h Q | _ => False)) ∧
  (∀ (n d : Nat) (L : List (Option iV)) (r : List iV) (m : Nat) (h : iH) (Q : Option iV → iH → Prop), G sp sc [] d mX11_days (n + 1) 14 L (.inr (.inr (m + 2)) :: r) h Q = (match h.1[m]? with | some (.inl (ci, fs)) => (match lkF 11 17 ci with | some k => (match fs[k]? with | some v => G sp sc [] d mX11_days n 17 L (v :: r) h Q | none => False) | none => False) | _ => False)) ∧
  (∀ (n d : Nat) (L : List (Option iV)) (r : List iV) (m : Nat) (h : iH) (Q : Option iV → iH → Prop), G sp sc [] d mX11_days (n + 1) 17 L (.inr (.inr (m + 2)) :: r) h Q = (match h.1[m]? with | some (.inl (ci, fs)) => (match lkF 11 215 ci with | some k => (match fs[k]? with | some v => G sp sc [] d mX11_days n 20 L (v :: r) h Q | none => False) | none => False) | _ => False)) ∧
  (∀ (n d : Nat) (L : List (Option iV)) (st : List iV) (h : iH) (Q : Option iV → iH → Prop), G sp sc [] d mX11_days (n + 1) 20 L st h Q = (match ld L 1 with | some (.inl x) => G sp sc [] d mX11_days n 21 L (.inl x :: st) h Q | _ => False)) ∧
  (∀ (n d : Nat) (L : List (Option iV)) (a : Int) (b : Int) (r : List iV) (h : iH) (Q : Option iV → iH → Prop), G sp sc [] d mX11_days (n + 1) 21 L (.inl b :: .inl a :: r) h Q = G sp sc [] d mX11_days n 22 L (.inl (a + b) :: r) h Q) ∧
  (∀ (n d : Nat) (L : List (Option iV)) (st : List iV) (h : iH) (Q : Option iV → iH → Prop), G sp sc [] d mX11_days (n + 1) 22 L st h Q = ((-32768 ≤ (999 : Int) ∧ (999 : Int) < 32768) ∧ G sp sc [] d mX11_days n 25 L (.inl 999 :: st) h Q)) ∧
  (∀ (n d : Nat) (L : List (Option iV)) (a : Int) (b : Int) (r : List iV) (h : iH) (Q : Option iV → iH → Prop), G sp sc [] d mX11_days (n + 1) 25 L (.inl b :: .inl a :: r) h Q = ((inI a = true ∧ inI b = true) ∧ (a ≤ b → G sp sc [] d mX11_days n 31 L r h Q) ∧ (¬ (a ≤ b) → G sp sc [] d mX11_days n 28 L r h Q))) ∧
  (∀ (n d : Nat) (L : List (Option iV)) (st : List iV) (h : iH) (Q : Option iV → iH → Prop), G sp sc [] d mX11_days (n + 1) 28 L st h Q = ((-128 ≤ ((-3) : Int) ∧ ((-3) : Int) < 128) ∧ G sp sc [] d mX11_days n 30 L (.inl (-3) :: st) h Q)) ∧
  (∀ (n d : Nat) (L : List (Option iV)) (a : Int) (h : iH) (Q : Option iV → iH → Prop), G sp sc [] d mX11_days (n + 1) 30 L [.inl a] h Q = Q (some (.inl a)) h) ∧
  (∀ (n d : Nat) (L : List (Option iV)) (st : List iV) (h : iH) (Q : Option iV → iH → Prop), G sp sc [] d mX11_days (n + 1) 31 L st h Q = (match ld L 0 with | some (.inr (.inr (r + 1))) => G sp sc [] d mX11_days n 32 L (.inr (.inr (r + 1)) :: st) h Q | _ => False)) ∧
  (∀ (n d : Nat) (L : List (Option iV)) (r : List iV) (m : Nat) (h : iH) (Q : Option iV → iH → Prop), G sp sc [] d mX11_days (n + 1) 32 L (.inr (.inr (m + 2)) :: r) h Q = (match h.1[m]? with | some (.inl (ci, fs)) => (match lkF 11 38 ci with | some k => (match fs[k]? with | some v => G sp sc [] d mX11_days n 35 L (v :: r) h Q | none => False) | none => False) | _ => False)) ∧
  (∀ (n d : Nat) (L : List (Option iV)) (st : List iV) (h : iH) (Q : Option iV → iH → Prop), G sp sc [] d mX11_days (n + 1) 35 L st h Q = (match ld L 0 with | some (.inr (.inr (r + 1))) => G sp sc [] d mX11_days n 36 L (.inr (.inr (r + 1)) :: st) h Q | _ => False)) ∧
  (∀ (n d : Nat) (L : List (Option iV)) (r : List iV) (m : Nat) (h : iH) (Q : Option iV → iH → Prop), G sp sc [] d mX11_days (n + 1) 36 L (.inr (.inr (m + 2)) :: r) h Q = (match h.1[m]? with | some (.inl (ci, fs)) => (match lkF 11 17 ci with | some k => (match fs[k]? with | some v => G sp sc [] d mX11_days n 39 L (v :: r) h Q | none => False) | none => False) | _ => False)) ∧
  (∀ (n d : Nat) (L : List (Option iV)) (r : List iV) (m : Nat) (z0 : iV) (h : iH) (Q : Option iV → iH → Prop), G sp sc [] (d + 1) mX11_days (n + 1) 39 L (z0 :: .inr (.inr (m + 2)) :: r) h Q = (match h.1[m]? with | some (.inl (ci, _)) => (match lkC 11 90 ci with | some (y1, n1, kd) => (n1 = 1 ∧ (kd = 2 ∨ kd = 3 ∨ kd = 8) ∧ cs r ≤ 8) ∧ Call sp sc d y1 [.inr (.inr (m + 2)), z0] h (fun q h1 => GC sp sc [] (d + 1) mX11_days n 42 L q r h h1 Q) | none => False) | _ => False)) ∧
  (∀ (n d : Nat) (L : List (Option iV)) (st : List iV) (h : iH) (Q : Option iV → iH → Prop), G sp sc [] d mX11_days (n + 1) 42 L st h Q = (match ld L 0 with | some (.inr (.inr (r + 1))) => G sp sc [] d mX11_days n 43 L (.inr (.inr (r + 1)) :: st) h Q | _ => False)) ∧
  (∀ (n d : Nat) (L : List (Option iV)) (r : List iV) (m : Nat) (h : iH) (Q : Option iV → iH → Prop), G sp sc [] d mX11_days (n + 1) 43 L (.inr (.inr (m + 2)) :: r) h Q = (match h.1[m]? with | some (.inl (ci, fs)) => (match lkF 11 38 ci with | some k => (match fs[k]? with | some v => G sp sc [] d mX11_days n 46 L (v :: r) h Q | none => False) | none => False) | _ => False)) ∧
  (∀ (n d : Nat) (L : List (Option iV)) (st : List iV) (h : iH) (Q : Option iV → iH → Prop), G sp sc [] d mX11_days (n + 1) 46 L st h Q = (match ld L 1 with | some (.inl x) => G sp sc [] d mX11_days n 47 L (.inl x :: st) h Q | _ => False)) ∧
  (∀ (n d : Nat) (L : List (Option iV)) (r : List iV) (m : Nat) (z0 : iV) (h : iH) (Q : Option iV → iH → Prop), G sp sc [] (d + 1) mX11_days (n + 1) 47 L (z0 :: .inr (.inr (m + 2)) :: r) h Q = (match h.1[m]? with | some (.inl (ci, _)) => (match lkC 11 218 ci with | some (y1, n1, kd) => (n1 = 1 ∧ (kd = 2 ∨ kd = 3 ∨ kd = 8) ∧ cs r ≤ 8) ∧ Call sp sc d y1 [.inr (.inr (m + 2)), z0] h (fun q h1 => GC sp sc [] (d + 1) mX11_days n 50 L q r h h1 Q) | none => False) | _ => False)) ∧
  (∀ (n d : Nat) (L : List (Option iV)) (st : List iV) (h : iH) (Q : Option iV → iH → Prop), G sp sc [] d mX11_days (n + 1) 50 L st h Q = (match ld L 0 with | some (.inr (.inr (r + 1))) => G sp sc [] d mX11_days n 51 L (.inr (.inr (r + 1)) :: st) h Q | _ => False)) ∧
  (∀ (n d : Nat) (L : List (Option iV)) (r : List iV) (m : Nat) (h : iH) (Q : Option iV → iH → Prop), G sp sc [] d mX11_days (n + 1) 51 L (.inr (.inr (m + 2)) :: r) h Q = (match h.1[m]? with | some (.inl (ci, fs)) => (match lkF 11 17 ci with | some k => (match fs[k]? with | some v => G sp sc [] d mX11_days n 54 L (v :: r) h Q | none => False) | none => False) | _ => False)) ∧
  (∀ (n d : Nat) (L : List (Option iV)) (st : List iV) (h : iH) (Q : Option iV → iH → Prop), G sp sc [] d mX11_days (n + 1) 54 L st h Q = (match ld L 0 with | some (.inr (.inr (r + 1))) => G sp sc [] d mX11_days n 55 L (.inr (.inr (r + 1)) :: st) h Q | _ => False)) ∧
  (∀ (n d : Nat) (L : List (Option iV)) (r : List iV) (m : Nat) (h : iH) (Q : Option iV → iH → Prop), G sp sc [] d mX11_days (n + 1) 55 L (.inr (.inr (m + 2)) :: r) h Q = (match h.1[m]? with | some (.inl (ci, fs)) => (match lkF 11 38 ci with | some k => (match fs[k]? with | some v => G sp sc [] d mX11_days n 58 L (v :: r) h Q | none => False) | none => False) | _ => False)) ∧
  (∀ (n d : Nat) (L : List (Option iV)) (r : List iV) (m : Nat) (h : iH) (Q : Option iV → iH → Prop), G sp sc [] d mX11_days (n + 1) 58 L (.inr (.inr (m + 2)) :: r) h Q = (match h.1[m]? with | some (.inl (ci, fs)) => (match lkF 11 107 ci with | some k => (match fs[k]? with | some v => G sp sc [] d mX11_days n 61 L (v :: r) h Q | none => False) | none => False) | _ => False)) ∧
  (∀ (n d : Nat) (L : List (Option iV)) (r : List iV) (m : Nat) (z0 : iV) (h : iH) (Q : Option iV → iH → Prop), G sp sc [] (d + 1) mX11_days (n + 1) 61 L (z0 :: .inr (.inr (m + 2)) :: r) h Q = (match h.1[m]? with | some (.inl (ci, _)) => (match lkC 11 110 ci with | some (y1, n1, kd) => (n1 = 1 ∧ (kd = 2 ∨ kd = 3 ∨ kd = 8) ∧ cs r ≤ 8) ∧ Call sp sc d y1 [.inr (.inr (m + 2)), z0] h (fun q h1 => GC sp sc [] (d + 1) mX11_days n 64 L q r h h1 Q) | none => False) | _ => False)) ∧
  (∀ (n d : Nat) (L : List (Option iV)) (st : List iV) (h : iH) (Q : Option iV → iH → Prop), G sp sc [] d mX11_days (n + 1) 64 L st h Q = (match ld L 0 with | some (.inr (.inr (r + 1))) => G sp sc [] d mX11_days n 65 L (.inr (.inr (r + 1)) :: st) h Q | _ => False)) ∧
  (∀ (n d : Nat) (L : List (Option iV)) (r : List iV) (m : Nat) (h : iH) (Q : Option iV → iH → Prop), G sp sc [] d mX11_days (n + 1) 65 L (.inr (.inr (m + 2)) :: r) h Q = (match h.1[m]? with | some (.inl (ci, fs)) => (match lkF 11 38 ci with | some k => (match fs[k]? with | some v => G sp sc [] d mX11_days n 68 L (v :: r) h Q | none => False) | none => False) | _ => False)) ∧
  (∀ (n d : Nat) (L : List (Option iV)) (r : List iV) (m : Nat) (h : iH) (Q : Option iV → iH → Prop), G sp sc [] d mX11_days (n + 1) 68 L (.inr (.inr (m + 2)) :: r) h Q = (match h.1[m]? with | some (.inl (ci, fs)) => (match lkF 11 221 ci with | some k => (match fs[k]? with | some v => G sp sc [] d mX11_days n 71 L (v :: r) h Q | none => False) | none => False) | _ => False)) ∧
  (∀ (n d : Nat) (L : List (Option iV)) (a : Int) (h : iH) (Q : Option iV → iH → Prop), G sp sc [] d mX11_days (n + 1) 71 L [.inl a] h Q = Q (some (.inl a)) h) ∧
  lkC 11 110 8 = some (mX8_takeFrom, 1, 2) ∧
  lkC 11 218 10 = some (mX10_pass, 1, 2) ∧
  lkC 11 90 10 = some (mX10_begin, 1, 2) ∧
  lkF 11 107 10 = some 0 ∧
  lkF 11 17 11 = some 2 ∧
  lkF 11 215 8 = some 12 ∧
  lkF 11 221 10 = some 6 ∧
  lkF 11 38 11 = some 5 := ⟨by intros; exact G_at (by decide +kernel : fetch mX11_days 0 = some (.iload_n 1)),
  by intros; exact G_at (by decide +kernel : fetch mX11_days 1 = some (.iconst 1)),
  by intros; exact G_at (by decide +kernel : fetch mX11_days 2 = some (.if_icmp .lt 9)),
  by intros; exact G_at (by decide +kernel : fetch mX11_days 5 = some (.iload_n 1)),
  by intros; exact G_at (by decide +kernel : fetch mX11_days 6 = some (.bipush 60)),
  by intros; exact G_at (by decide +kernel : fetch mX11_days 8 = some (.if_icmp .le 5)),
  by intros; exact G_at (by decide +kernel : fetch mX11_days 11 = some (.iconst (-1))),
  by intros; exact G_reti (by decide +kernel : fetch mX11_days 12 = some (.ireturn)) (by decide +kernel),
  by intros; exact G_at (by decide +kernel : fetch mX11_days 13 = some (.aload_n 0)),
  by intros; exact G_own (by decide +kernel : fetch mX11_days 14 = some (.getfield 17)) (by decide +kernel),
  by intros; exact G_own (by decide +kernel : fetch mX11_days 17 = some (.getfield 215)) (by decide +kernel),
  by intros; exact G_at (by decide +kernel : fetch mX11_days 20 = some (.iload_n 1)),
  by intros; exact G_at (by decide +kernel : fetch mX11_days 21 = some (.iadd)),
  by intros; exact G_at (by decide +kernel : fetch mX11_days 22 = some (.sipush 999)),
  by intros; exact G_at (by decide +kernel : fetch mX11_days 25 = some (.if_icmp .le 6)),
  by intros; exact G_at (by decide +kernel : fetch mX11_days 28 = some (.bipush (-3))),
  by intros; exact G_reti (by decide +kernel : fetch mX11_days 30 = some (.ireturn)) (by decide +kernel),
  by intros; exact G_at (by decide +kernel : fetch mX11_days 31 = some (.aload_n 0)),
  by intros; exact G_own (by decide +kernel : fetch mX11_days 32 = some (.getfield 38)) (by decide +kernel),
  by intros; exact G_at (by decide +kernel : fetch mX11_days 35 = some (.aload_n 0)),
  by intros; exact G_own (by decide +kernel : fetch mX11_days 36 = some (.getfield 17)) (by decide +kernel),
  by intros; exact G_callV (by decide +kernel : fetch mX11_days 39 = some (.invokevirtual 90)) (by decide +kernel) (by decide +kernel) rfl,
  by intros; exact G_at (by decide +kernel : fetch mX11_days 42 = some (.aload_n 0)),
  by intros; exact G_own (by decide +kernel : fetch mX11_days 43 = some (.getfield 38)) (by decide +kernel),
  by intros; exact G_at (by decide +kernel : fetch mX11_days 46 = some (.iload_n 1)),
  by intros; exact G_callV (by decide +kernel : fetch mX11_days 47 = some (.invokevirtual 218)) (by decide +kernel) (by decide +kernel) rfl,
  by intros; exact G_at (by decide +kernel : fetch mX11_days 50 = some (.aload_n 0)),
  by intros; exact G_own (by decide +kernel : fetch mX11_days 51 = some (.getfield 17)) (by decide +kernel),
  by intros; exact G_at (by decide +kernel : fetch mX11_days 54 = some (.aload_n 0)),
  by intros; exact G_own (by decide +kernel : fetch mX11_days 55 = some (.getfield 38)) (by decide +kernel),
  by intros; exact G_own (by decide +kernel : fetch mX11_days 58 = some (.getfield 107)) (by decide +kernel),
  by intros; exact G_callV (by decide +kernel : fetch mX11_days 61 = some (.invokevirtual 110)) (by decide +kernel) (by decide +kernel) rfl,
  by intros; exact G_at (by decide +kernel : fetch mX11_days 64 = some (.aload_n 0)),
  by intros; exact G_own (by decide +kernel : fetch mX11_days 65 = some (.getfield 38)) (by decide +kernel),
  by intros; exact G_own (by decide +kernel : fetch mX11_days 68 = some (.getfield 221)) (by decide +kernel),
  by intros; exact G_reti (by decide +kernel : fetch mX11_days 71 = some (.ireturn)) (by decide +kernel),
  by decide +kernel,
  by decide +kernel,
  by decide +kernel,
  by decide +kernel,
  by decide +kernel,
  by decide +kernel,
  by decide +kernel,
  by decide +kernel⟩
theorem gX11_fate : (∀ (n d : Nat) (L : List (Option iV)) (st : List iV) (h : iH) (Q : Option iV → iH → Prop), G sp sc [] d mX11_fate (n + 1) 0 L st h Q = (match ld L 0 with | some (.inr (.inr (r + 1))) => G sp sc [] d mX11_fate n 1 L (.inr (.inr (r + 1)) :: st) h Q | _ => False)) ∧
  (∀ (n d : Nat) (L : List (Option iV)) (r : List iV) (m : Nat) (h : iH) (Q : Option iV → iH → Prop), G sp sc [] d mX11_fate (n + 1) 1 L (.inr (.inr (m + 2)) :: r) h Q = (match h.1[m]? with | some (.inl (ci, fs)) => (match lkF 11 17 ci with | some k => (match fs[k]? with | some v => G sp sc [] d mX11_fate n 4 L (v :: r) h Q | none => False) | none => False) | _ => False)) ∧
  (∀ (n d : Nat) (L : List (Option iV)) (st : List iV) (h : iH) (Q : Option iV → iH → Prop), G sp sc [] d mX11_fate (n + 1) 4 L st h Q = (match ld L 1 with | some (.inl x) => G sp sc [] d mX11_fate n 5 L (.inl x :: st) h Q | _ => False)) ∧
  (∀ (n d : Nat) (L : List (Option iV)) (r : List iV) (m : Nat) (z0 : iV) (h : iH) (Q : Option iV → iH → Prop), G sp sc [] (d + 1) mX11_fate (n + 1) 5 L (z0 :: .inr (.inr (m + 2)) :: r) h Q = (match h.1[m]? with | some (.inl (ci, _)) => (match lkC 11 185 ci with | some (y1, n1, kd) => (n1 = 1 ∧ (kd = 2 ∨ kd = 3 ∨ kd = 8) ∧ cs r ≤ 8) ∧ Call sp sc d y1 [.inr (.inr (m + 2)), z0] h (fun q h1 => GC sp sc [] (d + 1) mX11_fate n 8 L q r h h1 Q) | none => False) | _ => False)) ∧
  (∀ (n d : Nat) (L : List (Option iV)) (a : Int) (r : List iV) (h : iH) (Q : Option iV → iH → Prop), G sp sc [] d mX11_fate (n + 1) 8 L (.inl a :: r) h Q = (inI a = true ∧ (a = 0 → G sp sc [] d mX11_fate n 27 L r h Q) ∧ (¬ (a = 0) → G sp sc [] d mX11_fate n 11 L r h Q))) ∧
  (∀ (n d : Nat) (L : List (Option iV)) (st : List iV) (h : iH) (Q : Option iV → iH → Prop), G sp sc [] d mX11_fate (n + 1) 11 L st h Q = (match ld L 2 with | some (.inl x) => G sp sc [] d mX11_fate n 12 L (.inl x :: st) h Q | _ => False)) ∧
  (∀ (n d : Nat) (L : List (Option iV)) (r : List iV) (z0 : iV) (h : iH) (Q : Option iV → iH → Prop), G sp sc [] (d + 1) mX11_fate (n + 1) 12 L (z0 :: r) h Q = (cs r ≤ 8 ∧ Call sp sc d mX11_isMindSpan [z0] h (fun q h1 => GC sp sc [] (d + 1) mX11_fate n 15 L q r h h1 Q))) ∧
  (∀ (n d : Nat) (L : List (Option iV)) (a : Int) (r : List iV) (h : iH) (Q : Option iV → iH → Prop), G sp sc [] d mX11_fate (n + 1) 15 L (.inl a :: r) h Q = (inI a = true ∧ (a = 0 → G sp sc [] d mX11_fate n 27 L r h Q) ∧ (¬ (a = 0) → G sp sc [] d mX11_fate n 18 L r h Q))) ∧
  (∀ (n d : Nat) (L : List (Option iV)) (st : List iV) (h : iH) (Q : Option iV → iH → Prop), G sp sc [] d mX11_fate (n + 1) 18 L st h Q = (match ld L 3 with | some (.inl x) => G sp sc [] d mX11_fate n 19 L (.inl x :: st) h Q | _ => False)) ∧
  (∀ (n d : Nat) (L : List (Option iV)) (a : Int) (r : List iV) (h : iH) (Q : Option iV → iH → Prop), G sp sc [] d mX11_fate (n + 1) 19 L (.inl a :: r) h Q = (inI a = true ∧ (a < 0 → G sp sc [] d mX11_fate n 27 L r h Q) ∧ (¬ (a < 0) → G sp sc [] d mX11_fate n 22 L r h Q))) ∧
  (∀ (n d : Nat) (L : List (Option iV)) (st : List iV) (h : iH) (Q : Option iV → iH → Prop), G sp sc [] d mX11_fate (n + 1) 22 L st h Q = (match ld L 3 with | some (.inl x) => G sp sc [] d mX11_fate n 23 L (.inl x :: st) h Q | _ => False)) ∧
  (∀ (n d : Nat) (L : List (Option iV)) (st : List iV) (h : iH) (Q : Option iV → iH → Prop), G sp sc [] d mX11_fate (n + 1) 23 L st h Q = G sp sc [] d mX11_fate n 24 L (.inl 3 :: st) h Q) ∧
  (∀ (n d : Nat) (L : List (Option iV)) (a : Int) (b : Int) (r : List iV) (h : iH) (Q : Option iV → iH → Prop), G sp sc [] d mX11_fate (n + 1) 24 L (.inl b :: .inl a :: r) h Q = ((inI a = true ∧ inI b = true) ∧ (a ≤ b → G sp sc [] d mX11_fate n 29 L r h Q) ∧ (¬ (a ≤ b) → G sp sc [] d mX11_fate n 27 L r h Q))) ∧
  (∀ (n d : Nat) (L : List (Option iV)) (st : List iV) (h : iH) (Q : Option iV → iH → Prop), G sp sc [] d mX11_fate (n + 1) 27 L st h Q = G sp sc [] d mX11_fate n 28 L (.inl (-1) :: st) h Q) ∧
  (∀ (n d : Nat) (L : List (Option iV)) (a : Int) (h : iH) (Q : Option iV → iH → Prop), G sp sc [] d mX11_fate (n + 1) 28 L [.inl a] h Q = Q (some (.inl a)) h) ∧
  (∀ (n d : Nat) (L : List (Option iV)) (st : List iV) (h : iH) (Q : Option iV → iH → Prop), G sp sc [] d mX11_fate (n + 1) 29 L st h Q = (match ld L 0 with | some (.inr (.inr (r + 1))) => G sp sc [] d mX11_fate n 30 L (.inr (.inr (r + 1)) :: st) h Q | _ => False)) ∧
  (∀ (n d : Nat) (L : List (Option iV)) (r : List iV) (m : Nat) (h : iH) (Q : Option iV → iH → Prop), G sp sc [] d mX11_fate (n + 1) 30 L (.inr (.inr (m + 2)) :: r) h Q = (match h.1[m]? with | some (.inl (ci, fs)) => (match lkF 11 38 ci with | some k => (match fs[k]? with | some v => G sp sc [] d mX11_fate n 33 L (v :: r) h Q | none => False) | none => False) | _ => False)) ∧
  (∀ (n d : Nat) (L : List (Option iV)) (st : List iV) (h : iH) (Q : Option iV → iH → Prop), G sp sc [] d mX11_fate (n + 1) 33 L st h Q = (match ld L 0 with | some (.inr (.inr (r + 1))) => G sp sc [] d mX11_fate n 34 L (.inr (.inr (r + 1)) :: st) h Q | _ => False)) ∧
  (∀ (n d : Nat) (L : List (Option iV)) (r : List iV) (m : Nat) (h : iH) (Q : Option iV → iH → Prop), G sp sc [] d mX11_fate (n + 1) 34 L (.inr (.inr (m + 2)) :: r) h Q = (match h.1[m]? with | some (.inl (ci, fs)) => (match lkF 11 17 ci with | some k => (match fs[k]? with | some v => G sp sc [] d mX11_fate n 37 L (v :: r) h Q | none => False) | none => False) | _ => False)) ∧
  (∀ (n d : Nat) (L : List (Option iV)) (r : List iV) (m : Nat) (z0 : iV) (h : iH) (Q : Option iV → iH → Prop), G sp sc [] (d + 1) mX11_fate (n + 1) 37 L (z0 :: .inr (.inr (m + 2)) :: r) h Q = (match h.1[m]? with | some (.inl (ci, _)) => (match lkC 11 90 ci with | some (y1, n1, kd) => (n1 = 1 ∧ (kd = 2 ∨ kd = 3 ∨ kd = 8) ∧ cs r ≤ 8) ∧ Call sp sc d y1 [.inr (.inr (m + 2)), z0] h (fun q h1 => GC sp sc [] (d + 1) mX11_fate n 40 L q r h h1 Q) | none => False) | _ => False)) ∧
  (∀ (n d : Nat) (L : List (Option iV)) (st : List iV) (h : iH) (Q : Option iV → iH → Prop), G sp sc [] d mX11_fate (n + 1) 40 L st h Q = (match ld L 0 with | some (.inr (.inr (r + 1))) => G sp sc [] d mX11_fate n 41 L (.inr (.inr (r + 1)) :: st) h Q | _ => False)) ∧
  (∀ (n d : Nat) (L : List (Option iV)) (r : List iV) (m : Nat) (h : iH) (Q : Option iV → iH → Prop), G sp sc [] d mX11_fate (n + 1) 41 L (.inr (.inr (m + 2)) :: r) h Q = (match h.1[m]? with | some (.inl (ci, fs)) => (match lkF 11 38 ci with | some k => (match fs[k]? with | some v => G sp sc [] d mX11_fate n 44 L (v :: r) h Q | none => False) | none => False) | _ => False)) ∧
  (∀ (n d : Nat) (L : List (Option iV)) (st : List iV) (h : iH) (Q : Option iV → iH → Prop), G sp sc [] d mX11_fate (n + 1) 44 L st h Q = (match ld L 2 with | some (.inl x) => G sp sc [] d mX11_fate n 45 L (.inl x :: st) h Q | _ => False)) ∧
  (∀ (n d : Nat) (L : List (Option iV)) (r : List iV) (m : Nat) (z0 : iV) (h : iH) (Q : Option iV → iH → Prop), G sp sc [] (d + 1) mX11_fate (n + 1) 45 L (z0 :: .inr (.inr (m + 2)) :: r) h Q = (match h.1[m]? with | some (.inl (ci, _)) => (match lkC 11 218 ci with | some (y1, n1, kd) => (n1 = 1 ∧ (kd = 2 ∨ kd = 3 ∨ kd = 8) ∧ cs r ≤ 8) ∧ Call sp sc d y1 [.inr (.inr (m + 2)), z0] h (fun q h1 => GC sp sc [] (d + 1) mX11_fate n 48 L q r h h1 Q) | none => False) | _ => False)) ∧
  (∀ (n d : Nat) (L : List (Option iV)) (st : List iV) (h : iH) (Q : Option iV → iH → Prop), G sp sc [] d mX11_fate (n + 1) 48 L st h Q = (match ld L 3 with | some (.inl x) => G sp sc [] d mX11_fate n 49 L (.inl x :: st) h Q | _ => False)) ∧
  (∀ (n d : Nat) (L : List (Option iV)) (a : Int) (r : List iV) (h : iH) (Q : Option iV → iH → Prop), G sp sc [] d mX11_fate (n + 1) 49 L (.inl a :: r) h Q = (inI a = true ∧ ((a < 0 ∨ 2 < a) → G sp sc [] d mX11_fate n 112 L r h Q) ∧ (¬ (a < 0 ∨ 2 < a) → (match (#[27, 40, 53] : Array Int)[(a - (0 : Int)).toNat]? with | some off => (match jmp 49 off with | some q => GK sp sc [] d mX11_fate n q L r h Q | none => False) | none => False)))) ∧
  (∀ (n d : Nat) (L : List (Option iV)) (st : List iV) (h : iH) (Q : Option iV → iH → Prop), G sp sc [] d mX11_fate (n + 1) 76 L st h Q = (match ld L 0 with | some (.inr (.inr (r + 1))) => G sp sc [] d mX11_fate n 77 L (.inr (.inr (r + 1)) :: st) h Q | _ => False)) ∧
  (∀ (n d : Nat) (L : List (Option iV)) (r : List iV) (m : Nat) (h : iH) (Q : Option iV → iH → Prop), G sp sc [] d mX11_fate (n + 1) 77 L (.inr (.inr (m + 2)) :: r) h Q = (match h.1[m]? with | some (.inl (ci, fs)) => (match lkF 11 38 ci with | some k => (match fs[k]? with | some v => G sp sc [] d mX11_fate n 80 L (v :: r) h Q | none => False) | none => False) | _ => False)) ∧
  (∀ (n d : Nat) (L : List (Option iV)) (r : List iV) (m : Nat) (h : iH) (Q : Option iV → iH → Prop), G sp sc [] d mX11_fate (n + 1) 80 L (.inr (.inr (m + 2)) :: r) h Q = (match h.1[m]? with | some (.inl (ci, fs)) => (match lkF 11 107 ci with | some k => (match fs[k]? with | some v => G sp sc [] d mX11_fate n 83 L (v :: r) h Q | none => False) | none => False) | _ => False)) ∧
  (∀ (n d : Nat) (L : List (Option iV)) (r : List iV) (m : Nat) (h : iH) (Q : Option iV → iH → Prop), G sp sc [] d mX11_fate (n + 1) 83 L (.inr (.inr (m + 2)) :: r) h Q = (match h.1[m]? with | some (.inl (ci, fs)) => (match lkF 11 194 ci with | some k => (match fs[k]? with | some v => G sp sc [] d mX11_fate n 86 L (v :: r) h Q | none => False) | none => False) | _ => False)) ∧
  (∀ (n d : Nat) (L : List (Option iV)) (st : List iV) (h : iH) (Q : Option iV → iH → Prop), G sp sc [] d mX11_fate (n + 1) 86 L st h Q = (match ld L 1 with | some (.inl x) => G sp sc [] d mX11_fate n 87 L (.inl x :: st) h Q | _ => False)) ∧
  (∀ (n d : Nat) (L : List (Option iV)) (r : List iV) (j : Int) (m : Nat) (h : iH) (Q : Option iV → iH → Prop), G sp sc [] d mX11_fate (n + 1) 87 L (.inl j :: .inr (.inr (m + 2)) :: r) h Q = (match h.1[m]? with | some (.inr (.inl (0, xs))) => inA j xs.length = true ∧ G sp sc [] d mX11_fate n 88 L (.inl (xs.getD j.toNat 0) :: r) h Q | _ => False)) ∧
  (∀ (n d : Nat) (L : List (Option iV)) (a : Int) (h : iH) (Q : Option iV → iH → Prop), G sp sc [] d mX11_fate (n + 1) 88 L [.inl a] h Q = Q (some (.inl a)) h) ∧
  (∀ (n d : Nat) (L : List (Option iV)) (st : List iV) (h : iH) (Q : Option iV → iH → Prop), G sp sc [] d mX11_fate (n + 1) 89 L st h Q = (match ld L 0 with | some (.inr (.inr (r + 1))) => G sp sc [] d mX11_fate n 90 L (.inr (.inr (r + 1)) :: st) h Q | _ => False)) ∧
  (∀ (n d : Nat) (L : List (Option iV)) (r : List iV) (m : Nat) (h : iH) (Q : Option iV → iH → Prop), G sp sc [] d mX11_fate (n + 1) 90 L (.inr (.inr (m + 2)) :: r) h Q = (match h.1[m]? with | some (.inl (ci, fs)) => (match lkF 11 38 ci with | some k => (match fs[k]? with | some v => G sp sc [] d mX11_fate n 93 L (v :: r) h Q | none => False) | none => False) | _ => False)) ∧
  (∀ (n d : Nat) (L : List (Option iV)) (r : List iV) (m : Nat) (h : iH) (Q : Option iV → iH → Prop), G sp sc [] d mX11_fate (n + 1) 93 L (.inr (.inr (m + 2)) :: r) h Q = (match h.1[m]? with | some (.inl (ci, fs)) => (match lkF 11 107 ci with | some k => (match fs[k]? with | some v => G sp sc [] d mX11_fate n 96 L (v :: r) h Q | none => False) | none => False) | _ => False)) ∧
  (∀ (n d : Nat) (L : List (Option iV)) (r : List iV) (m : Nat) (h : iH) (Q : Option iV → iH → Prop), G sp sc [] d mX11_fate (n + 1) 96 L (.inr (.inr (m + 2)) :: r) h Q = (match h.1[m]? with | some (.inl (ci, fs)) => (match lkF 11 197 ci with | some k => (match fs[k]? with | some v => G sp sc [] d mX11_fate n 99 L (v :: r) h Q | none => False) | none => False) | _ => False)) ∧
  (∀ (n d : Nat) (L : List (Option iV)) (st : List iV) (h : iH) (Q : Option iV → iH → Prop), G sp sc [] d mX11_fate (n + 1) 99 L st h Q = (match ld L 1 with | some (.inl x) => G sp sc [] d mX11_fate n 100 L (.inl x :: st) h Q | _ => False)) ∧
  (∀ (n d : Nat) (L : List (Option iV)) (r : List iV) (j : Int) (m : Nat) (h : iH) (Q : Option iV → iH → Prop), G sp sc [] d mX11_fate (n + 1) 100 L (.inl j :: .inr (.inr (m + 2)) :: r) h Q = (match h.1[m]? with | some (.inr (.inl (0, xs))) => inA j xs.length = true ∧ G sp sc [] d mX11_fate n 101 L (.inl (xs.getD j.toNat 0) :: r) h Q | _ => False)) ∧
  (∀ (n d : Nat) (L : List (Option iV)) (a : Int) (h : iH) (Q : Option iV → iH → Prop), G sp sc [] d mX11_fate (n + 1) 101 L [.inl a] h Q = Q (some (.inl a)) h) ∧
  (∀ (n d : Nat) (L : List (Option iV)) (st : List iV) (h : iH) (Q : Option iV → iH → Prop), G sp sc [] d mX11_fate (n + 1) 102 L st h Q = (match ld L 0 with | some (.inr (.inr (r + 1))) => G sp sc [] d mX11_fate n 103 L (.inr (.inr (r + 1)) :: st) h Q | _ => False)) ∧
  (∀ (n d : Nat) (L : List (Option iV)) (r : List iV) (m : Nat) (h : iH) (Q : Option iV → iH → Prop), G sp sc [] d mX11_fate (n + 1) 103 L (.inr (.inr (m + 2)) :: r) h Q = (match h.1[m]? with | some (.inl (ci, fs)) => (match lkF 11 38 ci with | some k => (match fs[k]? with | some v => G sp sc [] d mX11_fate n 106 L (v :: r) h Q | none => False) | none => False) | _ => False)) ∧
  (∀ (n d : Nat) (L : List (Option iV)) (r : List iV) (m : Nat) (h : iH) (Q : Option iV → iH → Prop), G sp sc [] d mX11_fate (n + 1) 106 L (.inr (.inr (m + 2)) :: r) h Q = (match h.1[m]? with | some (.inl (ci, fs)) => (match lkF 11 227 ci with | some k => (match fs[k]? with | some v => G sp sc [] d mX11_fate n 109 L (v :: r) h Q | none => False) | none => False) | _ => False)) ∧
  (∀ (n d : Nat) (L : List (Option iV)) (st : List iV) (h : iH) (Q : Option iV → iH → Prop), G sp sc [] d mX11_fate (n + 1) 109 L st h Q = (match ld L 1 with | some (.inl x) => G sp sc [] d mX11_fate n 110 L (.inl x :: st) h Q | _ => False)) ∧
  (∀ (n d : Nat) (L : List (Option iV)) (r : List iV) (j : Int) (m : Nat) (h : iH) (Q : Option iV → iH → Prop), G sp sc [] d mX11_fate (n + 1) 110 L (.inl j :: .inr (.inr (m + 2)) :: r) h Q = (match h.1[m]? with | some (.inr (.inl (0, xs))) => inA j xs.length = true ∧ G sp sc [] d mX11_fate n 111 L (.inl (xs.getD j.toNat 0) :: r) h Q | _ => False)) ∧
  (∀ (n d : Nat) (L : List (Option iV)) (a : Int) (h : iH) (Q : Option iV → iH → Prop), G sp sc [] d mX11_fate (n + 1) 111 L [.inl a] h Q = Q (some (.inl a)) h) ∧
  (∀ (n d : Nat) (L : List (Option iV)) (st : List iV) (h : iH) (Q : Option iV → iH → Prop), G sp sc [] d mX11_fate (n + 1) 112 L st h Q = (match ld L 0 with | some (.inr (.inr (r + 1))) => G sp sc [] d mX11_fate n 113 L (.inr (.inr (r + 1)) :: st) h Q | _ => False)) ∧
  (∀ (n d : Nat) (L : List (Option iV)) (r : List iV) (m : Nat) (h : iH) (Q : Option iV → iH → Prop), G sp sc [] d mX11_fate (n + 1) 113 L (.inr (.inr (m + 2)) :: r) h Q = (match h.1[m]? with | some (.inl (ci, fs)) => (match lkF 11 38 ci with | some k => (match fs[k]? with | some v => G sp sc [] d mX11_fate n 116 L (v :: r) h Q | none => False) | none => False) | _ => False)) ∧
  (∀ (n d : Nat) (L : List (Option iV)) (r : List iV) (m : Nat) (h : iH) (Q : Option iV → iH → Prop), G sp sc [] d mX11_fate (n + 1) 116 L (.inr (.inr (m + 2)) :: r) h Q = (match h.1[m]? with | some (.inl (ci, fs)) => (match lkF 11 230 ci with | some k => (match fs[k]? with | some v => G sp sc [] d mX11_fate n 119 L (v :: r) h Q | none => False) | none => False) | _ => False)) ∧
  (∀ (n d : Nat) (L : List (Option iV)) (st : List iV) (h : iH) (Q : Option iV → iH → Prop), G sp sc [] d mX11_fate (n + 1) 119 L st h Q = (match ld L 1 with | some (.inl x) => G sp sc [] d mX11_fate n 120 L (.inl x :: st) h Q | _ => False)) ∧
  (∀ (n d : Nat) (L : List (Option iV)) (r : List iV) (j : Int) (m : Nat) (h : iH) (Q : Option iV → iH → Prop), G sp sc [] d mX11_fate (n + 1) 120 L (.inl j :: .inr (.inr (m + 2)) :: r) h Q = (match h.1[m]? with | some (.inr (.inl (0, xs))) => inA j xs.length = true ∧ G sp sc [] d mX11_fate n 121 L (.inl (xs.getD j.toNat 0) :: r) h Q | _ => False)) ∧
  (∀ (n d : Nat) (L : List (Option iV)) (a : Int) (r : List iV) (h : iH) (Q : Option iV → iH → Prop), G sp sc [] d mX11_fate (n + 1) 121 L (.inl a :: r) h Q = (inI a = true ∧ (¬ a = 0 → G sp sc [] d mX11_fate n 129 L r h Q) ∧ (¬ (¬ a = 0) → G sp sc [] d mX11_fate n 124 L r h Q))) ∧
  (∀ (n d : Nat) (L : List (Option iV)) (st : List iV) (h : iH) (Q : Option iV → iH → Prop), G sp sc [] d mX11_fate (n + 1) 124 L st h Q = ((-128 ≤ ((-4) : Int) ∧ ((-4) : Int) < 128) ∧ G sp sc [] d mX11_fate n 126 L (.inl (-4) :: st) h Q)) ∧
  (∀ (n d : Nat) (L : List (Option iV)) (st : List iV) (h : iH) (Q : Option iV → iH → Prop), G sp sc [] d mX11_fate (n + 1) 126 L st h Q = G sp sc [] d mX11_fate n 138 L st h Q) ∧
  (∀ (n d : Nat) (L : List (Option iV)) (st : List iV) (h : iH) (Q : Option iV → iH → Prop), G sp sc [] d mX11_fate (n + 1) 129 L st h Q = (match ld L 0 with | some (.inr (.inr (r + 1))) => G sp sc [] d mX11_fate n 130 L (.inr (.inr (r + 1)) :: st) h Q | _ => False)) ∧
  (∀ (n d : Nat) (L : List (Option iV)) (r : List iV) (m : Nat) (h : iH) (Q : Option iV → iH → Prop), G sp sc [] d mX11_fate (n + 1) 130 L (.inr (.inr (m + 2)) :: r) h Q = (match h.1[m]? with | some (.inl (ci, fs)) => (match lkF 11 38 ci with | some k => (match fs[k]? with | some v => G sp sc [] d mX11_fate n 133 L (v :: r) h Q | none => False) | none => False) | _ => False)) ∧
  (∀ (n d : Nat) (L : List (Option iV)) (r : List iV) (m : Nat) (h : iH) (Q : Option iV → iH → Prop), G sp sc [] d mX11_fate (n + 1) 133 L (.inr (.inr (m + 2)) :: r) h Q = (match h.1[m]? with | some (.inl (ci, fs)) => (match lkF 11 230 ci with | some k => (match fs[k]? with | some v => G sp sc [] d mX11_fate n 136 L (v :: r) h Q | none => False) | none => False) | _ => False)) ∧
  (∀ (n d : Nat) (L : List (Option iV)) (st : List iV) (h : iH) (Q : Option iV → iH → Prop), G sp sc [] d mX11_fate (n + 1) 136 L st h Q = (match ld L 1 with | some (.inl x) => G sp sc [] d mX11_fate n 137 L (.inl x :: st) h Q | _ => False)) ∧
  (∀ (n d : Nat) (L : List (Option iV)) (r : List iV) (j : Int) (m : Nat) (h : iH) (Q : Option iV → iH → Prop), G sp sc [] d mX11_fate (n + 1) 137 L (.inl j :: .inr (.inr (m + 2)) :: r) h Q = (match h.1[m]? with | some (.inr (.inl (0, xs))) => inA j xs.length = true ∧ G sp sc [] d mX11_fate n 138 L (.inl (xs.getD j.toNat 0) :: r) h Q | _ => False)) ∧
  (∀ (n d : Nat) (L : List (Option iV)) (a : Int) (h : iH) (Q : Option iV → iH → Prop), G sp sc [] d mX11_fate (n + 1) 138 L [.inl a] h Q = Q (some (.inl a)) h) ∧
  lkC 11 185 8 = some (mX8_hasCouple, 1, 2) ∧
  lkC 11 218 10 = some (mX10_pass, 1, 2) ∧
  lkC 11 90 10 = some (mX10_begin, 1, 2) ∧
  lkF 11 107 10 = some 0 ∧
  lkF 11 17 11 = some 2 ∧
  lkF 11 194 8 = some 8 ∧
  lkF 11 197 8 = some 9 ∧
  lkF 11 227 10 = some 3 ∧
  lkF 11 230 10 = some 4 ∧
  lkF 11 38 11 = some 5 := ⟨by intros; exact G_at (by decide +kernel : fetch mX11_fate 0 = some (.aload_n 0)),
  by intros; exact G_own (by decide +kernel : fetch mX11_fate 1 = some (.getfield 17)) (by decide +kernel),
  by intros; exact G_at (by decide +kernel : fetch mX11_fate 4 = some (.iload_n 1)),
  by intros; exact G_callV (by decide +kernel : fetch mX11_fate 5 = some (.invokevirtual 185)) (by decide +kernel) (by decide +kernel) rfl,
  by intros; exact G_at (by decide +kernel : fetch mX11_fate 8 = some (.ifCond .eq 19)),
  by intros; exact G_at (by decide +kernel : fetch mX11_fate 11 = some (.iload_n 2)),
  by intros; exact G_callS (k := 1) (kd := 0) (by decide +kernel : fetch mX11_fate 12 = some (.invokestatic 224)) (by decide +kernel) (by decide +kernel) (by decide +kernel) rfl (by decide),
  by intros; exact G_at (by decide +kernel : fetch mX11_fate 15 = some (.ifCond .eq 12)),
  by intros; exact G_at (by decide +kernel : fetch mX11_fate 18 = some (.iload_n 3)),
  by intros; exact G_at (by decide +kernel : fetch mX11_fate 19 = some (.ifCond .lt 8)),
  by intros; exact G_at (by decide +kernel : fetch mX11_fate 22 = some (.iload_n 3)),
  by intros; exact G_at (by decide +kernel : fetch mX11_fate 23 = some (.iconst 3)),
  by intros; exact G_at (by decide +kernel : fetch mX11_fate 24 = some (.if_icmp .le 5)),
  by intros; exact G_at (by decide +kernel : fetch mX11_fate 27 = some (.iconst (-1))),
  by intros; exact G_reti (by decide +kernel : fetch mX11_fate 28 = some (.ireturn)) (by decide +kernel),
  by intros; exact G_at (by decide +kernel : fetch mX11_fate 29 = some (.aload_n 0)),
  by intros; exact G_own (by decide +kernel : fetch mX11_fate 30 = some (.getfield 38)) (by decide +kernel),
  by intros; exact G_at (by decide +kernel : fetch mX11_fate 33 = some (.aload_n 0)),
  by intros; exact G_own (by decide +kernel : fetch mX11_fate 34 = some (.getfield 17)) (by decide +kernel),
  by intros; exact G_callV (by decide +kernel : fetch mX11_fate 37 = some (.invokevirtual 90)) (by decide +kernel) (by decide +kernel) rfl,
  by intros; exact G_at (by decide +kernel : fetch mX11_fate 40 = some (.aload_n 0)),
  by intros; exact G_own (by decide +kernel : fetch mX11_fate 41 = some (.getfield 38)) (by decide +kernel),
  by intros; exact G_at (by decide +kernel : fetch mX11_fate 44 = some (.iload_n 2)),
  by intros; exact G_callV (by decide +kernel : fetch mX11_fate 45 = some (.invokevirtual 218)) (by decide +kernel) (by decide +kernel) rfl,
  by intros; exact G_at (by decide +kernel : fetch mX11_fate 48 = some (.iload_n 3)),
  by intros; exact G_at (by decide +kernel : fetch mX11_fate 49 = some (.tableswitch 63 0 2 #[27, 40, 53])),
  by intros; exact G_at (by decide +kernel : fetch mX11_fate 76 = some (.aload_n 0)),
  by intros; exact G_own (by decide +kernel : fetch mX11_fate 77 = some (.getfield 38)) (by decide +kernel),
  by intros; exact G_own (by decide +kernel : fetch mX11_fate 80 = some (.getfield 107)) (by decide +kernel),
  by intros; exact G_own (by decide +kernel : fetch mX11_fate 83 = some (.getfield 194)) (by decide +kernel),
  by intros; exact G_at (by decide +kernel : fetch mX11_fate 86 = some (.iload_n 1)),
  by intros; exact G_at (by decide +kernel : fetch mX11_fate 87 = some (.iaload)),
  by intros; exact G_reti (by decide +kernel : fetch mX11_fate 88 = some (.ireturn)) (by decide +kernel),
  by intros; exact G_at (by decide +kernel : fetch mX11_fate 89 = some (.aload_n 0)),
  by intros; exact G_own (by decide +kernel : fetch mX11_fate 90 = some (.getfield 38)) (by decide +kernel),
  by intros; exact G_own (by decide +kernel : fetch mX11_fate 93 = some (.getfield 107)) (by decide +kernel),
  by intros; exact G_own (by decide +kernel : fetch mX11_fate 96 = some (.getfield 197)) (by decide +kernel),
  by intros; exact G_at (by decide +kernel : fetch mX11_fate 99 = some (.iload_n 1)),
  by intros; exact G_at (by decide +kernel : fetch mX11_fate 100 = some (.iaload)),
  by intros; exact G_reti (by decide +kernel : fetch mX11_fate 101 = some (.ireturn)) (by decide +kernel),
  by intros; exact G_at (by decide +kernel : fetch mX11_fate 102 = some (.aload_n 0)),
  by intros; exact G_own (by decide +kernel : fetch mX11_fate 103 = some (.getfield 38)) (by decide +kernel),
  by intros; exact G_own (by decide +kernel : fetch mX11_fate 106 = some (.getfield 227)) (by decide +kernel),
  by intros; exact G_at (by decide +kernel : fetch mX11_fate 109 = some (.iload_n 1)),
  by intros; exact G_at (by decide +kernel : fetch mX11_fate 110 = some (.iaload)),
  by intros; exact G_reti (by decide +kernel : fetch mX11_fate 111 = some (.ireturn)) (by decide +kernel),
  by intros; exact G_at (by decide +kernel : fetch mX11_fate 112 = some (.aload_n 0)),
  by intros; exact G_own (by decide +kernel : fetch mX11_fate 113 = some (.getfield 38)) (by decide +kernel),
  by intros; exact G_own (by decide +kernel : fetch mX11_fate 116 = some (.getfield 230)) (by decide +kernel),
  by intros; exact G_at (by decide +kernel : fetch mX11_fate 119 = some (.iload_n 1)),
  by intros; exact G_at (by decide +kernel : fetch mX11_fate 120 = some (.iaload)),
  by intros; exact G_at (by decide +kernel : fetch mX11_fate 121 = some (.ifCond .ne 8)),
  by intros; exact G_at (by decide +kernel : fetch mX11_fate 124 = some (.bipush (-4))),
  by intros; exact G_at (by decide +kernel : fetch mX11_fate 126 = some (.goto 12)),
  by intros; exact G_at (by decide +kernel : fetch mX11_fate 129 = some (.aload_n 0)),
  by intros; exact G_own (by decide +kernel : fetch mX11_fate 130 = some (.getfield 38)) (by decide +kernel),
  by intros; exact G_own (by decide +kernel : fetch mX11_fate 133 = some (.getfield 230)) (by decide +kernel),
  by intros; exact G_at (by decide +kernel : fetch mX11_fate 136 = some (.iload_n 1)),
  by intros; exact G_at (by decide +kernel : fetch mX11_fate 137 = some (.iaload)),
  by intros; exact G_reti (by decide +kernel : fetch mX11_fate 138 = some (.ireturn)) (by decide +kernel),
  by decide +kernel,
  by decide +kernel,
  by decide +kernel,
  by decide +kernel,
  by decide +kernel,
  by decide +kernel,
  by decide +kernel,
  by decide +kernel,
  by decide +kernel,
  by decide +kernel⟩
theorem gX11_then : (∀ (n d : Nat) (L : List (Option iV)) (st : List iV) (h : iH) (Q : Option iV → iH → Prop), G sp sc [] d mX11_then (n + 1) 0 L st h Q = (match ld L 0 with | some (.inr (.inr (r + 1))) => G sp sc [] d mX11_then n 1 L (.inr (.inr (r + 1)) :: st) h Q | _ => False)) ∧
  (∀ (n d : Nat) (L : List (Option iV)) (r : List iV) (m : Nat) (h : iH) (Q : Option iV → iH → Prop), G sp sc [] d mX11_then (n + 1) 1 L (.inr (.inr (m + 2)) :: r) h Q = (match h.1[m]? with | some (.inl (ci, fs)) => (match lkF 11 17 ci with | some k => (match fs[k]? with | some v => G sp sc [] d mX11_then n 4 L (v :: r) h Q | none => False) | none => False) | _ => False)) ∧
  (∀ (n d : Nat) (L : List (Option iV)) (st : List iV) (h : iH) (Q : Option iV → iH → Prop), G sp sc [] d mX11_then (n + 1) 4 L st h Q = (match ld L 1 with | some (.inl x) => G sp sc [] d mX11_then n 5 L (.inl x :: st) h Q | _ => False)) ∧
  (∀ (n d : Nat) (L : List (Option iV)) (st : List iV) (h : iH) (Q : Option iV → iH → Prop), G sp sc [] d mX11_then (n + 1) 5 L st h Q = (match ld L 2 with | some (.inl x) => G sp sc [] d mX11_then n 6 L (.inl x :: st) h Q | _ => False)) ∧
  (∀ (n d : Nat) (L : List (Option iV)) (st : List iV) (h : iH) (Q : Option iV → iH → Prop), G sp sc [] d mX11_then (n + 1) 6 L st h Q = (match ld L 3 with | some (.inl x) => G sp sc [] d mX11_then n 7 L (.inl x :: st) h Q | _ => False)) ∧
  (∀ (n d : Nat) (L : List (Option iV)) (r : List iV) (m : Nat) (z0 : iV) (z1 : iV) (z2 : iV) (h : iH) (Q : Option iV → iH → Prop), G sp sc [] (d + 1) mX11_then (n + 1) 7 L (z2 :: z1 :: z0 :: .inr (.inr (m + 2)) :: r) h Q = (match h.1[m]? with | some (.inl (ci, _)) => (match lkC 11 166 ci with | some (y1, n1, kd) => (n1 = 3 ∧ (kd = 2 ∨ kd = 3 ∨ kd = 8) ∧ cs r ≤ 8) ∧ Call sp sc d y1 [.inr (.inr (m + 2)), z0, z1, z2] h (fun q h1 => GC sp sc [] (d + 1) mX11_then n 10 L q r h h1 Q) | none => False) | _ => False)) ∧
  (∀ (n d : Nat) (L : List (Option iV)) (a : Int) (r : List iV) (h : iH) (Q : Option iV → iH → Prop), G sp sc [] d mX11_then (n + 1) 10 L (.inl a :: r) h Q = (inI a = true ∧ (a = 0 → G sp sc [] d mX11_then n 21 L r h Q) ∧ (¬ (a = 0) → G sp sc [] d mX11_then n 13 L r h Q))) ∧
  (∀ (n d : Nat) (L : List (Option iV)) (st : List iV) (h : iH) (Q : Option iV → iH → Prop), G sp sc [] d mX11_then (n + 1) 13 L st h Q = (match ld L 4 with | some (.inl x) => G sp sc [] d mX11_then n 15 L (.inl x :: st) h Q | _ => False)) ∧
  (∀ (n d : Nat) (L : List (Option iV)) (r : List iV) (z0 : iV) (h : iH) (Q : Option iV → iH → Prop), G sp sc [] (d + 1) mX11_then (n + 1) 15 L (z0 :: r) h Q = (cs r ≤ 8 ∧ Call sp sc d mX11_isMindSpan [z0] h (fun q h1 => GC sp sc [] (d + 1) mX11_then n 18 L q r h h1 Q))) ∧
  (∀ (n d : Nat) (L : List (Option iV)) (a : Int) (r : List iV) (h : iH) (Q : Option iV → iH → Prop), G sp sc [] d mX11_then (n + 1) 18 L (.inl a :: r) h Q = (inI a = true ∧ (¬ a = 0 → G sp sc [] d mX11_then n 23 L r h Q) ∧ (¬ (¬ a = 0) → G sp sc [] d mX11_then n 21 L r h Q))) ∧
  (∀ (n d : Nat) (L : List (Option iV)) (st : List iV) (h : iH) (Q : Option iV → iH → Prop), G sp sc [] d mX11_then (n + 1) 21 L st h Q = G sp sc [] d mX11_then n 22 L (.inl (-1) :: st) h Q) ∧
  (∀ (n d : Nat) (L : List (Option iV)) (a : Int) (h : iH) (Q : Option iV → iH → Prop), G sp sc [] d mX11_then (n + 1) 22 L [.inl a] h Q = Q (some (.inl a)) h) ∧
  (∀ (n d : Nat) (L : List (Option iV)) (st : List iV) (h : iH) (Q : Option iV → iH → Prop), G sp sc [] d mX11_then (n + 1) 23 L st h Q = (match ld L 0 with | some (.inr (.inr (r + 1))) => G sp sc [] d mX11_then n 24 L (.inr (.inr (r + 1)) :: st) h Q | _ => False)) ∧
  (∀ (n d : Nat) (L : List (Option iV)) (r : List iV) (m : Nat) (h : iH) (Q : Option iV → iH → Prop), G sp sc [] d mX11_then (n + 1) 24 L (.inr (.inr (m + 2)) :: r) h Q = (match h.1[m]? with | some (.inl (ci, fs)) => (match lkF 11 38 ci with | some k => (match fs[k]? with | some v => G sp sc [] d mX11_then n 27 L (v :: r) h Q | none => False) | none => False) | _ => False)) ∧
  (∀ (n d : Nat) (L : List (Option iV)) (st : List iV) (h : iH) (Q : Option iV → iH → Prop), G sp sc [] d mX11_then (n + 1) 27 L st h Q = (match ld L 0 with | some (.inr (.inr (r + 1))) => G sp sc [] d mX11_then n 28 L (.inr (.inr (r + 1)) :: st) h Q | _ => False)) ∧
  (∀ (n d : Nat) (L : List (Option iV)) (r : List iV) (m : Nat) (h : iH) (Q : Option iV → iH → Prop), G sp sc [] d mX11_then (n + 1) 28 L (.inr (.inr (m + 2)) :: r) h Q = (match h.1[m]? with | some (.inl (ci, fs)) => (match lkF 11 17 ci with | some k => (match fs[k]? with | some v => G sp sc [] d mX11_then n 31 L (v :: r) h Q | none => False) | none => False) | _ => False)) ∧
  (∀ (n d : Nat) (L : List (Option iV)) (r : List iV) (m : Nat) (z0 : iV) (h : iH) (Q : Option iV → iH → Prop), G sp sc [] (d + 1) mX11_then (n + 1) 31 L (z0 :: .inr (.inr (m + 2)) :: r) h Q = (match h.1[m]? with | some (.inl (ci, _)) => (match lkC 11 90 ci with | some (y1, n1, kd) => (n1 = 1 ∧ (kd = 2 ∨ kd = 3 ∨ kd = 8) ∧ cs r ≤ 8) ∧ Call sp sc d y1 [.inr (.inr (m + 2)), z0] h (fun q h1 => GC sp sc [] (d + 1) mX11_then n 34 L q r h h1 Q) | none => False) | _ => False)) ∧
  (∀ (n d : Nat) (L : List (Option iV)) (st : List iV) (h : iH) (Q : Option iV → iH → Prop), G sp sc [] d mX11_then (n + 1) 34 L st h Q = (match ld L 0 with | some (.inr (.inr (r + 1))) => G sp sc [] d mX11_then n 35 L (.inr (.inr (r + 1)) :: st) h Q | _ => False)) ∧
  (∀ (n d : Nat) (L : List (Option iV)) (r : List iV) (m : Nat) (h : iH) (Q : Option iV → iH → Prop), G sp sc [] d mX11_then (n + 1) 35 L (.inr (.inr (m + 2)) :: r) h Q = (match h.1[m]? with | some (.inl (ci, fs)) => (match lkF 11 38 ci with | some k => (match fs[k]? with | some v => G sp sc [] d mX11_then n 38 L (v :: r) h Q | none => False) | none => False) | _ => False)) ∧
  (∀ (n d : Nat) (L : List (Option iV)) (st : List iV) (h : iH) (Q : Option iV → iH → Prop), G sp sc [] d mX11_then (n + 1) 38 L st h Q = (match ld L 4 with | some (.inl x) => G sp sc [] d mX11_then n 40 L (.inl x :: st) h Q | _ => False)) ∧
  (∀ (n d : Nat) (L : List (Option iV)) (r : List iV) (m : Nat) (z0 : iV) (h : iH) (Q : Option iV → iH → Prop), G sp sc [] (d + 1) mX11_then (n + 1) 40 L (z0 :: .inr (.inr (m + 2)) :: r) h Q = (match h.1[m]? with | some (.inl (ci, _)) => (match lkC 11 218 ci with | some (y1, n1, kd) => (n1 = 1 ∧ (kd = 2 ∨ kd = 3 ∨ kd = 8) ∧ cs r ≤ 8) ∧ Call sp sc d y1 [.inr (.inr (m + 2)), z0] h (fun q h1 => GC sp sc [] (d + 1) mX11_then n 43 L q r h h1 Q) | none => False) | _ => False)) ∧
  (∀ (n d : Nat) (L : List (Option iV)) (st : List iV) (h : iH) (Q : Option iV → iH → Prop), G sp sc [] d mX11_then (n + 1) 43 L st h Q = (match ld L 0 with | some (.inr (.inr (r + 1))) => G sp sc [] d mX11_then n 44 L (.inr (.inr (r + 1)) :: st) h Q | _ => False)) ∧
  (∀ (n d : Nat) (L : List (Option iV)) (r : List iV) (m : Nat) (h : iH) (Q : Option iV → iH → Prop), G sp sc [] d mX11_then (n + 1) 44 L (.inr (.inr (m + 2)) :: r) h Q = (match h.1[m]? with | some (.inl (ci, fs)) => (match lkF 11 38 ci with | some k => (match fs[k]? with | some v => G sp sc [] d mX11_then n 47 L (v :: r) h Q | none => False) | none => False) | _ => False)) ∧
  (∀ (n d : Nat) (L : List (Option iV)) (r : List iV) (m : Nat) (h : iH) (Q : Option iV → iH → Prop), G sp sc [] d mX11_then (n + 1) 47 L (.inr (.inr (m + 2)) :: r) h Q = (match h.1[m]? with | some (.inl (ci, fs)) => (match lkF 11 107 ci with | some k => (match fs[k]? with | some v => G sp sc [] d mX11_then n 50 L (v :: r) h Q | none => False) | none => False) | _ => False)) ∧
  (∀ (n d : Nat) (L : List (Option iV)) (st : List iV) (h : iH) (Q : Option iV → iH → Prop), G sp sc [] d mX11_then (n + 1) 50 L st h Q = (match ld L 1 with | some (.inl x) => G sp sc [] d mX11_then n 51 L (.inl x :: st) h Q | _ => False)) ∧
  (∀ (n d : Nat) (L : List (Option iV)) (st : List iV) (h : iH) (Q : Option iV → iH → Prop), G sp sc [] d mX11_then (n + 1) 51 L st h Q = (match ld L 2 with | some (.inl x) => G sp sc [] d mX11_then n 52 L (.inl x :: st) h Q | _ => False)) ∧
  (∀ (n d : Nat) (L : List (Option iV)) (st : List iV) (h : iH) (Q : Option iV → iH → Prop), G sp sc [] d mX11_then (n + 1) 52 L st h Q = (match ld L 3 with | some (.inl x) => G sp sc [] d mX11_then n 53 L (.inl x :: st) h Q | _ => False)) ∧
  (∀ (n d : Nat) (L : List (Option iV)) (r : List iV) (m : Nat) (z0 : iV) (z1 : iV) (z2 : iV) (h : iH) (Q : Option iV → iH → Prop), G sp sc [] (d + 1) mX11_then (n + 1) 53 L (z2 :: z1 :: z0 :: .inr (.inr (m + 2)) :: r) h Q = (match h.1[m]? with | some (.inl (ci, _)) => (match lkC 11 170 ci with | some (y1, n1, kd) => (n1 = 3 ∧ (kd = 2 ∨ kd = 3 ∨ kd = 8) ∧ cs r ≤ 8) ∧ Call sp sc d y1 [.inr (.inr (m + 2)), z0, z1, z2] h (fun q h1 => GC sp sc [] (d + 1) mX11_then n 56 L q r h h1 Q) | none => False) | _ => False)) ∧
  (∀ (n d : Nat) (L : List (Option iV)) (a : Int) (h : iH) (Q : Option iV → iH → Prop), G sp sc [] d mX11_then (n + 1) 56 L [.inl a] h Q = Q (some (.inl a)) h) ∧
  lkC 11 166 8 = some (mX8_hasTwo, 3, 2) ∧
  lkC 11 170 8 = some (mX8_liking, 3, 2) ∧
  lkC 11 218 10 = some (mX10_pass, 1, 2) ∧
  lkC 11 90 10 = some (mX10_begin, 1, 2) ∧
  lkF 11 107 10 = some 0 ∧
  lkF 11 17 11 = some 2 ∧
  lkF 11 38 11 = some 5 := ⟨by intros; exact G_at (by decide +kernel : fetch mX11_then 0 = some (.aload_n 0)),
  by intros; exact G_own (by decide +kernel : fetch mX11_then 1 = some (.getfield 17)) (by decide +kernel),
  by intros; exact G_at (by decide +kernel : fetch mX11_then 4 = some (.iload_n 1)),
  by intros; exact G_at (by decide +kernel : fetch mX11_then 5 = some (.iload_n 2)),
  by intros; exact G_at (by decide +kernel : fetch mX11_then 6 = some (.iload_n 3)),
  by intros; exact G_callV (by decide +kernel : fetch mX11_then 7 = some (.invokevirtual 166)) (by decide +kernel) (by decide +kernel) rfl,
  by intros; exact G_at (by decide +kernel : fetch mX11_then 10 = some (.ifCond .eq 11)),
  by intros; exact G_at (by decide +kernel : fetch mX11_then 13 = some (.iload 4)),
  by intros; exact G_callS (k := 1) (kd := 0) (by decide +kernel : fetch mX11_then 15 = some (.invokestatic 224)) (by decide +kernel) (by decide +kernel) (by decide +kernel) rfl (by decide),
  by intros; exact G_at (by decide +kernel : fetch mX11_then 18 = some (.ifCond .ne 5)),
  by intros; exact G_at (by decide +kernel : fetch mX11_then 21 = some (.iconst (-1))),
  by intros; exact G_reti (by decide +kernel : fetch mX11_then 22 = some (.ireturn)) (by decide +kernel),
  by intros; exact G_at (by decide +kernel : fetch mX11_then 23 = some (.aload_n 0)),
  by intros; exact G_own (by decide +kernel : fetch mX11_then 24 = some (.getfield 38)) (by decide +kernel),
  by intros; exact G_at (by decide +kernel : fetch mX11_then 27 = some (.aload_n 0)),
  by intros; exact G_own (by decide +kernel : fetch mX11_then 28 = some (.getfield 17)) (by decide +kernel),
  by intros; exact G_callV (by decide +kernel : fetch mX11_then 31 = some (.invokevirtual 90)) (by decide +kernel) (by decide +kernel) rfl,
  by intros; exact G_at (by decide +kernel : fetch mX11_then 34 = some (.aload_n 0)),
  by intros; exact G_own (by decide +kernel : fetch mX11_then 35 = some (.getfield 38)) (by decide +kernel),
  by intros; exact G_at (by decide +kernel : fetch mX11_then 38 = some (.iload 4)),
  by intros; exact G_callV (by decide +kernel : fetch mX11_then 40 = some (.invokevirtual 218)) (by decide +kernel) (by decide +kernel) rfl,
  by intros; exact G_at (by decide +kernel : fetch mX11_then 43 = some (.aload_n 0)),
  by intros; exact G_own (by decide +kernel : fetch mX11_then 44 = some (.getfield 38)) (by decide +kernel),
  by intros; exact G_own (by decide +kernel : fetch mX11_then 47 = some (.getfield 107)) (by decide +kernel),
  by intros; exact G_at (by decide +kernel : fetch mX11_then 50 = some (.iload_n 1)),
  by intros; exact G_at (by decide +kernel : fetch mX11_then 51 = some (.iload_n 2)),
  by intros; exact G_at (by decide +kernel : fetch mX11_then 52 = some (.iload_n 3)),
  by intros; exact G_callV (by decide +kernel : fetch mX11_then 53 = some (.invokevirtual 170)) (by decide +kernel) (by decide +kernel) rfl,
  by intros; exact G_reti (by decide +kernel : fetch mX11_then 56 = some (.ireturn)) (by decide +kernel),
  by decide +kernel,
  by decide +kernel,
  by decide +kernel,
  by decide +kernel,
  by decide +kernel,
  by decide +kernel,
  by decide +kernel⟩
theorem gX11_bound : (∀ (n d : Nat) (L : List (Option iV)) (st : List iV) (h : iH) (Q : Option iV → iH → Prop), G sp sc [] d mX11_bound (n + 1) 0 L st h Q = (match ld L 0 with | some (.inr (.inr (r + 1))) => G sp sc [] d mX11_bound n 1 L (.inr (.inr (r + 1)) :: st) h Q | _ => False)) ∧
  (∀ (n d : Nat) (L : List (Option iV)) (r : List iV) (m : Nat) (h : iH) (Q : Option iV → iH → Prop), G sp sc [] d mX11_bound (n + 1) 1 L (.inr (.inr (m + 2)) :: r) h Q = (match h.1[m]? with | some (.inl (ci, fs)) => (match lkF 11 17 ci with | some k => (match fs[k]? with | some v => G sp sc [] d mX11_bound n 4 L (v :: r) h Q | none => False) | none => False) | _ => False)) ∧
  (∀ (n d : Nat) (L : List (Option iV)) (st : List iV) (h : iH) (Q : Option iV → iH → Prop), G sp sc [] d mX11_bound (n + 1) 4 L st h Q = (match ld L 1 with | some (.inl x) => G sp sc [] d mX11_bound n 5 L (.inl x :: st) h Q | _ => False)) ∧
  (∀ (n d : Nat) (L : List (Option iV)) (st : List iV) (h : iH) (Q : Option iV → iH → Prop), G sp sc [] d mX11_bound (n + 1) 5 L st h Q = (match ld L 2 with | some (.inl x) => G sp sc [] d mX11_bound n 6 L (.inl x :: st) h Q | _ => False)) ∧
  (∀ (n d : Nat) (L : List (Option iV)) (r : List iV) (m : Nat) (z0 : iV) (z1 : iV) (h : iH) (Q : Option iV → iH → Prop), G sp sc [] (d + 1) mX11_bound (n + 1) 6 L (z1 :: z0 :: .inr (.inr (m + 2)) :: r) h Q = (match h.1[m]? with | some (.inl (ci, _)) => (match lkC 11 113 ci with | some (y1, n1, kd) => (n1 = 2 ∧ (kd = 2 ∨ kd = 3 ∨ kd = 8) ∧ cs r ≤ 8) ∧ Call sp sc d y1 [.inr (.inr (m + 2)), z0, z1] h (fun q h1 => GC sp sc [] (d + 1) mX11_bound n 9 L q r h h1 Q) | none => False) | _ => False)) ∧
  (∀ (n d : Nat) (L : List (Option iV)) (a : Int) (r : List iV) (h : iH) (Q : Option iV → iH → Prop), G sp sc [] d mX11_bound (n + 1) 9 L (.inl a :: r) h Q = (inI a = true ∧ (a = 0 → G sp sc [] d mX11_bound n 19 L r h Q) ∧ (¬ (a = 0) → G sp sc [] d mX11_bound n 12 L r h Q))) ∧
  (∀ (n d : Nat) (L : List (Option iV)) (st : List iV) (h : iH) (Q : Option iV → iH → Prop), G sp sc [] d mX11_bound (n + 1) 12 L st h Q = (match ld L 3 with | some (.inl x) => G sp sc [] d mX11_bound n 13 L (.inl x :: st) h Q | _ => False)) ∧
  (∀ (n d : Nat) (L : List (Option iV)) (r : List iV) (z0 : iV) (h : iH) (Q : Option iV → iH → Prop), G sp sc [] (d + 1) mX11_bound (n + 1) 13 L (z0 :: r) h Q = (cs r ≤ 8 ∧ Call sp sc d mX11_isMindSpan [z0] h (fun q h1 => GC sp sc [] (d + 1) mX11_bound n 16 L q r h h1 Q))) ∧
  (∀ (n d : Nat) (L : List (Option iV)) (a : Int) (r : List iV) (h : iH) (Q : Option iV → iH → Prop), G sp sc [] d mX11_bound (n + 1) 16 L (.inl a :: r) h Q = (inI a = true ∧ (¬ a = 0 → G sp sc [] d mX11_bound n 21 L r h Q) ∧ (¬ (¬ a = 0) → G sp sc [] d mX11_bound n 19 L r h Q))) ∧
  (∀ (n d : Nat) (L : List (Option iV)) (st : List iV) (h : iH) (Q : Option iV → iH → Prop), G sp sc [] d mX11_bound (n + 1) 19 L st h Q = G sp sc [] d mX11_bound n 20 L (.inl (-1) :: st) h Q) ∧
  (∀ (n d : Nat) (L : List (Option iV)) (a : Int) (h : iH) (Q : Option iV → iH → Prop), G sp sc [] d mX11_bound (n + 1) 20 L [.inl a] h Q = Q (some (.inl a)) h) ∧
  (∀ (n d : Nat) (L : List (Option iV)) (st : List iV) (h : iH) (Q : Option iV → iH → Prop), G sp sc [] d mX11_bound (n + 1) 21 L st h Q = (match ld L 0 with | some (.inr (.inr (r + 1))) => G sp sc [] d mX11_bound n 22 L (.inr (.inr (r + 1)) :: st) h Q | _ => False)) ∧
  (∀ (n d : Nat) (L : List (Option iV)) (r : List iV) (m : Nat) (h : iH) (Q : Option iV → iH → Prop), G sp sc [] d mX11_bound (n + 1) 22 L (.inr (.inr (m + 2)) :: r) h Q = (match h.1[m]? with | some (.inl (ci, fs)) => (match lkF 11 38 ci with | some k => (match fs[k]? with | some v => G sp sc [] d mX11_bound n 25 L (v :: r) h Q | none => False) | none => False) | _ => False)) ∧
  (∀ (n d : Nat) (L : List (Option iV)) (st : List iV) (h : iH) (Q : Option iV → iH → Prop), G sp sc [] d mX11_bound (n + 1) 25 L st h Q = (match ld L 0 with | some (.inr (.inr (r + 1))) => G sp sc [] d mX11_bound n 26 L (.inr (.inr (r + 1)) :: st) h Q | _ => False)) ∧
  (∀ (n d : Nat) (L : List (Option iV)) (r : List iV) (m : Nat) (h : iH) (Q : Option iV → iH → Prop), G sp sc [] d mX11_bound (n + 1) 26 L (.inr (.inr (m + 2)) :: r) h Q = (match h.1[m]? with | some (.inl (ci, fs)) => (match lkF 11 17 ci with | some k => (match fs[k]? with | some v => G sp sc [] d mX11_bound n 29 L (v :: r) h Q | none => False) | none => False) | _ => False)) ∧
  (∀ (n d : Nat) (L : List (Option iV)) (r : List iV) (m : Nat) (z0 : iV) (h : iH) (Q : Option iV → iH → Prop), G sp sc [] (d + 1) mX11_bound (n + 1) 29 L (z0 :: .inr (.inr (m + 2)) :: r) h Q = (match h.1[m]? with | some (.inl (ci, _)) => (match lkC 11 90 ci with | some (y1, n1, kd) => (n1 = 1 ∧ (kd = 2 ∨ kd = 3 ∨ kd = 8) ∧ cs r ≤ 8) ∧ Call sp sc d y1 [.inr (.inr (m + 2)), z0] h (fun q h1 => GC sp sc [] (d + 1) mX11_bound n 32 L q r h h1 Q) | none => False) | _ => False)) ∧
  (∀ (n d : Nat) (L : List (Option iV)) (st : List iV) (h : iH) (Q : Option iV → iH → Prop), G sp sc [] d mX11_bound (n + 1) 32 L st h Q = (match ld L 0 with | some (.inr (.inr (r + 1))) => G sp sc [] d mX11_bound n 33 L (.inr (.inr (r + 1)) :: st) h Q | _ => False)) ∧
  (∀ (n d : Nat) (L : List (Option iV)) (r : List iV) (m : Nat) (h : iH) (Q : Option iV → iH → Prop), G sp sc [] d mX11_bound (n + 1) 33 L (.inr (.inr (m + 2)) :: r) h Q = (match h.1[m]? with | some (.inl (ci, fs)) => (match lkF 11 38 ci with | some k => (match fs[k]? with | some v => G sp sc [] d mX11_bound n 36 L (v :: r) h Q | none => False) | none => False) | _ => False)) ∧
  (∀ (n d : Nat) (L : List (Option iV)) (st : List iV) (h : iH) (Q : Option iV → iH → Prop), G sp sc [] d mX11_bound (n + 1) 36 L st h Q = (match ld L 3 with | some (.inl x) => G sp sc [] d mX11_bound n 37 L (.inl x :: st) h Q | _ => False)) ∧
  (∀ (n d : Nat) (L : List (Option iV)) (r : List iV) (m : Nat) (z0 : iV) (h : iH) (Q : Option iV → iH → Prop), G sp sc [] (d + 1) mX11_bound (n + 1) 37 L (z0 :: .inr (.inr (m + 2)) :: r) h Q = (match h.1[m]? with | some (.inl (ci, _)) => (match lkC 11 218 ci with | some (y1, n1, kd) => (n1 = 1 ∧ (kd = 2 ∨ kd = 3 ∨ kd = 8) ∧ cs r ≤ 8) ∧ Call sp sc d y1 [.inr (.inr (m + 2)), z0] h (fun q h1 => GC sp sc [] (d + 1) mX11_bound n 40 L q r h h1 Q) | none => False) | _ => False)) ∧
  (∀ (n d : Nat) (L : List (Option iV)) (st : List iV) (h : iH) (Q : Option iV → iH → Prop), G sp sc [] d mX11_bound (n + 1) 40 L st h Q = (match ld L 0 with | some (.inr (.inr (r + 1))) => G sp sc [] d mX11_bound n 41 L (.inr (.inr (r + 1)) :: st) h Q | _ => False)) ∧
  (∀ (n d : Nat) (L : List (Option iV)) (r : List iV) (m : Nat) (h : iH) (Q : Option iV → iH → Prop), G sp sc [] d mX11_bound (n + 1) 41 L (.inr (.inr (m + 2)) :: r) h Q = (match h.1[m]? with | some (.inl (ci, fs)) => (match lkF 11 38 ci with | some k => (match fs[k]? with | some v => G sp sc [] d mX11_bound n 44 L (v :: r) h Q | none => False) | none => False) | _ => False)) ∧
  (∀ (n d : Nat) (L : List (Option iV)) (r : List iV) (m : Nat) (h : iH) (Q : Option iV → iH → Prop), G sp sc [] d mX11_bound (n + 1) 44 L (.inr (.inr (m + 2)) :: r) h Q = (match h.1[m]? with | some (.inl (ci, fs)) => (match lkF 11 107 ci with | some k => (match fs[k]? with | some v => G sp sc [] d mX11_bound n 47 L (v :: r) h Q | none => False) | none => False) | _ => False)) ∧
  (∀ (n d : Nat) (L : List (Option iV)) (r : List iV) (m : Nat) (h : iH) (Q : Option iV → iH → Prop), G sp sc [] d mX11_bound (n + 1) 47 L (.inr (.inr (m + 2)) :: r) h Q = (match h.1[m]? with | some (.inl (ci, fs)) => (match lkF 11 142 ci with | some k => (match fs[k]? with | some v => G sp sc [] d mX11_bound n 50 L (v :: r) h Q | none => False) | none => False) | _ => False)) ∧
  (∀ (n d : Nat) (L : List (Option iV)) (st : List iV) (h : iH) (Q : Option iV → iH → Prop), G sp sc [] d mX11_bound (n + 1) 50 L st h Q = (match ld L 1 with | some (.inl x) => G sp sc [] d mX11_bound n 51 L (.inl x :: st) h Q | _ => False)) ∧
  (∀ (n d : Nat) (L : List (Option iV)) (st : List iV) (h : iH) (Q : Option iV → iH → Prop), G sp sc [] d mX11_bound (n + 1) 51 L st h Q = (match ld L 2 with | some (.inl x) => G sp sc [] d mX11_bound n 52 L (.inl x :: st) h Q | _ => False)) ∧
  (∀ (n d : Nat) (L : List (Option iV)) (r : List iV) (z0 : iV) (z1 : iV) (h : iH) (Q : Option iV → iH → Prop), G sp sc [] (d + 1) mX11_bound (n + 1) 52 L (z1 :: z0 :: r) h Q = (cs r ≤ 8 ∧ Call sp sc d mX8_place [z0, z1] h (fun q h1 => GC sp sc [] (d + 1) mX11_bound n 55 L q r h h1 Q))) ∧
  (∀ (n d : Nat) (L : List (Option iV)) (r : List iV) (j : Int) (m : Nat) (h : iH) (Q : Option iV → iH → Prop), G sp sc [] d mX11_bound (n + 1) 55 L (.inl j :: .inr (.inr (m + 2)) :: r) h Q = (match h.1[m]? with | some (.inr (.inl (0, xs))) => inA j xs.length = true ∧ G sp sc [] d mX11_bound n 56 L (.inl (xs.getD j.toNat 0) :: r) h Q | _ => False)) ∧
  (∀ (n d : Nat) (L : List (Option iV)) (r : List iV) (z0 : iV) (h : iH) (Q : Option iV → iH → Prop), G sp sc [] (d + 1) mX11_bound (n + 1) 56 L (z0 :: r) h Q = (cs r ≤ 8 ∧ Call sp sc d mX11_orNone [z0] h (fun q h1 => GC sp sc [] (d + 1) mX11_bound n 59 L q r h h1 Q))) ∧
  (∀ (n d : Nat) (L : List (Option iV)) (a : Int) (h : iH) (Q : Option iV → iH → Prop), G sp sc [] d mX11_bound (n + 1) 59 L [.inl a] h Q = Q (some (.inl a)) h) ∧
  lkC 11 113 8 = some (mX8_hasOne, 2, 2) ∧
  lkC 11 218 10 = some (mX10_pass, 1, 2) ∧
  lkC 11 90 10 = some (mX10_begin, 1, 2) ∧
  lkF 11 107 10 = some 0 ∧
  lkF 11 142 8 = some 3 ∧
  lkF 11 17 11 = some 2 ∧
  lkF 11 38 11 = some 5 := ⟨by intros; exact G_at (by decide +kernel : fetch mX11_bound 0 = some (.aload_n 0)),
  by intros; exact G_own (by decide +kernel : fetch mX11_bound 1 = some (.getfield 17)) (by decide +kernel),
  by intros; exact G_at (by decide +kernel : fetch mX11_bound 4 = some (.iload_n 1)),
  by intros; exact G_at (by decide +kernel : fetch mX11_bound 5 = some (.iload_n 2)),
  by intros; exact G_callV (by decide +kernel : fetch mX11_bound 6 = some (.invokevirtual 113)) (by decide +kernel) (by decide +kernel) rfl,
  by intros; exact G_at (by decide +kernel : fetch mX11_bound 9 = some (.ifCond .eq 10)),
  by intros; exact G_at (by decide +kernel : fetch mX11_bound 12 = some (.iload_n 3)),
  by intros; exact G_callS (k := 1) (kd := 0) (by decide +kernel : fetch mX11_bound 13 = some (.invokestatic 224)) (by decide +kernel) (by decide +kernel) (by decide +kernel) rfl (by decide),
  by intros; exact G_at (by decide +kernel : fetch mX11_bound 16 = some (.ifCond .ne 5)),
  by intros; exact G_at (by decide +kernel : fetch mX11_bound 19 = some (.iconst (-1))),
  by intros; exact G_reti (by decide +kernel : fetch mX11_bound 20 = some (.ireturn)) (by decide +kernel),
  by intros; exact G_at (by decide +kernel : fetch mX11_bound 21 = some (.aload_n 0)),
  by intros; exact G_own (by decide +kernel : fetch mX11_bound 22 = some (.getfield 38)) (by decide +kernel),
  by intros; exact G_at (by decide +kernel : fetch mX11_bound 25 = some (.aload_n 0)),
  by intros; exact G_own (by decide +kernel : fetch mX11_bound 26 = some (.getfield 17)) (by decide +kernel),
  by intros; exact G_callV (by decide +kernel : fetch mX11_bound 29 = some (.invokevirtual 90)) (by decide +kernel) (by decide +kernel) rfl,
  by intros; exact G_at (by decide +kernel : fetch mX11_bound 32 = some (.aload_n 0)),
  by intros; exact G_own (by decide +kernel : fetch mX11_bound 33 = some (.getfield 38)) (by decide +kernel),
  by intros; exact G_at (by decide +kernel : fetch mX11_bound 36 = some (.iload_n 3)),
  by intros; exact G_callV (by decide +kernel : fetch mX11_bound 37 = some (.invokevirtual 218)) (by decide +kernel) (by decide +kernel) rfl,
  by intros; exact G_at (by decide +kernel : fetch mX11_bound 40 = some (.aload_n 0)),
  by intros; exact G_own (by decide +kernel : fetch mX11_bound 41 = some (.getfield 38)) (by decide +kernel),
  by intros; exact G_own (by decide +kernel : fetch mX11_bound 44 = some (.getfield 107)) (by decide +kernel),
  by intros; exact G_own (by decide +kernel : fetch mX11_bound 47 = some (.getfield 142)) (by decide +kernel),
  by intros; exact G_at (by decide +kernel : fetch mX11_bound 50 = some (.iload_n 1)),
  by intros; exact G_at (by decide +kernel : fetch mX11_bound 51 = some (.iload_n 2)),
  by intros; exact G_callS (k := 2) (kd := 0) (by decide +kernel : fetch mX11_bound 52 = some (.invokestatic 132)) (by decide +kernel) (by decide +kernel) (by decide +kernel) rfl (by decide),
  by intros; exact G_at (by decide +kernel : fetch mX11_bound 55 = some (.iaload)),
  by intros; exact G_callS (k := 1) (kd := 0) (by decide +kernel : fetch mX11_bound 56 = some (.invokestatic 136)) (by decide +kernel) (by decide +kernel) (by decide +kernel) rfl (by decide),
  by intros; exact G_reti (by decide +kernel : fetch mX11_bound 59 = some (.ireturn)) (by decide +kernel),
  by decide +kernel,
  by decide +kernel,
  by decide +kernel,
  by decide +kernel,
  by decide +kernel,
  by decide +kernel,
  by decide +kernel⟩
theorem gX11_slips : (∀ (n d : Nat) (L : List (Option iV)) (st : List iV) (h : iH) (Q : Option iV → iH → Prop), G sp sc [] d mX11_slips (n + 1) 0 L st h Q = (match ld L 1 with | some (.inl x) => G sp sc [] d mX11_slips n 1 L (.inl x :: st) h Q | _ => False)) ∧
  (∀ (n d : Nat) (L : List (Option iV)) (r : List iV) (z0 : iV) (h : iH) (Q : Option iV → iH → Prop), G sp sc [] (d + 1) mX11_slips (n + 1) 1 L (z0 :: r) h Q = (cs r ≤ 8 ∧ Call sp sc d mX11_isMindSpan [z0] h (fun q h1 => GC sp sc [] (d + 1) mX11_slips n 4 L q r h h1 Q))) ∧
  (∀ (n d : Nat) (L : List (Option iV)) (a : Int) (r : List iV) (h : iH) (Q : Option iV → iH → Prop), G sp sc [] d mX11_slips (n + 1) 4 L (.inl a :: r) h Q = (inI a = true ∧ (a = 0 → G sp sc [] d mX11_slips n 16 L r h Q) ∧ (¬ (a = 0) → G sp sc [] d mX11_slips n 7 L r h Q))) ∧
  (∀ (n d : Nat) (L : List (Option iV)) (st : List iV) (h : iH) (Q : Option iV → iH → Prop), G sp sc [] d mX11_slips (n + 1) 7 L st h Q = (match ld L 2 with | some (.inl x) => G sp sc [] d mX11_slips n 8 L (.inl x :: st) h Q | _ => False)) ∧
  (∀ (n d : Nat) (L : List (Option iV)) (a : Int) (r : List iV) (h : iH) (Q : Option iV → iH → Prop), G sp sc [] d mX11_slips (n + 1) 8 L (.inl a :: r) h Q = (inI a = true ∧ (a < 0 → G sp sc [] d mX11_slips n 16 L r h Q) ∧ (¬ (a < 0) → G sp sc [] d mX11_slips n 11 L r h Q))) ∧
  (∀ (n d : Nat) (L : List (Option iV)) (st : List iV) (h : iH) (Q : Option iV → iH → Prop), G sp sc [] d mX11_slips (n + 1) 11 L st h Q = (match ld L 2 with | some (.inl x) => G sp sc [] d mX11_slips n 12 L (.inl x :: st) h Q | _ => False)) ∧
  (∀ (n d : Nat) (L : List (Option iV)) (st : List iV) (h : iH) (Q : Option iV → iH → Prop), G sp sc [] d mX11_slips (n + 1) 12 L st h Q = G sp sc [] d mX11_slips n 13 L (.inl 1 :: st) h Q) ∧
  (∀ (n d : Nat) (L : List (Option iV)) (a : Int) (b : Int) (r : List iV) (h : iH) (Q : Option iV → iH → Prop), G sp sc [] d mX11_slips (n + 1) 13 L (.inl b :: .inl a :: r) h Q = ((inI a = true ∧ inI b = true) ∧ (a ≤ b → G sp sc [] d mX11_slips n 18 L r h Q) ∧ (¬ (a ≤ b) → G sp sc [] d mX11_slips n 16 L r h Q))) ∧
  (∀ (n d : Nat) (L : List (Option iV)) (st : List iV) (h : iH) (Q : Option iV → iH → Prop), G sp sc [] d mX11_slips (n + 1) 16 L st h Q = G sp sc [] d mX11_slips n 17 L (.inl (-1) :: st) h Q) ∧
  (∀ (n d : Nat) (L : List (Option iV)) (a : Int) (h : iH) (Q : Option iV → iH → Prop), G sp sc [] d mX11_slips (n + 1) 17 L [.inl a] h Q = Q (some (.inl a)) h) ∧
  (∀ (n d : Nat) (L : List (Option iV)) (st : List iV) (h : iH) (Q : Option iV → iH → Prop), G sp sc [] d mX11_slips (n + 1) 18 L st h Q = (match ld L 0 with | some (.inr (.inr (r + 1))) => G sp sc [] d mX11_slips n 19 L (.inr (.inr (r + 1)) :: st) h Q | _ => False)) ∧
  (∀ (n d : Nat) (L : List (Option iV)) (r : List iV) (m : Nat) (h : iH) (Q : Option iV → iH → Prop), G sp sc [] d mX11_slips (n + 1) 19 L (.inr (.inr (m + 2)) :: r) h Q = (match h.1[m]? with | some (.inl (ci, fs)) => (match lkF 11 38 ci with | some k => (match fs[k]? with | some v => G sp sc [] d mX11_slips n 22 L (v :: r) h Q | none => False) | none => False) | _ => False)) ∧
  (∀ (n d : Nat) (L : List (Option iV)) (st : List iV) (h : iH) (Q : Option iV → iH → Prop), G sp sc [] d mX11_slips (n + 1) 22 L st h Q = (match ld L 0 with | some (.inr (.inr (r + 1))) => G sp sc [] d mX11_slips n 23 L (.inr (.inr (r + 1)) :: st) h Q | _ => False)) ∧
  (∀ (n d : Nat) (L : List (Option iV)) (r : List iV) (m : Nat) (h : iH) (Q : Option iV → iH → Prop), G sp sc [] d mX11_slips (n + 1) 23 L (.inr (.inr (m + 2)) :: r) h Q = (match h.1[m]? with | some (.inl (ci, fs)) => (match lkF 11 17 ci with | some k => (match fs[k]? with | some v => G sp sc [] d mX11_slips n 26 L (v :: r) h Q | none => False) | none => False) | _ => False)) ∧
  (∀ (n d : Nat) (L : List (Option iV)) (r : List iV) (m : Nat) (z0 : iV) (h : iH) (Q : Option iV → iH → Prop), G sp sc [] (d + 1) mX11_slips (n + 1) 26 L (z0 :: .inr (.inr (m + 2)) :: r) h Q = (match h.1[m]? with | some (.inl (ci, _)) => (match lkC 11 90 ci with | some (y1, n1, kd) => (n1 = 1 ∧ (kd = 2 ∨ kd = 3 ∨ kd = 8) ∧ cs r ≤ 8) ∧ Call sp sc d y1 [.inr (.inr (m + 2)), z0] h (fun q h1 => GC sp sc [] (d + 1) mX11_slips n 29 L q r h h1 Q) | none => False) | _ => False)) ∧
  (∀ (n d : Nat) (L : List (Option iV)) (st : List iV) (h : iH) (Q : Option iV → iH → Prop), G sp sc [] d mX11_slips (n + 1) 29 L st h Q = (match ld L 0 with | some (.inr (.inr (r + 1))) => G sp sc [] d mX11_slips n 30 L (.inr (.inr (r + 1)) :: st) h Q | _ => False)) ∧
  (∀ (n d : Nat) (L : List (Option iV)) (r : List iV) (m : Nat) (h : iH) (Q : Option iV → iH → Prop), G sp sc [] d mX11_slips (n + 1) 30 L (.inr (.inr (m + 2)) :: r) h Q = (match h.1[m]? with | some (.inl (ci, fs)) => (match lkF 11 38 ci with | some k => (match fs[k]? with | some v => G sp sc [] d mX11_slips n 33 L (v :: r) h Q | none => False) | none => False) | _ => False)) ∧
  (∀ (n d : Nat) (L : List (Option iV)) (st : List iV) (h : iH) (Q : Option iV → iH → Prop), G sp sc [] d mX11_slips (n + 1) 33 L st h Q = (match ld L 1 with | some (.inl x) => G sp sc [] d mX11_slips n 34 L (.inl x :: st) h Q | _ => False)) ∧
  (∀ (n d : Nat) (L : List (Option iV)) (r : List iV) (m : Nat) (z0 : iV) (h : iH) (Q : Option iV → iH → Prop), G sp sc [] (d + 1) mX11_slips (n + 1) 34 L (z0 :: .inr (.inr (m + 2)) :: r) h Q = (match h.1[m]? with | some (.inl (ci, _)) => (match lkC 11 218 ci with | some (y1, n1, kd) => (n1 = 1 ∧ (kd = 2 ∨ kd = 3 ∨ kd = 8) ∧ cs r ≤ 8) ∧ Call sp sc d y1 [.inr (.inr (m + 2)), z0] h (fun q h1 => GC sp sc [] (d + 1) mX11_slips n 37 L q r h h1 Q) | none => False) | _ => False)) ∧
  (∀ (n d : Nat) (L : List (Option iV)) (st : List iV) (h : iH) (Q : Option iV → iH → Prop), G sp sc [] d mX11_slips (n + 1) 37 L st h Q = (match ld L 2 with | some (.inl x) => G sp sc [] d mX11_slips n 38 L (.inl x :: st) h Q | _ => False)) ∧
  (∀ (n d : Nat) (L : List (Option iV)) (a : Int) (r : List iV) (h : iH) (Q : Option iV → iH → Prop), G sp sc [] d mX11_slips (n + 1) 38 L (.inl a :: r) h Q = (inI a = true ∧ (¬ a = 0 → G sp sc [] d mX11_slips n 49 L r h Q) ∧ (¬ (¬ a = 0) → G sp sc [] d mX11_slips n 41 L r h Q))) ∧
  (∀ (n d : Nat) (L : List (Option iV)) (st : List iV) (h : iH) (Q : Option iV → iH → Prop), G sp sc [] d mX11_slips (n + 1) 41 L st h Q = (match ld L 0 with | some (.inr (.inr (r + 1))) => G sp sc [] d mX11_slips n 42 L (.inr (.inr (r + 1)) :: st) h Q | _ => False)) ∧
  (∀ (n d : Nat) (L : List (Option iV)) (r : List iV) (m : Nat) (h : iH) (Q : Option iV → iH → Prop), G sp sc [] d mX11_slips (n + 1) 42 L (.inr (.inr (m + 2)) :: r) h Q = (match h.1[m]? with | some (.inl (ci, fs)) => (match lkF 11 38 ci with | some k => (match fs[k]? with | some v => G sp sc [] d mX11_slips n 45 L (v :: r) h Q | none => False) | none => False) | _ => False)) ∧
  (∀ (n d : Nat) (L : List (Option iV)) (r : List iV) (m : Nat) (h : iH) (Q : Option iV → iH → Prop), G sp sc [] d mX11_slips (n + 1) 45 L (.inr (.inr (m + 2)) :: r) h Q = (match h.1[m]? with | some (.inl (ci, fs)) => (match lkF 11 233 ci with | some k => (match fs[k]? with | some v => G sp sc [] d mX11_slips n 48 L (v :: r) h Q | none => False) | none => False) | _ => False)) ∧
  (∀ (n d : Nat) (L : List (Option iV)) (a : Int) (h : iH) (Q : Option iV → iH → Prop), G sp sc [] d mX11_slips (n + 1) 48 L [.inl a] h Q = Q (some (.inl a)) h) ∧
  (∀ (n d : Nat) (L : List (Option iV)) (st : List iV) (h : iH) (Q : Option iV → iH → Prop), G sp sc [] d mX11_slips (n + 1) 49 L st h Q = (match ld L 0 with | some (.inr (.inr (r + 1))) => G sp sc [] d mX11_slips n 50 L (.inr (.inr (r + 1)) :: st) h Q | _ => False)) ∧
  (∀ (n d : Nat) (L : List (Option iV)) (r : List iV) (m : Nat) (h : iH) (Q : Option iV → iH → Prop), G sp sc [] d mX11_slips (n + 1) 50 L (.inr (.inr (m + 2)) :: r) h Q = (match h.1[m]? with | some (.inl (ci, fs)) => (match lkF 11 38 ci with | some k => (match fs[k]? with | some v => G sp sc [] d mX11_slips n 53 L (v :: r) h Q | none => False) | none => False) | _ => False)) ∧
  (∀ (n d : Nat) (L : List (Option iV)) (r : List iV) (m : Nat) (h : iH) (Q : Option iV → iH → Prop), G sp sc [] d mX11_slips (n + 1) 53 L (.inr (.inr (m + 2)) :: r) h Q = (match h.1[m]? with | some (.inl (ci, fs)) => (match lkF 11 233 ci with | some k => (match fs[k]? with | some v => G sp sc [] d mX11_slips n 56 L (v :: r) h Q | none => False) | none => False) | _ => False)) ∧
  (∀ (n d : Nat) (L : List (Option iV)) (a : Int) (r : List iV) (h : iH) (Q : Option iV → iH → Prop), G sp sc [] d mX11_slips (n + 1) 56 L (.inl a :: r) h Q = (inI a = true ∧ (¬ a = 0 → G sp sc [] d mX11_slips n 64 L r h Q) ∧ (¬ (¬ a = 0) → G sp sc [] d mX11_slips n 59 L r h Q))) ∧
  (∀ (n d : Nat) (L : List (Option iV)) (st : List iV) (h : iH) (Q : Option iV → iH → Prop), G sp sc [] d mX11_slips (n + 1) 59 L st h Q = ((-128 ≤ ((-4) : Int) ∧ ((-4) : Int) < 128) ∧ G sp sc [] d mX11_slips n 61 L (.inl (-4) :: st) h Q)) ∧
  (∀ (n d : Nat) (L : List (Option iV)) (st : List iV) (h : iH) (Q : Option iV → iH → Prop), G sp sc [] d mX11_slips (n + 1) 61 L st h Q = G sp sc [] d mX11_slips n 71 L st h Q) ∧
  (∀ (n d : Nat) (L : List (Option iV)) (st : List iV) (h : iH) (Q : Option iV → iH → Prop), G sp sc [] d mX11_slips (n + 1) 64 L st h Q = (match ld L 0 with | some (.inr (.inr (r + 1))) => G sp sc [] d mX11_slips n 65 L (.inr (.inr (r + 1)) :: st) h Q | _ => False)) ∧
  (∀ (n d : Nat) (L : List (Option iV)) (r : List iV) (m : Nat) (h : iH) (Q : Option iV → iH → Prop), G sp sc [] d mX11_slips (n + 1) 65 L (.inr (.inr (m + 2)) :: r) h Q = (match h.1[m]? with | some (.inl (ci, fs)) => (match lkF 11 38 ci with | some k => (match fs[k]? with | some v => G sp sc [] d mX11_slips n 68 L (v :: r) h Q | none => False) | none => False) | _ => False)) ∧
  (∀ (n d : Nat) (L : List (Option iV)) (r : List iV) (m : Nat) (h : iH) (Q : Option iV → iH → Prop), G sp sc [] d mX11_slips (n + 1) 68 L (.inr (.inr (m + 2)) :: r) h Q = (match h.1[m]? with | some (.inl (ci, fs)) => (match lkF 11 236 ci with | some k => (match fs[k]? with | some v => G sp sc [] d mX11_slips n 71 L (v :: r) h Q | none => False) | none => False) | _ => False)) ∧
  (∀ (n d : Nat) (L : List (Option iV)) (a : Int) (h : iH) (Q : Option iV → iH → Prop), G sp sc [] d mX11_slips (n + 1) 71 L [.inl a] h Q = Q (some (.inl a)) h) ∧
  lkC 11 218 10 = some (mX10_pass, 1, 2) ∧
  lkC 11 90 10 = some (mX10_begin, 1, 2) ∧
  lkF 11 17 11 = some 2 ∧
  lkF 11 233 10 = some 7 ∧
  lkF 11 236 10 = some 8 ∧
  lkF 11 38 11 = some 5 := ⟨by intros; exact G_at (by decide +kernel : fetch mX11_slips 0 = some (.iload_n 1)),
  by intros; exact G_callS (k := 1) (kd := 0) (by decide +kernel : fetch mX11_slips 1 = some (.invokestatic 224)) (by decide +kernel) (by decide +kernel) (by decide +kernel) rfl (by decide),
  by intros; exact G_at (by decide +kernel : fetch mX11_slips 4 = some (.ifCond .eq 12)),
  by intros; exact G_at (by decide +kernel : fetch mX11_slips 7 = some (.iload_n 2)),
  by intros; exact G_at (by decide +kernel : fetch mX11_slips 8 = some (.ifCond .lt 8)),
  by intros; exact G_at (by decide +kernel : fetch mX11_slips 11 = some (.iload_n 2)),
  by intros; exact G_at (by decide +kernel : fetch mX11_slips 12 = some (.iconst 1)),
  by intros; exact G_at (by decide +kernel : fetch mX11_slips 13 = some (.if_icmp .le 5)),
  by intros; exact G_at (by decide +kernel : fetch mX11_slips 16 = some (.iconst (-1))),
  by intros; exact G_reti (by decide +kernel : fetch mX11_slips 17 = some (.ireturn)) (by decide +kernel),
  by intros; exact G_at (by decide +kernel : fetch mX11_slips 18 = some (.aload_n 0)),
  by intros; exact G_own (by decide +kernel : fetch mX11_slips 19 = some (.getfield 38)) (by decide +kernel),
  by intros; exact G_at (by decide +kernel : fetch mX11_slips 22 = some (.aload_n 0)),
  by intros; exact G_own (by decide +kernel : fetch mX11_slips 23 = some (.getfield 17)) (by decide +kernel),
  by intros; exact G_callV (by decide +kernel : fetch mX11_slips 26 = some (.invokevirtual 90)) (by decide +kernel) (by decide +kernel) rfl,
  by intros; exact G_at (by decide +kernel : fetch mX11_slips 29 = some (.aload_n 0)),
  by intros; exact G_own (by decide +kernel : fetch mX11_slips 30 = some (.getfield 38)) (by decide +kernel),
  by intros; exact G_at (by decide +kernel : fetch mX11_slips 33 = some (.iload_n 1)),
  by intros; exact G_callV (by decide +kernel : fetch mX11_slips 34 = some (.invokevirtual 218)) (by decide +kernel) (by decide +kernel) rfl,
  by intros; exact G_at (by decide +kernel : fetch mX11_slips 37 = some (.iload_n 2)),
  by intros; exact G_at (by decide +kernel : fetch mX11_slips 38 = some (.ifCond .ne 11)),
  by intros; exact G_at (by decide +kernel : fetch mX11_slips 41 = some (.aload_n 0)),
  by intros; exact G_own (by decide +kernel : fetch mX11_slips 42 = some (.getfield 38)) (by decide +kernel),
  by intros; exact G_own (by decide +kernel : fetch mX11_slips 45 = some (.getfield 233)) (by decide +kernel),
  by intros; exact G_reti (by decide +kernel : fetch mX11_slips 48 = some (.ireturn)) (by decide +kernel),
  by intros; exact G_at (by decide +kernel : fetch mX11_slips 49 = some (.aload_n 0)),
  by intros; exact G_own (by decide +kernel : fetch mX11_slips 50 = some (.getfield 38)) (by decide +kernel),
  by intros; exact G_own (by decide +kernel : fetch mX11_slips 53 = some (.getfield 233)) (by decide +kernel),
  by intros; exact G_at (by decide +kernel : fetch mX11_slips 56 = some (.ifCond .ne 8)),
  by intros; exact G_at (by decide +kernel : fetch mX11_slips 59 = some (.bipush (-4))),
  by intros; exact G_at (by decide +kernel : fetch mX11_slips 61 = some (.goto 10)),
  by intros; exact G_at (by decide +kernel : fetch mX11_slips 64 = some (.aload_n 0)),
  by intros; exact G_own (by decide +kernel : fetch mX11_slips 65 = some (.getfield 38)) (by decide +kernel),
  by intros; exact G_own (by decide +kernel : fetch mX11_slips 68 = some (.getfield 236)) (by decide +kernel),
  by intros; exact G_reti (by decide +kernel : fetch mX11_slips 71 = some (.ireturn)) (by decide +kernel),
  by decide +kernel,
  by decide +kernel,
  by decide +kernel,
  by decide +kernel,
  by decide +kernel,
  by decide +kernel⟩
theorem gX11_soonest : (∀ (n d : Nat) (L : List (Option iV)) (st : List iV) (h : iH) (Q : Option iV → iH → Prop), G sp sc [13] d mX11_soonest (n + 1) 0 L st h Q = (match ld L 0 with | some (.inr (.inr (r + 1))) => G sp sc [13] d mX11_soonest n 1 L (.inr (.inr (r + 1)) :: st) h Q | _ => False)) ∧
  (∀ (n d : Nat) (L : List (Option iV)) (r : List iV) (m : Nat) (h : iH) (Q : Option iV → iH → Prop), G sp sc [13] d mX11_soonest (n + 1) 1 L (.inr (.inr (m + 2)) :: r) h Q = (match h.1[m]? with | some (.inl (ci, fs)) => (match lkF 11 38 ci with | some k => (match fs[k]? with | some v => G sp sc [13] d mX11_soonest n 4 L (v :: r) h Q | none => False) | none => False) | _ => False)) ∧
  (∀ (n d : Nat) (L : List (Option iV)) (st : List iV) (h : iH) (Q : Option iV → iH → Prop), G sp sc [13] d mX11_soonest (n + 1) 4 L st h Q = (match ld L 0 with | some (.inr (.inr (r + 1))) => G sp sc [13] d mX11_soonest n 5 L (.inr (.inr (r + 1)) :: st) h Q | _ => False)) ∧
  (∀ (n d : Nat) (L : List (Option iV)) (r : List iV) (m : Nat) (h : iH) (Q : Option iV → iH → Prop), G sp sc [13] d mX11_soonest (n + 1) 5 L (.inr (.inr (m + 2)) :: r) h Q = (match h.1[m]? with | some (.inl (ci, fs)) => (match lkF 11 17 ci with | some k => (match fs[k]? with | some v => G sp sc [13] d mX11_soonest n 8 L (v :: r) h Q | none => False) | none => False) | _ => False)) ∧
  (∀ (n d : Nat) (L : List (Option iV)) (r : List iV) (m : Nat) (z0 : iV) (h : iH) (Q : Option iV → iH → Prop), G sp sc [13] (d + 1) mX11_soonest (n + 1) 8 L (z0 :: .inr (.inr (m + 2)) :: r) h Q = (match h.1[m]? with | some (.inl (ci, _)) => (match lkC 11 90 ci with | some (y1, n1, kd) => (n1 = 1 ∧ (kd = 2 ∨ kd = 3 ∨ kd = 8) ∧ cs r ≤ 8) ∧ Call sp sc d y1 [.inr (.inr (m + 2)), z0] h (fun q h1 => GC sp sc [13] (d + 1) mX11_soonest n 11 L q r h h1 Q) | none => False) | _ => False)) ∧
  (∀ (n d : Nat) (L : List (Option iV)) (st : List iV) (h : iH) (Q : Option iV → iH → Prop), G sp sc [13] d mX11_soonest (n + 1) 11 L st h Q = G sp sc [13] d mX11_soonest n 12 L (.inl 0 :: st) h Q) ∧
  (∀ (n d : Nat) (L : List (Option iV)) (r : List iV) (x : Int) (h : iH) (Q : Option iV → iH → Prop), G sp sc [13] d mX11_soonest (n + 1) 12 L (.inl x :: r) h Q = (match st1 L 1 (.inl x) with | some L' => Run sp sc d mX11_soonest 13 L' r h Q | none => False)) ∧
  (∀ (n d : Nat) (L : List (Option iV)) (st : List iV) (h : iH) (Q : Option iV → iH → Prop), G sp sc [13] d mX11_soonest (n + 1) 13 L st h Q = (match ld L 1 with | some (.inl x) => G sp sc [13] d mX11_soonest n 14 L (.inl x :: st) h Q | _ => False)) ∧
  (∀ (n d : Nat) (L : List (Option iV)) (st : List iV) (h : iH) (Q : Option iV → iH → Prop), G sp sc [13] d mX11_soonest (n + 1) 14 L st h Q = ((-128 ≤ (60 : Int) ∧ (60 : Int) < 128) ∧ G sp sc [13] d mX11_soonest n 16 L (.inl 60 :: st) h Q)) ∧
  (∀ (n d : Nat) (L : List (Option iV)) (a : Int) (b : Int) (r : List iV) (h : iH) (Q : Option iV → iH → Prop), G sp sc [13] d mX11_soonest (n + 1) 16 L (.inl b :: .inl a :: r) h Q = ((inI a = true ∧ inI b = true) ∧ (b < a → G sp sc [13] d mX11_soonest n 49 L r h Q) ∧ (¬ (b < a) → G sp sc [13] d mX11_soonest n 19 L r h Q))) ∧
  (∀ (n d : Nat) (L : List (Option iV)) (st : List iV) (h : iH) (Q : Option iV → iH → Prop), G sp sc [13] d mX11_soonest (n + 1) 19 L st h Q = (match ld L 0 with | some (.inr (.inr (r + 1))) => G sp sc [13] d mX11_soonest n 20 L (.inr (.inr (r + 1)) :: st) h Q | _ => False)) ∧
  (∀ (n d : Nat) (L : List (Option iV)) (r : List iV) (m : Nat) (h : iH) (Q : Option iV → iH → Prop), G sp sc [13] d mX11_soonest (n + 1) 20 L (.inr (.inr (m + 2)) :: r) h Q = (match h.1[m]? with | some (.inl (ci, fs)) => (match lkF 11 38 ci with | some k => (match fs[k]? with | some v => G sp sc [13] d mX11_soonest n 23 L (v :: r) h Q | none => False) | none => False) | _ => False)) ∧
  (∀ (n d : Nat) (L : List (Option iV)) (r : List iV) (m : Nat) (h : iH) (Q : Option iV → iH → Prop), G sp sc [13] d mX11_soonest (n + 1) 23 L (.inr (.inr (m + 2)) :: r) h Q = (match h.1[m]? with | some (.inl (ci, fs)) => (match lkF 11 107 ci with | some k => (match fs[k]? with | some v => G sp sc [13] d mX11_soonest n 26 L (v :: r) h Q | none => False) | none => False) | _ => False)) ∧
  (∀ (n d : Nat) (L : List (Option iV)) (st : List iV) (h : iH) (Q : Option iV → iH → Prop), G sp sc [13] d mX11_soonest (n + 1) 26 L st h Q = G sp sc [13] d mX11_soonest n 27 L (.inl 0 :: st) h Q) ∧
  (∀ (n d : Nat) (L : List (Option iV)) (r : List iV) (m : Nat) (z0 : iV) (h : iH) (Q : Option iV → iH → Prop), G sp sc [13] (d + 1) mX11_soonest (n + 1) 27 L (z0 :: .inr (.inr (m + 2)) :: r) h Q = (match h.1[m]? with | some (.inl (ci, _)) => (match lkC 11 239 ci with | some (y1, n1, kd) => (n1 = 1 ∧ (kd = 2 ∨ kd = 3 ∨ kd = 8) ∧ cs r ≤ 8) ∧ Call sp sc d y1 [.inr (.inr (m + 2)), z0] h (fun q h1 => GC sp sc [13] (d + 1) mX11_soonest n 30 L q r h h1 Q) | none => False) | _ => False)) ∧
  (∀ (n d : Nat) (L : List (Option iV)) (a : Int) (r : List iV) (h : iH) (Q : Option iV → iH → Prop), G sp sc [13] d mX11_soonest (n + 1) 30 L (.inl a :: r) h Q = (inI a = true ∧ (¬ a = 0 → G sp sc [13] d mX11_soonest n 35 L r h Q) ∧ (¬ (¬ a = 0) → G sp sc [13] d mX11_soonest n 33 L r h Q))) ∧
  (∀ (n d : Nat) (L : List (Option iV)) (st : List iV) (h : iH) (Q : Option iV → iH → Prop), G sp sc [13] d mX11_soonest (n + 1) 33 L st h Q = (match ld L 1 with | some (.inl x) => G sp sc [13] d mX11_soonest n 34 L (.inl x :: st) h Q | _ => False)) ∧
  (∀ (n d : Nat) (L : List (Option iV)) (a : Int) (h : iH) (Q : Option iV → iH → Prop), G sp sc [13] d mX11_soonest (n + 1) 34 L [.inl a] h Q = Q (some (.inl a)) h) ∧
  (∀ (n d : Nat) (L : List (Option iV)) (st : List iV) (h : iH) (Q : Option iV → iH → Prop), G sp sc [13] d mX11_soonest (n + 1) 35 L st h Q = (match ld L 0 with | some (.inr (.inr (r + 1))) => G sp sc [13] d mX11_soonest n 36 L (.inr (.inr (r + 1)) :: st) h Q | _ => False)) ∧
  (∀ (n d : Nat) (L : List (Option iV)) (r : List iV) (m : Nat) (h : iH) (Q : Option iV → iH → Prop), G sp sc [13] d mX11_soonest (n + 1) 36 L (.inr (.inr (m + 2)) :: r) h Q = (match h.1[m]? with | some (.inl (ci, fs)) => (match lkF 11 38 ci with | some k => (match fs[k]? with | some v => G sp sc [13] d mX11_soonest n 39 L (v :: r) h Q | none => False) | none => False) | _ => False)) ∧
  (∀ (n d : Nat) (L : List (Option iV)) (st : List iV) (h : iH) (Q : Option iV → iH → Prop), G sp sc [13] d mX11_soonest (n + 1) 39 L st h Q = G sp sc [13] d mX11_soonest n 40 L (.inl 1 :: st) h Q) ∧
  (∀ (n d : Nat) (L : List (Option iV)) (r : List iV) (m : Nat) (z0 : iV) (h : iH) (Q : Option iV → iH → Prop), G sp sc [13] (d + 1) mX11_soonest (n + 1) 40 L (z0 :: .inr (.inr (m + 2)) :: r) h Q = (match h.1[m]? with | some (.inl (ci, _)) => (match lkC 11 218 ci with | some (y1, n1, kd) => (n1 = 1 ∧ (kd = 2 ∨ kd = 3 ∨ kd = 8) ∧ cs r ≤ 8) ∧ Call sp sc d y1 [.inr (.inr (m + 2)), z0] h (fun q h1 => GC sp sc [13] (d + 1) mX11_soonest n 43 L q r h h1 Q) | none => False) | _ => False)) ∧
  (∀ (n d : Nat) (L : List (Option iV)) (st : List iV) (h : iH) (Q : Option iV → iH → Prop), G sp sc [13] d mX11_soonest (n + 1) 43 L st h Q = (match ld L 1 with | some (.inl x) => (match st1 L 1 (.inl (x + 1)) with | some L' => G sp sc [13] d mX11_soonest n 46 L' st h Q | none => False) | _ => False)) ∧
  (∀ (n d : Nat) (L : List (Option iV)) (st : List iV) (h : iH) (Q : Option iV → iH → Prop), G sp sc [13] d mX11_soonest (n + 1) 46 L st h Q = Run sp sc d mX11_soonest 13 L st h Q) ∧
  (∀ (n d : Nat) (L : List (Option iV)) (st : List iV) (h : iH) (Q : Option iV → iH → Prop), G sp sc [13] d mX11_soonest (n + 1) 49 L st h Q = ((-128 ≤ ((-4) : Int) ∧ ((-4) : Int) < 128) ∧ G sp sc [13] d mX11_soonest n 51 L (.inl (-4) :: st) h Q)) ∧
  (∀ (n d : Nat) (L : List (Option iV)) (a : Int) (h : iH) (Q : Option iV → iH → Prop), G sp sc [13] d mX11_soonest (n + 1) 51 L [.inl a] h Q = Q (some (.inl a)) h) ∧
  lkC 11 218 10 = some (mX10_pass, 1, 2) ∧
  lkC 11 239 8 = some (mX8_howMany, 1, 2) ∧
  lkC 11 90 10 = some (mX10_begin, 1, 2) ∧
  lkF 11 107 10 = some 0 ∧
  lkF 11 17 11 = some 2 ∧
  lkF 11 38 11 = some 5 := ⟨by intros; exact G_at (by decide +kernel : fetch mX11_soonest 0 = some (.aload_n 0)),
  by intros; exact G_own (by decide +kernel : fetch mX11_soonest 1 = some (.getfield 38)) (by decide +kernel),
  by intros; exact G_at (by decide +kernel : fetch mX11_soonest 4 = some (.aload_n 0)),
  by intros; exact G_own (by decide +kernel : fetch mX11_soonest 5 = some (.getfield 17)) (by decide +kernel),
  by intros; exact G_callV (by decide +kernel : fetch mX11_soonest 8 = some (.invokevirtual 90)) (by decide +kernel) (by decide +kernel) rfl,
  by intros; exact G_at (by decide +kernel : fetch mX11_soonest 11 = some (.iconst 0)),
  by intros; exact G_at (by decide +kernel : fetch mX11_soonest 12 = some (.istore_n 1)),
  by intros; exact G_at (by decide +kernel : fetch mX11_soonest 13 = some (.iload_n 1)),
  by intros; exact G_at (by decide +kernel : fetch mX11_soonest 14 = some (.bipush 60)),
  by intros; exact G_at (by decide +kernel : fetch mX11_soonest 16 = some (.if_icmp .gt 33)),
  by intros; exact G_at (by decide +kernel : fetch mX11_soonest 19 = some (.aload_n 0)),
  by intros; exact G_own (by decide +kernel : fetch mX11_soonest 20 = some (.getfield 38)) (by decide +kernel),
  by intros; exact G_own (by decide +kernel : fetch mX11_soonest 23 = some (.getfield 107)) (by decide +kernel),
  by intros; exact G_at (by decide +kernel : fetch mX11_soonest 26 = some (.iconst 0)),
  by intros; exact G_callV (by decide +kernel : fetch mX11_soonest 27 = some (.invokevirtual 239)) (by decide +kernel) (by decide +kernel) rfl,
  by intros; exact G_at (by decide +kernel : fetch mX11_soonest 30 = some (.ifCond .ne 5)),
  by intros; exact G_at (by decide +kernel : fetch mX11_soonest 33 = some (.iload_n 1)),
  by intros; exact G_reti (by decide +kernel : fetch mX11_soonest 34 = some (.ireturn)) (by decide +kernel),
  by intros; exact G_at (by decide +kernel : fetch mX11_soonest 35 = some (.aload_n 0)),
  by intros; exact G_own (by decide +kernel : fetch mX11_soonest 36 = some (.getfield 38)) (by decide +kernel),
  by intros; exact G_at (by decide +kernel : fetch mX11_soonest 39 = some (.iconst 1)),
  by intros; exact G_callV (by decide +kernel : fetch mX11_soonest 40 = some (.invokevirtual 218)) (by decide +kernel) (by decide +kernel) rfl,
  by intros; exact G_at (by decide +kernel : fetch mX11_soonest 43 = some (.iinc 1 1)),
  by intros; exact G_at (by decide +kernel : fetch mX11_soonest 46 = some (.goto (-33))),
  by intros; exact G_at (by decide +kernel : fetch mX11_soonest 49 = some (.bipush (-4))),
  by intros; exact G_reti (by decide +kernel : fetch mX11_soonest 51 = some (.ireturn)) (by decide +kernel),
  by decide +kernel,
  by decide +kernel,
  by decide +kernel,
  by decide +kernel,
  by decide +kernel,
  by decide +kernel⟩
theorem gX11_orders : (∀ (n d : Nat) (L : List (Option iV)) (st : List iV) (h : iH) (Q : Option iV → iH → Prop), G sp sc [43] d mX11_orders (n + 1) 0 L st h Q = (match ld L 1 with | some (.inl x) => G sp sc [43] d mX11_orders n 1 L (.inl x :: st) h Q | _ => False)) ∧
  (∀ (n d : Nat) (L : List (Option iV)) (a : Int) (r : List iV) (h : iH) (Q : Option iV → iH → Prop), G sp sc [43] d mX11_orders (n + 1) 1 L (.inl a :: r) h Q = (inI a = true ∧ (a < 0 → G sp sc [43] d mX11_orders n 9 L r h Q) ∧ (¬ (a < 0) → G sp sc [43] d mX11_orders n 4 L r h Q))) ∧
  (∀ (n d : Nat) (L : List (Option iV)) (st : List iV) (h : iH) (Q : Option iV → iH → Prop), G sp sc [43] d mX11_orders (n + 1) 4 L st h Q = (match ld L 1 with | some (.inl x) => G sp sc [43] d mX11_orders n 5 L (.inl x :: st) h Q | _ => False)) ∧
  (∀ (n d : Nat) (L : List (Option iV)) (st : List iV) (h : iH) (Q : Option iV → iH → Prop), G sp sc [43] d mX11_orders (n + 1) 5 L st h Q = G sp sc [43] d mX11_orders n 6 L (.inl 1 :: st) h Q) ∧
  (∀ (n d : Nat) (L : List (Option iV)) (a : Int) (b : Int) (r : List iV) (h : iH) (Q : Option iV → iH → Prop), G sp sc [43] d mX11_orders (n + 1) 6 L (.inl b :: .inl a :: r) h Q = ((inI a = true ∧ inI b = true) ∧ (a ≤ b → G sp sc [43] d mX11_orders n 11 L r h Q) ∧ (¬ (a ≤ b) → G sp sc [43] d mX11_orders n 9 L r h Q))) ∧
  (∀ (n d : Nat) (L : List (Option iV)) (st : List iV) (h : iH) (Q : Option iV → iH → Prop), G sp sc [43] d mX11_orders (n + 1) 9 L st h Q = G sp sc [43] d mX11_orders n 10 L (.inl (-1) :: st) h Q) ∧
  (∀ (n d : Nat) (L : List (Option iV)) (a : Int) (h : iH) (Q : Option iV → iH → Prop), G sp sc [43] d mX11_orders (n + 1) 10 L [.inl a] h Q = Q (some (.inl a)) h) ∧
  (∀ (n d : Nat) (L : List (Option iV)) (st : List iV) (h : iH) (Q : Option iV → iH → Prop), G sp sc [43] d mX11_orders (n + 1) 11 L st h Q = (match ld L 0 with | some (.inr (.inr (r + 1))) => G sp sc [43] d mX11_orders n 12 L (.inr (.inr (r + 1)) :: st) h Q | _ => False)) ∧
  (∀ (n d : Nat) (L : List (Option iV)) (r : List iV) (m : Nat) (h : iH) (Q : Option iV → iH → Prop), G sp sc [43] d mX11_orders (n + 1) 12 L (.inr (.inr (m + 2)) :: r) h Q = (match h.1[m]? with | some (.inl (ci, fs)) => (match lkF 11 17 ci with | some k => (match fs[k]? with | some v => G sp sc [43] d mX11_orders n 15 L (v :: r) h Q | none => False) | none => False) | _ => False)) ∧
  (∀ (n d : Nat) (L : List (Option iV)) (r : List iV) (m : Nat) (h : iH) (Q : Option iV → iH → Prop), G sp sc [43] d mX11_orders (n + 1) 15 L (.inr (.inr (m + 2)) :: r) h Q = (match h.1[m]? with | some (.inl (ci, fs)) => (match lkF 11 242 ci with | some k => (match fs[k]? with | some v => G sp sc [43] d mX11_orders n 18 L (v :: r) h Q | none => False) | none => False) | _ => False)) ∧
  (∀ (n d : Nat) (L : List (Option iV)) (a : Int) (r : List iV) (h : iH) (Q : Option iV → iH → Prop), G sp sc [43] d mX11_orders (n + 1) 18 L (.inl a :: r) h Q = (inI a = true ∧ (¬ a = 0 → G sp sc [43] d mX11_orders n 24 L r h Q) ∧ (¬ (¬ a = 0) → G sp sc [43] d mX11_orders n 21 L r h Q))) ∧
  (∀ (n d : Nat) (L : List (Option iV)) (st : List iV) (h : iH) (Q : Option iV → iH → Prop), G sp sc [43] d mX11_orders (n + 1) 21 L st h Q = ((-128 ≤ ((-3) : Int) ∧ ((-3) : Int) < 128) ∧ G sp sc [43] d mX11_orders n 23 L (.inl (-3) :: st) h Q)) ∧
  (∀ (n d : Nat) (L : List (Option iV)) (a : Int) (h : iH) (Q : Option iV → iH → Prop), G sp sc [43] d mX11_orders (n + 1) 23 L [.inl a] h Q = Q (some (.inl a)) h) ∧
  (∀ (n d : Nat) (L : List (Option iV)) (st : List iV) (h : iH) (Q : Option iV → iH → Prop), G sp sc [43] d mX11_orders (n + 1) 24 L st h Q = ((-32768 ≤ (245 : Int) ∧ (245 : Int) < 32768) ∧ G sp sc [43] d mX11_orders n 27 L (.inl 245 :: st) h Q)) ∧
  (∀ (n d : Nat) (L : List (Option iV)) (r : List iV) (x : Int) (h : iH) (Q : Option iV → iH → Prop), G sp sc [43] d mX11_orders (n + 1) 27 L (.inl x :: r) h Q = (match st1 L 2 (.inl x) with | some L' => G sp sc [43] d mX11_orders n 28 L' r h Q | none => False)) ∧
  (∀ (n d : Nat) (L : List (Option iV)) (st : List iV) (h : iH) (Q : Option iV → iH → Prop), G sp sc [43] d mX11_orders (n + 1) 28 L st h Q = G sp sc [43] d mX11_orders n 29 L (.inl 0 :: st) h Q) ∧
  (∀ (n d : Nat) (L : List (Option iV)) (r : List iV) (x : Int) (h : iH) (Q : Option iV → iH → Prop), G sp sc [43] d mX11_orders (n + 1) 29 L (.inl x :: r) h Q = (match st1 L 3 (.inl x) with | some L' => G sp sc [43] d mX11_orders n 30 L' r h Q | none => False)) ∧
  (∀ (n d : Nat) (L : List (Option iV)) (st : List iV) (h : iH) (Q : Option iV → iH → Prop), G sp sc [43] d mX11_orders (n + 1) 30 L st h Q = G sp sc [43] d mX11_orders n 31 L (.inl 1 :: st) h Q) ∧
  (∀ (n d : Nat) (L : List (Option iV)) (r : List iV) (x : Int) (h : iH) (Q : Option iV → iH → Prop), G sp sc [43] d mX11_orders (n + 1) 31 L (.inl x :: r) h Q = (match st1 L 4 (.inl x) with | some L' => G sp sc [43] d mX11_orders n 33 L' r h Q | none => False)) ∧
  (∀ (n d : Nat) (L : List (Option iV)) (st : List iV) (h : iH) (Q : Option iV → iH → Prop), G sp sc [43] d mX11_orders (n + 1) 33 L st h Q = (match ld L 0 with | some (.inr (.inr (r + 1))) => G sp sc [43] d mX11_orders n 34 L (.inr (.inr (r + 1)) :: st) h Q | _ => False)) ∧
  (∀ (n d : Nat) (L : List (Option iV)) (r : List iV) (m : Nat) (h : iH) (Q : Option iV → iH → Prop), G sp sc [43] d mX11_orders (n + 1) 34 L (.inr (.inr (m + 2)) :: r) h Q = (match h.1[m]? with | some (.inl (ci, fs)) => (match lkF 11 38 ci with | some k => (match fs[k]? with | some v => G sp sc [43] d mX11_orders n 37 L (v :: r) h Q | none => False) | none => False) | _ => False)) ∧
  (∀ (n d : Nat) (L : List (Option iV)) (r : List iV) (m : Nat) (h : iH) (Q : Option iV → iH → Prop), G sp sc [43] (d + 1) mX11_orders (n + 1) 37 L (.inr (.inr (m + 2)) :: r) h Q = (match h.1[m]? with | some (.inl (ci, _)) => (match lkC 11 245 ci with | some (y1, n1, kd) => (n1 = 0 ∧ (kd = 2 ∨ kd = 3 ∨ kd = 8) ∧ cs r ≤ 8) ∧ Call sp sc d y1 [.inr (.inr (m + 2))] h (fun q h1 => GC sp sc [43] (d + 1) mX11_orders n 40 L q r h h1 Q) | none => False) | _ => False)) ∧
  (∀ (n d : Nat) (L : List (Option iV)) (st : List iV) (h : iH) (Q : Option iV → iH → Prop), G sp sc [43] d mX11_orders (n + 1) 40 L st h Q = G sp sc [43] d mX11_orders n 41 L (.inl 0 :: st) h Q) ∧
  (∀ (n d : Nat) (L : List (Option iV)) (r : List iV) (x : Int) (h : iH) (Q : Option iV → iH → Prop), G sp sc [43] d mX11_orders (n + 1) 41 L (.inl x :: r) h Q = (match st1 L 5 (.inl x) with | some L' => Run sp sc d mX11_orders 43 L' r h Q | none => False)) ∧
  (∀ (n d : Nat) (L : List (Option iV)) (st : List iV) (h : iH) (Q : Option iV → iH → Prop), G sp sc [43] d mX11_orders (n + 1) 43 L st h Q = (match ld L 5 with | some (.inl x) => G sp sc [43] d mX11_orders n 45 L (.inl x :: st) h Q | _ => False)) ∧
  (∀ (n d : Nat) (L : List (Option iV)) (st : List iV) (h : iH) (Q : Option iV → iH → Prop), G sp sc [43] d mX11_orders (n + 1) 45 L st h Q = ((-128 ≤ (24 : Int) ∧ (24 : Int) < 128) ∧ G sp sc [43] d mX11_orders n 47 L (.inl 24 :: st) h Q)) ∧
  (∀ (n d : Nat) (L : List (Option iV)) (a : Int) (b : Int) (r : List iV) (h : iH) (Q : Option iV → iH → Prop), G sp sc [43] d mX11_orders (n + 1) 47 L (.inl b :: .inl a :: r) h Q = ((inI a = true ∧ inI b = true) ∧ (b ≤ a → G sp sc [43] d mX11_orders n 113 L r h Q) ∧ (¬ (b ≤ a) → G sp sc [43] d mX11_orders n 50 L r h Q))) ∧
  (∀ (n d : Nat) (L : List (Option iV)) (st : List iV) (h : iH) (Q : Option iV → iH → Prop), G sp sc [43] d mX11_orders (n + 1) 50 L st h Q = (match ld L 4 with | some (.inl x) => G sp sc [43] d mX11_orders n 52 L (.inl x :: st) h Q | _ => False)) ∧
  (∀ (n d : Nat) (L : List (Option iV)) (a : Int) (r : List iV) (h : iH) (Q : Option iV → iH → Prop), G sp sc [43] d mX11_orders (n + 1) 52 L (.inl a :: r) h Q = (inI a = true ∧ (a = 0 → G sp sc [43] d mX11_orders n 113 L r h Q) ∧ (¬ (a = 0) → G sp sc [43] d mX11_orders n 55 L r h Q))) ∧
  (∀ (n d : Nat) (L : List (Option iV)) (st : List iV) (h : iH) (Q : Option iV → iH → Prop), G sp sc [43] d mX11_orders (n + 1) 55 L st h Q = (match ld L 0 with | some (.inr (.inr (r + 1))) => G sp sc [43] d mX11_orders n 56 L (.inr (.inr (r + 1)) :: st) h Q | _ => False)) ∧
  (∀ (n d : Nat) (L : List (Option iV)) (r : List iV) (m : Nat) (h : iH) (Q : Option iV → iH → Prop), G sp sc [43] d mX11_orders (n + 1) 56 L (.inr (.inr (m + 2)) :: r) h Q = (match h.1[m]? with | some (.inl (ci, fs)) => (match lkF 11 38 ci with | some k => (match fs[k]? with | some v => G sp sc [43] d mX11_orders n 59 L (v :: r) h Q | none => False) | none => False) | _ => False)) ∧
  (∀ (n d : Nat) (L : List (Option iV)) (st : List iV) (h : iH) (Q : Option iV → iH → Prop), G sp sc [43] d mX11_orders (n + 1) 59 L st h Q = (match ld L 0 with | some (.inr (.inr (r + 1))) => G sp sc [43] d mX11_orders n 60 L (.inr (.inr (r + 1)) :: st) h Q | _ => False)) ∧
  (∀ (n d : Nat) (L : List (Option iV)) (r : List iV) (m : Nat) (h : iH) (Q : Option iV → iH → Prop), G sp sc [43] d mX11_orders (n + 1) 60 L (.inr (.inr (m + 2)) :: r) h Q = (match h.1[m]? with | some (.inl (ci, fs)) => (match lkF 11 17 ci with | some k => (match fs[k]? with | some v => G sp sc [43] d mX11_orders n 63 L (v :: r) h Q | none => False) | none => False) | _ => False)) ∧
  (∀ (n d : Nat) (L : List (Option iV)) (r : List iV) (m : Nat) (z0 : iV) (h : iH) (Q : Option iV → iH → Prop), G sp sc [43] (d + 1) mX11_orders (n + 1) 63 L (z0 :: .inr (.inr (m + 2)) :: r) h Q = (match h.1[m]? with | some (.inl (ci, _)) => (match lkC 11 248 ci with | some (y1, n1, kd) => (n1 = 1 ∧ (kd = 2 ∨ kd = 3 ∨ kd = 8) ∧ cs r ≤ 8) ∧ Call sp sc d y1 [.inr (.inr (m + 2)), z0] h (fun q h1 => GC sp sc [43] (d + 1) mX11_orders n 66 L q r h h1 Q) | none => False) | _ => False)) ∧
  (∀ (n d : Nat) (L : List (Option iV)) (st : List iV) (h : iH) (Q : Option iV → iH → Prop), G sp sc [43] d mX11_orders (n + 1) 66 L st h Q = (match ld L 0 with | some (.inr (.inr (r + 1))) => G sp sc [43] d mX11_orders n 67 L (.inr (.inr (r + 1)) :: st) h Q | _ => False)) ∧
  (∀ (n d : Nat) (L : List (Option iV)) (r : List iV) (m : Nat) (h : iH) (Q : Option iV → iH → Prop), G sp sc [43] d mX11_orders (n + 1) 67 L (.inr (.inr (m + 2)) :: r) h Q = (match h.1[m]? with | some (.inl (ci, fs)) => (match lkF 11 38 ci with | some k => (match fs[k]? with | some v => G sp sc [43] d mX11_orders n 70 L (v :: r) h Q | none => False) | none => False) | _ => False)) ∧
  (∀ (n d : Nat) (L : List (Option iV)) (st : List iV) (h : iH) (Q : Option iV → iH → Prop), G sp sc [43] d mX11_orders (n + 1) 70 L st h Q = ((-128 ≤ (60 : Int) ∧ (60 : Int) < 128) ∧ G sp sc [43] d mX11_orders n 72 L (.inl 60 :: st) h Q)) ∧
  (∀ (n d : Nat) (L : List (Option iV)) (r : List iV) (m : Nat) (z0 : iV) (h : iH) (Q : Option iV → iH → Prop), G sp sc [43] (d + 1) mX11_orders (n + 1) 72 L (z0 :: .inr (.inr (m + 2)) :: r) h Q = (match h.1[m]? with | some (.inl (ci, _)) => (match lkC 11 218 ci with | some (y1, n1, kd) => (n1 = 1 ∧ (kd = 2 ∨ kd = 3 ∨ kd = 8) ∧ cs r ≤ 8) ∧ Call sp sc d y1 [.inr (.inr (m + 2)), z0] h (fun q h1 => GC sp sc [43] (d + 1) mX11_orders n 75 L q r h h1 Q) | none => False) | _ => False)) ∧
  (∀ (n d : Nat) (L : List (Option iV)) (st : List iV) (h : iH) (Q : Option iV → iH → Prop), G sp sc [43] d mX11_orders (n + 1) 75 L st h Q = (match ld L 0 with | some (.inr (.inr (r + 1))) => G sp sc [43] d mX11_orders n 76 L (.inr (.inr (r + 1)) :: st) h Q | _ => False)) ∧
  (∀ (n d : Nat) (L : List (Option iV)) (r : List iV) (m : Nat) (h : iH) (Q : Option iV → iH → Prop), G sp sc [43] (d + 1) mX11_orders (n + 1) 76 L (.inr (.inr (m + 2)) :: r) h Q = (match h.1[m]? with | some (.inl (ci, _)) => (match lkC 11 251 ci with | some (y1, n1, kd) => (n1 = 0 ∧ (kd = 2 ∨ kd = 3 ∨ kd = 8) ∧ cs r ≤ 8) ∧ Call sp sc d y1 [.inr (.inr (m + 2))] h (fun q h1 => GC sp sc [43] (d + 1) mX11_orders n 79 L q r h h1 Q) | none => False) | _ => False)) ∧
  (∀ (n d : Nat) (L : List (Option iV)) (r : List iV) (x : Int) (h : iH) (Q : Option iV → iH → Prop), G sp sc [43] d mX11_orders (n + 1) 79 L (.inl x :: r) h Q = (match st1 L 6 (.inl x) with | some L' => G sp sc [43] d mX11_orders n 81 L' r h Q | none => False)) ∧
  (∀ (n d : Nat) (L : List (Option iV)) (st : List iV) (h : iH) (Q : Option iV → iH → Prop), G sp sc [43] d mX11_orders (n + 1) 81 L st h Q = (match ld L 6 with | some (.inl x) => G sp sc [43] d mX11_orders n 83 L (.inl x :: st) h Q | _ => False)) ∧
  (∀ (n d : Nat) (L : List (Option iV)) (st : List iV) (h : iH) (Q : Option iV → iH → Prop), G sp sc [43] d mX11_orders (n + 1) 83 L st h Q = (match ld L 2 with | some (.inl x) => G sp sc [43] d mX11_orders n 84 L (.inl x :: st) h Q | _ => False)) ∧
  (∀ (n d : Nat) (L : List (Option iV)) (a : Int) (b : Int) (r : List iV) (h : iH) (Q : Option iV → iH → Prop), G sp sc [43] d mX11_orders (n + 1) 84 L (.inl b :: .inl a :: r) h Q = ((inI a = true ∧ inI b = true) ∧ (b ≤ a → G sp sc [43] d mX11_orders n 98 L r h Q) ∧ (¬ (b ≤ a) → G sp sc [43] d mX11_orders n 87 L r h Q))) ∧
  (∀ (n d : Nat) (L : List (Option iV)) (st : List iV) (h : iH) (Q : Option iV → iH → Prop), G sp sc [43] d mX11_orders (n + 1) 87 L st h Q = (match ld L 6 with | some (.inl x) => G sp sc [43] d mX11_orders n 89 L (.inl x :: st) h Q | _ => False)) ∧
  (∀ (n d : Nat) (L : List (Option iV)) (r : List iV) (x : Int) (h : iH) (Q : Option iV → iH → Prop), G sp sc [43] d mX11_orders (n + 1) 89 L (.inl x :: r) h Q = (match st1 L 2 (.inl x) with | some L' => G sp sc [43] d mX11_orders n 90 L' r h Q | none => False)) ∧
  (∀ (n d : Nat) (L : List (Option iV)) (st : List iV) (h : iH) (Q : Option iV → iH → Prop), G sp sc [43] d mX11_orders (n + 1) 90 L st h Q = (match ld L 0 with | some (.inr (.inr (r + 1))) => G sp sc [43] d mX11_orders n 91 L (.inr (.inr (r + 1)) :: st) h Q | _ => False)) ∧
  (∀ (n d : Nat) (L : List (Option iV)) (r : List iV) (m : Nat) (h : iH) (Q : Option iV → iH → Prop), G sp sc [43] d mX11_orders (n + 1) 91 L (.inr (.inr (m + 2)) :: r) h Q = (match h.1[m]? with | some (.inl (ci, fs)) => (match lkF 11 38 ci with | some k => (match fs[k]? with | some v => G sp sc [43] d mX11_orders n 94 L (v :: r) h Q | none => False) | none => False) | _ => False)) ∧
  (∀ (n d : Nat) (L : List (Option iV)) (r : List iV) (m : Nat) (h : iH) (Q : Option iV → iH → Prop), G sp sc [43] (d + 1) mX11_orders (n + 1) 94 L (.inr (.inr (m + 2)) :: r) h Q = (match h.1[m]? with | some (.inl (ci, _)) => (match lkC 11 254 ci with | some (y1, n1, kd) => (n1 = 0 ∧ (kd = 2 ∨ kd = 3 ∨ kd = 8) ∧ cs r ≤ 8) ∧ Call sp sc d y1 [.inr (.inr (m + 2))] h (fun q h1 => GC sp sc [43] (d + 1) mX11_orders n 97 L q r h h1 Q) | none => False) | _ => False)) ∧
  (∀ (n d : Nat) (L : List (Option iV)) (r : List iV) (x : Int) (h : iH) (Q : Option iV → iH → Prop), G sp sc [43] d mX11_orders (n + 1) 97 L (.inl x :: r) h Q = (match st1 L 3 (.inl x) with | some L' => G sp sc [43] d mX11_orders n 98 L' r h Q | none => False)) ∧
  (∀ (n d : Nat) (L : List (Option iV)) (st : List iV) (h : iH) (Q : Option iV → iH → Prop), G sp sc [43] d mX11_orders (n + 1) 98 L st h Q = (match ld L 0 with | some (.inr (.inr (r + 1))) => G sp sc [43] d mX11_orders n 99 L (.inr (.inr (r + 1)) :: st) h Q | _ => False)) ∧
  (∀ (n d : Nat) (L : List (Option iV)) (r : List iV) (m : Nat) (h : iH) (Q : Option iV → iH → Prop), G sp sc [43] d mX11_orders (n + 1) 99 L (.inr (.inr (m + 2)) :: r) h Q = (match h.1[m]? with | some (.inl (ci, fs)) => (match lkF 11 38 ci with | some k => (match fs[k]? with | some v => G sp sc [43] d mX11_orders n 102 L (v :: r) h Q | none => False) | none => False) | _ => False)) ∧
  (∀ (n d : Nat) (L : List (Option iV)) (r : List iV) (m : Nat) (h : iH) (Q : Option iV → iH → Prop), G sp sc [43] (d + 1) mX11_orders (n + 1) 102 L (.inr (.inr (m + 2)) :: r) h Q = (match h.1[m]? with | some (.inl (ci, _)) => (match lkC 11 257 ci with | some (y1, n1, kd) => (n1 = 0 ∧ (kd = 2 ∨ kd = 3 ∨ kd = 8) ∧ cs r ≤ 8) ∧ Call sp sc d y1 [.inr (.inr (m + 2))] h (fun q h1 => GC sp sc [43] (d + 1) mX11_orders n 105 L q r h h1 Q) | none => False) | _ => False)) ∧
  (∀ (n d : Nat) (L : List (Option iV)) (r : List iV) (x : Int) (h : iH) (Q : Option iV → iH → Prop), G sp sc [43] d mX11_orders (n + 1) 105 L (.inl x :: r) h Q = (match st1 L 4 (.inl x) with | some L' => G sp sc [43] d mX11_orders n 107 L' r h Q | none => False)) ∧
  (∀ (n d : Nat) (L : List (Option iV)) (st : List iV) (h : iH) (Q : Option iV → iH → Prop), G sp sc [43] d mX11_orders (n + 1) 107 L st h Q = (match ld L 5 with | some (.inl x) => (match st1 L 5 (.inl (x + 1)) with | some L' => G sp sc [43] d mX11_orders n 110 L' st h Q | none => False) | _ => False)) ∧
  (∀ (n d : Nat) (L : List (Option iV)) (st : List iV) (h : iH) (Q : Option iV → iH → Prop), G sp sc [43] d mX11_orders (n + 1) 110 L st h Q = Run sp sc d mX11_orders 43 L st h Q) ∧
  (∀ (n d : Nat) (L : List (Option iV)) (st : List iV) (h : iH) (Q : Option iV → iH → Prop), G sp sc [43] d mX11_orders (n + 1) 113 L st h Q = (match ld L 1 with | some (.inl x) => G sp sc [43] d mX11_orders n 114 L (.inl x :: st) h Q | _ => False)) ∧
  (∀ (n d : Nat) (L : List (Option iV)) (a : Int) (r : List iV) (h : iH) (Q : Option iV → iH → Prop), G sp sc [43] d mX11_orders (n + 1) 114 L (.inl a :: r) h Q = (inI a = true ∧ (¬ a = 0 → G sp sc [43] d mX11_orders n 121 L r h Q) ∧ (¬ (¬ a = 0) → G sp sc [43] d mX11_orders n 117 L r h Q))) ∧
  (∀ (n d : Nat) (L : List (Option iV)) (st : List iV) (h : iH) (Q : Option iV → iH → Prop), G sp sc [43] d mX11_orders (n + 1) 117 L st h Q = (match ld L 3 with | some (.inl x) => G sp sc [43] d mX11_orders n 118 L (.inl x :: st) h Q | _ => False)) ∧
  (∀ (n d : Nat) (L : List (Option iV)) (st : List iV) (h : iH) (Q : Option iV → iH → Prop), G sp sc [43] d mX11_orders (n + 1) 118 L st h Q = G sp sc [43] d mX11_orders n 122 L st h Q) ∧
  (∀ (n d : Nat) (L : List (Option iV)) (st : List iV) (h : iH) (Q : Option iV → iH → Prop), G sp sc [43] d mX11_orders (n + 1) 121 L st h Q = (match ld L 2 with | some (.inl x) => G sp sc [43] d mX11_orders n 122 L (.inl x :: st) h Q | _ => False)) ∧
  (∀ (n d : Nat) (L : List (Option iV)) (a : Int) (h : iH) (Q : Option iV → iH → Prop), G sp sc [43] d mX11_orders (n + 1) 122 L [.inl a] h Q = Q (some (.inl a)) h) ∧
  lkC 11 218 10 = some (mX10_pass, 1, 2) ∧
  lkC 11 245 10 = some (mX10_orderByNumbers, 0, 2) ∧
  lkC 11 248 10 = some (mX10_again, 1, 2) ∧
  lkC 11 251 11 = some (mX11_daysTillWed, 0, 2) ∧
  lkC 11 254 10 = some (mX10_orderDigits, 0, 2) ∧
  lkC 11 257 10 = some (mX10_nextOrder, 0, 2) ∧
  lkF 11 17 11 = some 2 ∧
  lkF 11 242 8 = some 5 ∧
  lkF 11 38 11 = some 5 := ⟨by intros; exact G_at (by decide +kernel : fetch mX11_orders 0 = some (.iload_n 1)),
  by intros; exact G_at (by decide +kernel : fetch mX11_orders 1 = some (.ifCond .lt 8)),
  by intros; exact G_at (by decide +kernel : fetch mX11_orders 4 = some (.iload_n 1)),
  by intros; exact G_at (by decide +kernel : fetch mX11_orders 5 = some (.iconst 1)),
  by intros; exact G_at (by decide +kernel : fetch mX11_orders 6 = some (.if_icmp .le 5)),
  by intros; exact G_at (by decide +kernel : fetch mX11_orders 9 = some (.iconst (-1))),
  by intros; exact G_reti (by decide +kernel : fetch mX11_orders 10 = some (.ireturn)) (by decide +kernel),
  by intros; exact G_at (by decide +kernel : fetch mX11_orders 11 = some (.aload_n 0)),
  by intros; exact G_own (by decide +kernel : fetch mX11_orders 12 = some (.getfield 17)) (by decide +kernel),
  by intros; exact G_own (by decide +kernel : fetch mX11_orders 15 = some (.getfield 242)) (by decide +kernel),
  by intros; exact G_at (by decide +kernel : fetch mX11_orders 18 = some (.ifCond .ne 6)),
  by intros; exact G_at (by decide +kernel : fetch mX11_orders 21 = some (.bipush (-3))),
  by intros; exact G_reti (by decide +kernel : fetch mX11_orders 23 = some (.ireturn)) (by decide +kernel),
  by intros; exact G_at (by decide +kernel : fetch mX11_orders 24 = some (.sipush 245)),
  by intros; exact G_at (by decide +kernel : fetch mX11_orders 27 = some (.istore_n 2)),
  by intros; exact G_at (by decide +kernel : fetch mX11_orders 28 = some (.iconst 0)),
  by intros; exact G_at (by decide +kernel : fetch mX11_orders 29 = some (.istore_n 3)),
  by intros; exact G_at (by decide +kernel : fetch mX11_orders 30 = some (.iconst 1)),
  by intros; exact G_at (by decide +kernel : fetch mX11_orders 31 = some (.istore 4)),
  by intros; exact G_at (by decide +kernel : fetch mX11_orders 33 = some (.aload_n 0)),
  by intros; exact G_own (by decide +kernel : fetch mX11_orders 34 = some (.getfield 38)) (by decide +kernel),
  by intros; exact G_callV (by decide +kernel : fetch mX11_orders 37 = some (.invokevirtual 245)) (by decide +kernel) (by decide +kernel) rfl,
  by intros; exact G_at (by decide +kernel : fetch mX11_orders 40 = some (.iconst 0)),
  by intros; exact G_at (by decide +kernel : fetch mX11_orders 41 = some (.istore 5)),
  by intros; exact G_at (by decide +kernel : fetch mX11_orders 43 = some (.iload 5)),
  by intros; exact G_at (by decide +kernel : fetch mX11_orders 45 = some (.bipush 24)),
  by intros; exact G_at (by decide +kernel : fetch mX11_orders 47 = some (.if_icmp .ge 66)),
  by intros; exact G_at (by decide +kernel : fetch mX11_orders 50 = some (.iload 4)),
  by intros; exact G_at (by decide +kernel : fetch mX11_orders 52 = some (.ifCond .eq 61)),
  by intros; exact G_at (by decide +kernel : fetch mX11_orders 55 = some (.aload_n 0)),
  by intros; exact G_own (by decide +kernel : fetch mX11_orders 56 = some (.getfield 38)) (by decide +kernel),
  by intros; exact G_at (by decide +kernel : fetch mX11_orders 59 = some (.aload_n 0)),
  by intros; exact G_own (by decide +kernel : fetch mX11_orders 60 = some (.getfield 17)) (by decide +kernel),
  by intros; exact G_callV (by decide +kernel : fetch mX11_orders 63 = some (.invokevirtual 248)) (by decide +kernel) (by decide +kernel) rfl,
  by intros; exact G_at (by decide +kernel : fetch mX11_orders 66 = some (.aload_n 0)),
  by intros; exact G_own (by decide +kernel : fetch mX11_orders 67 = some (.getfield 38)) (by decide +kernel),
  by intros; exact G_at (by decide +kernel : fetch mX11_orders 70 = some (.bipush 60)),
  by intros; exact G_callV (by decide +kernel : fetch mX11_orders 72 = some (.invokevirtual 218)) (by decide +kernel) (by decide +kernel) rfl,
  by intros; exact G_at (by decide +kernel : fetch mX11_orders 75 = some (.aload_n 0)),
  by intros; exact G_callV (by decide +kernel : fetch mX11_orders 76 = some (.invokevirtual 251)) (by decide +kernel) (by decide +kernel) rfl,
  by intros; exact G_at (by decide +kernel : fetch mX11_orders 79 = some (.istore 6)),
  by intros; exact G_at (by decide +kernel : fetch mX11_orders 81 = some (.iload 6)),
  by intros; exact G_at (by decide +kernel : fetch mX11_orders 83 = some (.iload_n 2)),
  by intros; exact G_at (by decide +kernel : fetch mX11_orders 84 = some (.if_icmp .ge 14)),
  by intros; exact G_at (by decide +kernel : fetch mX11_orders 87 = some (.iload 6)),
  by intros; exact G_at (by decide +kernel : fetch mX11_orders 89 = some (.istore_n 2)),
  by intros; exact G_at (by decide +kernel : fetch mX11_orders 90 = some (.aload_n 0)),
  by intros; exact G_own (by decide +kernel : fetch mX11_orders 91 = some (.getfield 38)) (by decide +kernel),
  by intros; exact G_callV (by decide +kernel : fetch mX11_orders 94 = some (.invokevirtual 254)) (by decide +kernel) (by decide +kernel) rfl,
  by intros; exact G_at (by decide +kernel : fetch mX11_orders 97 = some (.istore_n 3)),
  by intros; exact G_at (by decide +kernel : fetch mX11_orders 98 = some (.aload_n 0)),
  by intros; exact G_own (by decide +kernel : fetch mX11_orders 99 = some (.getfield 38)) (by decide +kernel),
  by intros; exact G_callV (by decide +kernel : fetch mX11_orders 102 = some (.invokevirtual 257)) (by decide +kernel) (by decide +kernel) rfl,
  by intros; exact G_at (by decide +kernel : fetch mX11_orders 105 = some (.istore 4)),
  by intros; exact G_at (by decide +kernel : fetch mX11_orders 107 = some (.iinc 5 1)),
  by intros; exact G_at (by decide +kernel : fetch mX11_orders 110 = some (.goto (-67))),
  by intros; exact G_at (by decide +kernel : fetch mX11_orders 113 = some (.iload_n 1)),
  by intros; exact G_at (by decide +kernel : fetch mX11_orders 114 = some (.ifCond .ne 7)),
  by intros; exact G_at (by decide +kernel : fetch mX11_orders 117 = some (.iload_n 3)),
  by intros; exact G_at (by decide +kernel : fetch mX11_orders 118 = some (.goto 4)),
  by intros; exact G_at (by decide +kernel : fetch mX11_orders 121 = some (.iload_n 2)),
  by intros; exact G_reti (by decide +kernel : fetch mX11_orders 122 = some (.ireturn)) (by decide +kernel),
  by decide +kernel,
  by decide +kernel,
  by decide +kernel,
  by decide +kernel,
  by decide +kernel,
  by decide +kernel,
  by decide +kernel,
  by decide +kernel,
  by decide +kernel⟩
theorem gX11_deputies : (∀ (n d : Nat) (L : List (Option iV)) (st : List iV) (h : iH) (Q : Option iV → iH → Prop), G sp sc [68, 85] d mX11_deputies (n + 1) 0 L st h Q = (match ld L 0 with | some (.inr (.inr (r + 1))) => G sp sc [68, 85] d mX11_deputies n 1 L (.inr (.inr (r + 1)) :: st) h Q | _ => False)) ∧
  (∀ (n d : Nat) (L : List (Option iV)) (r : List iV) (m : Nat) (h : iH) (Q : Option iV → iH → Prop), G sp sc [68, 85] d mX11_deputies (n + 1) 1 L (.inr (.inr (m + 2)) :: r) h Q = (match h.1[m]? with | some (.inl (ci, fs)) => (match lkF 11 17 ci with | some k => (match fs[k]? with | some v => G sp sc [68, 85] d mX11_deputies n 4 L (v :: r) h Q | none => False) | none => False) | _ => False)) ∧
  (∀ (n d : Nat) (L : List (Option iV)) (st : List iV) (h : iH) (Q : Option iV → iH → Prop), G sp sc [68, 85] d mX11_deputies (n + 1) 4 L st h Q = (match ld L 1 with | some (.inl x) => G sp sc [68, 85] d mX11_deputies n 5 L (.inl x :: st) h Q | _ => False)) ∧
  (∀ (n d : Nat) (L : List (Option iV)) (r : List iV) (m : Nat) (z0 : iV) (h : iH) (Q : Option iV → iH → Prop), G sp sc [68, 85] (d + 1) mX11_deputies (n + 1) 5 L (z0 :: .inr (.inr (m + 2)) :: r) h Q = (match h.1[m]? with | some (.inl (ci, _)) => (match lkC 11 185 ci with | some (y1, n1, kd) => (n1 = 1 ∧ (kd = 2 ∨ kd = 3 ∨ kd = 8) ∧ cs r ≤ 8) ∧ Call sp sc d y1 [.inr (.inr (m + 2)), z0] h (fun q h1 => GC sp sc [68, 85] (d + 1) mX11_deputies n 8 L q r h h1 Q) | none => False) | _ => False)) ∧
  (∀ (n d : Nat) (L : List (Option iV)) (a : Int) (r : List iV) (h : iH) (Q : Option iV → iH → Prop), G sp sc [68, 85] d mX11_deputies (n + 1) 8 L (.inl a :: r) h Q = (inI a = true ∧ (a = 0 → G sp sc [68, 85] d mX11_deputies n 20 L r h Q) ∧ (¬ (a = 0) → G sp sc [68, 85] d mX11_deputies n 11 L r h Q))) ∧
  (∀ (n d : Nat) (L : List (Option iV)) (st : List iV) (h : iH) (Q : Option iV → iH → Prop), G sp sc [68, 85] d mX11_deputies (n + 1) 11 L st h Q = (match ld L 2 with | some (.inl x) => G sp sc [68, 85] d mX11_deputies n 12 L (.inl x :: st) h Q | _ => False)) ∧
  (∀ (n d : Nat) (L : List (Option iV)) (a : Int) (r : List iV) (h : iH) (Q : Option iV → iH → Prop), G sp sc [68, 85] d mX11_deputies (n + 1) 12 L (.inl a :: r) h Q = (inI a = true ∧ (a < 0 → G sp sc [68, 85] d mX11_deputies n 20 L r h Q) ∧ (¬ (a < 0) → G sp sc [68, 85] d mX11_deputies n 15 L r h Q))) ∧
  (∀ (n d : Nat) (L : List (Option iV)) (st : List iV) (h : iH) (Q : Option iV → iH → Prop), G sp sc [68, 85] d mX11_deputies (n + 1) 15 L st h Q = (match ld L 2 with | some (.inl x) => G sp sc [68, 85] d mX11_deputies n 16 L (.inl x :: st) h Q | _ => False)) ∧
  (∀ (n d : Nat) (L : List (Option iV)) (st : List iV) (h : iH) (Q : Option iV → iH → Prop), G sp sc [68, 85] d mX11_deputies (n + 1) 16 L st h Q = G sp sc [68, 85] d mX11_deputies n 17 L (.inl 1 :: st) h Q) ∧
  (∀ (n d : Nat) (L : List (Option iV)) (a : Int) (b : Int) (r : List iV) (h : iH) (Q : Option iV → iH → Prop), G sp sc [68, 85] d mX11_deputies (n + 1) 17 L (.inl b :: .inl a :: r) h Q = ((inI a = true ∧ inI b = true) ∧ (a ≤ b → G sp sc [68, 85] d mX11_deputies n 22 L r h Q) ∧ (¬ (a ≤ b) → G sp sc [68, 85] d mX11_deputies n 20 L r h Q))) ∧
  (∀ (n d : Nat) (L : List (Option iV)) (st : List iV) (h : iH) (Q : Option iV → iH → Prop), G sp sc [68, 85] d mX11_deputies (n + 1) 20 L st h Q = G sp sc [68, 85] d mX11_deputies n 21 L (.inl (-1) :: st) h Q) ∧
  (∀ (n d : Nat) (L : List (Option iV)) (a : Int) (h : iH) (Q : Option iV → iH → Prop), G sp sc [68, 85] d mX11_deputies (n + 1) 21 L [.inl a] h Q = Q (some (.inl a)) h) ∧
  (∀ (n d : Nat) (L : List (Option iV)) (st : List iV) (h : iH) (Q : Option iV → iH → Prop), G sp sc [68, 85] d mX11_deputies (n + 1) 22 L st h Q = (match ld L 0 with | some (.inr (.inr (r + 1))) => G sp sc [68, 85] d mX11_deputies n 23 L (.inr (.inr (r + 1)) :: st) h Q | _ => False)) ∧
  (∀ (n d : Nat) (L : List (Option iV)) (r : List iV) (m : Nat) (h : iH) (Q : Option iV → iH → Prop), G sp sc [68, 85] d mX11_deputies (n + 1) 23 L (.inr (.inr (m + 2)) :: r) h Q = (match h.1[m]? with | some (.inl (ci, fs)) => (match lkF 11 17 ci with | some k => (match fs[k]? with | some v => G sp sc [68, 85] d mX11_deputies n 26 L (v :: r) h Q | none => False) | none => False) | _ => False)) ∧
  (∀ (n d : Nat) (L : List (Option iV)) (st : List iV) (h : iH) (Q : Option iV → iH → Prop), G sp sc [68, 85] d mX11_deputies (n + 1) 26 L st h Q = (match ld L 1 with | some (.inl x) => G sp sc [68, 85] d mX11_deputies n 27 L (.inl x :: st) h Q | _ => False)) ∧
  (∀ (n d : Nat) (L : List (Option iV)) (r : List iV) (m : Nat) (z0 : iV) (h : iH) (Q : Option iV → iH → Prop), G sp sc [68, 85] (d + 1) mX11_deputies (n + 1) 27 L (z0 :: .inr (.inr (m + 2)) :: r) h Q = (match h.1[m]? with | some (.inl (ci, _)) => (match lkC 11 200 ci with | some (y1, n1, kd) => (n1 = 1 ∧ (kd = 2 ∨ kd = 3 ∨ kd = 8) ∧ cs r ≤ 8) ∧ Call sp sc d y1 [.inr (.inr (m + 2)), z0] h (fun q h1 => GC sp sc [68, 85] (d + 1) mX11_deputies n 30 L q r h h1 Q) | none => False) | _ => False)) ∧
  (∀ (n d : Nat) (L : List (Option iV)) (a : Int) (r : List iV) (h : iH) (Q : Option iV → iH → Prop), G sp sc [68, 85] d mX11_deputies (n + 1) 30 L (.inl a :: r) h Q = (inI a = true ∧ (¬ a = 0 → G sp sc [68, 85] d mX11_deputies n 36 L r h Q) ∧ (¬ (¬ a = 0) → G sp sc [68, 85] d mX11_deputies n 33 L r h Q))) ∧
  (∀ (n d : Nat) (L : List (Option iV)) (st : List iV) (h : iH) (Q : Option iV → iH → Prop), G sp sc [68, 85] d mX11_deputies (n + 1) 33 L st h Q = ((-128 ≤ ((-4) : Int) ∧ ((-4) : Int) < 128) ∧ G sp sc [68, 85] d mX11_deputies n 35 L (.inl (-4) :: st) h Q)) ∧
  (∀ (n d : Nat) (L : List (Option iV)) (a : Int) (h : iH) (Q : Option iV → iH → Prop), G sp sc [68, 85] d mX11_deputies (n + 1) 35 L [.inl a] h Q = Q (some (.inl a)) h) ∧
  (∀ (n d : Nat) (L : List (Option iV)) (st : List iV) (h : iH) (Q : Option iV → iH → Prop), G sp sc [68, 85] d mX11_deputies (n + 1) 36 L st h Q = (match ld L 0 with | some (.inr (.inr (r + 1))) => G sp sc [68, 85] d mX11_deputies n 37 L (.inr (.inr (r + 1)) :: st) h Q | _ => False)) ∧
  (∀ (n d : Nat) (L : List (Option iV)) (r : List iV) (m : Nat) (h : iH) (Q : Option iV → iH → Prop), G sp sc [68, 85] d mX11_deputies (n + 1) 37 L (.inr (.inr (m + 2)) :: r) h Q = (match h.1[m]? with | some (.inl (ci, fs)) => (match lkF 11 17 ci with | some k => (match fs[k]? with | some v => G sp sc [68, 85] d mX11_deputies n 40 L (v :: r) h Q | none => False) | none => False) | _ => False)) ∧
  (∀ (n d : Nat) (L : List (Option iV)) (r : List iV) (m : Nat) (h : iH) (Q : Option iV → iH → Prop), G sp sc [68, 85] d mX11_deputies (n + 1) 40 L (.inr (.inr (m + 2)) :: r) h Q = (match h.1[m]? with | some (.inl (ci, fs)) => (match lkF 11 188 ci with | some k => (match fs[k]? with | some v => G sp sc [68, 85] d mX11_deputies n 43 L (v :: r) h Q | none => False) | none => False) | _ => False)) ∧
  (∀ (n d : Nat) (L : List (Option iV)) (st : List iV) (h : iH) (Q : Option iV → iH → Prop), G sp sc [68, 85] d mX11_deputies (n + 1) 43 L st h Q = (match ld L 1 with | some (.inl x) => G sp sc [68, 85] d mX11_deputies n 44 L (.inl x :: st) h Q | _ => False)) ∧
  (∀ (n d : Nat) (L : List (Option iV)) (r : List iV) (j : Int) (m : Nat) (h : iH) (Q : Option iV → iH → Prop), G sp sc [68, 85] d mX11_deputies (n + 1) 44 L (.inl j :: .inr (.inr (m + 2)) :: r) h Q = (match h.1[m]? with | some (.inr (.inl (0, xs))) => inA j xs.length = true ∧ G sp sc [68, 85] d mX11_deputies n 45 L (.inl (xs.getD j.toNat 0) :: r) h Q | _ => False)) ∧
  (∀ (n d : Nat) (L : List (Option iV)) (r : List iV) (x : Int) (h : iH) (Q : Option iV → iH → Prop), G sp sc [68, 85] d mX11_deputies (n + 1) 45 L (.inl x :: r) h Q = (match st1 L 3 (.inl x) with | some L' => G sp sc [68, 85] d mX11_deputies n 46 L' r h Q | none => False)) ∧
  (∀ (n d : Nat) (L : List (Option iV)) (st : List iV) (h : iH) (Q : Option iV → iH → Prop), G sp sc [68, 85] d mX11_deputies (n + 1) 46 L st h Q = (match ld L 0 with | some (.inr (.inr (r + 1))) => G sp sc [68, 85] d mX11_deputies n 47 L (.inr (.inr (r + 1)) :: st) h Q | _ => False)) ∧
  (∀ (n d : Nat) (L : List (Option iV)) (r : List iV) (m : Nat) (h : iH) (Q : Option iV → iH → Prop), G sp sc [68, 85] d mX11_deputies (n + 1) 47 L (.inr (.inr (m + 2)) :: r) h Q = (match h.1[m]? with | some (.inl (ci, fs)) => (match lkF 11 17 ci with | some k => (match fs[k]? with | some v => G sp sc [68, 85] d mX11_deputies n 50 L (v :: r) h Q | none => False) | none => False) | _ => False)) ∧
  (∀ (n d : Nat) (L : List (Option iV)) (r : List iV) (m : Nat) (h : iH) (Q : Option iV → iH → Prop), G sp sc [68, 85] d mX11_deputies (n + 1) 50 L (.inr (.inr (m + 2)) :: r) h Q = (match h.1[m]? with | some (.inl (ci, fs)) => (match lkF 11 191 ci with | some k => (match fs[k]? with | some v => G sp sc [68, 85] d mX11_deputies n 53 L (v :: r) h Q | none => False) | none => False) | _ => False)) ∧
  (∀ (n d : Nat) (L : List (Option iV)) (st : List iV) (h : iH) (Q : Option iV → iH → Prop), G sp sc [68, 85] d mX11_deputies (n + 1) 53 L st h Q = (match ld L 1 with | some (.inl x) => G sp sc [68, 85] d mX11_deputies n 54 L (.inl x :: st) h Q | _ => False)) ∧
  (∀ (n d : Nat) (L : List (Option iV)) (r : List iV) (j : Int) (m : Nat) (h : iH) (Q : Option iV → iH → Prop), G sp sc [68, 85] d mX11_deputies (n + 1) 54 L (.inl j :: .inr (.inr (m + 2)) :: r) h Q = (match h.1[m]? with | some (.inr (.inl (0, xs))) => inA j xs.length = true ∧ G sp sc [68, 85] d mX11_deputies n 55 L (.inl (xs.getD j.toNat 0) :: r) h Q | _ => False)) ∧
  (∀ (n d : Nat) (L : List (Option iV)) (r : List iV) (x : Int) (h : iH) (Q : Option iV → iH → Prop), G sp sc [68, 85] d mX11_deputies (n + 1) 55 L (.inl x :: r) h Q = (match st1 L 4 (.inl x) with | some L' => G sp sc [68, 85] d mX11_deputies n 57 L' r h Q | none => False)) ∧
  (∀ (n d : Nat) (L : List (Option iV)) (st : List iV) (h : iH) (Q : Option iV → iH → Prop), G sp sc [68, 85] d mX11_deputies (n + 1) 57 L st h Q = ((-128 ≤ (61 : Int) ∧ (61 : Int) < 128) ∧ G sp sc [68, 85] d mX11_deputies n 59 L (.inl 61 :: st) h Q)) ∧
  (∀ (n d : Nat) (L : List (Option iV)) (r : List iV) (x : Int) (h : iH) (Q : Option iV → iH → Prop), G sp sc [68, 85] d mX11_deputies (n + 1) 59 L (.inl x :: r) h Q = (match st1 L 5 (.inl x) with | some L' => G sp sc [68, 85] d mX11_deputies n 61 L' r h Q | none => False)) ∧
  (∀ (n d : Nat) (L : List (Option iV)) (st : List iV) (h : iH) (Q : Option iV → iH → Prop), G sp sc [68, 85] d mX11_deputies (n + 1) 61 L st h Q = ((-128 ≤ ((-4) : Int) ∧ ((-4) : Int) < 128) ∧ G sp sc [68, 85] d mX11_deputies n 63 L (.inl (-4) :: st) h Q)) ∧
  (∀ (n d : Nat) (L : List (Option iV)) (r : List iV) (x : Int) (h : iH) (Q : Option iV → iH → Prop), G sp sc [68, 85] d mX11_deputies (n + 1) 63 L (.inl x :: r) h Q = (match st1 L 6 (.inl x) with | some L' => G sp sc [68, 85] d mX11_deputies n 65 L' r h Q | none => False)) ∧
  (∀ (n d : Nat) (L : List (Option iV)) (st : List iV) (h : iH) (Q : Option iV → iH → Prop), G sp sc [68, 85] d mX11_deputies (n + 1) 65 L st h Q = G sp sc [68, 85] d mX11_deputies n 66 L (.inl (-1) :: st) h Q) ∧
  (∀ (n d : Nat) (L : List (Option iV)) (r : List iV) (x : Int) (h : iH) (Q : Option iV → iH → Prop), G sp sc [68, 85] d mX11_deputies (n + 1) 66 L (.inl x :: r) h Q = (match st1 L 7 (.inl x) with | some L' => Run sp sc d mX11_deputies 68 L' r h Q | none => False)) ∧
  (∀ (n d : Nat) (L : List (Option iV)) (st : List iV) (h : iH) (Q : Option iV → iH → Prop), G sp sc [68, 85] d mX11_deputies (n + 1) 68 L st h Q = (match ld L 7 with | some (.inl x) => G sp sc [68, 85] d mX11_deputies n 70 L (.inl x :: st) h Q | _ => False)) ∧
  (∀ (n d : Nat) (L : List (Option iV)) (st : List iV) (h : iH) (Q : Option iV → iH → Prop), G sp sc [68, 85] d mX11_deputies (n + 1) 70 L st h Q = (match ld L 0 with | some (.inr (.inr (r + 1))) => G sp sc [68, 85] d mX11_deputies n 71 L (.inr (.inr (r + 1)) :: st) h Q | _ => False)) ∧
  (∀ (n d : Nat) (L : List (Option iV)) (r : List iV) (m : Nat) (h : iH) (Q : Option iV → iH → Prop), G sp sc [68, 85] d mX11_deputies (n + 1) 71 L (.inr (.inr (m + 2)) :: r) h Q = (match h.1[m]? with | some (.inl (ci, fs)) => (match lkF 11 17 ci with | some k => (match fs[k]? with | some v => G sp sc [68, 85] d mX11_deputies n 74 L (v :: r) h Q | none => False) | none => False) | _ => False)) ∧
  (∀ (n d : Nat) (L : List (Option iV)) (r : List iV) (m : Nat) (h : iH) (Q : Option iV → iH → Prop), G sp sc [68, 85] d mX11_deputies (n + 1) 74 L (.inr (.inr (m + 2)) :: r) h Q = (match h.1[m]? with | some (.inl (ci, fs)) => (match lkF 11 261 ci with | some k => (match fs[k]? with | some v => G sp sc [68, 85] d mX11_deputies n 77 L (v :: r) h Q | none => False) | none => False) | _ => False)) ∧
  (∀ (n d : Nat) (L : List (Option iV)) (st : List iV) (h : iH) (Q : Option iV → iH → Prop), G sp sc [68, 85] d mX11_deputies (n + 1) 77 L st h Q = G sp sc [68, 85] d mX11_deputies n 78 L (.inl 0 :: st) h Q) ∧
  (∀ (n d : Nat) (L : List (Option iV)) (r : List iV) (j : Int) (m : Nat) (h : iH) (Q : Option iV → iH → Prop), G sp sc [68, 85] d mX11_deputies (n + 1) 78 L (.inl j :: .inr (.inr (m + 2)) :: r) h Q = (match h.1[m]? with | some (.inr (.inl (0, xs))) => inA j xs.length = true ∧ G sp sc [68, 85] d mX11_deputies n 79 L (.inl (xs.getD j.toNat 0) :: r) h Q | _ => False)) ∧
  (∀ (n d : Nat) (L : List (Option iV)) (a : Int) (b : Int) (r : List iV) (h : iH) (Q : Option iV → iH → Prop), G sp sc [68, 85] d mX11_deputies (n + 1) 79 L (.inl b :: .inl a :: r) h Q = ((inI a = true ∧ inI b = true) ∧ (b ≤ a → G sp sc [68, 85] d mX11_deputies n 160 L r h Q) ∧ (¬ (b ≤ a) → G sp sc [68, 85] d mX11_deputies n 82 L r h Q))) ∧
  (∀ (n d : Nat) (L : List (Option iV)) (st : List iV) (h : iH) (Q : Option iV → iH → Prop), G sp sc [68, 85] d mX11_deputies (n + 1) 82 L st h Q = G sp sc [68, 85] d mX11_deputies n 83 L (.inl (-1) :: st) h Q) ∧
  (∀ (n d : Nat) (L : List (Option iV)) (r : List iV) (x : Int) (h : iH) (Q : Option iV → iH → Prop), G sp sc [68, 85] d mX11_deputies (n + 1) 83 L (.inl x :: r) h Q = (match st1 L 8 (.inl x) with | some L' => Run sp sc d mX11_deputies 85 L' r h Q | none => False)) ∧
  (∀ (n d : Nat) (L : List (Option iV)) (st : List iV) (h : iH) (Q : Option iV → iH → Prop), G sp sc [68, 85] d mX11_deputies (n + 1) 85 L st h Q = (match ld L 8 with | some (.inl x) => G sp sc [68, 85] d mX11_deputies n 87 L (.inl x :: st) h Q | _ => False)) ∧
  (∀ (n d : Nat) (L : List (Option iV)) (st : List iV) (h : iH) (Q : Option iV → iH → Prop), G sp sc [68, 85] d mX11_deputies (n + 1) 87 L st h Q = (match ld L 0 with | some (.inr (.inr (r + 1))) => G sp sc [68, 85] d mX11_deputies n 88 L (.inr (.inr (r + 1)) :: st) h Q | _ => False)) ∧
  (∀ (n d : Nat) (L : List (Option iV)) (r : List iV) (m : Nat) (h : iH) (Q : Option iV → iH → Prop), G sp sc [68, 85] d mX11_deputies (n + 1) 88 L (.inr (.inr (m + 2)) :: r) h Q = (match h.1[m]? with | some (.inl (ci, fs)) => (match lkF 11 17 ci with | some k => (match fs[k]? with | some v => G sp sc [68, 85] d mX11_deputies n 91 L (v :: r) h Q | none => False) | none => False) | _ => False)) ∧
  (∀ (n d : Nat) (L : List (Option iV)) (r : List iV) (m : Nat) (h : iH) (Q : Option iV → iH → Prop), G sp sc [68, 85] d mX11_deputies (n + 1) 91 L (.inr (.inr (m + 2)) :: r) h Q = (match h.1[m]? with | some (.inl (ci, fs)) => (match lkF 11 261 ci with | some k => (match fs[k]? with | some v => G sp sc [68, 85] d mX11_deputies n 94 L (v :: r) h Q | none => False) | none => False) | _ => False)) ∧
  (∀ (n d : Nat) (L : List (Option iV)) (st : List iV) (h : iH) (Q : Option iV → iH → Prop), G sp sc [68, 85] d mX11_deputies (n + 1) 94 L st h Q = G sp sc [68, 85] d mX11_deputies n 95 L (.inl 1 :: st) h Q) ∧
  (∀ (n d : Nat) (L : List (Option iV)) (r : List iV) (j : Int) (m : Nat) (h : iH) (Q : Option iV → iH → Prop), G sp sc [68, 85] d mX11_deputies (n + 1) 95 L (.inl j :: .inr (.inr (m + 2)) :: r) h Q = (match h.1[m]? with | some (.inr (.inl (0, xs))) => inA j xs.length = true ∧ G sp sc [68, 85] d mX11_deputies n 96 L (.inl (xs.getD j.toNat 0) :: r) h Q | _ => False)) ∧
  (∀ (n d : Nat) (L : List (Option iV)) (a : Int) (b : Int) (r : List iV) (h : iH) (Q : Option iV → iH → Prop), G sp sc [68, 85] d mX11_deputies (n + 1) 96 L (.inl b :: .inl a :: r) h Q = ((inI a = true ∧ inI b = true) ∧ (b ≤ a → G sp sc [68, 85] d mX11_deputies n 154 L r h Q) ∧ (¬ (b ≤ a) → G sp sc [68, 85] d mX11_deputies n 99 L r h Q))) ∧
  (∀ (n d : Nat) (L : List (Option iV)) (st : List iV) (h : iH) (Q : Option iV → iH → Prop), G sp sc [68, 85] d mX11_deputies (n + 1) 99 L st h Q = (match ld L 7 with | some (.inl x) => G sp sc [68, 85] d mX11_deputies n 101 L (.inl x :: st) h Q | _ => False)) ∧
  (∀ (n d : Nat) (L : List (Option iV)) (st : List iV) (h : iH) (Q : Option iV → iH → Prop), G sp sc [68, 85] d mX11_deputies (n + 1) 101 L st h Q = (match ld L 3 with | some (.inl x) => G sp sc [68, 85] d mX11_deputies n 102 L (.inl x :: st) h Q | _ => False)) ∧
  (∀ (n d : Nat) (L : List (Option iV)) (a : Int) (b : Int) (r : List iV) (h : iH) (Q : Option iV → iH → Prop), G sp sc [68, 85] d mX11_deputies (n + 1) 102 L (.inl b :: .inl a :: r) h Q = ((inI a = true ∧ inI b = true) ∧ (a = b → G sp sc [68, 85] d mX11_deputies n 148 L r h Q) ∧ (¬ (a = b) → G sp sc [68, 85] d mX11_deputies n 105 L r h Q))) ∧
  (∀ (n d : Nat) (L : List (Option iV)) (st : List iV) (h : iH) (Q : Option iV → iH → Prop), G sp sc [68, 85] d mX11_deputies (n + 1) 105 L st h Q = (match ld L 8 with | some (.inl x) => G sp sc [68, 85] d mX11_deputies n 107 L (.inl x :: st) h Q | _ => False)) ∧
  (∀ (n d : Nat) (L : List (Option iV)) (st : List iV) (h : iH) (Q : Option iV → iH → Prop), G sp sc [68, 85] d mX11_deputies (n + 1) 107 L st h Q = (match ld L 4 with | some (.inl x) => G sp sc [68, 85] d mX11_deputies n 109 L (.inl x :: st) h Q | _ => False)) ∧
  (∀ (n d : Nat) (L : List (Option iV)) (a : Int) (b : Int) (r : List iV) (h : iH) (Q : Option iV → iH → Prop), G sp sc [68, 85] d mX11_deputies (n + 1) 109 L (.inl b :: .inl a :: r) h Q = ((inI a = true ∧ inI b = true) ∧ (a = b → G sp sc [68, 85] d mX11_deputies n 148 L r h Q) ∧ (¬ (a = b) → G sp sc [68, 85] d mX11_deputies n 112 L r h Q))) ∧
  (∀ (n d : Nat) (L : List (Option iV)) (st : List iV) (h : iH) (Q : Option iV → iH → Prop), G sp sc [68, 85] d mX11_deputies (n + 1) 112 L st h Q = (match ld L 0 with | some (.inr (.inr (r + 1))) => G sp sc [68, 85] d mX11_deputies n 113 L (.inr (.inr (r + 1)) :: st) h Q | _ => False)) ∧
  (∀ (n d : Nat) (L : List (Option iV)) (st : List iV) (h : iH) (Q : Option iV → iH → Prop), G sp sc [68, 85] d mX11_deputies (n + 1) 113 L st h Q = (match ld L 1 with | some (.inl x) => G sp sc [68, 85] d mX11_deputies n 114 L (.inl x :: st) h Q | _ => False)) ∧
  (∀ (n d : Nat) (L : List (Option iV)) (st : List iV) (h : iH) (Q : Option iV → iH → Prop), G sp sc [68, 85] d mX11_deputies (n + 1) 114 L st h Q = (match ld L 7 with | some (.inl x) => G sp sc [68, 85] d mX11_deputies n 116 L (.inl x :: st) h Q | _ => False)) ∧
  (∀ (n d : Nat) (L : List (Option iV)) (st : List iV) (h : iH) (Q : Option iV → iH → Prop), G sp sc [68, 85] d mX11_deputies (n + 1) 116 L st h Q = (match ld L 8 with | some (.inl x) => G sp sc [68, 85] d mX11_deputies n 118 L (.inl x :: st) h Q | _ => False)) ∧
  (∀ (n d : Nat) (L : List (Option iV)) (r : List iV) (m : Nat) (z0 : iV) (z1 : iV) (z2 : iV) (h : iH) (Q : Option iV → iH → Prop), G sp sc [68, 85] (d + 1) mX11_deputies (n + 1) 118 L (z2 :: z1 :: z0 :: .inr (.inr (m + 2)) :: r) h Q = (match h.1[m]? with | some (.inl (ci, _)) => (match lkC 11 264 ci with | some (y1, n1, kd) => (n1 = 3 ∧ (kd = 2 ∨ kd = 3 ∨ kd = 8) ∧ cs r ≤ 8) ∧ Call sp sc d y1 [.inr (.inr (m + 2)), z0, z1, z2] h (fun q h1 => GC sp sc [68, 85] (d + 1) mX11_deputies n 121 L q r h h1 Q) | none => False) | _ => False)) ∧
  (∀ (n d : Nat) (L : List (Option iV)) (r : List iV) (x : Int) (h : iH) (Q : Option iV → iH → Prop), G sp sc [68, 85] d mX11_deputies (n + 1) 121 L (.inl x :: r) h Q = (match st1 L 9 (.inl x) with | some L' => G sp sc [68, 85] d mX11_deputies n 123 L' r h Q | none => False)) ∧
  (∀ (n d : Nat) (L : List (Option iV)) (st : List iV) (h : iH) (Q : Option iV → iH → Prop), G sp sc [68, 85] d mX11_deputies (n + 1) 123 L st h Q = (match ld L 9 with | some (.inl x) => G sp sc [68, 85] d mX11_deputies n 125 L (.inl x :: st) h Q | _ => False)) ∧
  (∀ (n d : Nat) (L : List (Option iV)) (st : List iV) (h : iH) (Q : Option iV → iH → Prop), G sp sc [68, 85] d mX11_deputies (n + 1) 125 L st h Q = (match ld L 5 with | some (.inl x) => G sp sc [68, 85] d mX11_deputies n 127 L (.inl x :: st) h Q | _ => False)) ∧
  (∀ (n d : Nat) (L : List (Option iV)) (a : Int) (b : Int) (r : List iV) (h : iH) (Q : Option iV → iH → Prop), G sp sc [68, 85] d mX11_deputies (n + 1) 127 L (.inl b :: .inl a :: r) h Q = ((inI a = true ∧ inI b = true) ∧ (b ≤ a → G sp sc [68, 85] d mX11_deputies n 148 L r h Q) ∧ (¬ (b ≤ a) → G sp sc [68, 85] d mX11_deputies n 130 L r h Q))) ∧
  (∀ (n d : Nat) (L : List (Option iV)) (st : List iV) (h : iH) (Q : Option iV → iH → Prop), G sp sc [68, 85] d mX11_deputies (n + 1) 130 L st h Q = (match ld L 9 with | some (.inl x) => G sp sc [68, 85] d mX11_deputies n 132 L (.inl x :: st) h Q | _ => False)) ∧
  (∀ (n d : Nat) (L : List (Option iV)) (r : List iV) (x : Int) (h : iH) (Q : Option iV → iH → Prop), G sp sc [68, 85] d mX11_deputies (n + 1) 132 L (.inl x :: r) h Q = (match st1 L 5 (.inl x) with | some L' => G sp sc [68, 85] d mX11_deputies n 134 L' r h Q | none => False)) ∧
  (∀ (n d : Nat) (L : List (Option iV)) (st : List iV) (h : iH) (Q : Option iV → iH → Prop), G sp sc [68, 85] d mX11_deputies (n + 1) 134 L st h Q = ((-128 ≤ (10 : Int) ∧ (10 : Int) < 128) ∧ G sp sc [68, 85] d mX11_deputies n 136 L (.inl 10 :: st) h Q)) ∧
  (∀ (n d : Nat) (L : List (Option iV)) (st : List iV) (h : iH) (Q : Option iV → iH → Prop), G sp sc [68, 85] d mX11_deputies (n + 1) 136 L st h Q = (match ld L 7 with | some (.inl x) => G sp sc [68, 85] d mX11_deputies n 138 L (.inl x :: st) h Q | _ => False)) ∧
  (∀ (n d : Nat) (L : List (Option iV)) (st : List iV) (h : iH) (Q : Option iV → iH → Prop), G sp sc [68, 85] d mX11_deputies (n + 1) 138 L st h Q = G sp sc [68, 85] d mX11_deputies n 139 L (.inl 1 :: st) h Q) ∧
  (∀ (n d : Nat) (L : List (Option iV)) (a : Int) (b : Int) (r : List iV) (h : iH) (Q : Option iV → iH → Prop), G sp sc [68, 85] d mX11_deputies (n + 1) 139 L (.inl b :: .inl a :: r) h Q = G sp sc [68, 85] d mX11_deputies n 140 L (.inl (a + b) :: r) h Q) ∧
  (∀ (n d : Nat) (L : List (Option iV)) (a : Int) (b : Int) (r : List iV) (h : iH) (Q : Option iV → iH → Prop), G sp sc [68, 85] d mX11_deputies (n + 1) 140 L (.inl b :: .inl a :: r) h Q = G sp sc [68, 85] d mX11_deputies n 141 L (.inl (a * b) :: r) h Q) ∧
  (∀ (n d : Nat) (L : List (Option iV)) (st : List iV) (h : iH) (Q : Option iV → iH → Prop), G sp sc [68, 85] d mX11_deputies (n + 1) 141 L st h Q = (match ld L 8 with | some (.inl x) => G sp sc [68, 85] d mX11_deputies n 143 L (.inl x :: st) h Q | _ => False)) ∧
  (∀ (n d : Nat) (L : List (Option iV)) (a : Int) (b : Int) (r : List iV) (h : iH) (Q : Option iV → iH → Prop), G sp sc [68, 85] d mX11_deputies (n + 1) 143 L (.inl b :: .inl a :: r) h Q = G sp sc [68, 85] d mX11_deputies n 144 L (.inl (a + b) :: r) h Q) ∧
  (∀ (n d : Nat) (L : List (Option iV)) (st : List iV) (h : iH) (Q : Option iV → iH → Prop), G sp sc [68, 85] d mX11_deputies (n + 1) 144 L st h Q = G sp sc [68, 85] d mX11_deputies n 145 L (.inl 1 :: st) h Q) ∧
  (∀ (n d : Nat) (L : List (Option iV)) (a : Int) (b : Int) (r : List iV) (h : iH) (Q : Option iV → iH → Prop), G sp sc [68, 85] d mX11_deputies (n + 1) 145 L (.inl b :: .inl a :: r) h Q = G sp sc [68, 85] d mX11_deputies n 146 L (.inl (a + b) :: r) h Q) ∧
  (∀ (n d : Nat) (L : List (Option iV)) (r : List iV) (x : Int) (h : iH) (Q : Option iV → iH → Prop), G sp sc [68, 85] d mX11_deputies (n + 1) 146 L (.inl x :: r) h Q = (match st1 L 6 (.inl x) with | some L' => G sp sc [68, 85] d mX11_deputies n 148 L' r h Q | none => False)) ∧
  (∀ (n d : Nat) (L : List (Option iV)) (st : List iV) (h : iH) (Q : Option iV → iH → Prop), G sp sc [68, 85] d mX11_deputies (n + 1) 148 L st h Q = (match ld L 8 with | some (.inl x) => (match st1 L 8 (.inl (x + 1)) with | some L' => G sp sc [68, 85] d mX11_deputies n 151 L' st h Q | none => False) | _ => False)) ∧
  (∀ (n d : Nat) (L : List (Option iV)) (st : List iV) (h : iH) (Q : Option iV → iH → Prop), G sp sc [68, 85] d mX11_deputies (n + 1) 151 L st h Q = Run sp sc d mX11_deputies 85 L st h Q) ∧
  (∀ (n d : Nat) (L : List (Option iV)) (st : List iV) (h : iH) (Q : Option iV → iH → Prop), G sp sc [68, 85] d mX11_deputies (n + 1) 154 L st h Q = (match ld L 7 with | some (.inl x) => (match st1 L 7 (.inl (x + 1)) with | some L' => G sp sc [68, 85] d mX11_deputies n 157 L' st h Q | none => False) | _ => False)) ∧
  (∀ (n d : Nat) (L : List (Option iV)) (st : List iV) (h : iH) (Q : Option iV → iH → Prop), G sp sc [68, 85] d mX11_deputies (n + 1) 157 L st h Q = Run sp sc d mX11_deputies 68 L st h Q) ∧
  (∀ (n d : Nat) (L : List (Option iV)) (st : List iV) (h : iH) (Q : Option iV → iH → Prop), G sp sc [68, 85] d mX11_deputies (n + 1) 160 L st h Q = (match ld L 2 with | some (.inl x) => G sp sc [68, 85] d mX11_deputies n 161 L (.inl x :: st) h Q | _ => False)) ∧
  (∀ (n d : Nat) (L : List (Option iV)) (a : Int) (r : List iV) (h : iH) (Q : Option iV → iH → Prop), G sp sc [68, 85] d mX11_deputies (n + 1) 161 L (.inl a :: r) h Q = (inI a = true ∧ (a = 0 → G sp sc [68, 85] d mX11_deputies n 171 L r h Q) ∧ (¬ (a = 0) → G sp sc [68, 85] d mX11_deputies n 164 L r h Q))) ∧
  (∀ (n d : Nat) (L : List (Option iV)) (st : List iV) (h : iH) (Q : Option iV → iH → Prop), G sp sc [68, 85] d mX11_deputies (n + 1) 164 L st h Q = (match ld L 6 with | some (.inl x) => G sp sc [68, 85] d mX11_deputies n 166 L (.inl x :: st) h Q | _ => False)) ∧
  (∀ (n d : Nat) (L : List (Option iV)) (st : List iV) (h : iH) (Q : Option iV → iH → Prop), G sp sc [68, 85] d mX11_deputies (n + 1) 166 L st h Q = ((-128 ≤ ((-4) : Int) ∧ ((-4) : Int) < 128) ∧ G sp sc [68, 85] d mX11_deputies n 168 L (.inl (-4) :: st) h Q)) ∧
  (∀ (n d : Nat) (L : List (Option iV)) (a : Int) (b : Int) (r : List iV) (h : iH) (Q : Option iV → iH → Prop), G sp sc [68, 85] d mX11_deputies (n + 1) 168 L (.inl b :: .inl a :: r) h Q = ((inI a = true ∧ inI b = true) ∧ (¬ a = b → G sp sc [68, 85] d mX11_deputies n 176 L r h Q) ∧ (¬ (¬ a = b) → G sp sc [68, 85] d mX11_deputies n 171 L r h Q))) ∧
  (∀ (n d : Nat) (L : List (Option iV)) (st : List iV) (h : iH) (Q : Option iV → iH → Prop), G sp sc [68, 85] d mX11_deputies (n + 1) 171 L st h Q = (match ld L 6 with | some (.inl x) => G sp sc [68, 85] d mX11_deputies n 173 L (.inl x :: st) h Q | _ => False)) ∧
  (∀ (n d : Nat) (L : List (Option iV)) (st : List iV) (h : iH) (Q : Option iV → iH → Prop), G sp sc [68, 85] d mX11_deputies (n + 1) 173 L st h Q = G sp sc [68, 85] d mX11_deputies n 178 L st h Q) ∧
  (∀ (n d : Nat) (L : List (Option iV)) (st : List iV) (h : iH) (Q : Option iV → iH → Prop), G sp sc [68, 85] d mX11_deputies (n + 1) 176 L st h Q = (match ld L 5 with | some (.inl x) => G sp sc [68, 85] d mX11_deputies n 178 L (.inl x :: st) h Q | _ => False)) ∧
  (∀ (n d : Nat) (L : List (Option iV)) (a : Int) (h : iH) (Q : Option iV → iH → Prop), G sp sc [68, 85] d mX11_deputies (n + 1) 178 L [.inl a] h Q = Q (some (.inl a)) h) ∧
  lkC 11 185 8 = some (mX8_hasCouple, 1, 2) ∧
  lkC 11 200 8 = some (mX8_goesOn, 1, 2) ∧
  lkC 11 264 11 = some (mX11_dayWedWith, 3, 2) ∧
  lkF 11 17 11 = some 2 ∧
  lkF 11 188 8 = some 6 ∧
  lkF 11 191 8 = some 7 ∧
  lkF 11 261 8 = some 0 := ⟨by intros; exact G_at (by decide +kernel : fetch mX11_deputies 0 = some (.aload_n 0)),
  by intros; exact G_own (by decide +kernel : fetch mX11_deputies 1 = some (.getfield 17)) (by decide +kernel),
  by intros; exact G_at (by decide +kernel : fetch mX11_deputies 4 = some (.iload_n 1)),
  by intros; exact G_callV (by decide +kernel : fetch mX11_deputies 5 = some (.invokevirtual 185)) (by decide +kernel) (by decide +kernel) rfl,
  by intros; exact G_at (by decide +kernel : fetch mX11_deputies 8 = some (.ifCond .eq 12)),
  by intros; exact G_at (by decide +kernel : fetch mX11_deputies 11 = some (.iload_n 2)),
  by intros; exact G_at (by decide +kernel : fetch mX11_deputies 12 = some (.ifCond .lt 8)),
  by intros; exact G_at (by decide +kernel : fetch mX11_deputies 15 = some (.iload_n 2)),
  by intros; exact G_at (by decide +kernel : fetch mX11_deputies 16 = some (.iconst 1)),
  by intros; exact G_at (by decide +kernel : fetch mX11_deputies 17 = some (.if_icmp .le 5)),
  by intros; exact G_at (by decide +kernel : fetch mX11_deputies 20 = some (.iconst (-1))),
  by intros; exact G_reti (by decide +kernel : fetch mX11_deputies 21 = some (.ireturn)) (by decide +kernel),
  by intros; exact G_at (by decide +kernel : fetch mX11_deputies 22 = some (.aload_n 0)),
  by intros; exact G_own (by decide +kernel : fetch mX11_deputies 23 = some (.getfield 17)) (by decide +kernel),
  by intros; exact G_at (by decide +kernel : fetch mX11_deputies 26 = some (.iload_n 1)),
  by intros; exact G_callV (by decide +kernel : fetch mX11_deputies 27 = some (.invokevirtual 200)) (by decide +kernel) (by decide +kernel) rfl,
  by intros; exact G_at (by decide +kernel : fetch mX11_deputies 30 = some (.ifCond .ne 6)),
  by intros; exact G_at (by decide +kernel : fetch mX11_deputies 33 = some (.bipush (-4))),
  by intros; exact G_reti (by decide +kernel : fetch mX11_deputies 35 = some (.ireturn)) (by decide +kernel),
  by intros; exact G_at (by decide +kernel : fetch mX11_deputies 36 = some (.aload_n 0)),
  by intros; exact G_own (by decide +kernel : fetch mX11_deputies 37 = some (.getfield 17)) (by decide +kernel),
  by intros; exact G_own (by decide +kernel : fetch mX11_deputies 40 = some (.getfield 188)) (by decide +kernel),
  by intros; exact G_at (by decide +kernel : fetch mX11_deputies 43 = some (.iload_n 1)),
  by intros; exact G_at (by decide +kernel : fetch mX11_deputies 44 = some (.iaload)),
  by intros; exact G_at (by decide +kernel : fetch mX11_deputies 45 = some (.istore_n 3)),
  by intros; exact G_at (by decide +kernel : fetch mX11_deputies 46 = some (.aload_n 0)),
  by intros; exact G_own (by decide +kernel : fetch mX11_deputies 47 = some (.getfield 17)) (by decide +kernel),
  by intros; exact G_own (by decide +kernel : fetch mX11_deputies 50 = some (.getfield 191)) (by decide +kernel),
  by intros; exact G_at (by decide +kernel : fetch mX11_deputies 53 = some (.iload_n 1)),
  by intros; exact G_at (by decide +kernel : fetch mX11_deputies 54 = some (.iaload)),
  by intros; exact G_at (by decide +kernel : fetch mX11_deputies 55 = some (.istore 4)),
  by intros; exact G_at (by decide +kernel : fetch mX11_deputies 57 = some (.bipush 61)),
  by intros; exact G_at (by decide +kernel : fetch mX11_deputies 59 = some (.istore 5)),
  by intros; exact G_at (by decide +kernel : fetch mX11_deputies 61 = some (.bipush (-4))),
  by intros; exact G_at (by decide +kernel : fetch mX11_deputies 63 = some (.istore 6)),
  by intros; exact G_at (by decide +kernel : fetch mX11_deputies 65 = some (.iconst (-1))),
  by intros; exact G_at (by decide +kernel : fetch mX11_deputies 66 = some (.istore 7)),
  by intros; exact G_at (by decide +kernel : fetch mX11_deputies 68 = some (.iload 7)),
  by intros; exact G_at (by decide +kernel : fetch mX11_deputies 70 = some (.aload_n 0)),
  by intros; exact G_own (by decide +kernel : fetch mX11_deputies 71 = some (.getfield 17)) (by decide +kernel),
  by intros; exact G_own (by decide +kernel : fetch mX11_deputies 74 = some (.getfield 261)) (by decide +kernel),
  by intros; exact G_at (by decide +kernel : fetch mX11_deputies 77 = some (.iconst 0)),
  by intros; exact G_at (by decide +kernel : fetch mX11_deputies 78 = some (.iaload)),
  by intros; exact G_at (by decide +kernel : fetch mX11_deputies 79 = some (.if_icmp .ge 81)),
  by intros; exact G_at (by decide +kernel : fetch mX11_deputies 82 = some (.iconst (-1))),
  by intros; exact G_at (by decide +kernel : fetch mX11_deputies 83 = some (.istore 8)),
  by intros; exact G_at (by decide +kernel : fetch mX11_deputies 85 = some (.iload 8)),
  by intros; exact G_at (by decide +kernel : fetch mX11_deputies 87 = some (.aload_n 0)),
  by intros; exact G_own (by decide +kernel : fetch mX11_deputies 88 = some (.getfield 17)) (by decide +kernel),
  by intros; exact G_own (by decide +kernel : fetch mX11_deputies 91 = some (.getfield 261)) (by decide +kernel),
  by intros; exact G_at (by decide +kernel : fetch mX11_deputies 94 = some (.iconst 1)),
  by intros; exact G_at (by decide +kernel : fetch mX11_deputies 95 = some (.iaload)),
  by intros; exact G_at (by decide +kernel : fetch mX11_deputies 96 = some (.if_icmp .ge 58)),
  by intros; exact G_at (by decide +kernel : fetch mX11_deputies 99 = some (.iload 7)),
  by intros; exact G_at (by decide +kernel : fetch mX11_deputies 101 = some (.iload_n 3)),
  by intros; exact G_at (by decide +kernel : fetch mX11_deputies 102 = some (.if_icmp .eq 46)),
  by intros; exact G_at (by decide +kernel : fetch mX11_deputies 105 = some (.iload 8)),
  by intros; exact G_at (by decide +kernel : fetch mX11_deputies 107 = some (.iload 4)),
  by intros; exact G_at (by decide +kernel : fetch mX11_deputies 109 = some (.if_icmp .eq 39)),
  by intros; exact G_at (by decide +kernel : fetch mX11_deputies 112 = some (.aload_n 0)),
  by intros; exact G_at (by decide +kernel : fetch mX11_deputies 113 = some (.iload_n 1)),
  by intros; exact G_at (by decide +kernel : fetch mX11_deputies 114 = some (.iload 7)),
  by intros; exact G_at (by decide +kernel : fetch mX11_deputies 116 = some (.iload 8)),
  by intros; exact G_callV (by decide +kernel : fetch mX11_deputies 118 = some (.invokevirtual 264)) (by decide +kernel) (by decide +kernel) rfl,
  by intros; exact G_at (by decide +kernel : fetch mX11_deputies 121 = some (.istore 9)),
  by intros; exact G_at (by decide +kernel : fetch mX11_deputies 123 = some (.iload 9)),
  by intros; exact G_at (by decide +kernel : fetch mX11_deputies 125 = some (.iload 5)),
  by intros; exact G_at (by decide +kernel : fetch mX11_deputies 127 = some (.if_icmp .ge 21)),
  by intros; exact G_at (by decide +kernel : fetch mX11_deputies 130 = some (.iload 9)),
  by intros; exact G_at (by decide +kernel : fetch mX11_deputies 132 = some (.istore 5)),
  by intros; exact G_at (by decide +kernel : fetch mX11_deputies 134 = some (.bipush 10)),
  by intros; exact G_at (by decide +kernel : fetch mX11_deputies 136 = some (.iload 7)),
  by intros; exact G_at (by decide +kernel : fetch mX11_deputies 138 = some (.iconst 1)),
  by intros; exact G_at (by decide +kernel : fetch mX11_deputies 139 = some (.iadd)),
  by intros; exact G_at (by decide +kernel : fetch mX11_deputies 140 = some (.imul)),
  by intros; exact G_at (by decide +kernel : fetch mX11_deputies 141 = some (.iload 8)),
  by intros; exact G_at (by decide +kernel : fetch mX11_deputies 143 = some (.iadd)),
  by intros; exact G_at (by decide +kernel : fetch mX11_deputies 144 = some (.iconst 1)),
  by intros; exact G_at (by decide +kernel : fetch mX11_deputies 145 = some (.iadd)),
  by intros; exact G_at (by decide +kernel : fetch mX11_deputies 146 = some (.istore 6)),
  by intros; exact G_at (by decide +kernel : fetch mX11_deputies 148 = some (.iinc 8 1)),
  by intros; exact G_at (by decide +kernel : fetch mX11_deputies 151 = some (.goto (-66))),
  by intros; exact G_at (by decide +kernel : fetch mX11_deputies 154 = some (.iinc 7 1)),
  by intros; exact G_at (by decide +kernel : fetch mX11_deputies 157 = some (.goto (-89))),
  by intros; exact G_at (by decide +kernel : fetch mX11_deputies 160 = some (.iload_n 2)),
  by intros; exact G_at (by decide +kernel : fetch mX11_deputies 161 = some (.ifCond .eq 10)),
  by intros; exact G_at (by decide +kernel : fetch mX11_deputies 164 = some (.iload 6)),
  by intros; exact G_at (by decide +kernel : fetch mX11_deputies 166 = some (.bipush (-4))),
  by intros; exact G_at (by decide +kernel : fetch mX11_deputies 168 = some (.if_icmp .ne 8)),
  by intros; exact G_at (by decide +kernel : fetch mX11_deputies 171 = some (.iload 6)),
  by intros; exact G_at (by decide +kernel : fetch mX11_deputies 173 = some (.goto 5)),
  by intros; exact G_at (by decide +kernel : fetch mX11_deputies 176 = some (.iload 5)),
  by intros; exact G_reti (by decide +kernel : fetch mX11_deputies 178 = some (.ireturn)) (by decide +kernel),
  by decide +kernel,
  by decide +kernel,
  by decide +kernel,
  by decide +kernel,
  by decide +kernel,
  by decide +kernel,
  by decide +kernel⟩
end GG
