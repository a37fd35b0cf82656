section GG
variable {sp : Nat → List iV → iH → Option (Option iV × iH)} {sc : List Int}
theorem gX12_init : (∀ (n d : Nat) (L : List (Option iV)) (st : List iV) (h : iH) (Q : Option iV → iH → Prop), G sp sc [162] d mX12_init (n + 1) 0 L st h Q = (match ld L 0 with | some (.inr (.inr (r + 1))) => G sp sc [162] d mX12_init n 1 L (.inr (.inr (r + 1)) :: st) h Q | _ => False)) ∧
  (∀ (n d : Nat) (L : List (Option iV)) (r : List iV) (m : Nat) (h : iH) (Q : Option iV → iH → Prop), G sp sc [162] (d + 1) mX12_init (n + 1) 1 L (.inr (.inr (m + 2)) :: r) h Q = (cs r ≤ 8 ∧ G sp sc [162] (d + 1) mX12_init n 4 L r h Q)) ∧
  (∀ (n d : Nat) (L : List (Option iV)) (st : List iV) (h : iH) (Q : Option iV → iH → Prop), G sp sc [162] d mX12_init (n + 1) 4 L st h Q = (match ld L 0 with | some (.inr (.inr (r + 1))) => G sp sc [162] d mX12_init n 5 L (.inr (.inr (r + 1)) :: st) h Q | _ => False)) ∧
  (∀ (n d : Nat) (L : List (Option iV)) (st : List iV) (h : iH) (Q : Option iV → iH → Prop), G sp sc [162] d mX12_init (n + 1) 5 L st h Q = ((-128 ≤ (117 : Int) ∧ (117 : Int) < 128) ∧ G sp sc [162] d mX12_init n 7 L (.inl 117 :: st) h Q)) ∧
  (∀ (n d : Nat) (L : List (Option iV)) (r : List iV) (v : iV) (m : Nat) (h : iH) (Q : Option iV → iH → Prop), G sp sc [162] d mX12_init (n + 1) 9 L (v :: .inr (.inr (m + 2)) :: r) h Q = (match h.1[m]? with | some (.inl (ci, fs)) => (match lkF 12 9 ci with | some k => (fitV (tyT ci k) v = true ∧ k < fs.length ∧ pOK 12 true ci k = true) ∧ G sp sc [162] d mX12_init n 12 L r (h.1.set m (.inl (ci, fs.set k v)), h.2) Q | none => False) | _ => False)) ∧
  (∀ (n d : Nat) (L : List (Option iV)) (st : List iV) (h : iH) (Q : Option iV → iH → Prop), G sp sc [162] d mX12_init (n + 1) 12 L st h Q = (match ld L 0 with | some (.inr (.inr (r + 1))) => G sp sc [162] d mX12_init n 13 L (.inr (.inr (r + 1)) :: st) h Q | _ => False)) ∧
  (∀ (n d : Nat) (L : List (Option iV)) (st : List iV) (h : iH) (Q : Option iV → iH → Prop), G sp sc [162] d mX12_init (n + 1) 13 L st h Q = ((-128 ≤ (117 : Int) ∧ (117 : Int) < 128) ∧ G sp sc [162] d mX12_init n 15 L (.inl 117 :: st) h Q)) ∧
  (∀ (n d : Nat) (L : List (Option iV)) (r : List iV) (v : iV) (m : Nat) (h : iH) (Q : Option iV → iH → Prop), G sp sc [162] d mX12_init (n + 1) 17 L (v :: .inr (.inr (m + 2)) :: r) h Q = (match h.1[m]? with | some (.inl (ci, fs)) => (match lkF 12 13 ci with | some k => (fitV (tyT ci k) v = true ∧ k < fs.length ∧ pOK 12 true ci k = true) ∧ G sp sc [162] d mX12_init n 20 L r (h.1.set m (.inl (ci, fs.set k v)), h.2) Q | none => False) | _ => False)) ∧
  (∀ (n d : Nat) (L : List (Option iV)) (st : List iV) (h : iH) (Q : Option iV → iH → Prop), G sp sc [162] d mX12_init (n + 1) 20 L st h Q = (match ld L 0 with | some (.inr (.inr (r + 1))) => G sp sc [162] d mX12_init n 21 L (.inr (.inr (r + 1)) :: st) h Q | _ => False)) ∧
  (∀ (n d : Nat) (L : List (Option iV)) (st : List iV) (h : iH) (Q : Option iV → iH → Prop), G sp sc [162] d mX12_init (n + 1) 21 L st h Q = ((-128 ≤ (117 : Int) ∧ (117 : Int) < 128) ∧ G sp sc [162] d mX12_init n 23 L (.inl 117 :: st) h Q)) ∧
  (∀ (n d : Nat) (L : List (Option iV)) (r : List iV) (v : iV) (m : Nat) (h : iH) (Q : Option iV → iH → Prop), G sp sc [162] d mX12_init (n + 1) 25 L (v :: .inr (.inr (m + 2)) :: r) h Q = (match h.1[m]? with | some (.inl (ci, fs)) => (match lkF 12 16 ci with | some k => (fitV (tyT ci k) v = true ∧ k < fs.length ∧ pOK 12 true ci k = true) ∧ G sp sc [162] d mX12_init n 28 L r (h.1.set m (.inl (ci, fs.set k v)), h.2) Q | none => False) | _ => False)) ∧
  (∀ (n d : Nat) (L : List (Option iV)) (st : List iV) (h : iH) (Q : Option iV → iH → Prop), G sp sc [162] d mX12_init (n + 1) 28 L st h Q = (match ld L 0 with | some (.inr (.inr (r + 1))) => G sp sc [162] d mX12_init n 29 L (.inr (.inr (r + 1)) :: st) h Q | _ => False)) ∧
  (∀ (n d : Nat) (L : List (Option iV)) (st : List iV) (h : iH) (Q : Option iV → iH → Prop), G sp sc [162] d mX12_init (n + 1) 29 L st h Q = ((-128 ≤ (117 : Int) ∧ (117 : Int) < 128) ∧ G sp sc [162] d mX12_init n 31 L (.inl 117 :: st) h Q)) ∧
  (∀ (n d : Nat) (L : List (Option iV)) (r : List iV) (v : iV) (m : Nat) (h : iH) (Q : Option iV → iH → Prop), G sp sc [162] d mX12_init (n + 1) 33 L (v :: .inr (.inr (m + 2)) :: r) h Q = (match h.1[m]? with | some (.inl (ci, fs)) => (match lkF 12 19 ci with | some k => (fitV (tyT ci k) v = true ∧ k < fs.length ∧ pOK 12 true ci k = true) ∧ G sp sc [162] d mX12_init n 36 L r (h.1.set m (.inl (ci, fs.set k v)), h.2) Q | none => False) | _ => False)) ∧
  (∀ (n d : Nat) (L : List (Option iV)) (st : List iV) (h : iH) (Q : Option iV → iH → Prop), G sp sc [162] d mX12_init (n + 1) 36 L st h Q = (match ld L 0 with | some (.inr (.inr (r + 1))) => G sp sc [162] d mX12_init n 37 L (.inr (.inr (r + 1)) :: st) h Q | _ => False)) ∧
  (∀ (n d : Nat) (L : List (Option iV)) (st : List iV) (h : iH) (Q : Option iV → iH → Prop), G sp sc [162] d mX12_init (n + 1) 37 L st h Q = G sp sc [162] d mX12_init n 38 L (.inl 4 :: st) h Q) ∧
  (∀ (n d : Nat) (L : List (Option iV)) (r : List iV) (v : iV) (m : Nat) (h : iH) (Q : Option iV → iH → Prop), G sp sc [162] d mX12_init (n + 1) 40 L (v :: .inr (.inr (m + 2)) :: r) h Q = (match h.1[m]? with | some (.inl (ci, fs)) => (match lkF 12 22 ci with | some k => (fitV (tyT ci k) v = true ∧ k < fs.length ∧ pOK 12 true ci k = true) ∧ G sp sc [162] d mX12_init n 43 L r (h.1.set m (.inl (ci, fs.set k v)), h.2) Q | none => False) | _ => False)) ∧
  (∀ (n d : Nat) (L : List (Option iV)) (st : List iV) (h : iH) (Q : Option iV → iH → Prop), G sp sc [162] d mX12_init (n + 1) 43 L st h Q = (match ld L 0 with | some (.inr (.inr (r + 1))) => G sp sc [162] d mX12_init n 44 L (.inr (.inr (r + 1)) :: st) h Q | _ => False)) ∧
  (∀ (n d : Nat) (L : List (Option iV)) (st : List iV) (h : iH) (Q : Option iV → iH → Prop), G sp sc [162] d mX12_init (n + 1) 44 L st h Q = G sp sc [162] d mX12_init n 45 L (.inl 4 :: st) h Q) ∧
  (∀ (n d : Nat) (L : List (Option iV)) (r : List iV) (v : iV) (m : Nat) (h : iH) (Q : Option iV → iH → Prop), G sp sc [162] d mX12_init (n + 1) 47 L (v :: .inr (.inr (m + 2)) :: r) h Q = (match h.1[m]? with | some (.inl (ci, fs)) => (match lkF 12 25 ci with | some k => (fitV (tyT ci k) v = true ∧ k < fs.length ∧ pOK 12 true ci k = true) ∧ G sp sc [162] d mX12_init n 50 L r (h.1.set m (.inl (ci, fs.set k v)), h.2) Q | none => False) | _ => False)) ∧
  (∀ (n d : Nat) (L : List (Option iV)) (st : List iV) (h : iH) (Q : Option iV → iH → Prop), G sp sc [162] d mX12_init (n + 1) 50 L st h Q = (match ld L 0 with | some (.inr (.inr (r + 1))) => G sp sc [162] d mX12_init n 51 L (.inr (.inr (r + 1)) :: st) h Q | _ => False)) ∧
  (∀ (n d : Nat) (L : List (Option iV)) (st : List iV) (h : iH) (Q : Option iV → iH → Prop), G sp sc [162] d mX12_init (n + 1) 51 L st h Q = G sp sc [162] d mX12_init n 52 L (.inl 4 :: st) h Q) ∧
  (∀ (n d : Nat) (L : List (Option iV)) (r : List iV) (v : iV) (m : Nat) (h : iH) (Q : Option iV → iH → Prop), G sp sc [162] d mX12_init (n + 1) 54 L (v :: .inr (.inr (m + 2)) :: r) h Q = (match h.1[m]? with | some (.inl (ci, fs)) => (match lkF 12 28 ci with | some k => (fitV (tyT ci k) v = true ∧ k < fs.length ∧ pOK 12 true ci k = true) ∧ G sp sc [162] d mX12_init n 57 L r (h.1.set m (.inl (ci, fs.set k v)), h.2) Q | none => False) | _ => False)) ∧
  (∀ (n d : Nat) (L : List (Option iV)) (st : List iV) (h : iH) (Q : Option iV → iH → Prop), G sp sc [162] d mX12_init (n + 1) 57 L st h Q = (match ld L 0 with | some (.inr (.inr (r + 1))) => G sp sc [162] d mX12_init n 58 L (.inr (.inr (r + 1)) :: st) h Q | _ => False)) ∧
  (∀ (n d : Nat) (L : List (Option iV)) (st : List iV) (h : iH) (Q : Option iV → iH → Prop), G sp sc [162] d mX12_init (n + 1) 58 L st h Q = G sp sc [162] d mX12_init n 59 L (.inl 4 :: st) h Q) ∧
  (∀ (n d : Nat) (L : List (Option iV)) (r : List iV) (v : iV) (m : Nat) (h : iH) (Q : Option iV → iH → Prop), G sp sc [162] d mX12_init (n + 1) 61 L (v :: .inr (.inr (m + 2)) :: r) h Q = (match h.1[m]? with | some (.inl (ci, fs)) => (match lkF 12 31 ci with | some k => (fitV (tyT ci k) v = true ∧ k < fs.length ∧ pOK 12 true ci k = true) ∧ G sp sc [162] d mX12_init n 64 L r (h.1.set m (.inl (ci, fs.set k v)), h.2) Q | none => False) | _ => False)) ∧
  (∀ (n d : Nat) (L : List (Option iV)) (st : List iV) (h : iH) (Q : Option iV → iH → Prop), G sp sc [162] d mX12_init (n + 1) 64 L st h Q = (match ld L 0 with | some (.inr (.inr (r + 1))) => G sp sc [162] d mX12_init n 65 L (.inr (.inr (r + 1)) :: st) h Q | _ => False)) ∧
  (∀ (n d : Nat) (L : List (Option iV)) (st : List iV) (h : iH) (Q : Option iV → iH → Prop), G sp sc [162] d mX12_init (n + 1) 65 L st h Q = G sp sc [162] d mX12_init n 66 L (.inl 5 :: st) h Q) ∧
  (∀ (n d : Nat) (L : List (Option iV)) (r : List iV) (v : iV) (m : Nat) (h : iH) (Q : Option iV → iH → Prop), G sp sc [162] d mX12_init (n + 1) 68 L (v :: .inr (.inr (m + 2)) :: r) h Q = (match h.1[m]? with | some (.inl (ci, fs)) => (match lkF 12 34 ci with | some k => (fitV (tyT ci k) v = true ∧ k < fs.length ∧ pOK 12 true ci k = true) ∧ G sp sc [162] d mX12_init n 71 L r (h.1.set m (.inl (ci, fs.set k v)), h.2) Q | none => False) | _ => False)) ∧
  (∀ (n d : Nat) (L : List (Option iV)) (st : List iV) (h : iH) (Q : Option iV → iH → Prop), G sp sc [162] d mX12_init (n + 1) 71 L st h Q = (match ld L 0 with | some (.inr (.inr (r + 1))) => G sp sc [162] d mX12_init n 72 L (.inr (.inr (r + 1)) :: st) h Q | _ => False)) ∧
  (∀ (n d : Nat) (L : List (Option iV)) (st : List iV) (h : iH) (Q : Option iV → iH → Prop), G sp sc [162] d mX12_init (n + 1) 72 L st h Q = G sp sc [162] d mX12_init n 73 L (.inl 5 :: st) h Q) ∧
  (∀ (n d : Nat) (L : List (Option iV)) (r : List iV) (v : iV) (m : Nat) (h : iH) (Q : Option iV → iH → Prop), G sp sc [162] d mX12_init (n + 1) 75 L (v :: .inr (.inr (m + 2)) :: r) h Q = (match h.1[m]? with | some (.inl (ci, fs)) => (match lkF 12 37 ci with | some k => (fitV (tyT ci k) v = true ∧ k < fs.length ∧ pOK 12 true ci k = true) ∧ G sp sc [162] d mX12_init n 78 L r (h.1.set m (.inl (ci, fs.set k v)), h.2) Q | none => False) | _ => False)) ∧
  (∀ (n d : Nat) (L : List (Option iV)) (st : List iV) (h : iH) (Q : Option iV → iH → Prop), G sp sc [162] d mX12_init (n + 1) 78 L st h Q = (match ld L 0 with | some (.inr (.inr (r + 1))) => G sp sc [162] d mX12_init n 79 L (.inr (.inr (r + 1)) :: st) h Q | _ => False)) ∧
  (∀ (n d : Nat) (L : List (Option iV)) (st : List iV) (h : iH) (Q : Option iV → iH → Prop), G sp sc [162] d mX12_init (n + 1) 79 L st h Q = G sp sc [162] d mX12_init n 80 L (.inl 5 :: st) h Q) ∧
  (∀ (n d : Nat) (L : List (Option iV)) (r : List iV) (v : iV) (m : Nat) (h : iH) (Q : Option iV → iH → Prop), G sp sc [162] d mX12_init (n + 1) 82 L (v :: .inr (.inr (m + 2)) :: r) h Q = (match h.1[m]? with | some (.inl (ci, fs)) => (match lkF 12 40 ci with | some k => (fitV (tyT ci k) v = true ∧ k < fs.length ∧ pOK 12 true ci k = true) ∧ G sp sc [162] d mX12_init n 85 L r (h.1.set m (.inl (ci, fs.set k v)), h.2) Q | none => False) | _ => False)) ∧
  (∀ (n d : Nat) (L : List (Option iV)) (st : List iV) (h : iH) (Q : Option iV → iH → Prop), G sp sc [162] d mX12_init (n + 1) 85 L st h Q = (match ld L 0 with | some (.inr (.inr (r + 1))) => G sp sc [162] d mX12_init n 86 L (.inr (.inr (r + 1)) :: st) h Q | _ => False)) ∧
  (∀ (n d : Nat) (L : List (Option iV)) (st : List iV) (h : iH) (Q : Option iV → iH → Prop), G sp sc [162] d mX12_init (n + 1) 86 L st h Q = ((-32768 ≤ (448 : Int) ∧ (448 : Int) < 32768) ∧ G sp sc [162] d mX12_init n 89 L (.inl 448 :: st) h Q)) ∧
  (∀ (n d : Nat) (L : List (Option iV)) (r : List iV) (v : iV) (m : Nat) (h : iH) (Q : Option iV → iH → Prop), G sp sc [162] d mX12_init (n + 1) 91 L (v :: .inr (.inr (m + 2)) :: r) h Q = (match h.1[m]? with | some (.inl (ci, fs)) => (match lkF 12 43 ci with | some k => (fitV (tyT ci k) v = true ∧ k < fs.length ∧ pOK 12 true ci k = true) ∧ G sp sc [162] d mX12_init n 94 L r (h.1.set m (.inl (ci, fs.set k v)), h.2) Q | none => False) | _ => False)) ∧
  (∀ (n d : Nat) (L : List (Option iV)) (st : List iV) (h : iH) (Q : Option iV → iH → Prop), G sp sc [162] d mX12_init (n + 1) 94 L st h Q = (match ld L 0 with | some (.inr (.inr (r + 1))) => G sp sc [162] d mX12_init n 95 L (.inr (.inr (r + 1)) :: st) h Q | _ => False)) ∧
  (∀ (n d : Nat) (L : List (Option iV)) (st : List iV) (h : iH) (Q : Option iV → iH → Prop), G sp sc [162] d mX12_init (n + 1) 95 L st h Q = ((-32768 ≤ (448 : Int) ∧ (448 : Int) < 32768) ∧ G sp sc [162] d mX12_init n 98 L (.inl 448 :: st) h Q)) ∧
  (∀ (n d : Nat) (L : List (Option iV)) (r : List iV) (v : iV) (m : Nat) (h : iH) (Q : Option iV → iH → Prop), G sp sc [162] d mX12_init (n + 1) 100 L (v :: .inr (.inr (m + 2)) :: r) h Q = (match h.1[m]? with | some (.inl (ci, fs)) => (match lkF 12 46 ci with | some k => (fitV (tyT ci k) v = true ∧ k < fs.length ∧ pOK 12 true ci k = true) ∧ G sp sc [162] d mX12_init n 103 L r (h.1.set m (.inl (ci, fs.set k v)), h.2) Q | none => False) | _ => False)) ∧
  (∀ (n d : Nat) (L : List (Option iV)) (st : List iV) (h : iH) (Q : Option iV → iH → Prop), G sp sc [162] d mX12_init (n + 1) 103 L st h Q = (match ld L 0 with | some (.inr (.inr (r + 1))) => G sp sc [162] d mX12_init n 104 L (.inr (.inr (r + 1)) :: st) h Q | _ => False)) ∧
  (∀ (n d : Nat) (L : List (Option iV)) (st : List iV) (h : iH) (Q : Option iV → iH → Prop), G sp sc [162] d mX12_init (n + 1) 104 L st h Q = ((-128 ≤ (8 : Int) ∧ (8 : Int) < 128) ∧ G sp sc [162] d mX12_init n 106 L (.inl 8 :: st) h Q)) ∧
  (∀ (n d : Nat) (L : List (Option iV)) (r : List iV) (v : iV) (m : Nat) (h : iH) (Q : Option iV → iH → Prop), G sp sc [162] d mX12_init (n + 1) 108 L (v :: .inr (.inr (m + 2)) :: r) h Q = (match h.1[m]? with | some (.inl (ci, fs)) => (match lkF 12 49 ci with | some k => (fitV (tyT ci k) v = true ∧ k < fs.length ∧ pOK 12 true ci k = true) ∧ G sp sc [162] d mX12_init n 111 L r (h.1.set m (.inl (ci, fs.set k v)), h.2) Q | none => False) | _ => False)) ∧
  (∀ (n d : Nat) (L : List (Option iV)) (st : List iV) (h : iH) (Q : Option iV → iH → Prop), G sp sc [162] d mX12_init (n + 1) 111 L st h Q = (match ld L 0 with | some (.inr (.inr (r + 1))) => G sp sc [162] d mX12_init n 112 L (.inr (.inr (r + 1)) :: st) h Q | _ => False)) ∧
  (∀ (n d : Nat) (L : List (Option iV)) (st : List iV) (h : iH) (Q : Option iV → iH → Prop), G sp sc [162] d mX12_init (n + 1) 112 L st h Q = ((-128 ≤ (8 : Int) ∧ (8 : Int) < 128) ∧ G sp sc [162] d mX12_init n 114 L (.inl 8 :: st) h Q)) ∧
  (∀ (n d : Nat) (L : List (Option iV)) (r : List iV) (v : iV) (m : Nat) (h : iH) (Q : Option iV → iH → Prop), G sp sc [162] d mX12_init (n + 1) 116 L (v :: .inr (.inr (m + 2)) :: r) h Q = (match h.1[m]? with | some (.inl (ci, fs)) => (match lkF 12 52 ci with | some k => (fitV (tyT ci k) v = true ∧ k < fs.length ∧ pOK 12 true ci k = true) ∧ G sp sc [162] d mX12_init n 119 L r (h.1.set m (.inl (ci, fs.set k v)), h.2) Q | none => False) | _ => False)) ∧
  (∀ (n d : Nat) (L : List (Option iV)) (st : List iV) (h : iH) (Q : Option iV → iH → Prop), G sp sc [162] d mX12_init (n + 1) 119 L st h Q = (match ld L 0 with | some (.inr (.inr (r + 1))) => G sp sc [162] d mX12_init n 120 L (.inr (.inr (r + 1)) :: st) h Q | _ => False)) ∧
  (∀ (n d : Nat) (L : List (Option iV)) (st : List iV) (h : iH) (Q : Option iV → iH → Prop), G sp sc [162] d mX12_init (n + 1) 120 L st h Q = ((-128 ≤ (8 : Int) ∧ (8 : Int) < 128) ∧ G sp sc [162] d mX12_init n 122 L (.inl 8 :: st) h Q)) ∧
  (∀ (n d : Nat) (L : List (Option iV)) (r : List iV) (v : iV) (m : Nat) (h : iH) (Q : Option iV → iH → Prop), G sp sc [162] d mX12_init (n + 1) 124 L (v :: .inr (.inr (m + 2)) :: r) h Q = (match h.1[m]? with | some (.inl (ci, fs)) => (match lkF 12 55 ci with | some k => (fitV (tyT ci k) v = true ∧ k < fs.length ∧ pOK 12 true ci k = true) ∧ G sp sc [162] d mX12_init n 127 L r (h.1.set m (.inl (ci, fs.set k v)), h.2) Q | none => False) | _ => False)) ∧
  (∀ (n d : Nat) (L : List (Option iV)) (st : List iV) (h : iH) (Q : Option iV → iH → Prop), G sp sc [162] d mX12_init (n + 1) 127 L st h Q = (match ld L 0 with | some (.inr (.inr (r + 1))) => G sp sc [162] d mX12_init n 128 L (.inr (.inr (r + 1)) :: st) h Q | _ => False)) ∧
  (∀ (n d : Nat) (L : List (Option iV)) (st : List iV) (h : iH) (Q : Option iV → iH → Prop), G sp sc [162] d mX12_init (n + 1) 128 L st h Q = ((-128 ≤ (8 : Int) ∧ (8 : Int) < 128) ∧ G sp sc [162] d mX12_init n 130 L (.inl 8 :: st) h Q)) ∧
  (∀ (n d : Nat) (L : List (Option iV)) (r : List iV) (v : iV) (m : Nat) (h : iH) (Q : Option iV → iH → Prop), G sp sc [162] d mX12_init (n + 1) 132 L (v :: .inr (.inr (m + 2)) :: r) h Q = (match h.1[m]? with | some (.inl (ci, fs)) => (match lkF 12 58 ci with | some k => (fitV (tyT ci k) v = true ∧ k < fs.length ∧ pOK 12 true ci k = true) ∧ G sp sc [162] d mX12_init n 135 L r (h.1.set m (.inl (ci, fs.set k v)), h.2) Q | none => False) | _ => False)) ∧
  (∀ (n d : Nat) (L : List (Option iV)) (st : List iV) (h : iH) (Q : Option iV → iH → Prop), G sp sc [162] d mX12_init (n + 1) 135 L st h Q = (match ld L 0 with | some (.inr (.inr (r + 1))) => G sp sc [162] d mX12_init n 136 L (.inr (.inr (r + 1)) :: st) h Q | _ => False)) ∧
  (∀ (n d : Nat) (L : List (Option iV)) (st : List iV) (h : iH) (Q : Option iV → iH → Prop), G sp sc [162] d mX12_init (n + 1) 136 L st h Q = ((-128 ≤ (8 : Int) ∧ (8 : Int) < 128) ∧ G sp sc [162] d mX12_init n 138 L (.inl 8 :: st) h Q)) ∧
  (∀ (n d : Nat) (L : List (Option iV)) (r : List iV) (v : iV) (m : Nat) (h : iH) (Q : Option iV → iH → Prop), G sp sc [162] d mX12_init (n + 1) 140 L (v :: .inr (.inr (m + 2)) :: r) h Q = (match h.1[m]? with | some (.inl (ci, fs)) => (match lkF 12 61 ci with | some k => (fitV (tyT ci k) v = true ∧ k < fs.length ∧ pOK 12 true ci k = true) ∧ G sp sc [162] d mX12_init n 143 L r (h.1.set m (.inl (ci, fs.set k v)), h.2) Q | none => False) | _ => False)) ∧
  (∀ (n d : Nat) (L : List (Option iV)) (st : List iV) (h : iH) (Q : Option iV → iH → Prop), G sp sc [162] d mX12_init (n + 1) 143 L st h Q = (match ld L 0 with | some (.inr (.inr (r + 1))) => G sp sc [162] d mX12_init n 144 L (.inr (.inr (r + 1)) :: st) h Q | _ => False)) ∧
  (∀ (n d : Nat) (L : List (Option iV)) (st : List iV) (h : iH) (Q : Option iV → iH → Prop), G sp sc [162] d mX12_init (n + 1) 144 L st h Q = ((-32768 ≤ (800 : Int) ∧ (800 : Int) < 32768) ∧ G sp sc [162] d mX12_init n 147 L (.inl 800 :: st) h Q)) ∧
  (∀ (n d : Nat) (L : List (Option iV)) (r : List iV) (v : iV) (m : Nat) (h : iH) (Q : Option iV → iH → Prop), G sp sc [162] d mX12_init (n + 1) 149 L (v :: .inr (.inr (m + 2)) :: r) h Q = (match h.1[m]? with | some (.inl (ci, fs)) => (match lkF 12 64 ci with | some k => (fitV (tyT ci k) v = true ∧ k < fs.length ∧ pOK 12 true ci k = true) ∧ G sp sc [162] d mX12_init n 152 L r (h.1.set m (.inl (ci, fs.set k v)), h.2) Q | none => False) | _ => False)) ∧
  (∀ (n d : Nat) (L : List (Option iV)) (st : List iV) (h : iH) (Q : Option iV → iH → Prop), G sp sc [162] d mX12_init (n + 1) 152 L st h Q = (match ld L 0 with | some (.inr (.inr (r + 1))) => G sp sc [162] d mX12_init n 153 L (.inr (.inr (r + 1)) :: st) h Q | _ => False)) ∧
  (∀ (n d : Nat) (L : List (Option iV)) (r : List iV) (m : Nat) (h : iH) (Q : Option iV → iH → Prop), G sp sc [162] d mX12_init (n + 1) 153 L (.inr (.inr (m + 2)) :: r) h Q = (match h.1[m]? with | some (.inl (ci, fs)) => (match lkF 12 9 ci with | some k => (match fs[k]? with | some v => G sp sc [162] d mX12_init n 156 L (v :: r) h Q | none => False) | none => False) | _ => False)) ∧
  (∀ (n d : Nat) (L : List (Option iV)) (st : List iV) (h : iH) (Q : Option iV → iH → Prop), G sp sc [162] d mX12_init (n + 1) 156 L st h Q = G sp sc [162] d mX12_init n 157 L (.inl 4 :: st) h Q) ∧
  (∀ (n d : Nat) (L : List (Option iV)) (st : List iV) (h : iH) (Q : Option iV → iH → Prop), G sp sc [162] d mX12_init (n + 1) 157 L st h Q = ((-128 ≤ (60 : Int) ∧ (60 : Int) < 128) ∧ G sp sc [162] d mX12_init n 159 L (.inl 60 :: st) h Q)) ∧
  (∀ (n d : Nat) (L : List (Option iV)) (r : List iV) (v : Int) (j : Int) (m : Nat) (h : iH) (Q : Option iV → iH → Prop), G sp sc [162] d mX12_init (n + 1) 159 L (.inl v :: .inl j :: .inr (.inr (m + 2)) :: r) h Q = (match h.1[m]? with | some (.inr (.inl (0, xs))) => inA j xs.length = true ∧ G sp sc [162] d mX12_init n 160 L r (h.1.set m (.inr (.inl (0, xs.set j.toNat v))), h.2) Q | _ => False)) ∧
  (∀ (n d : Nat) (L : List (Option iV)) (st : List iV) (h : iH) (Q : Option iV → iH → Prop), G sp sc [162] d mX12_init (n + 1) 160 L st h Q = G sp sc [162] d mX12_init n 161 L (.inl 0 :: st) h Q) ∧
  (∀ (n d : Nat) (L : List (Option iV)) (r : List iV) (x : Int) (h : iH) (Q : Option iV → iH → Prop), G sp sc [162] d mX12_init (n + 1) 161 L (.inl x :: r) h Q = (match st1 L 1 (.inl x) with | some L' => Run sp sc d mX12_init 162 L' r h Q | none => False)) ∧
  (∀ (n d : Nat) (L : List (Option iV)) (st : List iV) (h : iH) (Q : Option iV → iH → Prop), G sp sc [162] d mX12_init (n + 1) 162 L st h Q = (match ld L 1 with | some (.inl x) => G sp sc [162] d mX12_init n 163 L (.inl x :: st) h Q | _ => False)) ∧
  (∀ (n d : Nat) (L : List (Option iV)) (st : List iV) (h : iH) (Q : Option iV → iH → Prop), G sp sc [162] d mX12_init (n + 1) 163 L st h Q = G sp sc [162] d mX12_init n 164 L (.inl 5 :: st) h Q) ∧
  (∀ (n d : Nat) (L : List (Option iV)) (a : Int) (b : Int) (r : List iV) (h : iH) (Q : Option iV → iH → Prop), G sp sc [162] d mX12_init (n + 1) 164 L (.inl b :: .inl a :: r) h Q = ((inI a = true ∧ inI b = true) ∧ (b ≤ a → G sp sc [162] d mX12_init n 182 L r h Q) ∧ (¬ (b ≤ a) → G sp sc [162] d mX12_init n 167 L r h Q))) ∧
  (∀ (n d : Nat) (L : List (Option iV)) (st : List iV) (h : iH) (Q : Option iV → iH → Prop), G sp sc [162] d mX12_init (n + 1) 167 L st h Q = (match ld L 0 with | some (.inr (.inr (r + 1))) => G sp sc [162] d mX12_init n 168 L (.inr (.inr (r + 1)) :: st) h Q | _ => False)) ∧
  (∀ (n d : Nat) (L : List (Option iV)) (r : List iV) (m : Nat) (h : iH) (Q : Option iV → iH → Prop), G sp sc [162] d mX12_init (n + 1) 168 L (.inr (.inr (m + 2)) :: r) h Q = (match h.1[m]? with | some (.inl (ci, fs)) => (match lkF 12 9 ci with | some k => (match fs[k]? with | some v => G sp sc [162] d mX12_init n 171 L (v :: r) h Q | none => False) | none => False) | _ => False)) ∧
  (∀ (n d : Nat) (L : List (Option iV)) (st : List iV) (h : iH) (Q : Option iV → iH → Prop), G sp sc [162] d mX12_init (n + 1) 171 L st h Q = G sp sc [162] d mX12_init n 172 L (.inl 5 :: st) h Q) ∧
  (∀ (n d : Nat) (L : List (Option iV)) (st : List iV) (h : iH) (Q : Option iV → iH → Prop), G sp sc [162] d mX12_init (n + 1) 172 L st h Q = (match ld L 1 with | some (.inl x) => G sp sc [162] d mX12_init n 173 L (.inl x :: st) h Q | _ => False)) ∧
  (∀ (n d : Nat) (L : List (Option iV)) (a : Int) (b : Int) (r : List iV) (h : iH) (Q : Option iV → iH → Prop), G sp sc [162] d mX12_init (n + 1) 173 L (.inl b :: .inl a :: r) h Q = G sp sc [162] d mX12_init n 174 L (.inl (a + b) :: r) h Q) ∧
  (∀ (n d : Nat) (L : List (Option iV)) (st : List iV) (h : iH) (Q : Option iV → iH → Prop), G sp sc [162] d mX12_init (n + 1) 174 L st h Q = G sp sc [162] d mX12_init n 175 L (.inl 1 :: st) h Q) ∧
  (∀ (n d : Nat) (L : List (Option iV)) (r : List iV) (v : Int) (j : Int) (m : Nat) (h : iH) (Q : Option iV → iH → Prop), G sp sc [162] d mX12_init (n + 1) 175 L (.inl v :: .inl j :: .inr (.inr (m + 2)) :: r) h Q = (match h.1[m]? with | some (.inr (.inl (0, xs))) => inA j xs.length = true ∧ G sp sc [162] d mX12_init n 176 L r (h.1.set m (.inr (.inl (0, xs.set j.toNat v))), h.2) Q | _ => False)) ∧
  (∀ (n d : Nat) (L : List (Option iV)) (st : List iV) (h : iH) (Q : Option iV → iH → Prop), G sp sc [162] d mX12_init (n + 1) 176 L st h Q = (match ld L 1 with | some (.inl x) => (match st1 L 1 (.inl (x + 1)) with | some L' => G sp sc [162] d mX12_init n 179 L' st h Q | none => False) | _ => False)) ∧
  (∀ (n d : Nat) (L : List (Option iV)) (st : List iV) (h : iH) (Q : Option iV → iH → Prop), G sp sc [162] d mX12_init (n + 1) 179 L st h Q = Run sp sc d mX12_init 162 L st h Q) ∧
  (∀ (n d : Nat) (L : List (Option iV))  (h : iH) (Q : Option iV → iH → Prop), G sp sc [162] d mX12_init (n + 1) 182 L [] h Q = Q none h) ∧
  lkF 12 13 12 = some 1 ∧
  lkF 12 16 12 = some 2 ∧
  lkF 12 19 12 = some 3 ∧
  lkF 12 22 12 = some 5 ∧
  lkF 12 25 12 = some 6 ∧
  lkF 12 28 12 = some 7 ∧
  lkF 12 31 12 = some 15 ∧
  lkF 12 34 12 = some 18 ∧
  lkF 12 37 12 = some 19 ∧
  lkF 12 40 12 = some 20 ∧
  lkF 12 43 12 = some 23 ∧
  lkF 12 46 12 = some 24 ∧
  lkF 12 49 12 = some 26 ∧
  lkF 12 52 12 = some 27 ∧
  lkF 12 55 12 = some 28 ∧
  lkF 12 58 12 = some 29 ∧
  lkF 12 61 12 = some 30 ∧
  lkF 12 64 12 = some 31 ∧
  lkF 12 9 12 = some 0 ∧
  pOK 12 true 12 0 = true ∧
  pOK 12 true 12 1 = true ∧
  pOK 12 true 12 15 = true ∧
  pOK 12 true 12 18 = true ∧
  pOK 12 true 12 19 = true ∧
  pOK 12 true 12 2 = true ∧
  pOK 12 true 12 20 = true ∧
  pOK 12 true 12 23 = true ∧
  pOK 12 true 12 24 = true ∧
  pOK 12 true 12 26 = true ∧
  pOK 12 true 12 27 = true ∧
  pOK 12 true 12 28 = true ∧
  pOK 12 true 12 29 = true ∧
  pOK 12 true 12 3 = true ∧
  pOK 12 true 12 30 = true ∧
  pOK 12 true 12 31 = true ∧
  pOK 12 true 12 5 = true ∧
  pOK 12 true 12 6 = true ∧
  pOK 12 true 12 7 = true := ⟨by intros; exact G_at (by decide +kernel : fetch mX12_init 0 = some (.aload_n 0)),
  by intros; exact G_obj (by decide +kernel : fetch mX12_init 1 = some (.invokespecial 1)) (by decide +kernel),
  by intros; exact G_at (by decide +kernel : fetch mX12_init 4 = some (.aload_n 0)),
  by intros; exact G_at (by decide +kernel : fetch mX12_init 5 = some (.bipush 117)),
  by intros; exact G_ownW (by decide +kernel : fetch mX12_init 9 = some (.putfield 9)) (by decide +kernel) (by decide +kernel),
  by intros; exact G_at (by decide +kernel : fetch mX12_init 12 = some (.aload_n 0)),
  by intros; exact G_at (by decide +kernel : fetch mX12_init 13 = some (.bipush 117)),
  by intros; exact G_ownW (by decide +kernel : fetch mX12_init 17 = some (.putfield 13)) (by decide +kernel) (by decide +kernel),
  by intros; exact G_at (by decide +kernel : fetch mX12_init 20 = some (.aload_n 0)),
  by intros; exact G_at (by decide +kernel : fetch mX12_init 21 = some (.bipush 117)),
  by intros; exact G_ownW (by decide +kernel : fetch mX12_init 25 = some (.putfield 16)) (by decide +kernel) (by decide +kernel),
  by intros; exact G_at (by decide +kernel : fetch mX12_init 28 = some (.aload_n 0)),
  by intros; exact G_at (by decide +kernel : fetch mX12_init 29 = some (.bipush 117)),
  by intros; exact G_ownW (by decide +kernel : fetch mX12_init 33 = some (.putfield 19)) (by decide +kernel) (by decide +kernel),
  by intros; exact G_at (by decide +kernel : fetch mX12_init 36 = some (.aload_n 0)),
  by intros; exact G_at (by decide +kernel : fetch mX12_init 37 = some (.iconst 4)),
  by intros; exact G_ownW (by decide +kernel : fetch mX12_init 40 = some (.putfield 22)) (by decide +kernel) (by decide +kernel),
  by intros; exact G_at (by decide +kernel : fetch mX12_init 43 = some (.aload_n 0)),
  by intros; exact G_at (by decide +kernel : fetch mX12_init 44 = some (.iconst 4)),
  by intros; exact G_ownW (by decide +kernel : fetch mX12_init 47 = some (.putfield 25)) (by decide +kernel) (by decide +kernel),
  by intros; exact G_at (by decide +kernel : fetch mX12_init 50 = some (.aload_n 0)),
  by intros; exact G_at (by decide +kernel : fetch mX12_init 51 = some (.iconst 4)),
  by intros; exact G_ownW (by decide +kernel : fetch mX12_init 54 = some (.putfield 28)) (by decide +kernel) (by decide +kernel),
  by intros; exact G_at (by decide +kernel : fetch mX12_init 57 = some (.aload_n 0)),
  by intros; exact G_at (by decide +kernel : fetch mX12_init 58 = some (.iconst 4)),
  by intros; exact G_ownW (by decide +kernel : fetch mX12_init 61 = some (.putfield 31)) (by decide +kernel) (by decide +kernel),
  by intros; exact G_at (by decide +kernel : fetch mX12_init 64 = some (.aload_n 0)),
  by intros; exact G_at (by decide +kernel : fetch mX12_init 65 = some (.iconst 5)),
  by intros; exact G_ownW (by decide +kernel : fetch mX12_init 68 = some (.putfield 34)) (by decide +kernel) (by decide +kernel),
  by intros; exact G_at (by decide +kernel : fetch mX12_init 71 = some (.aload_n 0)),
  by intros; exact G_at (by decide +kernel : fetch mX12_init 72 = some (.iconst 5)),
  by intros; exact G_ownW (by decide +kernel : fetch mX12_init 75 = some (.putfield 37)) (by decide +kernel) (by decide +kernel),
  by intros; exact G_at (by decide +kernel : fetch mX12_init 78 = some (.aload_n 0)),
  by intros; exact G_at (by decide +kernel : fetch mX12_init 79 = some (.iconst 5)),
  by intros; exact G_ownW (by decide +kernel : fetch mX12_init 82 = some (.putfield 40)) (by decide +kernel) (by decide +kernel),
  by intros; exact G_at (by decide +kernel : fetch mX12_init 85 = some (.aload_n 0)),
  by intros; exact G_at (by decide +kernel : fetch mX12_init 86 = some (.sipush 448)),
  by intros; exact G_ownW (by decide +kernel : fetch mX12_init 91 = some (.putfield 43)) (by decide +kernel) (by decide +kernel),
  by intros; exact G_at (by decide +kernel : fetch mX12_init 94 = some (.aload_n 0)),
  by intros; exact G_at (by decide +kernel : fetch mX12_init 95 = some (.sipush 448)),
  by intros; exact G_ownW (by decide +kernel : fetch mX12_init 100 = some (.putfield 46)) (by decide +kernel) (by decide +kernel),
  by intros; exact G_at (by decide +kernel : fetch mX12_init 103 = some (.aload_n 0)),
  by intros; exact G_at (by decide +kernel : fetch mX12_init 104 = some (.bipush 8)),
  by intros; exact G_ownW (by decide +kernel : fetch mX12_init 108 = some (.putfield 49)) (by decide +kernel) (by decide +kernel),
  by intros; exact G_at (by decide +kernel : fetch mX12_init 111 = some (.aload_n 0)),
  by intros; exact G_at (by decide +kernel : fetch mX12_init 112 = some (.bipush 8)),
  by intros; exact G_ownW (by decide +kernel : fetch mX12_init 116 = some (.putfield 52)) (by decide +kernel) (by decide +kernel),
  by intros; exact G_at (by decide +kernel : fetch mX12_init 119 = some (.aload_n 0)),
  by intros; exact G_at (by decide +kernel : fetch mX12_init 120 = some (.bipush 8)),
  by intros; exact G_ownW (by decide +kernel : fetch mX12_init 124 = some (.putfield 55)) (by decide +kernel) (by decide +kernel),
  by intros; exact G_at (by decide +kernel : fetch mX12_init 127 = some (.aload_n 0)),
  by intros; exact G_at (by decide +kernel : fetch mX12_init 128 = some (.bipush 8)),
  by intros; exact G_ownW (by decide +kernel : fetch mX12_init 132 = some (.putfield 58)) (by decide +kernel) (by decide +kernel),
  by intros; exact G_at (by decide +kernel : fetch mX12_init 135 = some (.aload_n 0)),
  by intros; exact G_at (by decide +kernel : fetch mX12_init 136 = some (.bipush 8)),
  by intros; exact G_ownW (by decide +kernel : fetch mX12_init 140 = some (.putfield 61)) (by decide +kernel) (by decide +kernel),
  by intros; exact G_at (by decide +kernel : fetch mX12_init 143 = some (.aload_n 0)),
  by intros; exact G_at (by decide +kernel : fetch mX12_init 144 = some (.sipush 800)),
  by intros; exact G_ownW (by decide +kernel : fetch mX12_init 149 = some (.putfield 64)) (by decide +kernel) (by decide +kernel),
  by intros; exact G_at (by decide +kernel : fetch mX12_init 152 = some (.aload_n 0)),
  by intros; exact G_own (by decide +kernel : fetch mX12_init 153 = some (.getfield 9)) (by decide +kernel),
  by intros; exact G_at (by decide +kernel : fetch mX12_init 156 = some (.iconst 4)),
  by intros; exact G_at (by decide +kernel : fetch mX12_init 157 = some (.bipush 60)),
  by intros; exact G_at (by decide +kernel : fetch mX12_init 159 = some (.iastore)),
  by intros; exact G_at (by decide +kernel : fetch mX12_init 160 = some (.iconst 0)),
  by intros; exact G_at (by decide +kernel : fetch mX12_init 161 = some (.istore_n 1)),
  by intros; exact G_at (by decide +kernel : fetch mX12_init 162 = some (.iload_n 1)),
  by intros; exact G_at (by decide +kernel : fetch mX12_init 163 = some (.iconst 5)),
  by intros; exact G_at (by decide +kernel : fetch mX12_init 164 = some (.if_icmp .ge 18)),
  by intros; exact G_at (by decide +kernel : fetch mX12_init 167 = some (.aload_n 0)),
  by intros; exact G_own (by decide +kernel : fetch mX12_init 168 = some (.getfield 9)) (by decide +kernel),
  by intros; exact G_at (by decide +kernel : fetch mX12_init 171 = some (.iconst 5)),
  by intros; exact G_at (by decide +kernel : fetch mX12_init 172 = some (.iload_n 1)),
  by intros; exact G_at (by decide +kernel : fetch mX12_init 173 = some (.iadd)),
  by intros; exact G_at (by decide +kernel : fetch mX12_init 174 = some (.iconst 1)),
  by intros; exact G_at (by decide +kernel : fetch mX12_init 175 = some (.iastore)),
  by intros; exact G_at (by decide +kernel : fetch mX12_init 176 = some (.iinc 1 1)),
  by intros; exact G_at (by decide +kernel : fetch mX12_init 179 = some (.goto (-17))),
  by intros; exact G_retv (by decide +kernel : fetch mX12_init 182 = some (.return_)) (by decide +kernel),
  by decide +kernel,
  by decide +kernel,
  by decide +kernel,
  by decide +kernel,
  by decide +kernel,
  by decide +kernel,
  by decide +kernel,
  by decide +kernel,
  by decide +kernel,
  by decide +kernel,
  by decide +kernel,
  by decide +kernel,
  by decide +kernel,
  by decide +kernel,
  by decide +kernel,
  by decide +kernel,
  by decide +kernel,
  by decide +kernel,
  by decide +kernel,
  by decide +kernel,
  by decide +kernel,
  by decide +kernel,
  by decide +kernel,
  by decide +kernel,
  by decide +kernel,
  by decide +kernel,
  by decide +kernel,
  by decide +kernel,
  by decide +kernel,
  by decide +kernel,
  by decide +kernel,
  by decide +kernel,
  by decide +kernel,
  by decide +kernel,
  by decide +kernel,
  by decide +kernel,
  by decide +kernel,
  by decide +kernel⟩
theorem gX12_isIn : (∀ (n d : Nat) (L : List (Option iV)) (st : List iV) (h : iH) (Q : Option iV → iH → Prop), G sp sc [] d mX12_isIn (n + 1) 0 L st h Q = (match ld L 0 with | some (.inl x) => G sp sc [] d mX12_isIn n 1 L (.inl x :: st) h Q | _ => False)) ∧
  (∀ (n d : Nat) (L : List (Option iV)) (st : List iV) (h : iH) (Q : Option iV → iH → Prop), G sp sc [] d mX12_isIn (n + 1) 1 L st h Q = (match ld L 1 with | some (.inl x) => G sp sc [] d mX12_isIn n 2 L (.inl x :: st) h Q | _ => False)) ∧
  (∀ (n d : Nat) (L : List (Option iV)) (a : Int) (b : Int) (r : List iV) (h : iH) (Q : Option iV → iH → Prop), G sp sc [] d mX12_isIn (n + 1) 2 L (.inl b :: .inl a :: r) h Q = ((inI a = true ∧ inI b = true) ∧ (a < b → G sp sc [] d mX12_isIn n 14 L r h Q) ∧ (¬ (a < b) → G sp sc [] d mX12_isIn n 5 L r h Q))) ∧
  (∀ (n d : Nat) (L : List (Option iV)) (st : List iV) (h : iH) (Q : Option iV → iH → Prop), G sp sc [] d mX12_isIn (n + 1) 5 L st h Q = (match ld L 0 with | some (.inl x) => G sp sc [] d mX12_isIn n 6 L (.inl x :: st) h Q | _ => False)) ∧
  (∀ (n d : Nat) (L : List (Option iV)) (st : List iV) (h : iH) (Q : Option iV → iH → Prop), G sp sc [] d mX12_isIn (n + 1) 6 L st h Q = (match ld L 2 with | some (.inl x) => G sp sc [] d mX12_isIn n 7 L (.inl x :: st) h Q | _ => False)) ∧
  (∀ (n d : Nat) (L : List (Option iV)) (a : Int) (b : Int) (r : List iV) (h : iH) (Q : Option iV → iH → Prop), G sp sc [] d mX12_isIn (n + 1) 7 L (.inl b :: .inl a :: r) h Q = ((inI a = true ∧ inI b = true) ∧ (b < a → G sp sc [] d mX12_isIn n 14 L r h Q) ∧ (¬ (b < a) → G sp sc [] d mX12_isIn n 10 L r h Q))) ∧
  (∀ (n d : Nat) (L : List (Option iV)) (st : List iV) (h : iH) (Q : Option iV → iH → Prop), G sp sc [] d mX12_isIn (n + 1) 10 L st h Q = G sp sc [] d mX12_isIn n 11 L (.inl 1 :: st) h Q) ∧
  (∀ (n d : Nat) (L : List (Option iV)) (st : List iV) (h : iH) (Q : Option iV → iH → Prop), G sp sc [] d mX12_isIn (n + 1) 11 L st h Q = G sp sc [] d mX12_isIn n 15 L st h Q) ∧
  (∀ (n d : Nat) (L : List (Option iV)) (st : List iV) (h : iH) (Q : Option iV → iH → Prop), G sp sc [] d mX12_isIn (n + 1) 14 L st h Q = G sp sc [] d mX12_isIn n 15 L (.inl 0 :: st) h Q) ∧
  (∀ (n d : Nat) (L : List (Option iV)) (a : Int) (h : iH) (Q : Option iV → iH → Prop), G sp sc [] d mX12_isIn (n + 1) 15 L [.inl a] h Q = ((a = 0 ∨ a = 1) ∧ Q (some (.inl a)) h)) := ⟨by intros; exact G_at (by decide +kernel : fetch mX12_isIn 0 = some (.iload_n 0)),
  by intros; exact G_at (by decide +kernel : fetch mX12_isIn 1 = some (.iload_n 1)),
  by intros; exact G_at (by decide +kernel : fetch mX12_isIn 2 = some (.if_icmp .lt 12)),
  by intros; exact G_at (by decide +kernel : fetch mX12_isIn 5 = some (.iload_n 0)),
  by intros; exact G_at (by decide +kernel : fetch mX12_isIn 6 = some (.iload_n 2)),
  by intros; exact G_at (by decide +kernel : fetch mX12_isIn 7 = some (.if_icmp .gt 7)),
  by intros; exact G_at (by decide +kernel : fetch mX12_isIn 10 = some (.iconst 1)),
  by intros; exact G_at (by decide +kernel : fetch mX12_isIn 11 = some (.goto 4)),
  by intros; exact G_at (by decide +kernel : fetch mX12_isIn 14 = some (.iconst 0)),
  by intros; exact G_retz (by decide +kernel : fetch mX12_isIn 15 = some (.ireturn)) (by decide +kernel)⟩
theorem gX12_least : (∀ (n d : Nat) (L : List (Option iV)) (st : List iV) (h : iH) (Q : Option iV → iH → Prop), G sp sc [] d mX12_least (n + 1) 0 L st h Q = (match ld L 0 with | some (.inl x) => G sp sc [] d mX12_least n 1 L (.inl x :: st) h Q | _ => False)) ∧
  (∀ (n d : Nat) (L : List (Option iV)) (st : List iV) (h : iH) (Q : Option iV → iH → Prop), G sp sc [] d mX12_least (n + 1) 1 L st h Q = (match ld L 1 with | some (.inl x) => G sp sc [] d mX12_least n 2 L (.inl x :: st) h Q | _ => False)) ∧
  (∀ (n d : Nat) (L : List (Option iV)) (a : Int) (b : Int) (r : List iV) (h : iH) (Q : Option iV → iH → Prop), G sp sc [] d mX12_least (n + 1) 2 L (.inl b :: .inl a :: r) h Q = ((inI a = true ∧ inI b = true) ∧ (b ≤ a → G sp sc [] d mX12_least n 9 L r h Q) ∧ (¬ (b ≤ a) → G sp sc [] d mX12_least n 5 L r h Q))) ∧
  (∀ (n d : Nat) (L : List (Option iV)) (st : List iV) (h : iH) (Q : Option iV → iH → Prop), G sp sc [] d mX12_least (n + 1) 5 L st h Q = (match ld L 0 with | some (.inl x) => G sp sc [] d mX12_least n 6 L (.inl x :: st) h Q | _ => False)) ∧
  (∀ (n d : Nat) (L : List (Option iV)) (st : List iV) (h : iH) (Q : Option iV → iH → Prop), G sp sc [] d mX12_least (n + 1) 6 L st h Q = G sp sc [] d mX12_least n 10 L st h Q) ∧
  (∀ (n d : Nat) (L : List (Option iV)) (st : List iV) (h : iH) (Q : Option iV → iH → Prop), G sp sc [] d mX12_least (n + 1) 9 L st h Q = (match ld L 1 with | some (.inl x) => G sp sc [] d mX12_least n 10 L (.inl x :: st) h Q | _ => False)) ∧
  (∀ (n d : Nat) (L : List (Option iV)) (a : Int) (h : iH) (Q : Option iV → iH → Prop), G sp sc [] d mX12_least (n + 1) 10 L [.inl a] h Q = Q (some (.inl a)) h) := ⟨by intros; exact G_at (by decide +kernel : fetch mX12_least 0 = some (.iload_n 0)),
  by intros; exact G_at (by decide +kernel : fetch mX12_least 1 = some (.iload_n 1)),
  by intros; exact G_at (by decide +kernel : fetch mX12_least 2 = some (.if_icmp .ge 7)),
  by intros; exact G_at (by decide +kernel : fetch mX12_least 5 = some (.iload_n 0)),
  by intros; exact G_at (by decide +kernel : fetch mX12_least 6 = some (.goto 4)),
  by intros; exact G_at (by decide +kernel : fetch mX12_least 9 = some (.iload_n 1)),
  by intros; exact G_reti (by decide +kernel : fetch mX12_least 10 = some (.ireturn)) (by decide +kernel)⟩
theorem gX12_most_II : (∀ (n d : Nat) (L : List (Option iV)) (st : List iV) (h : iH) (Q : Option iV → iH → Prop), G sp sc [] d mX12_most_II (n + 1) 0 L st h Q = (match ld L 0 with | some (.inl x) => G sp sc [] d mX12_most_II n 1 L (.inl x :: st) h Q | _ => False)) ∧
  (∀ (n d : Nat) (L : List (Option iV)) (st : List iV) (h : iH) (Q : Option iV → iH → Prop), G sp sc [] d mX12_most_II (n + 1) 1 L st h Q = (match ld L 1 with | some (.inl x) => G sp sc [] d mX12_most_II n 2 L (.inl x :: st) h Q | _ => False)) ∧
  (∀ (n d : Nat) (L : List (Option iV)) (a : Int) (b : Int) (r : List iV) (h : iH) (Q : Option iV → iH → Prop), G sp sc [] d mX12_most_II (n + 1) 2 L (.inl b :: .inl a :: r) h Q = ((inI a = true ∧ inI b = true) ∧ (a ≤ b → G sp sc [] d mX12_most_II n 9 L r h Q) ∧ (¬ (a ≤ b) → G sp sc [] d mX12_most_II n 5 L r h Q))) ∧
  (∀ (n d : Nat) (L : List (Option iV)) (st : List iV) (h : iH) (Q : Option iV → iH → Prop), G sp sc [] d mX12_most_II (n + 1) 5 L st h Q = (match ld L 0 with | some (.inl x) => G sp sc [] d mX12_most_II n 6 L (.inl x :: st) h Q | _ => False)) ∧
  (∀ (n d : Nat) (L : List (Option iV)) (st : List iV) (h : iH) (Q : Option iV → iH → Prop), G sp sc [] d mX12_most_II (n + 1) 6 L st h Q = G sp sc [] d mX12_most_II n 10 L st h Q) ∧
  (∀ (n d : Nat) (L : List (Option iV)) (st : List iV) (h : iH) (Q : Option iV → iH → Prop), G sp sc [] d mX12_most_II (n + 1) 9 L st h Q = (match ld L 1 with | some (.inl x) => G sp sc [] d mX12_most_II n 10 L (.inl x :: st) h Q | _ => False)) ∧
  (∀ (n d : Nat) (L : List (Option iV)) (a : Int) (h : iH) (Q : Option iV → iH → Prop), G sp sc [] d mX12_most_II (n + 1) 10 L [.inl a] h Q = Q (some (.inl a)) h) := ⟨by intros; exact G_at (by decide +kernel : fetch mX12_most_II 0 = some (.iload_n 0)),
  by intros; exact G_at (by decide +kernel : fetch mX12_most_II 1 = some (.iload_n 1)),
  by intros; exact G_at (by decide +kernel : fetch mX12_most_II 2 = some (.if_icmp .le 7)),
  by intros; exact G_at (by decide +kernel : fetch mX12_most_II 5 = some (.iload_n 0)),
  by intros; exact G_at (by decide +kernel : fetch mX12_most_II 6 = some (.goto 4)),
  by intros; exact G_at (by decide +kernel : fetch mX12_most_II 9 = some (.iload_n 1)),
  by intros; exact G_reti (by decide +kernel : fetch mX12_most_II 10 = some (.ireturn)) (by decide +kernel)⟩
theorem gX12_lays : (∀ (n d : Nat) (L : List (Option iV)) (st : List iV) (h : iH) (Q : Option iV → iH → Prop), G sp sc [2] d mX12_lays (n + 1) 0 L st h Q = G sp sc [2] d mX12_lays n 1 L (.inl 0 :: st) h Q) ∧
  (∀ (n d : Nat) (L : List (Option iV)) (r : List iV) (x : Int) (h : iH) (Q : Option iV → iH → Prop), G sp sc [2] d mX12_lays (n + 1) 1 L (.inl x :: r) h Q = (match st1 L 2 (.inl x) with | some L' => Run sp sc d mX12_lays 2 L' r h Q | none => False)) ∧
  (∀ (n d : Nat) (L : List (Option iV)) (st : List iV) (h : iH) (Q : Option iV → iH → Prop), G sp sc [2] d mX12_lays (n + 1) 2 L st h Q = (match ld L 2 with | some (.inl x) => G sp sc [2] d mX12_lays n 3 L (.inl x :: st) h Q | _ => False)) ∧
  (∀ (n d : Nat) (L : List (Option iV)) (st : List iV) (h : iH) (Q : Option iV → iH → Prop), G sp sc [2] d mX12_lays (n + 1) 3 L st h Q = ((-128 ≤ (117 : Int) ∧ (117 : Int) < 128) ∧ G sp sc [2] d mX12_lays n 5 L (.inl 117 :: st) h Q)) ∧
  (∀ (n d : Nat) (L : List (Option iV)) (a : Int) (b : Int) (r : List iV) (h : iH) (Q : Option iV → iH → Prop), G sp sc [2] d mX12_lays (n + 1) 5 L (.inl b :: .inl a :: r) h Q = ((inI a = true ∧ inI b = true) ∧ (b ≤ a → G sp sc [2] d mX12_lays n 20 L r h Q) ∧ (¬ (b ≤ a) → G sp sc [2] d mX12_lays n 8 L r h Q))) ∧
  (∀ (n d : Nat) (L : List (Option iV)) (st : List iV) (h : iH) (Q : Option iV → iH → Prop), G sp sc [2] d mX12_lays (n + 1) 8 L st h Q = (match ld L 1 with | some (.inr (.inr (r + 1))) => G sp sc [2] d mX12_lays n 9 L (.inr (.inr (r + 1)) :: st) h Q | _ => False)) ∧
  (∀ (n d : Nat) (L : List (Option iV)) (st : List iV) (h : iH) (Q : Option iV → iH → Prop), G sp sc [2] d mX12_lays (n + 1) 9 L st h Q = (match ld L 2 with | some (.inl x) => G sp sc [2] d mX12_lays n 10 L (.inl x :: st) h Q | _ => False)) ∧
  (∀ (n d : Nat) (L : List (Option iV)) (st : List iV) (h : iH) (Q : Option iV → iH → Prop), G sp sc [2] d mX12_lays (n + 1) 10 L st h Q = (match ld L 0 with | some (.inr (.inr (r + 1))) => G sp sc [2] d mX12_lays n 11 L (.inr (.inr (r + 1)) :: st) h Q | _ => False)) ∧
  (∀ (n d : Nat) (L : List (Option iV)) (st : List iV) (h : iH) (Q : Option iV → iH → Prop), G sp sc [2] d mX12_lays (n + 1) 11 L st h Q = (match ld L 2 with | some (.inl x) => G sp sc [2] d mX12_lays n 12 L (.inl x :: st) h Q | _ => False)) ∧
  (∀ (n d : Nat) (L : List (Option iV)) (r : List iV) (j : Int) (m : Nat) (h : iH) (Q : Option iV → iH → Prop), G sp sc [2] d mX12_lays (n + 1) 12 L (.inl j :: .inr (.inr (m + 2)) :: r) h Q = (match h.1[m]? with | some (.inr (.inl (0, xs))) => inA j xs.length = true ∧ G sp sc [2] d mX12_lays n 13 L (.inl (xs.getD j.toNat 0) :: r) h Q | _ => False)) ∧
  (∀ (n d : Nat) (L : List (Option iV)) (r : List iV) (v : Int) (j : Int) (m : Nat) (h : iH) (Q : Option iV → iH → Prop), G sp sc [2] d mX12_lays (n + 1) 13 L (.inl v :: .inl j :: .inr (.inr (m + 2)) :: r) h Q = (match h.1[m]? with | some (.inr (.inl (0, xs))) => inA j xs.length = true ∧ G sp sc [2] d mX12_lays n 14 L r (h.1.set m (.inr (.inl (0, xs.set j.toNat v))), h.2) Q | _ => False)) ∧
  (∀ (n d : Nat) (L : List (Option iV)) (st : List iV) (h : iH) (Q : Option iV → iH → Prop), G sp sc [2] d mX12_lays (n + 1) 14 L st h Q = (match ld L 2 with | some (.inl x) => (match st1 L 2 (.inl (x + 1)) with | some L' => G sp sc [2] d mX12_lays n 17 L' st h Q | none => False) | _ => False)) ∧
  (∀ (n d : Nat) (L : List (Option iV)) (st : List iV) (h : iH) (Q : Option iV → iH → Prop), G sp sc [2] d mX12_lays (n + 1) 17 L st h Q = Run sp sc d mX12_lays 2 L st h Q) ∧
  (∀ (n d : Nat) (L : List (Option iV))  (h : iH) (Q : Option iV → iH → Prop), G sp sc [2] d mX12_lays (n + 1) 20 L [] h Q = Q none h) := ⟨by intros; exact G_at (by decide +kernel : fetch mX12_lays 0 = some (.iconst 0)),
  by intros; exact G_at (by decide +kernel : fetch mX12_lays 1 = some (.istore_n 2)),
  by intros; exact G_at (by decide +kernel : fetch mX12_lays 2 = some (.iload_n 2)),
  by intros; exact G_at (by decide +kernel : fetch mX12_lays 3 = some (.bipush 117)),
  by intros; exact G_at (by decide +kernel : fetch mX12_lays 5 = some (.if_icmp .ge 15)),
  by intros; exact G_at (by decide +kernel : fetch mX12_lays 8 = some (.aload_n 1)),
  by intros; exact G_at (by decide +kernel : fetch mX12_lays 9 = some (.iload_n 2)),
  by intros; exact G_at (by decide +kernel : fetch mX12_lays 10 = some (.aload_n 0)),
  by intros; exact G_at (by decide +kernel : fetch mX12_lays 11 = some (.iload_n 2)),
  by intros; exact G_at (by decide +kernel : fetch mX12_lays 12 = some (.iaload)),
  by intros; exact G_at (by decide +kernel : fetch mX12_lays 13 = some (.iastore)),
  by intros; exact G_at (by decide +kernel : fetch mX12_lays 14 = some (.iinc 2 1)),
  by intros; exact G_at (by decide +kernel : fetch mX12_lays 17 = some (.goto (-15))),
  by intros; exact G_retv (by decide +kernel : fetch mX12_lays 20 = some (.return_)) (by decide +kernel)⟩
theorem gX12_has : (∀ (n d : Nat) (L : List (Option iV)) (st : List iV) (h : iH) (Q : Option iV → iH → Prop), G sp sc [] d mX12_has (n + 1) 0 L st h Q = (match ld L 0 with | some (.inl x) => G sp sc [] d mX12_has n 1 L (.inl x :: st) h Q | _ => False)) ∧
  (∀ (n d : Nat) (L : List (Option iV)) (st : List iV) (h : iH) (Q : Option iV → iH → Prop), G sp sc [] d mX12_has (n + 1) 1 L st h Q = (match ld L 1 with | some (.inl x) => G sp sc [] d mX12_has n 2 L (.inl x :: st) h Q | _ => False)) ∧
  (∀ (n d : Nat) (L : List (Option iV)) (a : Int) (b : Int) (r : List iV) (h : iH) (Q : Option iV → iH → Prop), G sp sc [] d mX12_has (n + 1) 2 L (.inl b :: .inl a :: r) h Q = G sp sc [] d mX12_has n 3 L (.inl (bShr a b) :: r) h Q) ∧
  (∀ (n d : Nat) (L : List (Option iV)) (st : List iV) (h : iH) (Q : Option iV → iH → Prop), G sp sc [] d mX12_has (n + 1) 3 L st h Q = G sp sc [] d mX12_has n 4 L (.inl 1 :: st) h Q) ∧
  (∀ (n d : Nat) (L : List (Option iV)) (a : Int) (b : Int) (r : List iV) (h : iH) (Q : Option iV → iH → Prop), G sp sc [] d mX12_has (n + 1) 4 L (.inl b :: .inl a :: r) h Q = G sp sc [] d mX12_has n 5 L (.inl (bAnd a b) :: r) h Q) ∧
  (∀ (n d : Nat) (L : List (Option iV)) (st : List iV) (h : iH) (Q : Option iV → iH → Prop), G sp sc [] d mX12_has (n + 1) 5 L st h Q = G sp sc [] d mX12_has n 6 L (.inl 1 :: st) h Q) ∧
  (∀ (n d : Nat) (L : List (Option iV)) (a : Int) (b : Int) (r : List iV) (h : iH) (Q : Option iV → iH → Prop), G sp sc [] d mX12_has (n + 1) 6 L (.inl b :: .inl a :: r) h Q = ((inI a = true ∧ inI b = true) ∧ (¬ a = b → G sp sc [] d mX12_has n 13 L r h Q) ∧ (¬ (¬ a = b) → G sp sc [] d mX12_has n 9 L r h Q))) ∧
  (∀ (n d : Nat) (L : List (Option iV)) (st : List iV) (h : iH) (Q : Option iV → iH → Prop), G sp sc [] d mX12_has (n + 1) 9 L st h Q = G sp sc [] d mX12_has n 10 L (.inl 1 :: st) h Q) ∧
  (∀ (n d : Nat) (L : List (Option iV)) (st : List iV) (h : iH) (Q : Option iV → iH → Prop), G sp sc [] d mX12_has (n + 1) 10 L st h Q = G sp sc [] d mX12_has n 14 L st h Q) ∧
  (∀ (n d : Nat) (L : List (Option iV)) (st : List iV) (h : iH) (Q : Option iV → iH → Prop), G sp sc [] d mX12_has (n + 1) 13 L st h Q = G sp sc [] d mX12_has n 14 L (.inl 0 :: st) h Q) ∧
  (∀ (n d : Nat) (L : List (Option iV)) (a : Int) (h : iH) (Q : Option iV → iH → Prop), G sp sc [] d mX12_has (n + 1) 14 L [.inl a] h Q = ((a = 0 ∨ a = 1) ∧ Q (some (.inl a)) h)) := ⟨by intros; exact G_at (by decide +kernel : fetch mX12_has 0 = some (.iload_n 0)),
  by intros; exact G_at (by decide +kernel : fetch mX12_has 1 = some (.iload_n 1)),
  by intros; exact G_at (by decide +kernel : fetch mX12_has 2 = some (.ishr)),
  by intros; exact G_at (by decide +kernel : fetch mX12_has 3 = some (.iconst 1)),
  by intros; exact G_at (by decide +kernel : fetch mX12_has 4 = some (.iand)),
  by intros; exact G_at (by decide +kernel : fetch mX12_has 5 = some (.iconst 1)),
  by intros; exact G_at (by decide +kernel : fetch mX12_has 6 = some (.if_icmp .ne 7)),
  by intros; exact G_at (by decide +kernel : fetch mX12_has 9 = some (.iconst 1)),
  by intros; exact G_at (by decide +kernel : fetch mX12_has 10 = some (.goto 4)),
  by intros; exact G_at (by decide +kernel : fetch mX12_has 13 = some (.iconst 0)),
  by intros; exact G_retz (by decide +kernel : fetch mX12_has 14 = some (.ireturn)) (by decide +kernel)⟩
theorem gX12_atOne : (∀ (n d : Nat) (L : List (Option iV)) (st : List iV) (h : iH) (Q : Option iV → iH → Prop), G sp sc [] d mX12_atOne (n + 1) 0 L st h Q = ((-128 ≤ (11 : Int) ∧ (11 : Int) < 128) ∧ G sp sc [] d mX12_atOne n 2 L (.inl 11 :: st) h Q)) ∧
  (∀ (n d : Nat) (L : List (Option iV)) (st : List iV) (h : iH) (Q : Option iV → iH → Prop), G sp sc [] d mX12_atOne (n + 1) 2 L st h Q = G sp sc [] d mX12_atOne n 3 L (.inl 4 :: st) h Q) ∧
  (∀ (n d : Nat) (L : List (Option iV)) (st : List iV) (h : iH) (Q : Option iV → iH → Prop), G sp sc [] d mX12_atOne (n + 1) 3 L st h Q = G sp sc [] d mX12_atOne n 4 L (.inl 5 :: st) h Q) ∧
  (∀ (n d : Nat) (L : List (Option iV)) (st : List iV) (h : iH) (Q : Option iV → iH → Prop), G sp sc [] d mX12_atOne (n + 1) 4 L st h Q = (match ld L 0 with | some (.inl x) => G sp sc [] d mX12_atOne n 5 L (.inl x :: st) h Q | _ => False)) ∧
  (∀ (n d : Nat) (L : List (Option iV)) (a : Int) (b : Int) (r : List iV) (h : iH) (Q : Option iV → iH → Prop), G sp sc [] d mX12_atOne (n + 1) 5 L (.inl b :: .inl a :: r) h Q = G sp sc [] d mX12_atOne n 6 L (.inl (a * b) :: r) h Q) ∧
  (∀ (n d : Nat) (L : List (Option iV)) (st : List iV) (h : iH) (Q : Option iV → iH → Prop), G sp sc [] d mX12_atOne (n + 1) 6 L st h Q = (match ld L 1 with | some (.inl x) => G sp sc [] d mX12_atOne n 7 L (.inl x :: st) h Q | _ => False)) ∧
  (∀ (n d : Nat) (L : List (Option iV)) (a : Int) (b : Int) (r : List iV) (h : iH) (Q : Option iV → iH → Prop), G sp sc [] d mX12_atOne (n + 1) 7 L (.inl b :: .inl a :: r) h Q = G sp sc [] d mX12_atOne n 8 L (.inl (a + b) :: r) h Q) ∧
  (∀ (n d : Nat) (L : List (Option iV)) (a : Int) (b : Int) (r : List iV) (h : iH) (Q : Option iV → iH → Prop), G sp sc [] d mX12_atOne (n + 1) 8 L (.inl b :: .inl a :: r) h Q = G sp sc [] d mX12_atOne n 9 L (.inl (a * b) :: r) h Q) ∧
  (∀ (n d : Nat) (L : List (Option iV)) (a : Int) (b : Int) (r : List iV) (h : iH) (Q : Option iV → iH → Prop), G sp sc [] d mX12_atOne (n + 1) 9 L (.inl b :: .inl a :: r) h Q = G sp sc [] d mX12_atOne n 10 L (.inl (a + b) :: r) h Q) ∧
  (∀ (n d : Nat) (L : List (Option iV)) (st : List iV) (h : iH) (Q : Option iV → iH → Prop), G sp sc [] d mX12_atOne (n + 1) 10 L st h Q = (match ld L 2 with | some (.inl x) => G sp sc [] d mX12_atOne n 11 L (.inl x :: st) h Q | _ => False)) ∧
  (∀ (n d : Nat) (L : List (Option iV)) (a : Int) (b : Int) (r : List iV) (h : iH) (Q : Option iV → iH → Prop), G sp sc [] d mX12_atOne (n + 1) 11 L (.inl b :: .inl a :: r) h Q = G sp sc [] d mX12_atOne n 12 L (.inl (a + b) :: r) h Q) ∧
  (∀ (n d : Nat) (L : List (Option iV)) (a : Int) (h : iH) (Q : Option iV → iH → Prop), G sp sc [] d mX12_atOne (n + 1) 12 L [.inl a] h Q = Q (some (.inl a)) h) := ⟨by intros; exact G_at (by decide +kernel : fetch mX12_atOne 0 = some (.bipush 11)),
  by intros; exact G_at (by decide +kernel : fetch mX12_atOne 2 = some (.iconst 4)),
  by intros; exact G_at (by decide +kernel : fetch mX12_atOne 3 = some (.iconst 5)),
  by intros; exact G_at (by decide +kernel : fetch mX12_atOne 4 = some (.iload_n 0)),
  by intros; exact G_at (by decide +kernel : fetch mX12_atOne 5 = some (.imul)),
  by intros; exact G_at (by decide +kernel : fetch mX12_atOne 6 = some (.iload_n 1)),
  by intros; exact G_at (by decide +kernel : fetch mX12_atOne 7 = some (.iadd)),
  by intros; exact G_at (by decide +kernel : fetch mX12_atOne 8 = some (.imul)),
  by intros; exact G_at (by decide +kernel : fetch mX12_atOne 9 = some (.iadd)),
  by intros; exact G_at (by decide +kernel : fetch mX12_atOne 10 = some (.iload_n 2)),
  by intros; exact G_at (by decide +kernel : fetch mX12_atOne 11 = some (.iadd)),
  by intros; exact G_reti (by decide +kernel : fetch mX12_atOne 12 = some (.ireturn)) (by decide +kernel)⟩
theorem gX12_atLike : (∀ (n d : Nat) (L : List (Option iV)) (st : List iV) (h : iH) (Q : Option iV → iH → Prop), G sp sc [] d mX12_atLike (n + 1) 0 L st h Q = ((-128 ≤ (51 : Int) ∧ (51 : Int) < 128) ∧ G sp sc [] d mX12_atLike n 2 L (.inl 51 :: st) h Q)) ∧
  (∀ (n d : Nat) (L : List (Option iV)) (st : List iV) (h : iH) (Q : Option iV → iH → Prop), G sp sc [] d mX12_atLike (n + 1) 2 L st h Q = ((-128 ≤ (25 : Int) ∧ (25 : Int) < 128) ∧ G sp sc [] d mX12_atLike n 4 L (.inl 25 :: st) h Q)) ∧
  (∀ (n d : Nat) (L : List (Option iV)) (st : List iV) (h : iH) (Q : Option iV → iH → Prop), G sp sc [] d mX12_atLike (n + 1) 4 L st h Q = (match ld L 0 with | some (.inl x) => G sp sc [] d mX12_atLike n 5 L (.inl x :: st) h Q | _ => False)) ∧
  (∀ (n d : Nat) (L : List (Option iV)) (a : Int) (b : Int) (r : List iV) (h : iH) (Q : Option iV → iH → Prop), G sp sc [] d mX12_atLike (n + 1) 5 L (.inl b :: .inl a :: r) h Q = G sp sc [] d mX12_atLike n 6 L (.inl (a * b) :: r) h Q) ∧
  (∀ (n d : Nat) (L : List (Option iV)) (a : Int) (b : Int) (r : List iV) (h : iH) (Q : Option iV → iH → Prop), G sp sc [] d mX12_atLike (n + 1) 6 L (.inl b :: .inl a :: r) h Q = G sp sc [] d mX12_atLike n 7 L (.inl (a + b) :: r) h Q) ∧
  (∀ (n d : Nat) (L : List (Option iV)) (st : List iV) (h : iH) (Q : Option iV → iH → Prop), G sp sc [] d mX12_atLike (n + 1) 7 L st h Q = G sp sc [] d mX12_atLike n 8 L (.inl 5 :: st) h Q) ∧
  (∀ (n d : Nat) (L : List (Option iV)) (st : List iV) (h : iH) (Q : Option iV → iH → Prop), G sp sc [] d mX12_atLike (n + 1) 8 L st h Q = (match ld L 1 with | some (.inl x) => G sp sc [] d mX12_atLike n 9 L (.inl x :: st) h Q | _ => False)) ∧
  (∀ (n d : Nat) (L : List (Option iV)) (a : Int) (b : Int) (r : List iV) (h : iH) (Q : Option iV → iH → Prop), G sp sc [] d mX12_atLike (n + 1) 9 L (.inl b :: .inl a :: r) h Q = G sp sc [] d mX12_atLike n 10 L (.inl (a * b) :: r) h Q) ∧
  (∀ (n d : Nat) (L : List (Option iV)) (a : Int) (b : Int) (r : List iV) (h : iH) (Q : Option iV → iH → Prop), G sp sc [] d mX12_atLike (n + 1) 10 L (.inl b :: .inl a :: r) h Q = G sp sc [] d mX12_atLike n 11 L (.inl (a + b) :: r) h Q) ∧
  (∀ (n d : Nat) (L : List (Option iV)) (st : List iV) (h : iH) (Q : Option iV → iH → Prop), G sp sc [] d mX12_atLike (n + 1) 11 L st h Q = (match ld L 2 with | some (.inl x) => G sp sc [] d mX12_atLike n 12 L (.inl x :: st) h Q | _ => False)) ∧
  (∀ (n d : Nat) (L : List (Option iV)) (a : Int) (b : Int) (r : List iV) (h : iH) (Q : Option iV → iH → Prop), G sp sc [] d mX12_atLike (n + 1) 12 L (.inl b :: .inl a :: r) h Q = G sp sc [] d mX12_atLike n 13 L (.inl (a + b) :: r) h Q) ∧
  (∀ (n d : Nat) (L : List (Option iV)) (a : Int) (h : iH) (Q : Option iV → iH → Prop), G sp sc [] d mX12_atLike (n + 1) 13 L [.inl a] h Q = Q (some (.inl a)) h) := ⟨by intros; exact G_at (by decide +kernel : fetch mX12_atLike 0 = some (.bipush 51)),
  by intros; exact G_at (by decide +kernel : fetch mX12_atLike 2 = some (.bipush 25)),
  by intros; exact G_at (by decide +kernel : fetch mX12_atLike 4 = some (.iload_n 0)),
  by intros; exact G_at (by decide +kernel : fetch mX12_atLike 5 = some (.imul)),
  by intros; exact G_at (by decide +kernel : fetch mX12_atLike 6 = some (.iadd)),
  by intros; exact G_at (by decide +kernel : fetch mX12_atLike 7 = some (.iconst 5)),
  by intros; exact G_at (by decide +kernel : fetch mX12_atLike 8 = some (.iload_n 1)),
  by intros; exact G_at (by decide +kernel : fetch mX12_atLike 9 = some (.imul)),
  by intros; exact G_at (by decide +kernel : fetch mX12_atLike 10 = some (.iadd)),
  by intros; exact G_at (by decide +kernel : fetch mX12_atLike 11 = some (.iload_n 2)),
  by intros; exact G_at (by decide +kernel : fetch mX12_atLike 12 = some (.iadd)),
  by intros; exact G_reti (by decide +kernel : fetch mX12_atLike 13 = some (.ireturn)) (by decide +kernel)⟩
theorem gX12_atCouple : (∀ (n d : Nat) (L : List (Option iV)) (st : List iV) (h : iH) (Q : Option iV → iH → Prop), G sp sc [] d mX12_atCouple (n + 1) 0 L st h Q = ((-128 ≤ (101 : Int) ∧ (101 : Int) < 128) ∧ G sp sc [] d mX12_atCouple n 2 L (.inl 101 :: st) h Q)) ∧
  (∀ (n d : Nat) (L : List (Option iV)) (st : List iV) (h : iH) (Q : Option iV → iH → Prop), G sp sc [] d mX12_atCouple (n + 1) 2 L st h Q = G sp sc [] d mX12_atCouple n 3 L (.inl 4 :: st) h Q) ∧
  (∀ (n d : Nat) (L : List (Option iV)) (st : List iV) (h : iH) (Q : Option iV → iH → Prop), G sp sc [] d mX12_atCouple (n + 1) 3 L st h Q = (match ld L 0 with | some (.inl x) => G sp sc [] d mX12_atCouple n 4 L (.inl x :: st) h Q | _ => False)) ∧
  (∀ (n d : Nat) (L : List (Option iV)) (a : Int) (b : Int) (r : List iV) (h : iH) (Q : Option iV → iH → Prop), G sp sc [] d mX12_atCouple (n + 1) 4 L (.inl b :: .inl a :: r) h Q = G sp sc [] d mX12_atCouple n 5 L (.inl (a * b) :: r) h Q) ∧
  (∀ (n d : Nat) (L : List (Option iV)) (a : Int) (b : Int) (r : List iV) (h : iH) (Q : Option iV → iH → Prop), G sp sc [] d mX12_atCouple (n + 1) 5 L (.inl b :: .inl a :: r) h Q = G sp sc [] d mX12_atCouple n 6 L (.inl (a + b) :: r) h Q) ∧
  (∀ (n d : Nat) (L : List (Option iV)) (st : List iV) (h : iH) (Q : Option iV → iH → Prop), G sp sc [] d mX12_atCouple (n + 1) 6 L st h Q = (match ld L 1 with | some (.inl x) => G sp sc [] d mX12_atCouple n 7 L (.inl x :: st) h Q | _ => False)) ∧
  (∀ (n d : Nat) (L : List (Option iV)) (a : Int) (b : Int) (r : List iV) (h : iH) (Q : Option iV → iH → Prop), G sp sc [] d mX12_atCouple (n + 1) 7 L (.inl b :: .inl a :: r) h Q = G sp sc [] d mX12_atCouple n 8 L (.inl (a + b) :: r) h Q) ∧
  (∀ (n d : Nat) (L : List (Option iV)) (a : Int) (h : iH) (Q : Option iV → iH → Prop), G sp sc [] d mX12_atCouple (n + 1) 8 L [.inl a] h Q = Q (some (.inl a)) h) := ⟨by intros; exact G_at (by decide +kernel : fetch mX12_atCouple 0 = some (.bipush 101)),
  by intros; exact G_at (by decide +kernel : fetch mX12_atCouple 2 = some (.iconst 4)),
  by intros; exact G_at (by decide +kernel : fetch mX12_atCouple 3 = some (.iload_n 0)),
  by intros; exact G_at (by decide +kernel : fetch mX12_atCouple 4 = some (.imul)),
  by intros; exact G_at (by decide +kernel : fetch mX12_atCouple 5 = some (.iadd)),
  by intros; exact G_at (by decide +kernel : fetch mX12_atCouple 6 = some (.iload_n 1)),
  by intros; exact G_at (by decide +kernel : fetch mX12_atCouple 7 = some (.iadd)),
  by intros; exact G_reti (by decide +kernel : fetch mX12_atCouple 8 = some (.ireturn)) (by decide +kernel)⟩
theorem gX12_isOne : (∀ (n d : Nat) (L : List (Option iV)) (st : List iV) (h : iH) (Q : Option iV → iH → Prop), G sp sc [] d mX12_isOne (n + 1) 0 L st h Q = (match ld L 1 with | some (.inl x) => G sp sc [] d mX12_isOne n 1 L (.inl x :: st) h Q | _ => False)) ∧
  (∀ (n d : Nat) (L : List (Option iV)) (st : List iV) (h : iH) (Q : Option iV → iH → Prop), G sp sc [] d mX12_isOne (n + 1) 1 L st h Q = G sp sc [] d mX12_isOne n 2 L (.inl 0 :: st) h Q) ∧
  (∀ (n d : Nat) (L : List (Option iV)) (st : List iV) (h : iH) (Q : Option iV → iH → Prop), G sp sc [] d mX12_isOne (n + 1) 2 L st h Q = G sp sc [] d mX12_isOne n 3 L (.inl 1 :: st) h Q) ∧
  (∀ (n d : Nat) (L : List (Option iV)) (r : List iV) (z0 : iV) (z1 : iV) (z2 : iV) (h : iH) (Q : Option iV → iH → Prop), G sp sc [] (d + 1) mX12_isOne (n + 1) 3 L (z2 :: z1 :: z0 :: r) h Q = (cs r ≤ 8 ∧ Call sp sc d mX12_isIn [z0, z1, z2] h (fun q h1 => GC sp sc [] (d + 1) mX12_isOne n 6 L q r h h1 Q))) ∧
  (∀ (n d : Nat) (L : List (Option iV)) (a : Int) (r : List iV) (h : iH) (Q : Option iV → iH → Prop), G sp sc [] d mX12_isOne (n + 1) 6 L (.inl a :: r) h Q = (inI a = true ∧ (a = 0 → G sp sc [] d mX12_isOne n 31 L r h Q) ∧ (¬ (a = 0) → G sp sc [] d mX12_isOne n 9 L r h Q))) ∧
  (∀ (n d : Nat) (L : List (Option iV)) (st : List iV) (h : iH) (Q : Option iV → iH → Prop), G sp sc [] d mX12_isOne (n + 1) 9 L st h Q = (match ld L 2 with | some (.inl x) => G sp sc [] d mX12_isOne n 10 L (.inl x :: st) h Q | _ => False)) ∧
  (∀ (n d : Nat) (L : List (Option iV)) (st : List iV) (h : iH) (Q : Option iV → iH → Prop), G sp sc [] d mX12_isOne (n + 1) 10 L st h Q = G sp sc [] d mX12_isOne n 11 L (.inl 0 :: st) h Q) ∧
  (∀ (n d : Nat) (L : List (Option iV)) (st : List iV) (h : iH) (Q : Option iV → iH → Prop), G sp sc [] d mX12_isOne (n + 1) 11 L st h Q = (match ld L 0 with | some (.inr (.inr (r + 1))) => G sp sc [] d mX12_isOne n 12 L (.inr (.inr (r + 1)) :: st) h Q | _ => False)) ∧
  (∀ (n d : Nat) (L : List (Option iV)) (r : List iV) (m : Nat) (h : iH) (Q : Option iV → iH → Prop), G sp sc [] d mX12_isOne (n + 1) 12 L (.inr (.inr (m + 2)) :: r) h Q = (match h.1[m]? with | some (.inl (ci, fs)) => (match lkF 12 9 ci with | some k => (match fs[k]? with | some v => G sp sc [] d mX12_isOne n 15 L (v :: r) h Q | none => False) | none => False) | _ => False)) ∧
  (∀ (n d : Nat) (L : List (Option iV)) (st : List iV) (h : iH) (Q : Option iV → iH → Prop), G sp sc [] d mX12_isOne (n + 1) 15 L st h Q = G sp sc [] d mX12_isOne n 16 L (.inl 0 :: st) h Q) ∧
  (∀ (n d : Nat) (L : List (Option iV)) (st : List iV) (h : iH) (Q : Option iV → iH → Prop), G sp sc [] d mX12_isOne (n + 1) 16 L st h Q = (match ld L 1 with | some (.inl x) => G sp sc [] d mX12_isOne n 17 L (.inl x :: st) h Q | _ => False)) ∧
  (∀ (n d : Nat) (L : List (Option iV)) (a : Int) (b : Int) (r : List iV) (h : iH) (Q : Option iV → iH → Prop), G sp sc [] d mX12_isOne (n + 1) 17 L (.inl b :: .inl a :: r) h Q = G sp sc [] d mX12_isOne n 18 L (.inl (a + b) :: r) h Q) ∧
  (∀ (n d : Nat) (L : List (Option iV)) (r : List iV) (j : Int) (m : Nat) (h : iH) (Q : Option iV → iH → Prop), G sp sc [] d mX12_isOne (n + 1) 18 L (.inl j :: .inr (.inr (m + 2)) :: r) h Q = (match h.1[m]? with | some (.inr (.inl (0, xs))) => inA j xs.length = true ∧ G sp sc [] d mX12_isOne n 19 L (.inl (xs.getD j.toNat 0) :: r) h Q | _ => False)) ∧
  (∀ (n d : Nat) (L : List (Option iV)) (st : List iV) (h : iH) (Q : Option iV → iH → Prop), G sp sc [] d mX12_isOne (n + 1) 19 L st h Q = G sp sc [] d mX12_isOne n 20 L (.inl 1 :: st) h Q) ∧
  (∀ (n d : Nat) (L : List (Option iV)) (a : Int) (b : Int) (r : List iV) (h : iH) (Q : Option iV → iH → Prop), G sp sc [] d mX12_isOne (n + 1) 20 L (.inl b :: .inl a :: r) h Q = G sp sc [] d mX12_isOne n 21 L (.inl (a - b) :: r) h Q) ∧
  (∀ (n d : Nat) (L : List (Option iV)) (r : List iV) (z0 : iV) (z1 : iV) (z2 : iV) (h : iH) (Q : Option iV → iH → Prop), G sp sc [] (d + 1) mX12_isOne (n + 1) 21 L (z2 :: z1 :: z0 :: r) h Q = (cs r ≤ 8 ∧ Call sp sc d mX12_isIn [z0, z1, z2] h (fun q h1 => GC sp sc [] (d + 1) mX12_isOne n 24 L q r h h1 Q))) ∧
  (∀ (n d : Nat) (L : List (Option iV)) (a : Int) (r : List iV) (h : iH) (Q : Option iV → iH → Prop), G sp sc [] d mX12_isOne (n + 1) 24 L (.inl a :: r) h Q = (inI a = true ∧ (a = 0 → G sp sc [] d mX12_isOne n 31 L r h Q) ∧ (¬ (a = 0) → G sp sc [] d mX12_isOne n 27 L r h Q))) ∧
  (∀ (n d : Nat) (L : List (Option iV)) (st : List iV) (h : iH) (Q : Option iV → iH → Prop), G sp sc [] d mX12_isOne (n + 1) 27 L st h Q = G sp sc [] d mX12_isOne n 28 L (.inl 1 :: st) h Q) ∧
  (∀ (n d : Nat) (L : List (Option iV)) (st : List iV) (h : iH) (Q : Option iV → iH → Prop), G sp sc [] d mX12_isOne (n + 1) 28 L st h Q = G sp sc [] d mX12_isOne n 32 L st h Q) ∧
  (∀ (n d : Nat) (L : List (Option iV)) (st : List iV) (h : iH) (Q : Option iV → iH → Prop), G sp sc [] d mX12_isOne (n + 1) 31 L st h Q = G sp sc [] d mX12_isOne n 32 L (.inl 0 :: st) h Q) ∧
  (∀ (n d : Nat) (L : List (Option iV)) (a : Int) (h : iH) (Q : Option iV → iH → Prop), G sp sc [] d mX12_isOne (n + 1) 32 L [.inl a] h Q = ((a = 0 ∨ a = 1) ∧ Q (some (.inl a)) h)) ∧
  lkF 12 9 12 = some 0 := ⟨by intros; exact G_at (by decide +kernel : fetch mX12_isOne 0 = some (.iload_n 1)),
  by intros; exact G_at (by decide +kernel : fetch mX12_isOne 1 = some (.iconst 0)),
  by intros; exact G_at (by decide +kernel : fetch mX12_isOne 2 = some (.iconst 1)),
  by intros; exact G_callS (k := 3) (kd := 0) (by decide +kernel : fetch mX12_isOne 3 = some (.invokestatic 67)) (by decide +kernel) (by decide +kernel) (by decide +kernel) rfl (by decide),
  by intros; exact G_at (by decide +kernel : fetch mX12_isOne 6 = some (.ifCond .eq 25)),
  by intros; exact G_at (by decide +kernel : fetch mX12_isOne 9 = some (.iload_n 2)),
  by intros; exact G_at (by decide +kernel : fetch mX12_isOne 10 = some (.iconst 0)),
  by intros; exact G_at (by decide +kernel : fetch mX12_isOne 11 = some (.aload_n 0)),
  by intros; exact G_own (by decide +kernel : fetch mX12_isOne 12 = some (.getfield 9)) (by decide +kernel),
  by intros; exact G_at (by decide +kernel : fetch mX12_isOne 15 = some (.iconst 0)),
  by intros; exact G_at (by decide +kernel : fetch mX12_isOne 16 = some (.iload_n 1)),
  by intros; exact G_at (by decide +kernel : fetch mX12_isOne 17 = some (.iadd)),
  by intros; exact G_at (by decide +kernel : fetch mX12_isOne 18 = some (.iaload)),
  by intros; exact G_at (by decide +kernel : fetch mX12_isOne 19 = some (.iconst 1)),
  by intros; exact G_at (by decide +kernel : fetch mX12_isOne 20 = some (.isub)),
  by intros; exact G_callS (k := 3) (kd := 0) (by decide +kernel : fetch mX12_isOne 21 = some (.invokestatic 67)) (by decide +kernel) (by decide +kernel) (by decide +kernel) rfl (by decide),
  by intros; exact G_at (by decide +kernel : fetch mX12_isOne 24 = some (.ifCond .eq 7)),
  by intros; exact G_at (by decide +kernel : fetch mX12_isOne 27 = some (.iconst 1)),
  by intros; exact G_at (by decide +kernel : fetch mX12_isOne 28 = some (.goto 4)),
  by intros; exact G_at (by decide +kernel : fetch mX12_isOne 31 = some (.iconst 0)),
  by intros; exact G_retz (by decide +kernel : fetch mX12_isOne 32 = some (.ireturn)) (by decide +kernel),
  by decide +kernel⟩
theorem gX12_isCouple : (∀ (n d : Nat) (L : List (Option iV)) (st : List iV) (h : iH) (Q : Option iV → iH → Prop), G sp sc [] d mX12_isCouple (n + 1) 0 L st h Q = (match ld L 1 with | some (.inl x) => G sp sc [] d mX12_isCouple n 1 L (.inl x :: st) h Q | _ => False)) ∧
  (∀ (n d : Nat) (L : List (Option iV)) (st : List iV) (h : iH) (Q : Option iV → iH → Prop), G sp sc [] d mX12_isCouple (n + 1) 1 L st h Q = G sp sc [] d mX12_isCouple n 2 L (.inl 0 :: st) h Q) ∧
  (∀ (n d : Nat) (L : List (Option iV)) (st : List iV) (h : iH) (Q : Option iV → iH → Prop), G sp sc [] d mX12_isCouple (n + 1) 2 L st h Q = (match ld L 0 with | some (.inr (.inr (r + 1))) => G sp sc [] d mX12_isCouple n 3 L (.inr (.inr (r + 1)) :: st) h Q | _ => False)) ∧
  (∀ (n d : Nat) (L : List (Option iV)) (r : List iV) (m : Nat) (h : iH) (Q : Option iV → iH → Prop), G sp sc [] d mX12_isCouple (n + 1) 3 L (.inr (.inr (m + 2)) :: r) h Q = (match h.1[m]? with | some (.inl (ci, fs)) => (match lkF 12 9 ci with | some k => (match fs[k]? with | some v => G sp sc [] d mX12_isCouple n 6 L (v :: r) h Q | none => False) | none => False) | _ => False)) ∧
  (∀ (n d : Nat) (L : List (Option iV)) (st : List iV) (h : iH) (Q : Option iV → iH → Prop), G sp sc [] d mX12_isCouple (n + 1) 6 L st h Q = G sp sc [] d mX12_isCouple n 7 L (.inl 2 :: st) h Q) ∧
  (∀ (n d : Nat) (L : List (Option iV)) (r : List iV) (j : Int) (m : Nat) (h : iH) (Q : Option iV → iH → Prop), G sp sc [] d mX12_isCouple (n + 1) 7 L (.inl j :: .inr (.inr (m + 2)) :: r) h Q = (match h.1[m]? with | some (.inr (.inl (0, xs))) => inA j xs.length = true ∧ G sp sc [] d mX12_isCouple n 8 L (.inl (xs.getD j.toNat 0) :: r) h Q | _ => False)) ∧
  (∀ (n d : Nat) (L : List (Option iV)) (st : List iV) (h : iH) (Q : Option iV → iH → Prop), G sp sc [] d mX12_isCouple (n + 1) 8 L st h Q = G sp sc [] d mX12_isCouple n 9 L (.inl 1 :: st) h Q) ∧
  (∀ (n d : Nat) (L : List (Option iV)) (a : Int) (b : Int) (r : List iV) (h : iH) (Q : Option iV → iH → Prop), G sp sc [] d mX12_isCouple (n + 1) 9 L (.inl b :: .inl a :: r) h Q = G sp sc [] d mX12_isCouple n 10 L (.inl (a - b) :: r) h Q) ∧
  (∀ (n d : Nat) (L : List (Option iV)) (r : List iV) (z0 : iV) (z1 : iV) (z2 : iV) (h : iH) (Q : Option iV → iH → Prop), G sp sc [] (d + 1) mX12_isCouple (n + 1) 10 L (z2 :: z1 :: z0 :: r) h Q = (cs r ≤ 8 ∧ Call sp sc d mX12_isIn [z0, z1, z2] h (fun q h1 => GC sp sc [] (d + 1) mX12_isCouple n 13 L q r h h1 Q))) ∧
  (∀ (n d : Nat) (L : List (Option iV)) (a : Int) (h : iH) (Q : Option iV → iH → Prop), G sp sc [] d mX12_isCouple (n + 1) 13 L [.inl a] h Q = ((a = 0 ∨ a = 1) ∧ Q (some (.inl a)) h)) ∧
  lkF 12 9 12 = some 0 := ⟨by intros; exact G_at (by decide +kernel : fetch mX12_isCouple 0 = some (.iload_n 1)),
  by intros; exact G_at (by decide +kernel : fetch mX12_isCouple 1 = some (.iconst 0)),
  by intros; exact G_at (by decide +kernel : fetch mX12_isCouple 2 = some (.aload_n 0)),
  by intros; exact G_own (by decide +kernel : fetch mX12_isCouple 3 = some (.getfield 9)) (by decide +kernel),
  by intros; exact G_at (by decide +kernel : fetch mX12_isCouple 6 = some (.iconst 2)),
  by intros; exact G_at (by decide +kernel : fetch mX12_isCouple 7 = some (.iaload)),
  by intros; exact G_at (by decide +kernel : fetch mX12_isCouple 8 = some (.iconst 1)),
  by intros; exact G_at (by decide +kernel : fetch mX12_isCouple 9 = some (.isub)),
  by intros; exact G_callS (k := 3) (kd := 0) (by decide +kernel : fetch mX12_isCouple 10 = some (.invokestatic 67)) (by decide +kernel) (by decide +kernel) (by decide +kernel) rfl (by decide),
  by intros; exact G_retz (by decide +kernel : fetch mX12_isCouple 13 = some (.ireturn)) (by decide +kernel),
  by decide +kernel⟩
theorem gX12_growsBy : (∀ (n d : Nat) (L : List (Option iV)) (st : List iV) (h : iH) (Q : Option iV → iH → Prop), G sp sc [] d mX12_growsBy (n + 1) 0 L st h Q = (match ld L 0 with | some (.inl x) => G sp sc [] d mX12_growsBy n 1 L (.inl x :: st) h Q | _ => False)) ∧
  (∀ (n d : Nat) (L : List (Option iV)) (a : Int) (r : List iV) (h : iH) (Q : Option iV → iH → Prop), G sp sc [] d mX12_growsBy (n + 1) 1 L (.inl a :: r) h Q = (inI a = true ∧ ((a < 1 ∨ 5 < a) → G sp sc [] d mX12_growsBy n 55 L r h Q) ∧ (¬ (a < 1 ∨ 5 < a) → (match (#[35, 37, 35, 39, 43] : Array Int)[(a - (1 : Int)).toNat]? with | some off => (match jmp 1 off with | some q => GK sp sc [] d mX12_growsBy n q L r h Q | none => False) | none => False)))) ∧
  (∀ (n d : Nat) (L : List (Option iV)) (st : List iV) (h : iH) (Q : Option iV → iH → Prop), G sp sc [] d mX12_growsBy (n + 1) 36 L st h Q = G sp sc [] d mX12_growsBy n 37 L (.inl 5 :: st) h Q) ∧
  (∀ (n d : Nat) (L : List (Option iV)) (a : Int) (h : iH) (Q : Option iV → iH → Prop), G sp sc [] d mX12_growsBy (n + 1) 37 L [.inl a] h Q = Q (some (.inl a)) h) ∧
  (∀ (n d : Nat) (L : List (Option iV)) (st : List iV) (h : iH) (Q : Option iV → iH → Prop), G sp sc [] d mX12_growsBy (n + 1) 38 L st h Q = G sp sc [] d mX12_growsBy n 39 L (.inl 1 :: st) h Q) ∧
  (∀ (n d : Nat) (L : List (Option iV)) (a : Int) (h : iH) (Q : Option iV → iH → Prop), G sp sc [] d mX12_growsBy (n + 1) 39 L [.inl a] h Q = Q (some (.inl a)) h) ∧
  (∀ (n d : Nat) (L : List (Option iV)) (st : List iV) (h : iH) (Q : Option iV → iH → Prop), G sp sc [] d mX12_growsBy (n + 1) 40 L st h Q = G sp sc [] d mX12_growsBy n 41 L (.inl 5 :: st) h Q) ∧
  (∀ (n d : Nat) (L : List (Option iV)) (st : List iV) (h : iH) (Q : Option iV → iH → Prop), G sp sc [] d mX12_growsBy (n + 1) 41 L st h Q = (match ld L 1 with | some (.inl x) => G sp sc [] d mX12_growsBy n 42 L (.inl x :: st) h Q | _ => False)) ∧
  (∀ (n d : Nat) (L : List (Option iV)) (a : Int) (b : Int) (r : List iV) (h : iH) (Q : Option iV → iH → Prop), G sp sc [] d mX12_growsBy (n + 1) 42 L (.inl b :: .inl a :: r) h Q = G sp sc [] d mX12_growsBy n 43 L (.inl (a + b) :: r) h Q) ∧
  (∀ (n d : Nat) (L : List (Option iV)) (a : Int) (h : iH) (Q : Option iV → iH → Prop), G sp sc [] d mX12_growsBy (n + 1) 43 L [.inl a] h Q = Q (some (.inl a)) h) ∧
  (∀ (n d : Nat) (L : List (Option iV)) (st : List iV) (h : iH) (Q : Option iV → iH → Prop), G sp sc [] d mX12_growsBy (n + 1) 44 L st h Q = (match ld L 2 with | some (.inl x) => G sp sc [] d mX12_growsBy n 45 L (.inl x :: st) h Q | _ => False)) ∧
  (∀ (n d : Nat) (L : List (Option iV)) (a : Int) (r : List iV) (h : iH) (Q : Option iV → iH → Prop), G sp sc [] d mX12_growsBy (n + 1) 45 L (.inl a :: r) h Q = (inI a = true ∧ (a = 0 → G sp sc [] d mX12_growsBy n 53 L r h Q) ∧ (¬ (a = 0) → G sp sc [] d mX12_growsBy n 48 L r h Q))) ∧
  (∀ (n d : Nat) (L : List (Option iV)) (st : List iV) (h : iH) (Q : Option iV → iH → Prop), G sp sc [] d mX12_growsBy (n + 1) 48 L st h Q = ((-128 ≤ (6 : Int) ∧ (6 : Int) < 128) ∧ G sp sc [] d mX12_growsBy n 50 L (.inl 6 :: st) h Q)) ∧
  (∀ (n d : Nat) (L : List (Option iV)) (st : List iV) (h : iH) (Q : Option iV → iH → Prop), G sp sc [] d mX12_growsBy (n + 1) 50 L st h Q = G sp sc [] d mX12_growsBy n 54 L st h Q) ∧
  (∀ (n d : Nat) (L : List (Option iV)) (st : List iV) (h : iH) (Q : Option iV → iH → Prop), G sp sc [] d mX12_growsBy (n + 1) 53 L st h Q = G sp sc [] d mX12_growsBy n 54 L (.inl 0 :: st) h Q) ∧
  (∀ (n d : Nat) (L : List (Option iV)) (a : Int) (h : iH) (Q : Option iV → iH → Prop), G sp sc [] d mX12_growsBy (n + 1) 54 L [.inl a] h Q = Q (some (.inl a)) h) ∧
  (∀ (n d : Nat) (L : List (Option iV)) (st : List iV) (h : iH) (Q : Option iV → iH → Prop), G sp sc [] d mX12_growsBy (n + 1) 55 L st h Q = G sp sc [] d mX12_growsBy n 56 L (.inl 3 :: st) h Q) ∧
  (∀ (n d : Nat) (L : List (Option iV)) (a : Int) (h : iH) (Q : Option iV → iH → Prop), G sp sc [] d mX12_growsBy (n + 1) 56 L [.inl a] h Q = Q (some (.inl a)) h) := ⟨by intros; exact G_at (by decide +kernel : fetch mX12_growsBy 0 = some (.iload_n 0)),
  by intros; exact G_at (by decide +kernel : fetch mX12_growsBy 1 = some (.tableswitch 54 1 5 #[35, 37, 35, 39, 43])),
  by intros; exact G_at (by decide +kernel : fetch mX12_growsBy 36 = some (.iconst 5)),
  by intros; exact G_reti (by decide +kernel : fetch mX12_growsBy 37 = some (.ireturn)) (by decide +kernel),
  by intros; exact G_at (by decide +kernel : fetch mX12_growsBy 38 = some (.iconst 1)),
  by intros; exact G_reti (by decide +kernel : fetch mX12_growsBy 39 = some (.ireturn)) (by decide +kernel),
  by intros; exact G_at (by decide +kernel : fetch mX12_growsBy 40 = some (.iconst 5)),
  by intros; exact G_at (by decide +kernel : fetch mX12_growsBy 41 = some (.iload_n 1)),
  by intros; exact G_at (by decide +kernel : fetch mX12_growsBy 42 = some (.iadd)),
  by intros; exact G_reti (by decide +kernel : fetch mX12_growsBy 43 = some (.ireturn)) (by decide +kernel),
  by intros; exact G_at (by decide +kernel : fetch mX12_growsBy 44 = some (.iload_n 2)),
  by intros; exact G_at (by decide +kernel : fetch mX12_growsBy 45 = some (.ifCond .eq 8)),
  by intros; exact G_at (by decide +kernel : fetch mX12_growsBy 48 = some (.bipush 6)),
  by intros; exact G_at (by decide +kernel : fetch mX12_growsBy 50 = some (.goto 4)),
  by intros; exact G_at (by decide +kernel : fetch mX12_growsBy 53 = some (.iconst 0)),
  by intros; exact G_reti (by decide +kernel : fetch mX12_growsBy 54 = some (.ireturn)) (by decide +kernel),
  by intros; exact G_at (by decide +kernel : fetch mX12_growsBy 55 = some (.iconst 3)),
  by intros; exact G_reti (by decide +kernel : fetch mX12_growsBy 56 = some (.ireturn)) (by decide +kernel)⟩
theorem gX12_sulksBy : (∀ (n d : Nat) (L : List (Option iV)) (st : List iV) (h : iH) (Q : Option iV → iH → Prop), G sp sc [] d mX12_sulksBy (n + 1) 0 L st h Q = (match ld L 0 with | some (.inl x) => G sp sc [] d mX12_sulksBy n 1 L (.inl x :: st) h Q | _ => False)) ∧
  (∀ (n d : Nat) (L : List (Option iV)) (st : List iV) (h : iH) (Q : Option iV → iH → Prop), G sp sc [] d mX12_sulksBy (n + 1) 1 L st h Q = G sp sc [] d mX12_sulksBy n 2 L (.inl 2 :: st) h Q) ∧
  (∀ (n d : Nat) (L : List (Option iV)) (a : Int) (b : Int) (r : List iV) (h : iH) (Q : Option iV → iH → Prop), G sp sc [] d mX12_sulksBy (n + 1) 2 L (.inl b :: .inl a :: r) h Q = ((inI a = true ∧ inI b = true) ∧ (¬ a = b → G sp sc [] d mX12_sulksBy n 9 L r h Q) ∧ (¬ (¬ a = b) → G sp sc [] d mX12_sulksBy n 5 L r h Q))) ∧
  (∀ (n d : Nat) (L : List (Option iV)) (st : List iV) (h : iH) (Q : Option iV → iH → Prop), G sp sc [] d mX12_sulksBy (n + 1) 5 L st h Q = G sp sc [] d mX12_sulksBy n 6 L (.inl 1 :: st) h Q) ∧
  (∀ (n d : Nat) (L : List (Option iV)) (st : List iV) (h : iH) (Q : Option iV → iH → Prop), G sp sc [] d mX12_sulksBy (n + 1) 6 L st h Q = G sp sc [] d mX12_sulksBy n 30 L st h Q) ∧
  (∀ (n d : Nat) (L : List (Option iV)) (st : List iV) (h : iH) (Q : Option iV → iH → Prop), G sp sc [] d mX12_sulksBy (n + 1) 9 L st h Q = (match ld L 0 with | some (.inl x) => G sp sc [] d mX12_sulksBy n 10 L (.inl x :: st) h Q | _ => False)) ∧
  (∀ (n d : Nat) (L : List (Option iV)) (st : List iV) (h : iH) (Q : Option iV → iH → Prop), G sp sc [] d mX12_sulksBy (n + 1) 10 L st h Q = G sp sc [] d mX12_sulksBy n 11 L (.inl 3 :: st) h Q) ∧
  (∀ (n d : Nat) (L : List (Option iV)) (a : Int) (b : Int) (r : List iV) (h : iH) (Q : Option iV → iH → Prop), G sp sc [] d mX12_sulksBy (n + 1) 11 L (.inl b :: .inl a :: r) h Q = ((inI a = true ∧ inI b = true) ∧ (¬ a = b → G sp sc [] d mX12_sulksBy n 18 L r h Q) ∧ (¬ (¬ a = b) → G sp sc [] d mX12_sulksBy n 14 L r h Q))) ∧
  (∀ (n d : Nat) (L : List (Option iV)) (st : List iV) (h : iH) (Q : Option iV → iH → Prop), G sp sc [] d mX12_sulksBy (n + 1) 14 L st h Q = (match ld L 1 with | some (.inl x) => G sp sc [] d mX12_sulksBy n 15 L (.inl x :: st) h Q | _ => False)) ∧
  (∀ (n d : Nat) (L : List (Option iV)) (st : List iV) (h : iH) (Q : Option iV → iH → Prop), G sp sc [] d mX12_sulksBy (n + 1) 15 L st h Q = G sp sc [] d mX12_sulksBy n 30 L st h Q) ∧
  (∀ (n d : Nat) (L : List (Option iV)) (st : List iV) (h : iH) (Q : Option iV → iH → Prop), G sp sc [] d mX12_sulksBy (n + 1) 18 L st h Q = (match ld L 0 with | some (.inl x) => G sp sc [] d mX12_sulksBy n 19 L (.inl x :: st) h Q | _ => False)) ∧
  (∀ (n d : Nat) (L : List (Option iV)) (st : List iV) (h : iH) (Q : Option iV → iH → Prop), G sp sc [] d mX12_sulksBy (n + 1) 19 L st h Q = G sp sc [] d mX12_sulksBy n 20 L (.inl 4 :: st) h Q) ∧
  (∀ (n d : Nat) (L : List (Option iV)) (a : Int) (b : Int) (r : List iV) (h : iH) (Q : Option iV → iH → Prop), G sp sc [] d mX12_sulksBy (n + 1) 20 L (.inl b :: .inl a :: r) h Q = ((inI a = true ∧ inI b = true) ∧ (¬ a = b → G sp sc [] d mX12_sulksBy n 29 L r h Q) ∧ (¬ (¬ a = b) → G sp sc [] d mX12_sulksBy n 23 L r h Q))) ∧
  (∀ (n d : Nat) (L : List (Option iV)) (st : List iV) (h : iH) (Q : Option iV → iH → Prop), G sp sc [] d mX12_sulksBy (n + 1) 23 L st h Q = G sp sc [] d mX12_sulksBy n 24 L (.inl 2 :: st) h Q) ∧
  (∀ (n d : Nat) (L : List (Option iV)) (st : List iV) (h : iH) (Q : Option iV → iH → Prop), G sp sc [] d mX12_sulksBy (n + 1) 24 L st h Q = (match ld L 1 with | some (.inl x) => G sp sc [] d mX12_sulksBy n 25 L (.inl x :: st) h Q | _ => False)) ∧
  (∀ (n d : Nat) (L : List (Option iV)) (a : Int) (b : Int) (r : List iV) (h : iH) (Q : Option iV → iH → Prop), G sp sc [] d mX12_sulksBy (n + 1) 25 L (.inl b :: .inl a :: r) h Q = G sp sc [] d mX12_sulksBy n 26 L (.inl (a * b) :: r) h Q) ∧
  (∀ (n d : Nat) (L : List (Option iV)) (st : List iV) (h : iH) (Q : Option iV → iH → Prop), G sp sc [] d mX12_sulksBy (n + 1) 26 L st h Q = G sp sc [] d mX12_sulksBy n 30 L st h Q) ∧
  (∀ (n d : Nat) (L : List (Option iV)) (st : List iV) (h : iH) (Q : Option iV → iH → Prop), G sp sc [] d mX12_sulksBy (n + 1) 29 L st h Q = G sp sc [] d mX12_sulksBy n 30 L (.inl 0 :: st) h Q) ∧
  (∀ (n d : Nat) (L : List (Option iV)) (a : Int) (h : iH) (Q : Option iV → iH → Prop), G sp sc [] d mX12_sulksBy (n + 1) 30 L [.inl a] h Q = Q (some (.inl a)) h) := ⟨by intros; exact G_at (by decide +kernel : fetch mX12_sulksBy 0 = some (.iload_n 0)),
  by intros; exact G_at (by decide +kernel : fetch mX12_sulksBy 1 = some (.iconst 2)),
  by intros; exact G_at (by decide +kernel : fetch mX12_sulksBy 2 = some (.if_icmp .ne 7)),
  by intros; exact G_at (by decide +kernel : fetch mX12_sulksBy 5 = some (.iconst 1)),
  by intros; exact G_at (by decide +kernel : fetch mX12_sulksBy 6 = some (.goto 24)),
  by intros; exact G_at (by decide +kernel : fetch mX12_sulksBy 9 = some (.iload_n 0)),
  by intros; exact G_at (by decide +kernel : fetch mX12_sulksBy 10 = some (.iconst 3)),
  by intros; exact G_at (by decide +kernel : fetch mX12_sulksBy 11 = some (.if_icmp .ne 7)),
  by intros; exact G_at (by decide +kernel : fetch mX12_sulksBy 14 = some (.iload_n 1)),
  by intros; exact G_at (by decide +kernel : fetch mX12_sulksBy 15 = some (.goto 15)),
  by intros; exact G_at (by decide +kernel : fetch mX12_sulksBy 18 = some (.iload_n 0)),
  by intros; exact G_at (by decide +kernel : fetch mX12_sulksBy 19 = some (.iconst 4)),
  by intros; exact G_at (by decide +kernel : fetch mX12_sulksBy 20 = some (.if_icmp .ne 9)),
  by intros; exact G_at (by decide +kernel : fetch mX12_sulksBy 23 = some (.iconst 2)),
  by intros; exact G_at (by decide +kernel : fetch mX12_sulksBy 24 = some (.iload_n 1)),
  by intros; exact G_at (by decide +kernel : fetch mX12_sulksBy 25 = some (.imul)),
  by intros; exact G_at (by decide +kernel : fetch mX12_sulksBy 26 = some (.goto 4)),
  by intros; exact G_at (by decide +kernel : fetch mX12_sulksBy 29 = some (.iconst 0)),
  by intros; exact G_reti (by decide +kernel : fetch mX12_sulksBy 30 = some (.ireturn)) (by decide +kernel)⟩
theorem gX12_retellsBy : (∀ (n d : Nat) (L : List (Option iV)) (st : List iV) (h : iH) (Q : Option iV → iH → Prop), G sp sc [] d mX12_retellsBy (n + 1) 0 L st h Q = (match ld L 2 with | some (.inl x) => G sp sc [] d mX12_retellsBy n 1 L (.inl x :: st) h Q | _ => False)) ∧
  (∀ (n d : Nat) (L : List (Option iV)) (st : List iV) (h : iH) (Q : Option iV → iH → Prop), G sp sc [] d mX12_retellsBy (n + 1) 1 L st h Q = (match ld L 2 with | some (.inl x) => G sp sc [] d mX12_retellsBy n 2 L (.inl x :: st) h Q | _ => False)) ∧
  (∀ (n d : Nat) (L : List (Option iV)) (st : List iV) (h : iH) (Q : Option iV → iH → Prop), G sp sc [] d mX12_retellsBy (n + 1) 2 L st h Q = G sp sc [] d mX12_retellsBy n 3 L (.inl 4 :: st) h Q) ∧
  (∀ (n d : Nat) (L : List (Option iV)) (a : Int) (b : Int) (r : List iV) (h : iH) (Q : Option iV → iH → Prop), G sp sc [] d mX12_retellsBy (n + 1) 3 L (.inl b :: .inl a :: r) h Q = ((inI a = true ∧ inI b = true ∧ 0 < b) ∧ G sp sc [] d mX12_retellsBy n 4 L (.inl (a.tdiv b) :: r) h Q)) ∧
  (∀ (n d : Nat) (L : List (Option iV)) (a : Int) (b : Int) (r : List iV) (h : iH) (Q : Option iV → iH → Prop), G sp sc [] d mX12_retellsBy (n + 1) 4 L (.inl b :: .inl a :: r) h Q = G sp sc [] d mX12_retellsBy n 5 L (.inl (a - b) :: r) h Q) ∧
  (∀ (n d : Nat) (L : List (Option iV)) (r : List iV) (x : Int) (h : iH) (Q : Option iV → iH → Prop), G sp sc [] d mX12_retellsBy (n + 1) 5 L (.inl x :: r) h Q = (match st1 L 3 (.inl x) with | some L' => G sp sc [] d mX12_retellsBy n 6 L' r h Q | none => False)) ∧
  (∀ (n d : Nat) (L : List (Option iV)) (st : List iV) (h : iH) (Q : Option iV → iH → Prop), G sp sc [] d mX12_retellsBy (n + 1) 6 L st h Q = (match ld L 0 with | some (.inl x) => G sp sc [] d mX12_retellsBy n 7 L (.inl x :: st) h Q | _ => False)) ∧
  (∀ (n d : Nat) (L : List (Option iV)) (a : Int) (r : List iV) (h : iH) (Q : Option iV → iH → Prop), G sp sc [] d mX12_retellsBy (n + 1) 7 L (.inl a :: r) h Q = (inI a = true ∧ ((a < 1 ∨ 5 < a) → G sp sc [] d mX12_retellsBy n 72 L r h Q) ∧ (¬ (a < 1 ∨ 5 < a) → (match (#[33, 37, 41, 51, 63] : Array Int)[(a - (1 : Int)).toNat]? with | some off => (match jmp 7 off with | some q => GK sp sc [] d mX12_retellsBy n q L r h Q | none => False) | none => False)))) ∧
  (∀ (n d : Nat) (L : List (Option iV)) (st : List iV) (h : iH) (Q : Option iV → iH → Prop), G sp sc [] d mX12_retellsBy (n + 1) 40 L st h Q = (match ld L 3 with | some (.inl x) => G sp sc [] d mX12_retellsBy n 41 L (.inl x :: st) h Q | _ => False)) ∧
  (∀ (n d : Nat) (L : List (Option iV)) (st : List iV) (h : iH) (Q : Option iV → iH → Prop), G sp sc [] d mX12_retellsBy (n + 1) 41 L st h Q = G sp sc [] d mX12_retellsBy n 42 L (.inl 2 :: st) h Q) ∧
  (∀ (n d : Nat) (L : List (Option iV)) (a : Int) (b : Int) (r : List iV) (h : iH) (Q : Option iV → iH → Prop), G sp sc [] d mX12_retellsBy (n + 1) 42 L (.inl b :: .inl a :: r) h Q = G sp sc [] d mX12_retellsBy n 43 L (.inl (a + b) :: r) h Q) ∧
  (∀ (n d : Nat) (L : List (Option iV)) (a : Int) (h : iH) (Q : Option iV → iH → Prop), G sp sc [] d mX12_retellsBy (n + 1) 43 L [.inl a] h Q = Q (some (.inl a)) h) ∧
  (∀ (n d : Nat) (L : List (Option iV)) (st : List iV) (h : iH) (Q : Option iV → iH → Prop), G sp sc [] d mX12_retellsBy (n + 1) 44 L st h Q = (match ld L 3 with | some (.inl x) => G sp sc [] d mX12_retellsBy n 45 L (.inl x :: st) h Q | _ => False)) ∧
  (∀ (n d : Nat) (L : List (Option iV)) (st : List iV) (h : iH) (Q : Option iV → iH → Prop), G sp sc [] d mX12_retellsBy (n + 1) 45 L st h Q = G sp sc [] d mX12_retellsBy n 46 L (.inl 2 :: st) h Q) ∧
  (∀ (n d : Nat) (L : List (Option iV)) (a : Int) (b : Int) (r : List iV) (h : iH) (Q : Option iV → iH → Prop), G sp sc [] d mX12_retellsBy (n + 1) 46 L (.inl b :: .inl a :: r) h Q = ((inI a = true ∧ inI b = true ∧ 0 < b) ∧ G sp sc [] d mX12_retellsBy n 47 L (.inl (a.tdiv b) :: r) h Q)) ∧
  (∀ (n d : Nat) (L : List (Option iV)) (a : Int) (h : iH) (Q : Option iV → iH → Prop), G sp sc [] d mX12_retellsBy (n + 1) 47 L [.inl a] h Q = Q (some (.inl a)) h) ∧
  (∀ (n d : Nat) (L : List (Option iV)) (st : List iV) (h : iH) (Q : Option iV → iH → Prop), G sp sc [] d mX12_retellsBy (n + 1) 48 L st h Q = G sp sc [] d mX12_retellsBy n 49 L (.inl 0 :: st) h Q) ∧
  (∀ (n d : Nat) (L : List (Option iV)) (st : List iV) (h : iH) (Q : Option iV → iH → Prop), G sp sc [] d mX12_retellsBy (n + 1) 49 L st h Q = (match ld L 3 with | some (.inl x) => G sp sc [] d mX12_retellsBy n 50 L (.inl x :: st) h Q | _ => False)) ∧
  (∀ (n d : Nat) (L : List (Option iV)) (st : List iV) (h : iH) (Q : Option iV → iH → Prop), G sp sc [] d mX12_retellsBy (n + 1) 50 L st h Q = G sp sc [] d mX12_retellsBy n 51 L (.inl 2 :: st) h Q) ∧
  (∀ (n d : Nat) (L : List (Option iV)) (a : Int) (b : Int) (r : List iV) (h : iH) (Q : Option iV → iH → Prop), G sp sc [] d mX12_retellsBy (n + 1) 51 L (.inl b :: .inl a :: r) h Q = G sp sc [] d mX12_retellsBy n 52 L (.inl (a + b) :: r) h Q) ∧
  (∀ (n d : Nat) (L : List (Option iV)) (st : List iV) (h : iH) (Q : Option iV → iH → Prop), G sp sc [] d mX12_retellsBy (n + 1) 52 L st h Q = (match ld L 1 with | some (.inl x) => G sp sc [] d mX12_retellsBy n 53 L (.inl x :: st) h Q | _ => False)) ∧
  (∀ (n d : Nat) (L : List (Option iV)) (a : Int) (b : Int) (r : List iV) (h : iH) (Q : Option iV → iH → Prop), G sp sc [] d mX12_retellsBy (n + 1) 53 L (.inl b :: .inl a :: r) h Q = G sp sc [] d mX12_retellsBy n 54 L (.inl (a - b) :: r) h Q) ∧
  (∀ (n d : Nat) (L : List (Option iV)) (r : List iV) (z0 : iV) (z1 : iV) (h : iH) (Q : Option iV → iH → Prop), G sp sc [] (d + 1) mX12_retellsBy (n + 1) 54 L (z1 :: z0 :: r) h Q = (cs r ≤ 8 ∧ Call sp sc d mX12_most_II [z0, z1] h (fun q h1 => GC sp sc [] (d + 1) mX12_retellsBy n 57 L q r h h1 Q))) ∧
  (∀ (n d : Nat) (L : List (Option iV)) (a : Int) (h : iH) (Q : Option iV → iH → Prop), G sp sc [] d mX12_retellsBy (n + 1) 57 L [.inl a] h Q = Q (some (.inl a)) h) ∧
  (∀ (n d : Nat) (L : List (Option iV)) (st : List iV) (h : iH) (Q : Option iV → iH → Prop), G sp sc [] d mX12_retellsBy (n + 1) 58 L st h Q = G sp sc [] d mX12_retellsBy n 59 L (.inl 0 :: st) h Q) ∧
  (∀ (n d : Nat) (L : List (Option iV)) (st : List iV) (h : iH) (Q : Option iV → iH → Prop), G sp sc [] d mX12_retellsBy (n + 1) 59 L st h Q = (match ld L 3 with | some (.inl x) => G sp sc [] d mX12_retellsBy n 60 L (.inl x :: st) h Q | _ => False)) ∧
  (∀ (n d : Nat) (L : List (Option iV)) (st : List iV) (h : iH) (Q : Option iV → iH → Prop), G sp sc [] d mX12_retellsBy (n + 1) 60 L st h Q = G sp sc [] d mX12_retellsBy n 61 L (.inl 2 :: st) h Q) ∧
  (∀ (n d : Nat) (L : List (Option iV)) (a : Int) (b : Int) (r : List iV) (h : iH) (Q : Option iV → iH → Prop), G sp sc [] d mX12_retellsBy (n + 1) 61 L (.inl b :: .inl a :: r) h Q = G sp sc [] d mX12_retellsBy n 62 L (.inl (a + b) :: r) h Q) ∧
  (∀ (n d : Nat) (L : List (Option iV)) (st : List iV) (h : iH) (Q : Option iV → iH → Prop), G sp sc [] d mX12_retellsBy (n + 1) 62 L st h Q = (match ld L 1 with | some (.inl x) => G sp sc [] d mX12_retellsBy n 63 L (.inl x :: st) h Q | _ => False)) ∧
  (∀ (n d : Nat) (L : List (Option iV)) (a : Int) (b : Int) (r : List iV) (h : iH) (Q : Option iV → iH → Prop), G sp sc [] d mX12_retellsBy (n + 1) 63 L (.inl b :: .inl a :: r) h Q = G sp sc [] d mX12_retellsBy n 64 L (.inl (a - b) :: r) h Q) ∧
  (∀ (n d : Nat) (L : List (Option iV)) (r : List iV) (z0 : iV) (z1 : iV) (h : iH) (Q : Option iV → iH → Prop), G sp sc [] (d + 1) mX12_retellsBy (n + 1) 64 L (z1 :: z0 :: r) h Q = (cs r ≤ 8 ∧ Call sp sc d mX12_most_II [z0, z1] h (fun q h1 => GC sp sc [] (d + 1) mX12_retellsBy n 67 L q r h h1 Q))) ∧
  (∀ (n d : Nat) (L : List (Option iV)) (st : List iV) (h : iH) (Q : Option iV → iH → Prop), G sp sc [] d mX12_retellsBy (n + 1) 67 L st h Q = (match ld L 2 with | some (.inl x) => G sp sc [] d mX12_retellsBy n 68 L (.inl x :: st) h Q | _ => False)) ∧
  (∀ (n d : Nat) (L : List (Option iV)) (a : Int) (b : Int) (r : List iV) (h : iH) (Q : Option iV → iH → Prop), G sp sc [] d mX12_retellsBy (n + 1) 68 L (.inl b :: .inl a :: r) h Q = G sp sc [] d mX12_retellsBy n 69 L (.inl (a + b) :: r) h Q) ∧
  (∀ (n d : Nat) (L : List (Option iV)) (a : Int) (h : iH) (Q : Option iV → iH → Prop), G sp sc [] d mX12_retellsBy (n + 1) 69 L [.inl a] h Q = Q (some (.inl a)) h) ∧
  (∀ (n d : Nat) (L : List (Option iV)) (st : List iV) (h : iH) (Q : Option iV → iH → Prop), G sp sc [] d mX12_retellsBy (n + 1) 70 L st h Q = (match ld L 2 with | some (.inl x) => G sp sc [] d mX12_retellsBy n 71 L (.inl x :: st) h Q | _ => False)) ∧
  (∀ (n d : Nat) (L : List (Option iV)) (a : Int) (h : iH) (Q : Option iV → iH → Prop), G sp sc [] d mX12_retellsBy (n + 1) 71 L [.inl a] h Q = Q (some (.inl a)) h) ∧
  (∀ (n d : Nat) (L : List (Option iV)) (st : List iV) (h : iH) (Q : Option iV → iH → Prop), G sp sc [] d mX12_retellsBy (n + 1) 72 L st h Q = (match ld L 3 with | some (.inl x) => G sp sc [] d mX12_retellsBy n 73 L (.inl x :: st) h Q | _ => False)) ∧
  (∀ (n d : Nat) (L : List (Option iV)) (a : Int) (h : iH) (Q : Option iV → iH → Prop), G sp sc [] d mX12_retellsBy (n + 1) 73 L [.inl a] h Q = Q (some (.inl a)) h) := ⟨by intros; exact G_at (by decide +kernel : fetch mX12_retellsBy 0 = some (.iload_n 2)),
  by intros; exact G_at (by decide +kernel : fetch mX12_retellsBy 1 = some (.iload_n 2)),
  by intros; exact G_at (by decide +kernel : fetch mX12_retellsBy 2 = some (.iconst 4)),
  by intros; exact G_at (by decide +kernel : fetch mX12_retellsBy 3 = some (.idiv)),
  by intros; exact G_at (by decide +kernel : fetch mX12_retellsBy 4 = some (.isub)),
  by intros; exact G_at (by decide +kernel : fetch mX12_retellsBy 5 = some (.istore_n 3)),
  by intros; exact G_at (by decide +kernel : fetch mX12_retellsBy 6 = some (.iload_n 0)),
  by intros; exact G_at (by decide +kernel : fetch mX12_retellsBy 7 = some (.tableswitch 65 1 5 #[33, 37, 41, 51, 63])),
  by intros; exact G_at (by decide +kernel : fetch mX12_retellsBy 40 = some (.iload_n 3)),
  by intros; exact G_at (by decide +kernel : fetch mX12_retellsBy 41 = some (.iconst 2)),
  by intros; exact G_at (by decide +kernel : fetch mX12_retellsBy 42 = some (.iadd)),
  by intros; exact G_reti (by decide +kernel : fetch mX12_retellsBy 43 = some (.ireturn)) (by decide +kernel),
  by intros; exact G_at (by decide +kernel : fetch mX12_retellsBy 44 = some (.iload_n 3)),
  by intros; exact G_at (by decide +kernel : fetch mX12_retellsBy 45 = some (.iconst 2)),
  by intros; exact G_at (by decide +kernel : fetch mX12_retellsBy 46 = some (.idiv)),
  by intros; exact G_reti (by decide +kernel : fetch mX12_retellsBy 47 = some (.ireturn)) (by decide +kernel),
  by intros; exact G_at (by decide +kernel : fetch mX12_retellsBy 48 = some (.iconst 0)),
  by intros; exact G_at (by decide +kernel : fetch mX12_retellsBy 49 = some (.iload_n 3)),
  by intros; exact G_at (by decide +kernel : fetch mX12_retellsBy 50 = some (.iconst 2)),
  by intros; exact G_at (by decide +kernel : fetch mX12_retellsBy 51 = some (.iadd)),
  by intros; exact G_at (by decide +kernel : fetch mX12_retellsBy 52 = some (.iload_n 1)),
  by intros; exact G_at (by decide +kernel : fetch mX12_retellsBy 53 = some (.isub)),
  by intros; exact G_callS (k := 2) (kd := 0) (by decide +kernel : fetch mX12_retellsBy 54 = some (.invokestatic 71)) (by decide +kernel) (by decide +kernel) (by decide +kernel) rfl (by decide),
  by intros; exact G_reti (by decide +kernel : fetch mX12_retellsBy 57 = some (.ireturn)) (by decide +kernel),
  by intros; exact G_at (by decide +kernel : fetch mX12_retellsBy 58 = some (.iconst 0)),
  by intros; exact G_at (by decide +kernel : fetch mX12_retellsBy 59 = some (.iload_n 3)),
  by intros; exact G_at (by decide +kernel : fetch mX12_retellsBy 60 = some (.iconst 2)),
  by intros; exact G_at (by decide +kernel : fetch mX12_retellsBy 61 = some (.iadd)),
  by intros; exact G_at (by decide +kernel : fetch mX12_retellsBy 62 = some (.iload_n 1)),
  by intros; exact G_at (by decide +kernel : fetch mX12_retellsBy 63 = some (.isub)),
  by intros; exact G_callS (k := 2) (kd := 0) (by decide +kernel : fetch mX12_retellsBy 64 = some (.invokestatic 71)) (by decide +kernel) (by decide +kernel) (by decide +kernel) rfl (by decide),
  by intros; exact G_at (by decide +kernel : fetch mX12_retellsBy 67 = some (.iload_n 2)),
  by intros; exact G_at (by decide +kernel : fetch mX12_retellsBy 68 = some (.iadd)),
  by intros; exact G_reti (by decide +kernel : fetch mX12_retellsBy 69 = some (.ireturn)) (by decide +kernel),
  by intros; exact G_at (by decide +kernel : fetch mX12_retellsBy 70 = some (.iload_n 2)),
  by intros; exact G_reti (by decide +kernel : fetch mX12_retellsBy 71 = some (.ireturn)) (by decide +kernel),
  by intros; exact G_at (by decide +kernel : fetch mX12_retellsBy 72 = some (.iload_n 3)),
  by intros; exact G_reti (by decide +kernel : fetch mX12_retellsBy 73 = some (.ireturn)) (by decide +kernel)⟩
theorem gX12_begins : (∀ (n d : Nat) (L : List (Option iV)) (st : List iV) (h : iH) (Q : Option iV → iH → Prop), G sp sc [2] d mX12_begins (n + 1) 0 L st h Q = G sp sc [2] d mX12_begins n 1 L (.inl 0 :: st) h Q) ∧
  (∀ (n d : Nat) (L : List (Option iV)) (r : List iV) (x : Int) (h : iH) (Q : Option iV → iH → Prop), G sp sc [2] d mX12_begins (n + 1) 1 L (.inl x :: r) h Q = (match st1 L 1 (.inl x) with | some L' => Run sp sc d mX12_begins 2 L' r h Q | none => False)) ∧
  (∀ (n d : Nat) (L : List (Option iV)) (st : List iV) (h : iH) (Q : Option iV → iH → Prop), G sp sc [2] d mX12_begins (n + 1) 2 L st h Q = (match ld L 1 with | some (.inl x) => G sp sc [2] d mX12_begins n 3 L (.inl x :: st) h Q | _ => False)) ∧
  (∀ (n d : Nat) (L : List (Option iV)) (st : List iV) (h : iH) (Q : Option iV → iH → Prop), G sp sc [2] d mX12_begins (n + 1) 3 L st h Q = G sp sc [2] d mX12_begins n 4 L (.inl 4 :: st) h Q) ∧
  (∀ (n d : Nat) (L : List (Option iV)) (a : Int) (b : Int) (r : List iV) (h : iH) (Q : Option iV → iH → Prop), G sp sc [2] d mX12_begins (n + 1) 4 L (.inl b :: .inl a :: r) h Q = ((inI a = true ∧ inI b = true) ∧ (b ≤ a → G sp sc [2] d mX12_begins n 35 L r h Q) ∧ (¬ (b ≤ a) → G sp sc [2] d mX12_begins n 7 L r h Q))) ∧
  (∀ (n d : Nat) (L : List (Option iV)) (st : List iV) (h : iH) (Q : Option iV → iH → Prop), G sp sc [2] d mX12_begins (n + 1) 7 L st h Q = (match ld L 0 with | some (.inr (.inr (r + 1))) => G sp sc [2] d mX12_begins n 8 L (.inr (.inr (r + 1)) :: st) h Q | _ => False)) ∧
  (∀ (n d : Nat) (L : List (Option iV)) (r : List iV) (m : Nat) (h : iH) (Q : Option iV → iH → Prop), G sp sc [2] d mX12_begins (n + 1) 8 L (.inr (.inr (m + 2)) :: r) h Q = (match h.1[m]? with | some (.inl (ci, fs)) => (match lkF 12 22 ci with | some k => (match fs[k]? with | some v => G sp sc [2] d mX12_begins n 11 L (v :: r) h Q | none => False) | none => False) | _ => False)) ∧
  (∀ (n d : Nat) (L : List (Option iV)) (st : List iV) (h : iH) (Q : Option iV → iH → Prop), G sp sc [2] d mX12_begins (n + 1) 11 L st h Q = (match ld L 1 with | some (.inl x) => G sp sc [2] d mX12_begins n 12 L (.inl x :: st) h Q | _ => False)) ∧
  (∀ (n d : Nat) (L : List (Option iV)) (st : List iV) (h : iH) (Q : Option iV → iH → Prop), G sp sc [2] d mX12_begins (n + 1) 12 L st h Q = G sp sc [2] d mX12_begins n 13 L (.inl 0 :: st) h Q) ∧
  (∀ (n d : Nat) (L : List (Option iV)) (r : List iV) (v : Int) (j : Int) (m : Nat) (h : iH) (Q : Option iV → iH → Prop), G sp sc [2] d mX12_begins (n + 1) 13 L (.inl v :: .inl j :: .inr (.inr (m + 2)) :: r) h Q = (match h.1[m]? with | some (.inr (.inl (0, xs))) => inA j xs.length = true ∧ G sp sc [2] d mX12_begins n 14 L r (h.1.set m (.inr (.inl (0, xs.set j.toNat v))), h.2) Q | _ => False)) ∧
  (∀ (n d : Nat) (L : List (Option iV)) (st : List iV) (h : iH) (Q : Option iV → iH → Prop), G sp sc [2] d mX12_begins (n + 1) 14 L st h Q = (match ld L 0 with | some (.inr (.inr (r + 1))) => G sp sc [2] d mX12_begins n 15 L (.inr (.inr (r + 1)) :: st) h Q | _ => False)) ∧
  (∀ (n d : Nat) (L : List (Option iV)) (r : List iV) (m : Nat) (h : iH) (Q : Option iV → iH → Prop), G sp sc [2] d mX12_begins (n + 1) 15 L (.inr (.inr (m + 2)) :: r) h Q = (match h.1[m]? with | some (.inl (ci, fs)) => (match lkF 12 25 ci with | some k => (match fs[k]? with | some v => G sp sc [2] d mX12_begins n 18 L (v :: r) h Q | none => False) | none => False) | _ => False)) ∧
  (∀ (n d : Nat) (L : List (Option iV)) (st : List iV) (h : iH) (Q : Option iV → iH → Prop), G sp sc [2] d mX12_begins (n + 1) 18 L st h Q = (match ld L 1 with | some (.inl x) => G sp sc [2] d mX12_begins n 19 L (.inl x :: st) h Q | _ => False)) ∧
  (∀ (n d : Nat) (L : List (Option iV)) (st : List iV) (h : iH) (Q : Option iV → iH → Prop), G sp sc [2] d mX12_begins (n + 1) 19 L st h Q = ((-128 ≤ ((-4) : Int) ∧ ((-4) : Int) < 128) ∧ G sp sc [2] d mX12_begins n 21 L (.inl (-4) :: st) h Q)) ∧
  (∀ (n d : Nat) (L : List (Option iV)) (r : List iV) (v : Int) (j : Int) (m : Nat) (h : iH) (Q : Option iV → iH → Prop), G sp sc [2] d mX12_begins (n + 1) 21 L (.inl v :: .inl j :: .inr (.inr (m + 2)) :: r) h Q = (match h.1[m]? with | some (.inr (.inl (0, xs))) => inA j xs.length = true ∧ G sp sc [2] d mX12_begins n 22 L r (h.1.set m (.inr (.inl (0, xs.set j.toNat v))), h.2) Q | _ => False)) ∧
  (∀ (n d : Nat) (L : List (Option iV)) (st : List iV) (h : iH) (Q : Option iV → iH → Prop), G sp sc [2] d mX12_begins (n + 1) 22 L st h Q = (match ld L 0 with | some (.inr (.inr (r + 1))) => G sp sc [2] d mX12_begins n 23 L (.inr (.inr (r + 1)) :: st) h Q | _ => False)) ∧
  (∀ (n d : Nat) (L : List (Option iV)) (r : List iV) (m : Nat) (h : iH) (Q : Option iV → iH → Prop), G sp sc [2] d mX12_begins (n + 1) 23 L (.inr (.inr (m + 2)) :: r) h Q = (match h.1[m]? with | some (.inl (ci, fs)) => (match lkF 12 28 ci with | some k => (match fs[k]? with | some v => G sp sc [2] d mX12_begins n 26 L (v :: r) h Q | none => False) | none => False) | _ => False)) ∧
  (∀ (n d : Nat) (L : List (Option iV)) (st : List iV) (h : iH) (Q : Option iV → iH → Prop), G sp sc [2] d mX12_begins (n + 1) 26 L st h Q = (match ld L 1 with | some (.inl x) => G sp sc [2] d mX12_begins n 27 L (.inl x :: st) h Q | _ => False)) ∧
  (∀ (n d : Nat) (L : List (Option iV)) (st : List iV) (h : iH) (Q : Option iV → iH → Prop), G sp sc [2] d mX12_begins (n + 1) 27 L st h Q = (match ld L 1 with | some (.inl x) => G sp sc [2] d mX12_begins n 28 L (.inl x :: st) h Q | _ => False)) ∧
  (∀ (n d : Nat) (L : List (Option iV)) (r : List iV) (v : Int) (j : Int) (m : Nat) (h : iH) (Q : Option iV → iH → Prop), G sp sc [2] d mX12_begins (n + 1) 28 L (.inl v :: .inl j :: .inr (.inr (m + 2)) :: r) h Q = (match h.1[m]? with | some (.inr (.inl (0, xs))) => inA j xs.length = true ∧ G sp sc [2] d mX12_begins n 29 L r (h.1.set m (.inr (.inl (0, xs.set j.toNat v))), h.2) Q | _ => False)) ∧
  (∀ (n d : Nat) (L : List (Option iV)) (st : List iV) (h : iH) (Q : Option iV → iH → Prop), G sp sc [2] d mX12_begins (n + 1) 29 L st h Q = (match ld L 1 with | some (.inl x) => (match st1 L 1 (.inl (x + 1)) with | some L' => G sp sc [2] d mX12_begins n 32 L' st h Q | none => False) | _ => False)) ∧
  (∀ (n d : Nat) (L : List (Option iV)) (st : List iV) (h : iH) (Q : Option iV → iH → Prop), G sp sc [2] d mX12_begins (n + 1) 32 L st h Q = Run sp sc d mX12_begins 2 L st h Q) ∧
  (∀ (n d : Nat) (L : List (Option iV)) (st : List iV) (h : iH) (Q : Option iV → iH → Prop), G sp sc [2] d mX12_begins (n + 1) 35 L st h Q = (match ld L 0 with | some (.inr (.inr (r + 1))) => G sp sc [2] d mX12_begins n 36 L (.inr (.inr (r + 1)) :: st) h Q | _ => False)) ∧
  (∀ (n d : Nat) (L : List (Option iV)) (st : List iV) (h : iH) (Q : Option iV → iH → Prop), G sp sc [2] d mX12_begins (n + 1) 36 L st h Q = G sp sc [2] d mX12_begins n 37 L (.inl 0 :: st) h Q) ∧
  (∀ (n d : Nat) (L : List (Option iV)) (r : List iV) (v : iV) (m : Nat) (h : iH) (Q : Option iV → iH → Prop), G sp sc [2] d mX12_begins (n + 1) 37 L (v :: .inr (.inr (m + 2)) :: r) h Q = (match h.1[m]? with | some (.inl (ci, fs)) => (match lkF 12 75 ci with | some k => (fitV (tyT ci k) v = true ∧ k < fs.length ∧ pOK 12 false ci k = true) ∧ G sp sc [2] d mX12_begins n 40 L r (h.1.set m (.inl (ci, fs.set k v)), h.2) Q | none => False) | _ => False)) ∧
  (∀ (n d : Nat) (L : List (Option iV)) (st : List iV) (h : iH) (Q : Option iV → iH → Prop), G sp sc [2] d mX12_begins (n + 1) 40 L st h Q = (match ld L 0 with | some (.inr (.inr (r + 1))) => G sp sc [2] d mX12_begins n 41 L (.inr (.inr (r + 1)) :: st) h Q | _ => False)) ∧
  (∀ (n d : Nat) (L : List (Option iV)) (st : List iV) (h : iH) (Q : Option iV → iH → Prop), G sp sc [2] d mX12_begins (n + 1) 41 L st h Q = G sp sc [2] d mX12_begins n 42 L (.inl 0 :: st) h Q) ∧
  (∀ (n d : Nat) (L : List (Option iV)) (r : List iV) (v : iV) (m : Nat) (h : iH) (Q : Option iV → iH → Prop), G sp sc [2] d mX12_begins (n + 1) 42 L (v :: .inr (.inr (m + 2)) :: r) h Q = (match h.1[m]? with | some (.inl (ci, fs)) => (match lkF 12 79 ci with | some k => (fitV (tyT ci k) v = true ∧ k < fs.length ∧ pOK 12 false ci k = true) ∧ G sp sc [2] d mX12_begins n 45 L r (h.1.set m (.inl (ci, fs.set k v)), h.2) Q | none => False) | _ => False)) ∧
  (∀ (n d : Nat) (L : List (Option iV)) (st : List iV) (h : iH) (Q : Option iV → iH → Prop), G sp sc [2] d mX12_begins (n + 1) 45 L st h Q = (match ld L 0 with | some (.inr (.inr (r + 1))) => G sp sc [2] d mX12_begins n 46 L (.inr (.inr (r + 1)) :: st) h Q | _ => False)) ∧
  (∀ (n d : Nat) (L : List (Option iV)) (st : List iV) (h : iH) (Q : Option iV → iH → Prop), G sp sc [2] d mX12_begins (n + 1) 46 L st h Q = ((-128 ≤ ((-4) : Int) ∧ ((-4) : Int) < 128) ∧ G sp sc [2] d mX12_begins n 48 L (.inl (-4) :: st) h Q)) ∧
  (∀ (n d : Nat) (L : List (Option iV)) (r : List iV) (v : iV) (m : Nat) (h : iH) (Q : Option iV → iH → Prop), G sp sc [2] d mX12_begins (n + 1) 48 L (v :: .inr (.inr (m + 2)) :: r) h Q = (match h.1[m]? with | some (.inl (ci, fs)) => (match lkF 12 82 ci with | some k => (fitV (tyT ci k) v = true ∧ k < fs.length ∧ pOK 12 false ci k = true) ∧ G sp sc [2] d mX12_begins n 51 L r (h.1.set m (.inl (ci, fs.set k v)), h.2) Q | none => False) | _ => False)) ∧
  (∀ (n d : Nat) (L : List (Option iV)) (st : List iV) (h : iH) (Q : Option iV → iH → Prop), G sp sc [2] d mX12_begins (n + 1) 51 L st h Q = (match ld L 0 with | some (.inr (.inr (r + 1))) => G sp sc [2] d mX12_begins n 52 L (.inr (.inr (r + 1)) :: st) h Q | _ => False)) ∧
  (∀ (n d : Nat) (L : List (Option iV)) (st : List iV) (h : iH) (Q : Option iV → iH → Prop), G sp sc [2] d mX12_begins (n + 1) 52 L st h Q = G sp sc [2] d mX12_begins n 53 L (.inl 0 :: st) h Q) ∧
  (∀ (n d : Nat) (L : List (Option iV)) (r : List iV) (v : iV) (m : Nat) (h : iH) (Q : Option iV → iH → Prop), G sp sc [2] d mX12_begins (n + 1) 53 L (v :: .inr (.inr (m + 2)) :: r) h Q = (match h.1[m]? with | some (.inl (ci, fs)) => (match lkF 12 85 ci with | some k => (fitV (tyT ci k) v = true ∧ k < fs.length ∧ pOK 12 false ci k = true) ∧ G sp sc [2] d mX12_begins n 56 L r (h.1.set m (.inl (ci, fs.set k v)), h.2) Q | none => False) | _ => False)) ∧
  (∀ (n d : Nat) (L : List (Option iV))  (h : iH) (Q : Option iV → iH → Prop), G sp sc [2] d mX12_begins (n + 1) 56 L [] h Q = Q none h) ∧
  lkF 12 22 12 = some 5 ∧
  lkF 12 25 12 = some 6 ∧
  lkF 12 28 12 = some 7 ∧
  lkF 12 75 12 = some 8 ∧
  lkF 12 79 12 = some 9 ∧
  lkF 12 82 12 = some 10 ∧
  lkF 12 85 12 = some 11 ∧
  pOK 12 false 12 10 = true ∧
  pOK 12 false 12 11 = true ∧
  pOK 12 false 12 8 = true ∧
  pOK 12 false 12 9 = true := ⟨by intros; exact G_at (by decide +kernel : fetch mX12_begins 0 = some (.iconst 0)),
  by intros; exact G_at (by decide +kernel : fetch mX12_begins 1 = some (.istore_n 1)),
  by intros; exact G_at (by decide +kernel : fetch mX12_begins 2 = some (.iload_n 1)),
  by intros; exact G_at (by decide +kernel : fetch mX12_begins 3 = some (.iconst 4)),
  by intros; exact G_at (by decide +kernel : fetch mX12_begins 4 = some (.if_icmp .ge 31)),
  by intros; exact G_at (by decide +kernel : fetch mX12_begins 7 = some (.aload_n 0)),
  by intros; exact G_own (by decide +kernel : fetch mX12_begins 8 = some (.getfield 22)) (by decide +kernel),
  by intros; exact G_at (by decide +kernel : fetch mX12_begins 11 = some (.iload_n 1)),
  by intros; exact G_at (by decide +kernel : fetch mX12_begins 12 = some (.iconst 0)),
  by intros; exact G_at (by decide +kernel : fetch mX12_begins 13 = some (.iastore)),
  by intros; exact G_at (by decide +kernel : fetch mX12_begins 14 = some (.aload_n 0)),
  by intros; exact G_own (by decide +kernel : fetch mX12_begins 15 = some (.getfield 25)) (by decide +kernel),
  by intros; exact G_at (by decide +kernel : fetch mX12_begins 18 = some (.iload_n 1)),
  by intros; exact G_at (by decide +kernel : fetch mX12_begins 19 = some (.bipush (-4))),
  by intros; exact G_at (by decide +kernel : fetch mX12_begins 21 = some (.iastore)),
  by intros; exact G_at (by decide +kernel : fetch mX12_begins 22 = some (.aload_n 0)),
  by intros; exact G_own (by decide +kernel : fetch mX12_begins 23 = some (.getfield 28)) (by decide +kernel),
  by intros; exact G_at (by decide +kernel : fetch mX12_begins 26 = some (.iload_n 1)),
  by intros; exact G_at (by decide +kernel : fetch mX12_begins 27 = some (.iload_n 1)),
  by intros; exact G_at (by decide +kernel : fetch mX12_begins 28 = some (.iastore)),
  by intros; exact G_at (by decide +kernel : fetch mX12_begins 29 = some (.iinc 1 1)),
  by intros; exact G_at (by decide +kernel : fetch mX12_begins 32 = some (.goto (-30))),
  by intros; exact G_at (by decide +kernel : fetch mX12_begins 35 = some (.aload_n 0)),
  by intros; exact G_at (by decide +kernel : fetch mX12_begins 36 = some (.iconst 0)),
  by intros; exact G_ownW (by decide +kernel : fetch mX12_begins 37 = some (.putfield 75)) (by decide +kernel) (by decide +kernel),
  by intros; exact G_at (by decide +kernel : fetch mX12_begins 40 = some (.aload_n 0)),
  by intros; exact G_at (by decide +kernel : fetch mX12_begins 41 = some (.iconst 0)),
  by intros; exact G_ownW (by decide +kernel : fetch mX12_begins 42 = some (.putfield 79)) (by decide +kernel) (by decide +kernel),
  by intros; exact G_at (by decide +kernel : fetch mX12_begins 45 = some (.aload_n 0)),
  by intros; exact G_at (by decide +kernel : fetch mX12_begins 46 = some (.bipush (-4))),
  by intros; exact G_ownW (by decide +kernel : fetch mX12_begins 48 = some (.putfield 82)) (by decide +kernel) (by decide +kernel),
  by intros; exact G_at (by decide +kernel : fetch mX12_begins 51 = some (.aload_n 0)),
  by intros; exact G_at (by decide +kernel : fetch mX12_begins 52 = some (.iconst 0)),
  by intros; exact G_ownW (by decide +kernel : fetch mX12_begins 53 = some (.putfield 85)) (by decide +kernel) (by decide +kernel),
  by intros; exact G_retv (by decide +kernel : fetch mX12_begins 56 = some (.return_)) (by decide +kernel),
  by decide +kernel,
  by decide +kernel,
  by decide +kernel,
  by decide +kernel,
  by decide +kernel,
  by decide +kernel,
  by decide +kernel,
  by decide +kernel,
  by decide +kernel,
  by decide +kernel,
  by decide +kernel⟩
theorem gX12_doer : (∀ (n d : Nat) (L : List (Option iV)) (st : List iV) (h : iH) (Q : Option iV → iH → Prop), G sp sc [6] d mX12_doer (n + 1) 0 L st h Q = (match ld L 2 with | some (.inl x) => G sp sc [6] d mX12_doer n 1 L (.inl x :: st) h Q | _ => False)) ∧
  (∀ (n d : Nat) (L : List (Option iV)) (r : List iV) (x : Int) (h : iH) (Q : Option iV → iH → Prop), G sp sc [6] d mX12_doer (n + 1) 1 L (.inl x :: r) h Q = (match st1 L 4 (.inl x) with | some L' => G sp sc [6] d mX12_doer n 3 L' r h Q | none => False)) ∧
  (∀ (n d : Nat) (L : List (Option iV)) (st : List iV) (h : iH) (Q : Option iV → iH → Prop), G sp sc [6] d mX12_doer (n + 1) 3 L st h Q = G sp sc [6] d mX12_doer n 4 L (.inl 0 :: st) h Q) ∧
  (∀ (n d : Nat) (L : List (Option iV)) (r : List iV) (x : Int) (h : iH) (Q : Option iV → iH → Prop), G sp sc [6] d mX12_doer (n + 1) 4 L (.inl x :: r) h Q = (match st1 L 5 (.inl x) with | some L' => Run sp sc d mX12_doer 6 L' r h Q | none => False)) ∧
  (∀ (n d : Nat) (L : List (Option iV)) (st : List iV) (h : iH) (Q : Option iV → iH → Prop), G sp sc [6] d mX12_doer (n + 1) 6 L st h Q = (match ld L 5 with | some (.inl x) => G sp sc [6] d mX12_doer n 8 L (.inl x :: st) h Q | _ => False)) ∧
  (∀ (n d : Nat) (L : List (Option iV)) (st : List iV) (h : iH) (Q : Option iV → iH → Prop), G sp sc [6] d mX12_doer (n + 1) 8 L st h Q = (match ld L 3 with | some (.inl x) => G sp sc [6] d mX12_doer n 9 L (.inl x :: st) h Q | _ => False)) ∧
  (∀ (n d : Nat) (L : List (Option iV)) (a : Int) (b : Int) (r : List iV) (h : iH) (Q : Option iV → iH → Prop), G sp sc [6] d mX12_doer (n + 1) 9 L (.inl b :: .inl a :: r) h Q = ((inI a = true ∧ inI b = true) ∧ (b ≤ a → G sp sc [6] d mX12_doer n 41 L r h Q) ∧ (¬ (b ≤ a) → G sp sc [6] d mX12_doer n 12 L r h Q))) ∧
  (∀ (n d : Nat) (L : List (Option iV)) (st : List iV) (h : iH) (Q : Option iV → iH → Prop), G sp sc [6] d mX12_doer (n + 1) 12 L st h Q = (match ld L 0 with | some (.inr (.inr (r + 1))) => G sp sc [6] d mX12_doer n 13 L (.inr (.inr (r + 1)) :: st) h Q | _ => False)) ∧
  (∀ (n d : Nat) (L : List (Option iV)) (st : List iV) (h : iH) (Q : Option iV → iH → Prop), G sp sc [6] d mX12_doer (n + 1) 13 L st h Q = (match ld L 1 with | some (.inl x) => G sp sc [6] d mX12_doer n 14 L (.inl x :: st) h Q | _ => False)) ∧
  (∀ (n d : Nat) (L : List (Option iV)) (st : List iV) (h : iH) (Q : Option iV → iH → Prop), G sp sc [6] d mX12_doer (n + 1) 14 L st h Q = (match ld L 4 with | some (.inl x) => G sp sc [6] d mX12_doer n 16 L (.inl x :: st) h Q | _ => False)) ∧
  (∀ (n d : Nat) (L : List (Option iV)) (st : List iV) (h : iH) (Q : Option iV → iH → Prop), G sp sc [6] d mX12_doer (n + 1) 16 L st h Q = G sp sc [6] d mX12_doer n 17 L (.inl 2 :: st) h Q) ∧
  (∀ (n d : Nat) (L : List (Option iV)) (r : List iV) (z0 : iV) (z1 : iV) (z2 : iV) (h : iH) (Q : Option iV → iH → Prop), G sp sc [6] (d + 1) mX12_doer (n + 1) 17 L (z2 :: z1 :: z0 :: r) h Q = (cs r ≤ 8 ∧ Call sp sc d mX12_atOne [z0, z1, z2] h (fun q h1 => GC sp sc [6] (d + 1) mX12_doer n 20 L q r h h1 Q))) ∧
  (∀ (n d : Nat) (L : List (Option iV)) (r : List iV) (j : Int) (m : Nat) (h : iH) (Q : Option iV → iH → Prop), G sp sc [6] d mX12_doer (n + 1) 20 L (.inl j :: .inr (.inr (m + 2)) :: r) h Q = (match h.1[m]? with | some (.inr (.inl (0, xs))) => inA j xs.length = true ∧ G sp sc [6] d mX12_doer n 21 L (.inl (xs.getD j.toNat 0) :: r) h Q | _ => False)) ∧
  (∀ (n d : Nat) (L : List (Option iV)) (a : Int) (r : List iV) (h : iH) (Q : Option iV → iH → Prop), G sp sc [6] d mX12_doer (n + 1) 21 L (.inl a :: r) h Q = (inI a = true ∧ (a < 0 → G sp sc [6] d mX12_doer n 35 L r h Q) ∧ (¬ (a < 0) → G sp sc [6] d mX12_doer n 24 L r h Q))) ∧
  (∀ (n d : Nat) (L : List (Option iV)) (st : List iV) (h : iH) (Q : Option iV → iH → Prop), G sp sc [6] d mX12_doer (n + 1) 24 L st h Q = (match ld L 0 with | some (.inr (.inr (r + 1))) => G sp sc [6] d mX12_doer n 25 L (.inr (.inr (r + 1)) :: st) h Q | _ => False)) ∧
  (∀ (n d : Nat) (L : List (Option iV)) (st : List iV) (h : iH) (Q : Option iV → iH → Prop), G sp sc [6] d mX12_doer (n + 1) 25 L st h Q = (match ld L 1 with | some (.inl x) => G sp sc [6] d mX12_doer n 26 L (.inl x :: st) h Q | _ => False)) ∧
  (∀ (n d : Nat) (L : List (Option iV)) (st : List iV) (h : iH) (Q : Option iV → iH → Prop), G sp sc [6] d mX12_doer (n + 1) 26 L st h Q = (match ld L 4 with | some (.inl x) => G sp sc [6] d mX12_doer n 28 L (.inl x :: st) h Q | _ => False)) ∧
  (∀ (n d : Nat) (L : List (Option iV)) (st : List iV) (h : iH) (Q : Option iV → iH → Prop), G sp sc [6] d mX12_doer (n + 1) 28 L st h Q = G sp sc [6] d mX12_doer n 29 L (.inl 2 :: st) h Q) ∧
  (∀ (n d : Nat) (L : List (Option iV)) (r : List iV) (z0 : iV) (z1 : iV) (z2 : iV) (h : iH) (Q : Option iV → iH → Prop), G sp sc [6] (d + 1) mX12_doer (n + 1) 29 L (z2 :: z1 :: z0 :: r) h Q = (cs r ≤ 8 ∧ Call sp sc d mX12_atOne [z0, z1, z2] h (fun q h1 => GC sp sc [6] (d + 1) mX12_doer n 32 L q r h h1 Q))) ∧
  (∀ (n d : Nat) (L : List (Option iV)) (r : List iV) (j : Int) (m : Nat) (h : iH) (Q : Option iV → iH → Prop), G sp sc [6] d mX12_doer (n + 1) 32 L (.inl j :: .inr (.inr (m + 2)) :: r) h Q = (match h.1[m]? with | some (.inr (.inl (0, xs))) => inA j xs.length = true ∧ G sp sc [6] d mX12_doer n 33 L (.inl (xs.getD j.toNat 0) :: r) h Q | _ => False)) ∧
  (∀ (n d : Nat) (L : List (Option iV)) (r : List iV) (x : Int) (h : iH) (Q : Option iV → iH → Prop), G sp sc [6] d mX12_doer (n + 1) 33 L (.inl x :: r) h Q = (match st1 L 4 (.inl x) with | some L' => G sp sc [6] d mX12_doer n 35 L' r h Q | none => False)) ∧
  (∀ (n d : Nat) (L : List (Option iV)) (st : List iV) (h : iH) (Q : Option iV → iH → Prop), G sp sc [6] d mX12_doer (n + 1) 35 L st h Q = (match ld L 5 with | some (.inl x) => (match st1 L 5 (.inl (x + 1)) with | some L' => G sp sc [6] d mX12_doer n 38 L' st h Q | none => False) | _ => False)) ∧
  (∀ (n d : Nat) (L : List (Option iV)) (st : List iV) (h : iH) (Q : Option iV → iH → Prop), G sp sc [6] d mX12_doer (n + 1) 38 L st h Q = Run sp sc d mX12_doer 6 L st h Q) ∧
  (∀ (n d : Nat) (L : List (Option iV)) (st : List iV) (h : iH) (Q : Option iV → iH → Prop), G sp sc [6] d mX12_doer (n + 1) 41 L st h Q = (match ld L 4 with | some (.inl x) => G sp sc [6] d mX12_doer n 43 L (.inl x :: st) h Q | _ => False)) ∧
  (∀ (n d : Nat) (L : List (Option iV)) (a : Int) (h : iH) (Q : Option iV → iH → Prop), G sp sc [6] d mX12_doer (n + 1) 43 L [.inl a] h Q = Q (some (.inl a)) h) := ⟨by intros; exact G_at (by decide +kernel : fetch mX12_doer 0 = some (.iload_n 2)),
  by intros; exact G_at (by decide +kernel : fetch mX12_doer 1 = some (.istore 4)),
  by intros; exact G_at (by decide +kernel : fetch mX12_doer 3 = some (.iconst 0)),
  by intros; exact G_at (by decide +kernel : fetch mX12_doer 4 = some (.istore 5)),
  by intros; exact G_at (by decide +kernel : fetch mX12_doer 6 = some (.iload 5)),
  by intros; exact G_at (by decide +kernel : fetch mX12_doer 8 = some (.iload_n 3)),
  by intros; exact G_at (by decide +kernel : fetch mX12_doer 9 = some (.if_icmp .ge 32)),
  by intros; exact G_at (by decide +kernel : fetch mX12_doer 12 = some (.aload_n 0)),
  by intros; exact G_at (by decide +kernel : fetch mX12_doer 13 = some (.iload_n 1)),
  by intros; exact G_at (by decide +kernel : fetch mX12_doer 14 = some (.iload 4)),
  by intros; exact G_at (by decide +kernel : fetch mX12_doer 16 = some (.iconst 2)),
  by intros; exact G_callS (k := 3) (kd := 0) (by decide +kernel : fetch mX12_doer 17 = some (.invokestatic 88)) (by decide +kernel) (by decide +kernel) (by decide +kernel) rfl (by decide),
  by intros; exact G_at (by decide +kernel : fetch mX12_doer 20 = some (.iaload)),
  by intros; exact G_at (by decide +kernel : fetch mX12_doer 21 = some (.ifCond .lt 14)),
  by intros; exact G_at (by decide +kernel : fetch mX12_doer 24 = some (.aload_n 0)),
  by intros; exact G_at (by decide +kernel : fetch mX12_doer 25 = some (.iload_n 1)),
  by intros; exact G_at (by decide +kernel : fetch mX12_doer 26 = some (.iload 4)),
  by intros; exact G_at (by decide +kernel : fetch mX12_doer 28 = some (.iconst 2)),
  by intros; exact G_callS (k := 3) (kd := 0) (by decide +kernel : fetch mX12_doer 29 = some (.invokestatic 88)) (by decide +kernel) (by decide +kernel) (by decide +kernel) rfl (by decide),
  by intros; exact G_at (by decide +kernel : fetch mX12_doer 32 = some (.iaload)),
  by intros; exact G_at (by decide +kernel : fetch mX12_doer 33 = some (.istore 4)),
  by intros; exact G_at (by decide +kernel : fetch mX12_doer 35 = some (.iinc 5 1)),
  by intros; exact G_at (by decide +kernel : fetch mX12_doer 38 = some (.goto (-32))),
  by intros; exact G_at (by decide +kernel : fetch mX12_doer 41 = some (.iload 4)),
  by intros; exact G_reti (by decide +kernel : fetch mX12_doer 43 = some (.ireturn)) (by decide +kernel)⟩
theorem gX12_goesOn : (∀ (n d : Nat) (L : List (Option iV)) (st : List iV) (h : iH) (Q : Option iV → iH → Prop), G sp sc [] d mX12_goesOn (n + 1) 0 L st h Q = (match ld L 0 with | some (.inr (.inr (r + 1))) => G sp sc [] d mX12_goesOn n 1 L (.inr (.inr (r + 1)) :: st) h Q | _ => False)) ∧
  (∀ (n d : Nat) (L : List (Option iV)) (st : List iV) (h : iH) (Q : Option iV → iH → Prop), G sp sc [] d mX12_goesOn (n + 1) 1 L st h Q = (match ld L 1 with | some (.inl x) => G sp sc [] d mX12_goesOn n 2 L (.inl x :: st) h Q | _ => False)) ∧
  (∀ (n d : Nat) (L : List (Option iV)) (st : List iV) (h : iH) (Q : Option iV → iH → Prop), G sp sc [] d mX12_goesOn (n + 1) 2 L st h Q = G sp sc [] d mX12_goesOn n 3 L (.inl 2 :: st) h Q) ∧
  (∀ (n d : Nat) (L : List (Option iV)) (r : List iV) (z0 : iV) (z1 : iV) (h : iH) (Q : Option iV → iH → Prop), G sp sc [] (d + 1) mX12_goesOn (n + 1) 3 L (z1 :: z0 :: r) h Q = (cs r ≤ 8 ∧ Call sp sc d mX12_atCouple [z0, z1] h (fun q h1 => GC sp sc [] (d + 1) mX12_goesOn n 6 L q r h h1 Q))) ∧
  (∀ (n d : Nat) (L : List (Option iV)) (r : List iV) (j : Int) (m : Nat) (h : iH) (Q : Option iV → iH → Prop), G sp sc [] d mX12_goesOn (n + 1) 6 L (.inl j :: .inr (.inr (m + 2)) :: r) h Q = (match h.1[m]? with | some (.inr (.inl (0, xs))) => inA j xs.length = true ∧ G sp sc [] d mX12_goesOn n 7 L (.inl (xs.getD j.toNat 0) :: r) h Q | _ => False)) ∧
  (∀ (n d : Nat) (L : List (Option iV)) (a : Int) (r : List iV) (h : iH) (Q : Option iV → iH → Prop), G sp sc [] d mX12_goesOn (n + 1) 7 L (.inl a :: r) h Q = (inI a = true ∧ (¬ a = 0 → G sp sc [] d mX12_goesOn n 14 L r h Q) ∧ (¬ (¬ a = 0) → G sp sc [] d mX12_goesOn n 10 L r h Q))) ∧
  (∀ (n d : Nat) (L : List (Option iV)) (st : List iV) (h : iH) (Q : Option iV → iH → Prop), G sp sc [] d mX12_goesOn (n + 1) 10 L st h Q = G sp sc [] d mX12_goesOn n 11 L (.inl 1 :: st) h Q) ∧
  (∀ (n d : Nat) (L : List (Option iV)) (st : List iV) (h : iH) (Q : Option iV → iH → Prop), G sp sc [] d mX12_goesOn (n + 1) 11 L st h Q = G sp sc [] d mX12_goesOn n 15 L st h Q) ∧
  (∀ (n d : Nat) (L : List (Option iV)) (st : List iV) (h : iH) (Q : Option iV → iH → Prop), G sp sc [] d mX12_goesOn (n + 1) 14 L st h Q = G sp sc [] d mX12_goesOn n 15 L (.inl 0 :: st) h Q) ∧
  (∀ (n d : Nat) (L : List (Option iV)) (a : Int) (h : iH) (Q : Option iV → iH → Prop), G sp sc [] d mX12_goesOn (n + 1) 15 L [.inl a] h Q = ((a = 0 ∨ a = 1) ∧ Q (some (.inl a)) h)) := ⟨by intros; exact G_at (by decide +kernel : fetch mX12_goesOn 0 = some (.aload_n 0)),
  by intros; exact G_at (by decide +kernel : fetch mX12_goesOn 1 = some (.iload_n 1)),
  by intros; exact G_at (by decide +kernel : fetch mX12_goesOn 2 = some (.iconst 2)),
  by intros; exact G_callS (k := 2) (kd := 0) (by decide +kernel : fetch mX12_goesOn 3 = some (.invokestatic 92)) (by decide +kernel) (by decide +kernel) (by decide +kernel) rfl (by decide),
  by intros; exact G_at (by decide +kernel : fetch mX12_goesOn 6 = some (.iaload)),
  by intros; exact G_at (by decide +kernel : fetch mX12_goesOn 7 = some (.ifCond .ne 7)),
  by intros; exact G_at (by decide +kernel : fetch mX12_goesOn 10 = some (.iconst 1)),
  by intros; exact G_at (by decide +kernel : fetch mX12_goesOn 11 = some (.goto 4)),
  by intros; exact G_at (by decide +kernel : fetch mX12_goesOn 14 = some (.iconst 0)),
  by intros; exact G_retz (by decide +kernel : fetch mX12_goesOn 15 = some (.ireturn)) (by decide +kernel)⟩
theorem gX12_areOwn : (∀ (n d : Nat) (L : List (Option iV)) (st : List iV) (h : iH) (Q : Option iV → iH → Prop), G sp sc [2] d mX12_areOwn (n + 1) 0 L st h Q = G sp sc [2] d mX12_areOwn n 1 L (.inl 0 :: st) h Q) ∧
  (∀ (n d : Nat) (L : List (Option iV)) (r : List iV) (x : Int) (h : iH) (Q : Option iV → iH → Prop), G sp sc [2] d mX12_areOwn (n + 1) 1 L (.inl x :: r) h Q = (match st1 L 3 (.inl x) with | some L' => Run sp sc d mX12_areOwn 2 L' r h Q | none => False)) ∧
  (∀ (n d : Nat) (L : List (Option iV)) (st : List iV) (h : iH) (Q : Option iV → iH → Prop), G sp sc [2] d mX12_areOwn (n + 1) 2 L st h Q = (match ld L 3 with | some (.inl x) => G sp sc [2] d mX12_areOwn n 3 L (.inl x :: st) h Q | _ => False)) ∧
  (∀ (n d : Nat) (L : List (Option iV)) (st : List iV) (h : iH) (Q : Option iV → iH → Prop), G sp sc [2] d mX12_areOwn (n + 1) 3 L st h Q = (match ld L 0 with | some (.inr (.inr (r + 1))) => G sp sc [2] d mX12_areOwn n 4 L (.inr (.inr (r + 1)) :: st) h Q | _ => False)) ∧
  (∀ (n d : Nat) (L : List (Option iV)) (st : List iV) (h : iH) (Q : Option iV → iH → Prop), G sp sc [2] d mX12_areOwn (n + 1) 4 L st h Q = G sp sc [2] d mX12_areOwn n 5 L (.inl 2 :: st) h Q) ∧
  (∀ (n d : Nat) (L : List (Option iV)) (r : List iV) (j : Int) (m : Nat) (h : iH) (Q : Option iV → iH → Prop), G sp sc [2] d mX12_areOwn (n + 1) 5 L (.inl j :: .inr (.inr (m + 2)) :: r) h Q = (match h.1[m]? with | some (.inr (.inl (0, xs))) => inA j xs.length = true ∧ G sp sc [2] d mX12_areOwn n 6 L (.inl (xs.getD j.toNat 0) :: r) h Q | _ => False)) ∧
  (∀ (n d : Nat) (L : List (Option iV)) (a : Int) (b : Int) (r : List iV) (h : iH) (Q : Option iV → iH → Prop), G sp sc [2] d mX12_areOwn (n + 1) 6 L (.inl b :: .inl a :: r) h Q = ((inI a = true ∧ inI b = true) ∧ (b ≤ a → G sp sc [2] d mX12_areOwn n 47 L r h Q) ∧ (¬ (b ≤ a) → G sp sc [2] d mX12_areOwn n 9 L r h Q))) ∧
  (∀ (n d : Nat) (L : List (Option iV)) (st : List iV) (h : iH) (Q : Option iV → iH → Prop), G sp sc [2] d mX12_areOwn (n + 1) 9 L st h Q = (match ld L 0 with | some (.inr (.inr (r + 1))) => G sp sc [2] d mX12_areOwn n 10 L (.inr (.inr (r + 1)) :: st) h Q | _ => False)) ∧
  (∀ (n d : Nat) (L : List (Option iV)) (st : List iV) (h : iH) (Q : Option iV → iH → Prop), G sp sc [2] d mX12_areOwn (n + 1) 10 L st h Q = (match ld L 3 with | some (.inl x) => G sp sc [2] d mX12_areOwn n 11 L (.inl x :: st) h Q | _ => False)) ∧
  (∀ (n d : Nat) (L : List (Option iV)) (r : List iV) (z0 : iV) (z1 : iV) (h : iH) (Q : Option iV → iH → Prop), G sp sc [2] (d + 1) mX12_areOwn (n + 1) 11 L (z1 :: z0 :: r) h Q = (cs r ≤ 8 ∧ Call sp sc d mX12_goesOn [z0, z1] h (fun q h1 => GC sp sc [2] (d + 1) mX12_areOwn n 14 L q r h h1 Q))) ∧
  (∀ (n d : Nat) (L : List (Option iV)) (a : Int) (r : List iV) (h : iH) (Q : Option iV → iH → Prop), G sp sc [2] d mX12_areOwn (n + 1) 14 L (.inl a :: r) h Q = (inI a = true ∧ (a = 0 → G sp sc [2] d mX12_areOwn n 41 L r h Q) ∧ (¬ (a = 0) → G sp sc [2] d mX12_areOwn n 17 L r h Q))) ∧
  (∀ (n d : Nat) (L : List (Option iV)) (st : List iV) (h : iH) (Q : Option iV → iH → Prop), G sp sc [2] d mX12_areOwn (n + 1) 17 L st h Q = (match ld L 0 with | some (.inr (.inr (r + 1))) => G sp sc [2] d mX12_areOwn n 18 L (.inr (.inr (r + 1)) :: st) h Q | _ => False)) ∧
  (∀ (n d : Nat) (L : List (Option iV)) (st : List iV) (h : iH) (Q : Option iV → iH → Prop), G sp sc [2] d mX12_areOwn (n + 1) 18 L st h Q = (match ld L 3 with | some (.inl x) => G sp sc [2] d mX12_areOwn n 19 L (.inl x :: st) h Q | _ => False)) ∧
  (∀ (n d : Nat) (L : List (Option iV)) (st : List iV) (h : iH) (Q : Option iV → iH → Prop), G sp sc [2] d mX12_areOwn (n + 1) 19 L st h Q = G sp sc [2] d mX12_areOwn n 20 L (.inl 0 :: st) h Q) ∧
  (∀ (n d : Nat) (L : List (Option iV)) (r : List iV) (z0 : iV) (z1 : iV) (h : iH) (Q : Option iV → iH → Prop), G sp sc [2] (d + 1) mX12_areOwn (n + 1) 20 L (z1 :: z0 :: r) h Q = (cs r ≤ 8 ∧ Call sp sc d mX12_atCouple [z0, z1] h (fun q h1 => GC sp sc [2] (d + 1) mX12_areOwn n 23 L q r h h1 Q))) ∧
  (∀ (n d : Nat) (L : List (Option iV)) (r : List iV) (j : Int) (m : Nat) (h : iH) (Q : Option iV → iH → Prop), G sp sc [2] d mX12_areOwn (n + 1) 23 L (.inl j :: .inr (.inr (m + 2)) :: r) h Q = (match h.1[m]? with | some (.inr (.inl (0, xs))) => inA j xs.length = true ∧ G sp sc [2] d mX12_areOwn n 24 L (.inl (xs.getD j.toNat 0) :: r) h Q | _ => False)) ∧
  (∀ (n d : Nat) (L : List (Option iV)) (st : List iV) (h : iH) (Q : Option iV → iH → Prop), G sp sc [2] d mX12_areOwn (n + 1) 24 L st h Q = (match ld L 1 with | some (.inl x) => G sp sc [2] d mX12_areOwn n 25 L (.inl x :: st) h Q | _ => False)) ∧
  (∀ (n d : Nat) (L : List (Option iV)) (a : Int) (b : Int) (r : List iV) (h : iH) (Q : Option iV → iH → Prop), G sp sc [2] d mX12_areOwn (n + 1) 25 L (.inl b :: .inl a :: r) h Q = ((inI a = true ∧ inI b = true) ∧ (¬ a = b → G sp sc [2] d mX12_areOwn n 41 L r h Q) ∧ (¬ (¬ a = b) → G sp sc [2] d mX12_areOwn n 28 L r h Q))) ∧
  (∀ (n d : Nat) (L : List (Option iV)) (st : List iV) (h : iH) (Q : Option iV → iH → Prop), G sp sc [2] d mX12_areOwn (n + 1) 28 L st h Q = (match ld L 0 with | some (.inr (.inr (r + 1))) => G sp sc [2] d mX12_areOwn n 29 L (.inr (.inr (r + 1)) :: st) h Q | _ => False)) ∧
  (∀ (n d : Nat) (L : List (Option iV)) (st : List iV) (h : iH) (Q : Option iV → iH → Prop), G sp sc [2] d mX12_areOwn (n + 1) 29 L st h Q = (match ld L 3 with | some (.inl x) => G sp sc [2] d mX12_areOwn n 30 L (.inl x :: st) h Q | _ => False)) ∧
  (∀ (n d : Nat) (L : List (Option iV)) (st : List iV) (h : iH) (Q : Option iV → iH → Prop), G sp sc [2] d mX12_areOwn (n + 1) 30 L st h Q = G sp sc [2] d mX12_areOwn n 31 L (.inl 1 :: st) h Q) ∧
  (∀ (n d : Nat) (L : List (Option iV)) (r : List iV) (z0 : iV) (z1 : iV) (h : iH) (Q : Option iV → iH → Prop), G sp sc [2] (d + 1) mX12_areOwn (n + 1) 31 L (z1 :: z0 :: r) h Q = (cs r ≤ 8 ∧ Call sp sc d mX12_atCouple [z0, z1] h (fun q h1 => GC sp sc [2] (d + 1) mX12_areOwn n 34 L q r h h1 Q))) ∧
  (∀ (n d : Nat) (L : List (Option iV)) (r : List iV) (j : Int) (m : Nat) (h : iH) (Q : Option iV → iH → Prop), G sp sc [2] d mX12_areOwn (n + 1) 34 L (.inl j :: .inr (.inr (m + 2)) :: r) h Q = (match h.1[m]? with | some (.inr (.inl (0, xs))) => inA j xs.length = true ∧ G sp sc [2] d mX12_areOwn n 35 L (.inl (xs.getD j.toNat 0) :: r) h Q | _ => False)) ∧
  (∀ (n d : Nat) (L : List (Option iV)) (st : List iV) (h : iH) (Q : Option iV → iH → Prop), G sp sc [2] d mX12_areOwn (n + 1) 35 L st h Q = (match ld L 2 with | some (.inl x) => G sp sc [2] d mX12_areOwn n 36 L (.inl x :: st) h Q | _ => False)) ∧
  (∀ (n d : Nat) (L : List (Option iV)) (a : Int) (b : Int) (r : List iV) (h : iH) (Q : Option iV → iH → Prop), G sp sc [2] d mX12_areOwn (n + 1) 36 L (.inl b :: .inl a :: r) h Q = ((inI a = true ∧ inI b = true) ∧ (¬ a = b → G sp sc [2] d mX12_areOwn n 41 L r h Q) ∧ (¬ (¬ a = b) → G sp sc [2] d mX12_areOwn n 39 L r h Q))) ∧
  (∀ (n d : Nat) (L : List (Option iV)) (st : List iV) (h : iH) (Q : Option iV → iH → Prop), G sp sc [2] d mX12_areOwn (n + 1) 39 L st h Q = G sp sc [2] d mX12_areOwn n 40 L (.inl 1 :: st) h Q) ∧
  (∀ (n d : Nat) (L : List (Option iV)) (a : Int) (h : iH) (Q : Option iV → iH → Prop), G sp sc [2] d mX12_areOwn (n + 1) 40 L [.inl a] h Q = ((a = 0 ∨ a = 1) ∧ Q (some (.inl a)) h)) ∧
  (∀ (n d : Nat) (L : List (Option iV)) (st : List iV) (h : iH) (Q : Option iV → iH → Prop), G sp sc [2] d mX12_areOwn (n + 1) 41 L st h Q = (match ld L 3 with | some (.inl x) => (match st1 L 3 (.inl (x + 1)) with | some L' => G sp sc [2] d mX12_areOwn n 44 L' st h Q | none => False) | _ => False)) ∧
  (∀ (n d : Nat) (L : List (Option iV)) (st : List iV) (h : iH) (Q : Option iV → iH → Prop), G sp sc [2] d mX12_areOwn (n + 1) 44 L st h Q = Run sp sc d mX12_areOwn 2 L st h Q) ∧
  (∀ (n d : Nat) (L : List (Option iV)) (st : List iV) (h : iH) (Q : Option iV → iH → Prop), G sp sc [2] d mX12_areOwn (n + 1) 47 L st h Q = G sp sc [2] d mX12_areOwn n 48 L (.inl 0 :: st) h Q) ∧
  (∀ (n d : Nat) (L : List (Option iV)) (a : Int) (h : iH) (Q : Option iV → iH → Prop), G sp sc [2] d mX12_areOwn (n + 1) 48 L [.inl a] h Q = ((a = 0 ∨ a = 1) ∧ Q (some (.inl a)) h)) := ⟨by intros; exact G_at (by decide +kernel : fetch mX12_areOwn 0 = some (.iconst 0)),
  by intros; exact G_at (by decide +kernel : fetch mX12_areOwn 1 = some (.istore_n 3)),
  by intros; exact G_at (by decide +kernel : fetch mX12_areOwn 2 = some (.iload_n 3)),
  by intros; exact G_at (by decide +kernel : fetch mX12_areOwn 3 = some (.aload_n 0)),
  by intros; exact G_at (by decide +kernel : fetch mX12_areOwn 4 = some (.iconst 2)),
  by intros; exact G_at (by decide +kernel : fetch mX12_areOwn 5 = some (.iaload)),
  by intros; exact G_at (by decide +kernel : fetch mX12_areOwn 6 = some (.if_icmp .ge 41)),
  by intros; exact G_at (by decide +kernel : fetch mX12_areOwn 9 = some (.aload_n 0)),
  by intros; exact G_at (by decide +kernel : fetch mX12_areOwn 10 = some (.iload_n 3)),
  by intros; exact G_callS (k := 2) (kd := 0) (by decide +kernel : fetch mX12_areOwn 11 = some (.invokestatic 95)) (by decide +kernel) (by decide +kernel) (by decide +kernel) rfl (by decide),
  by intros; exact G_at (by decide +kernel : fetch mX12_areOwn 14 = some (.ifCond .eq 27)),
  by intros; exact G_at (by decide +kernel : fetch mX12_areOwn 17 = some (.aload_n 0)),
  by intros; exact G_at (by decide +kernel : fetch mX12_areOwn 18 = some (.iload_n 3)),
  by intros; exact G_at (by decide +kernel : fetch mX12_areOwn 19 = some (.iconst 0)),
  by intros; exact G_callS (k := 2) (kd := 0) (by decide +kernel : fetch mX12_areOwn 20 = some (.invokestatic 92)) (by decide +kernel) (by decide +kernel) (by decide +kernel) rfl (by decide),
  by intros; exact G_at (by decide +kernel : fetch mX12_areOwn 23 = some (.iaload)),
  by intros; exact G_at (by decide +kernel : fetch mX12_areOwn 24 = some (.iload_n 1)),
  by intros; exact G_at (by decide +kernel : fetch mX12_areOwn 25 = some (.if_icmp .ne 16)),
  by intros; exact G_at (by decide +kernel : fetch mX12_areOwn 28 = some (.aload_n 0)),
  by intros; exact G_at (by decide +kernel : fetch mX12_areOwn 29 = some (.iload_n 3)),
  by intros; exact G_at (by decide +kernel : fetch mX12_areOwn 30 = some (.iconst 1)),
  by intros; exact G_callS (k := 2) (kd := 0) (by decide +kernel : fetch mX12_areOwn 31 = some (.invokestatic 92)) (by decide +kernel) (by decide +kernel) (by decide +kernel) rfl (by decide),
  by intros; exact G_at (by decide +kernel : fetch mX12_areOwn 34 = some (.iaload)),
  by intros; exact G_at (by decide +kernel : fetch mX12_areOwn 35 = some (.iload_n 2)),
  by intros; exact G_at (by decide +kernel : fetch mX12_areOwn 36 = some (.if_icmp .ne 5)),
  by intros; exact G_at (by decide +kernel : fetch mX12_areOwn 39 = some (.iconst 1)),
  by intros; exact G_retz (by decide +kernel : fetch mX12_areOwn 40 = some (.ireturn)) (by decide +kernel),
  by intros; exact G_at (by decide +kernel : fetch mX12_areOwn 41 = some (.iinc 3 1)),
  by intros; exact G_at (by decide +kernel : fetch mX12_areOwn 44 = some (.goto (-42))),
  by intros; exact G_at (by decide +kernel : fetch mX12_areOwn 47 = some (.iconst 0)),
  by intros; exact G_retz (by decide +kernel : fetch mX12_areOwn 48 = some (.ireturn)) (by decide +kernel)⟩
theorem gX12_changesLike : (∀ (n d : Nat) (L : List (Option iV)) (st : List iV) (h : iH) (Q : Option iV → iH → Prop), G sp sc [] d mX12_changesLike (n + 1) 0 L st h Q = (match ld L 0 with | some (.inr (.inr (r + 1))) => G sp sc [] d mX12_changesLike n 1 L (.inr (.inr (r + 1)) :: st) h Q | _ => False)) ∧
  (∀ (n d : Nat) (L : List (Option iV)) (st : List iV) (h : iH) (Q : Option iV → iH → Prop), G sp sc [] d mX12_changesLike (n + 1) 1 L st h Q = (match ld L 1 with | some (.inl x) => G sp sc [] d mX12_changesLike n 2 L (.inl x :: st) h Q | _ => False)) ∧
  (∀ (n d : Nat) (L : List (Option iV)) (st : List iV) (h : iH) (Q : Option iV → iH → Prop), G sp sc [] d mX12_changesLike (n + 1) 2 L st h Q = G sp sc [] d mX12_changesLike n 3 L (.inl 0 :: st) h Q) ∧
  (∀ (n d : Nat) (L : List (Option iV)) (st : List iV) (h : iH) (Q : Option iV → iH → Prop), G sp sc [] d mX12_changesLike (n + 1) 3 L st h Q = ((-128 ≤ (99 : Int) ∧ (99 : Int) < 128) ∧ G sp sc [] d mX12_changesLike n 5 L (.inl 99 :: st) h Q)) ∧
  (∀ (n d : Nat) (L : List (Option iV)) (st : List iV) (h : iH) (Q : Option iV → iH → Prop), G sp sc [] d mX12_changesLike (n + 1) 5 L st h Q = (match ld L 0 with | some (.inr (.inr (r + 1))) => G sp sc [] d mX12_changesLike n 6 L (.inr (.inr (r + 1)) :: st) h Q | _ => False)) ∧
  (∀ (n d : Nat) (L : List (Option iV)) (st : List iV) (h : iH) (Q : Option iV → iH → Prop), G sp sc [] d mX12_changesLike (n + 1) 6 L st h Q = (match ld L 1 with | some (.inl x) => G sp sc [] d mX12_changesLike n 7 L (.inl x :: st) h Q | _ => False)) ∧
  (∀ (n d : Nat) (L : List (Option iV)) (r : List iV) (j : Int) (m : Nat) (h : iH) (Q : Option iV → iH → Prop), G sp sc [] d mX12_changesLike (n + 1) 7 L (.inl j :: .inr (.inr (m + 2)) :: r) h Q = (match h.1[m]? with | some (.inr (.inl (0, xs))) => inA j xs.length = true ∧ G sp sc [] d mX12_changesLike n 8 L (.inl (xs.getD j.toNat 0) :: r) h Q | _ => False)) ∧
  (∀ (n d : Nat) (L : List (Option iV)) (st : List iV) (h : iH) (Q : Option iV → iH → Prop), G sp sc [] d mX12_changesLike (n + 1) 8 L st h Q = (match ld L 2 with | some (.inl x) => G sp sc [] d mX12_changesLike n 9 L (.inl x :: st) h Q | _ => False)) ∧
  (∀ (n d : Nat) (L : List (Option iV)) (a : Int) (b : Int) (r : List iV) (h : iH) (Q : Option iV → iH → Prop), G sp sc [] d mX12_changesLike (n + 1) 9 L (.inl b :: .inl a :: r) h Q = G sp sc [] d mX12_changesLike n 10 L (.inl (a + b) :: r) h Q) ∧
  (∀ (n d : Nat) (L : List (Option iV)) (r : List iV) (z0 : iV) (z1 : iV) (h : iH) (Q : Option iV → iH → Prop), G sp sc [] (d + 1) mX12_changesLike (n + 1) 10 L (z1 :: z0 :: r) h Q = (cs r ≤ 8 ∧ Call sp sc d mX12_least [z0, z1] h (fun q h1 => GC sp sc [] (d + 1) mX12_changesLike n 13 L q r h h1 Q))) ∧
  (∀ (n d : Nat) (L : List (Option iV)) (r : List iV) (z0 : iV) (z1 : iV) (h : iH) (Q : Option iV → iH → Prop), G sp sc [] (d + 1) mX12_changesLike (n + 1) 13 L (z1 :: z0 :: r) h Q = (cs r ≤ 8 ∧ Call sp sc d mX12_most_II [z0, z1] h (fun q h1 => GC sp sc [] (d + 1) mX12_changesLike n 16 L q r h h1 Q))) ∧
  (∀ (n d : Nat) (L : List (Option iV)) (r : List iV) (v : Int) (j : Int) (m : Nat) (h : iH) (Q : Option iV → iH → Prop), G sp sc [] d mX12_changesLike (n + 1) 16 L (.inl v :: .inl j :: .inr (.inr (m + 2)) :: r) h Q = (match h.1[m]? with | some (.inr (.inl (0, xs))) => inA j xs.length = true ∧ G sp sc [] d mX12_changesLike n 17 L r (h.1.set m (.inr (.inl (0, xs.set j.toNat v))), h.2) Q | _ => False)) ∧
  (∀ (n d : Nat) (L : List (Option iV))  (h : iH) (Q : Option iV → iH → Prop), G sp sc [] d mX12_changesLike (n + 1) 17 L [] h Q = Q none h) := ⟨by intros; exact G_at (by decide +kernel : fetch mX12_changesLike 0 = some (.aload_n 0)),
  by intros; exact G_at (by decide +kernel : fetch mX12_changesLike 1 = some (.iload_n 1)),
  by intros; exact G_at (by decide +kernel : fetch mX12_changesLike 2 = some (.iconst 0)),
  by intros; exact G_at (by decide +kernel : fetch mX12_changesLike 3 = some (.bipush 99)),
  by intros; exact G_at (by decide +kernel : fetch mX12_changesLike 5 = some (.aload_n 0)),
  by intros; exact G_at (by decide +kernel : fetch mX12_changesLike 6 = some (.iload_n 1)),
  by intros; exact G_at (by decide +kernel : fetch mX12_changesLike 7 = some (.iaload)),
  by intros; exact G_at (by decide +kernel : fetch mX12_changesLike 8 = some (.iload_n 2)),
  by intros; exact G_at (by decide +kernel : fetch mX12_changesLike 9 = some (.iadd)),
  by intros; exact G_callS (k := 2) (kd := 0) (by decide +kernel : fetch mX12_changesLike 10 = some (.invokestatic 99)) (by decide +kernel) (by decide +kernel) (by decide +kernel) rfl (by decide),
  by intros; exact G_callS (k := 2) (kd := 0) (by decide +kernel : fetch mX12_changesLike 13 = some (.invokestatic 71)) (by decide +kernel) (by decide +kernel) (by decide +kernel) rfl (by decide),
  by intros; exact G_at (by decide +kernel : fetch mX12_changesLike 16 = some (.iastore)),
  by intros; exact G_retv (by decide +kernel : fetch mX12_changesLike 17 = some (.return_)) (by decide +kernel)⟩
theorem gX12_sulksOf : (∀ (n d : Nat) (L : List (Option iV)) (st : List iV) (h : iH) (Q : Option iV → iH → Prop), G sp sc [] d mX12_sulksOf (n + 1) 0 L st h Q = (match ld L 0 with | some (.inr (.inr (r + 1))) => G sp sc [] d mX12_sulksOf n 1 L (.inr (.inr (r + 1)) :: st) h Q | _ => False)) ∧
  (∀ (n d : Nat) (L : List (Option iV)) (st : List iV) (h : iH) (Q : Option iV → iH → Prop), G sp sc [] d mX12_sulksOf (n + 1) 1 L st h Q = (match ld L 1 with | some (.inl x) => G sp sc [] d mX12_sulksOf n 2 L (.inl x :: st) h Q | _ => False)) ∧
  (∀ (n d : Nat) (L : List (Option iV)) (st : List iV) (h : iH) (Q : Option iV → iH → Prop), G sp sc [] d mX12_sulksOf (n + 1) 2 L st h Q = (match ld L 2 with | some (.inl x) => G sp sc [] d mX12_sulksOf n 3 L (.inl x :: st) h Q | _ => False)) ∧
  (∀ (n d : Nat) (L : List (Option iV)) (st : List iV) (h : iH) (Q : Option iV → iH → Prop), G sp sc [] d mX12_sulksOf (n + 1) 3 L st h Q = G sp sc [] d mX12_sulksOf n 4 L (.inl 0 :: st) h Q) ∧
  (∀ (n d : Nat) (L : List (Option iV)) (r : List iV) (z0 : iV) (z1 : iV) (z2 : iV) (h : iH) (Q : Option iV → iH → Prop), G sp sc [] (d + 1) mX12_sulksOf (n + 1) 4 L (z2 :: z1 :: z0 :: r) h Q = (cs r ≤ 8 ∧ Call sp sc d mX12_atOne [z0, z1, z2] h (fun q h1 => GC sp sc [] (d + 1) mX12_sulksOf n 7 L q r h h1 Q))) ∧
  (∀ (n d : Nat) (L : List (Option iV)) (r : List iV) (j : Int) (m : Nat) (h : iH) (Q : Option iV → iH → Prop), G sp sc [] d mX12_sulksOf (n + 1) 7 L (.inl j :: .inr (.inr (m + 2)) :: r) h Q = (match h.1[m]? with | some (.inr (.inl (0, xs))) => inA j xs.length = true ∧ G sp sc [] d mX12_sulksOf n 8 L (.inl (xs.getD j.toNat 0) :: r) h Q | _ => False)) ∧
  (∀ (n d : Nat) (L : List (Option iV)) (st : List iV) (h : iH) (Q : Option iV → iH → Prop), G sp sc [] d mX12_sulksOf (n + 1) 8 L st h Q = (match ld L 0 with | some (.inr (.inr (r + 1))) => G sp sc [] d mX12_sulksOf n 9 L (.inr (.inr (r + 1)) :: st) h Q | _ => False)) ∧
  (∀ (n d : Nat) (L : List (Option iV)) (st : List iV) (h : iH) (Q : Option iV → iH → Prop), G sp sc [] d mX12_sulksOf (n + 1) 9 L st h Q = (match ld L 1 with | some (.inl x) => G sp sc [] d mX12_sulksOf n 10 L (.inl x :: st) h Q | _ => False)) ∧
  (∀ (n d : Nat) (L : List (Option iV)) (st : List iV) (h : iH) (Q : Option iV → iH → Prop), G sp sc [] d mX12_sulksOf (n + 1) 10 L st h Q = (match ld L 2 with | some (.inl x) => G sp sc [] d mX12_sulksOf n 11 L (.inl x :: st) h Q | _ => False)) ∧
  (∀ (n d : Nat) (L : List (Option iV)) (st : List iV) (h : iH) (Q : Option iV → iH → Prop), G sp sc [] d mX12_sulksOf (n + 1) 11 L st h Q = G sp sc [] d mX12_sulksOf n 12 L (.inl 1 :: st) h Q) ∧
  (∀ (n d : Nat) (L : List (Option iV)) (r : List iV) (z0 : iV) (z1 : iV) (z2 : iV) (h : iH) (Q : Option iV → iH → Prop), G sp sc [] (d + 1) mX12_sulksOf (n + 1) 12 L (z2 :: z1 :: z0 :: r) h Q = (cs r ≤ 8 ∧ Call sp sc d mX12_atOne [z0, z1, z2] h (fun q h1 => GC sp sc [] (d + 1) mX12_sulksOf n 15 L q r h h1 Q))) ∧
  (∀ (n d : Nat) (L : List (Option iV)) (r : List iV) (j : Int) (m : Nat) (h : iH) (Q : Option iV → iH → Prop), G sp sc [] d mX12_sulksOf (n + 1) 15 L (.inl j :: .inr (.inr (m + 2)) :: r) h Q = (match h.1[m]? with | some (.inr (.inl (0, xs))) => inA j xs.length = true ∧ G sp sc [] d mX12_sulksOf n 16 L (.inl (xs.getD j.toNat 0) :: r) h Q | _ => False)) ∧
  (∀ (n d : Nat) (L : List (Option iV)) (r : List iV) (z0 : iV) (z1 : iV) (h : iH) (Q : Option iV → iH → Prop), G sp sc [] (d + 1) mX12_sulksOf (n + 1) 16 L (z1 :: z0 :: r) h Q = (cs r ≤ 8 ∧ Call sp sc d mX12_sulksBy [z0, z1] h (fun q h1 => GC sp sc [] (d + 1) mX12_sulksOf n 19 L q r h h1 Q))) ∧
  (∀ (n d : Nat) (L : List (Option iV)) (a : Int) (h : iH) (Q : Option iV → iH → Prop), G sp sc [] d mX12_sulksOf (n + 1) 19 L [.inl a] h Q = Q (some (.inl a)) h) := ⟨by intros; exact G_at (by decide +kernel : fetch mX12_sulksOf 0 = some (.aload_n 0)),
  by intros; exact G_at (by decide +kernel : fetch mX12_sulksOf 1 = some (.iload_n 1)),
  by intros; exact G_at (by decide +kernel : fetch mX12_sulksOf 2 = some (.iload_n 2)),
  by intros; exact G_at (by decide +kernel : fetch mX12_sulksOf 3 = some (.iconst 0)),
  by intros; exact G_callS (k := 3) (kd := 0) (by decide +kernel : fetch mX12_sulksOf 4 = some (.invokestatic 88)) (by decide +kernel) (by decide +kernel) (by decide +kernel) rfl (by decide),
  by intros; exact G_at (by decide +kernel : fetch mX12_sulksOf 7 = some (.iaload)),
  by intros; exact G_at (by decide +kernel : fetch mX12_sulksOf 8 = some (.aload_n 0)),
  by intros; exact G_at (by decide +kernel : fetch mX12_sulksOf 9 = some (.iload_n 1)),
  by intros; exact G_at (by decide +kernel : fetch mX12_sulksOf 10 = some (.iload_n 2)),
  by intros; exact G_at (by decide +kernel : fetch mX12_sulksOf 11 = some (.iconst 1)),
  by intros; exact G_callS (k := 3) (kd := 0) (by decide +kernel : fetch mX12_sulksOf 12 = some (.invokestatic 88)) (by decide +kernel) (by decide +kernel) (by decide +kernel) rfl (by decide),
  by intros; exact G_at (by decide +kernel : fetch mX12_sulksOf 15 = some (.iaload)),
  by intros; exact G_callS (k := 2) (kd := 0) (by decide +kernel : fetch mX12_sulksOf 16 = some (.invokestatic 102)) (by decide +kernel) (by decide +kernel) (by decide +kernel) rfl (by decide),
  by intros; exact G_reti (by decide +kernel : fetch mX12_sulksOf 19 = some (.ireturn)) (by decide +kernel)⟩
theorem gX12_meet : (∀ (n d : Nat) (L : List (Option iV)) (st : List iV) (h : iH) (Q : Option iV → iH → Prop), G sp sc [70] d mX12_meet (n + 1) 0 L st h Q = (match ld L 0 with | some (.inr (.inr (r + 1))) => G sp sc [70] d mX12_meet n 1 L (.inr (.inr (r + 1)) :: st) h Q | _ => False)) ∧
  (∀ (n d : Nat) (L : List (Option iV)) (st : List iV) (h : iH) (Q : Option iV → iH → Prop), G sp sc [70] d mX12_meet (n + 1) 1 L st h Q = (match ld L 1 with | some (.inl x) => G sp sc [70] d mX12_meet n 2 L (.inl x :: st) h Q | _ => False)) ∧
  (∀ (n d : Nat) (L : List (Option iV)) (st : List iV) (h : iH) (Q : Option iV → iH → Prop), G sp sc [70] d mX12_meet (n + 1) 2 L st h Q = (match ld L 2 with | some (.inl x) => G sp sc [70] d mX12_meet n 3 L (.inl x :: st) h Q | _ => False)) ∧
  (∀ (n d : Nat) (L : List (Option iV)) (r : List iV) (z0 : iV) (z1 : iV) (z2 : iV) (h : iH) (Q : Option iV → iH → Prop), G sp sc [70] (d + 1) mX12_meet (n + 1) 3 L (z2 :: z1 :: z0 :: r) h Q = (cs r ≤ 8 ∧ Call sp sc d mX12_areOwn [z0, z1, z2] h (fun q h1 => GC sp sc [70] (d + 1) mX12_meet n 6 L q r h h1 Q))) ∧
  (∀ (n d : Nat) (L : List (Option iV)) (r : List iV) (x : Int) (h : iH) (Q : Option iV → iH → Prop), G sp sc [70] d mX12_meet (n + 1) 6 L (.inl x :: r) h Q = (match st1 L 3 (.inl x) with | some L' => G sp sc [70] d mX12_meet n 7 L' r h Q | none => False)) ∧
  (∀ (n d : Nat) (L : List (Option iV)) (st : List iV) (h : iH) (Q : Option iV → iH → Prop), G sp sc [70] d mX12_meet (n + 1) 7 L st h Q = (match ld L 0 with | some (.inr (.inr (r + 1))) => G sp sc [70] d mX12_meet n 8 L (.inr (.inr (r + 1)) :: st) h Q | _ => False)) ∧
  (∀ (n d : Nat) (L : List (Option iV)) (st : List iV) (h : iH) (Q : Option iV → iH → Prop), G sp sc [70] d mX12_meet (n + 1) 8 L st h Q = G sp sc [70] d mX12_meet n 9 L (.inl 0 :: st) h Q) ∧
  (∀ (n d : Nat) (L : List (Option iV)) (st : List iV) (h : iH) (Q : Option iV → iH → Prop), G sp sc [70] d mX12_meet (n + 1) 9 L st h Q = (match ld L 1 with | some (.inl x) => G sp sc [70] d mX12_meet n 10 L (.inl x :: st) h Q | _ => False)) ∧
  (∀ (n d : Nat) (L : List (Option iV)) (st : List iV) (h : iH) (Q : Option iV → iH → Prop), G sp sc [70] d mX12_meet (n + 1) 10 L st h Q = (match ld L 2 with | some (.inl x) => G sp sc [70] d mX12_meet n 11 L (.inl x :: st) h Q | _ => False)) ∧
  (∀ (n d : Nat) (L : List (Option iV)) (r : List iV) (z0 : iV) (z1 : iV) (z2 : iV) (h : iH) (Q : Option iV → iH → Prop), G sp sc [70] (d + 1) mX12_meet (n + 1) 11 L (z2 :: z1 :: z0 :: r) h Q = (cs r ≤ 8 ∧ Call sp sc d mX12_atLike [z0, z1, z2] h (fun q h1 => GC sp sc [70] (d + 1) mX12_meet n 14 L q r h h1 Q))) ∧
  (∀ (n d : Nat) (L : List (Option iV)) (st : List iV) (h : iH) (Q : Option iV → iH → Prop), G sp sc [70] d mX12_meet (n + 1) 14 L st h Q = (match ld L 0 with | some (.inr (.inr (r + 1))) => G sp sc [70] d mX12_meet n 15 L (.inr (.inr (r + 1)) :: st) h Q | _ => False)) ∧
  (∀ (n d : Nat) (L : List (Option iV)) (st : List iV) (h : iH) (Q : Option iV → iH → Prop), G sp sc [70] d mX12_meet (n + 1) 15 L st h Q = G sp sc [70] d mX12_meet n 16 L (.inl 0 :: st) h Q) ∧
  (∀ (n d : Nat) (L : List (Option iV)) (st : List iV) (h : iH) (Q : Option iV → iH → Prop), G sp sc [70] d mX12_meet (n + 1) 16 L st h Q = (match ld L 1 with | some (.inl x) => G sp sc [70] d mX12_meet n 17 L (.inl x :: st) h Q | _ => False)) ∧
  (∀ (n d : Nat) (L : List (Option iV)) (st : List iV) (h : iH) (Q : Option iV → iH → Prop), G sp sc [70] d mX12_meet (n + 1) 17 L st h Q = G sp sc [70] d mX12_meet n 18 L (.inl 0 :: st) h Q) ∧
  (∀ (n d : Nat) (L : List (Option iV)) (r : List iV) (z0 : iV) (z1 : iV) (z2 : iV) (h : iH) (Q : Option iV → iH → Prop), G sp sc [70] (d + 1) mX12_meet (n + 1) 18 L (z2 :: z1 :: z0 :: r) h Q = (cs r ≤ 8 ∧ Call sp sc d mX12_atOne [z0, z1, z2] h (fun q h1 => GC sp sc [70] (d + 1) mX12_meet n 21 L q r h h1 Q))) ∧
  (∀ (n d : Nat) (L : List (Option iV)) (r : List iV) (j : Int) (m : Nat) (h : iH) (Q : Option iV → iH → Prop), G sp sc [70] d mX12_meet (n + 1) 21 L (.inl j :: .inr (.inr (m + 2)) :: r) h Q = (match h.1[m]? with | some (.inr (.inl (0, xs))) => inA j xs.length = true ∧ G sp sc [70] d mX12_meet n 22 L (.inl (xs.getD j.toNat 0) :: r) h Q | _ => False)) ∧
  (∀ (n d : Nat) (L : List (Option iV)) (st : List iV) (h : iH) (Q : Option iV → iH → Prop), G sp sc [70] d mX12_meet (n + 1) 22 L st h Q = (match ld L 0 with | some (.inr (.inr (r + 1))) => G sp sc [70] d mX12_meet n 23 L (.inr (.inr (r + 1)) :: st) h Q | _ => False)) ∧
  (∀ (n d : Nat) (L : List (Option iV)) (st : List iV) (h : iH) (Q : Option iV → iH → Prop), G sp sc [70] d mX12_meet (n + 1) 23 L st h Q = G sp sc [70] d mX12_meet n 24 L (.inl 0 :: st) h Q) ∧
  (∀ (n d : Nat) (L : List (Option iV)) (st : List iV) (h : iH) (Q : Option iV → iH → Prop), G sp sc [70] d mX12_meet (n + 1) 24 L st h Q = (match ld L 1 with | some (.inl x) => G sp sc [70] d mX12_meet n 25 L (.inl x :: st) h Q | _ => False)) ∧
  (∀ (n d : Nat) (L : List (Option iV)) (st : List iV) (h : iH) (Q : Option iV → iH → Prop), G sp sc [70] d mX12_meet (n + 1) 25 L st h Q = G sp sc [70] d mX12_meet n 26 L (.inl 1 :: st) h Q) ∧
  (∀ (n d : Nat) (L : List (Option iV)) (r : List iV) (z0 : iV) (z1 : iV) (z2 : iV) (h : iH) (Q : Option iV → iH → Prop), G sp sc [70] (d + 1) mX12_meet (n + 1) 26 L (z2 :: z1 :: z0 :: r) h Q = (cs r ≤ 8 ∧ Call sp sc d mX12_atOne [z0, z1, z2] h (fun q h1 => GC sp sc [70] (d + 1) mX12_meet n 29 L q r h h1 Q))) ∧
  (∀ (n d : Nat) (L : List (Option iV)) (r : List iV) (j : Int) (m : Nat) (h : iH) (Q : Option iV → iH → Prop), G sp sc [70] d mX12_meet (n + 1) 29 L (.inl j :: .inr (.inr (m + 2)) :: r) h Q = (match h.1[m]? with | some (.inr (.inl (0, xs))) => inA j xs.length = true ∧ G sp sc [70] d mX12_meet n 30 L (.inl (xs.getD j.toNat 0) :: r) h Q | _ => False)) ∧
  (∀ (n d : Nat) (L : List (Option iV)) (st : List iV) (h : iH) (Q : Option iV → iH → Prop), G sp sc [70] d mX12_meet (n + 1) 30 L st h Q = (match ld L 3 with | some (.inl x) => G sp sc [70] d mX12_meet n 31 L (.inl x :: st) h Q | _ => False)) ∧
  (∀ (n d : Nat) (L : List (Option iV)) (r : List iV) (z0 : iV) (z1 : iV) (z2 : iV) (h : iH) (Q : Option iV → iH → Prop), G sp sc [70] (d + 1) mX12_meet (n + 1) 31 L (z2 :: z1 :: z0 :: r) h Q = (cs r ≤ 8 ∧ Call sp sc d mX12_growsBy [z0, z1, z2] h (fun q h1 => GC sp sc [70] (d + 1) mX12_meet n 34 L q r h h1 Q))) ∧
  (∀ (n d : Nat) (L : List (Option iV)) (r : List iV) (z0 : iV) (z1 : iV) (z2 : iV) (h : iH) (Q : Option iV → iH → Prop), G sp sc [70] (d + 1) mX12_meet (n + 1) 34 L (z2 :: z1 :: z0 :: r) h Q = (cs r ≤ 8 ∧ Call sp sc d mX12_changesLike [z0, z1, z2] h (fun q h1 => GC sp sc [70] (d + 1) mX12_meet n 37 L q r h h1 Q))) ∧
  (∀ (n d : Nat) (L : List (Option iV)) (st : List iV) (h : iH) (Q : Option iV → iH → Prop), G sp sc [70] d mX12_meet (n + 1) 37 L st h Q = (match ld L 0 with | some (.inr (.inr (r + 1))) => G sp sc [70] d mX12_meet n 38 L (.inr (.inr (r + 1)) :: st) h Q | _ => False)) ∧
  (∀ (n d : Nat) (L : List (Option iV)) (st : List iV) (h : iH) (Q : Option iV → iH → Prop), G sp sc [70] d mX12_meet (n + 1) 38 L st h Q = G sp sc [70] d mX12_meet n 39 L (.inl 1 :: st) h Q) ∧
  (∀ (n d : Nat) (L : List (Option iV)) (st : List iV) (h : iH) (Q : Option iV → iH → Prop), G sp sc [70] d mX12_meet (n + 1) 39 L st h Q = (match ld L 2 with | some (.inl x) => G sp sc [70] d mX12_meet n 40 L (.inl x :: st) h Q | _ => False)) ∧
  (∀ (n d : Nat) (L : List (Option iV)) (st : List iV) (h : iH) (Q : Option iV → iH → Prop), G sp sc [70] d mX12_meet (n + 1) 40 L st h Q = (match ld L 1 with | some (.inl x) => G sp sc [70] d mX12_meet n 41 L (.inl x :: st) h Q | _ => False)) ∧
  (∀ (n d : Nat) (L : List (Option iV)) (r : List iV) (z0 : iV) (z1 : iV) (z2 : iV) (h : iH) (Q : Option iV → iH → Prop), G sp sc [70] (d + 1) mX12_meet (n + 1) 41 L (z2 :: z1 :: z0 :: r) h Q = (cs r ≤ 8 ∧ Call sp sc d mX12_atLike [z0, z1, z2] h (fun q h1 => GC sp sc [70] (d + 1) mX12_meet n 44 L q r h h1 Q))) ∧
  (∀ (n d : Nat) (L : List (Option iV)) (st : List iV) (h : iH) (Q : Option iV → iH → Prop), G sp sc [70] d mX12_meet (n + 1) 44 L st h Q = (match ld L 0 with | some (.inr (.inr (r + 1))) => G sp sc [70] d mX12_meet n 45 L (.inr (.inr (r + 1)) :: st) h Q | _ => False)) ∧
  (∀ (n d : Nat) (L : List (Option iV)) (st : List iV) (h : iH) (Q : Option iV → iH → Prop), G sp sc [70] d mX12_meet (n + 1) 45 L st h Q = G sp sc [70] d mX12_meet n 46 L (.inl 1 :: st) h Q) ∧
  (∀ (n d : Nat) (L : List (Option iV)) (st : List iV) (h : iH) (Q : Option iV → iH → Prop), G sp sc [70] d mX12_meet (n + 1) 46 L st h Q = (match ld L 2 with | some (.inl x) => G sp sc [70] d mX12_meet n 47 L (.inl x :: st) h Q | _ => False)) ∧
  (∀ (n d : Nat) (L : List (Option iV)) (st : List iV) (h : iH) (Q : Option iV → iH → Prop), G sp sc [70] d mX12_meet (n + 1) 47 L st h Q = G sp sc [70] d mX12_meet n 48 L (.inl 0 :: st) h Q) ∧
  (∀ (n d : Nat) (L : List (Option iV)) (r : List iV) (z0 : iV) (z1 : iV) (z2 : iV) (h : iH) (Q : Option iV → iH → Prop), G sp sc [70] (d + 1) mX12_meet (n + 1) 48 L (z2 :: z1 :: z0 :: r) h Q = (cs r ≤ 8 ∧ Call sp sc d mX12_atOne [z0, z1, z2] h (fun q h1 => GC sp sc [70] (d + 1) mX12_meet n 51 L q r h h1 Q))) ∧
  (∀ (n d : Nat) (L : List (Option iV)) (r : List iV) (j : Int) (m : Nat) (h : iH) (Q : Option iV → iH → Prop), G sp sc [70] d mX12_meet (n + 1) 51 L (.inl j :: .inr (.inr (m + 2)) :: r) h Q = (match h.1[m]? with | some (.inr (.inl (0, xs))) => inA j xs.length = true ∧ G sp sc [70] d mX12_meet n 52 L (.inl (xs.getD j.toNat 0) :: r) h Q | _ => False)) ∧
  (∀ (n d : Nat) (L : List (Option iV)) (st : List iV) (h : iH) (Q : Option iV → iH → Prop), G sp sc [70] d mX12_meet (n + 1) 52 L st h Q = (match ld L 0 with | some (.inr (.inr (r + 1))) => G sp sc [70] d mX12_meet n 53 L (.inr (.inr (r + 1)) :: st) h Q | _ => False)) ∧
  (∀ (n d : Nat) (L : List (Option iV)) (st : List iV) (h : iH) (Q : Option iV → iH → Prop), G sp sc [70] d mX12_meet (n + 1) 53 L st h Q = G sp sc [70] d mX12_meet n 54 L (.inl 1 :: st) h Q) ∧
  (∀ (n d : Nat) (L : List (Option iV)) (st : List iV) (h : iH) (Q : Option iV → iH → Prop), G sp sc [70] d mX12_meet (n + 1) 54 L st h Q = (match ld L 2 with | some (.inl x) => G sp sc [70] d mX12_meet n 55 L (.inl x :: st) h Q | _ => False)) ∧
  (∀ (n d : Nat) (L : List (Option iV)) (st : List iV) (h : iH) (Q : Option iV → iH → Prop), G sp sc [70] d mX12_meet (n + 1) 55 L st h Q = G sp sc [70] d mX12_meet n 56 L (.inl 1 :: st) h Q) ∧
  (∀ (n d : Nat) (L : List (Option iV)) (r : List iV) (z0 : iV) (z1 : iV) (z2 : iV) (h : iH) (Q : Option iV → iH → Prop), G sp sc [70] (d + 1) mX12_meet (n + 1) 56 L (z2 :: z1 :: z0 :: r) h Q = (cs r ≤ 8 ∧ Call sp sc d mX12_atOne [z0, z1, z2] h (fun q h1 => GC sp sc [70] (d + 1) mX12_meet n 59 L q r h h1 Q))) ∧
  (∀ (n d : Nat) (L : List (Option iV)) (r : List iV) (j : Int) (m : Nat) (h : iH) (Q : Option iV → iH → Prop), G sp sc [70] d mX12_meet (n + 1) 59 L (.inl j :: .inr (.inr (m + 2)) :: r) h Q = (match h.1[m]? with | some (.inr (.inl (0, xs))) => inA j xs.length = true ∧ G sp sc [70] d mX12_meet n 60 L (.inl (xs.getD j.toNat 0) :: r) h Q | _ => False)) ∧
  (∀ (n d : Nat) (L : List (Option iV)) (st : List iV) (h : iH) (Q : Option iV → iH → Prop), G sp sc [70] d mX12_meet (n + 1) 60 L st h Q = (match ld L 3 with | some (.inl x) => G sp sc [70] d mX12_meet n 61 L (.inl x :: st) h Q | _ => False)) ∧
  (∀ (n d : Nat) (L : List (Option iV)) (r : List iV) (z0 : iV) (z1 : iV) (z2 : iV) (h : iH) (Q : Option iV → iH → Prop), G sp sc [70] (d + 1) mX12_meet (n + 1) 61 L (z2 :: z1 :: z0 :: r) h Q = (cs r ≤ 8 ∧ Call sp sc d mX12_growsBy [z0, z1, z2] h (fun q h1 => GC sp sc [70] (d + 1) mX12_meet n 64 L q r h h1 Q))) ∧
  (∀ (n d : Nat) (L : List (Option iV)) (r : List iV) (z0 : iV) (z1 : iV) (z2 : iV) (h : iH) (Q : Option iV → iH → Prop), G sp sc [70] (d + 1) mX12_meet (n + 1) 64 L (z2 :: z1 :: z0 :: r) h Q = (cs r ≤ 8 ∧ Call sp sc d mX12_changesLike [z0, z1, z2] h (fun q h1 => GC sp sc [70] (d + 1) mX12_meet n 67 L q r h h1 Q))) ∧
  (∀ (n d : Nat) (L : List (Option iV)) (st : List iV) (h : iH) (Q : Option iV → iH → Prop), G sp sc [70] d mX12_meet (n + 1) 67 L st h Q = G sp sc [70] d mX12_meet n 68 L (.inl 0 :: st) h Q) ∧
  (∀ (n d : Nat) (L : List (Option iV)) (r : List iV) (x : Int) (h : iH) (Q : Option iV → iH → Prop), G sp sc [70] d mX12_meet (n + 1) 68 L (.inl x :: r) h Q = (match st1 L 4 (.inl x) with | some L' => Run sp sc d mX12_meet 70 L' r h Q | none => False)) ∧
  (∀ (n d : Nat) (L : List (Option iV)) (st : List iV) (h : iH) (Q : Option iV → iH → Prop), G sp sc [70] d mX12_meet (n + 1) 70 L st h Q = (match ld L 4 with | some (.inl x) => G sp sc [70] d mX12_meet n 72 L (.inl x :: st) h Q | _ => False)) ∧
  (∀ (n d : Nat) (L : List (Option iV)) (st : List iV) (h : iH) (Q : Option iV → iH → Prop), G sp sc [70] d mX12_meet (n + 1) 72 L st h Q = (match ld L 0 with | some (.inr (.inr (r + 1))) => G sp sc [70] d mX12_meet n 73 L (.inr (.inr (r + 1)) :: st) h Q | _ => False)) ∧
  (∀ (n d : Nat) (L : List (Option iV)) (st : List iV) (h : iH) (Q : Option iV → iH → Prop), G sp sc [70] d mX12_meet (n + 1) 73 L st h Q = G sp sc [70] d mX12_meet n 74 L (.inl 2 :: st) h Q) ∧
  (∀ (n d : Nat) (L : List (Option iV)) (r : List iV) (j : Int) (m : Nat) (h : iH) (Q : Option iV → iH → Prop), G sp sc [70] d mX12_meet (n + 1) 74 L (.inl j :: .inr (.inr (m + 2)) :: r) h Q = (match h.1[m]? with | some (.inr (.inl (0, xs))) => inA j xs.length = true ∧ G sp sc [70] d mX12_meet n 75 L (.inl (xs.getD j.toNat 0) :: r) h Q | _ => False)) ∧
  (∀ (n d : Nat) (L : List (Option iV)) (a : Int) (b : Int) (r : List iV) (h : iH) (Q : Option iV → iH → Prop), G sp sc [70] d mX12_meet (n + 1) 75 L (.inl b :: .inl a :: r) h Q = ((inI a = true ∧ inI b = true) ∧ (b ≤ a → G sp sc [70] d mX12_meet n 180 L r h Q) ∧ (¬ (b ≤ a) → G sp sc [70] d mX12_meet n 78 L r h Q))) ∧
  (∀ (n d : Nat) (L : List (Option iV)) (st : List iV) (h : iH) (Q : Option iV → iH → Prop), G sp sc [70] d mX12_meet (n + 1) 78 L st h Q = (match ld L 0 with | some (.inr (.inr (r + 1))) => G sp sc [70] d mX12_meet n 79 L (.inr (.inr (r + 1)) :: st) h Q | _ => False)) ∧
  (∀ (n d : Nat) (L : List (Option iV)) (st : List iV) (h : iH) (Q : Option iV → iH → Prop), G sp sc [70] d mX12_meet (n + 1) 79 L st h Q = (match ld L 4 with | some (.inl x) => G sp sc [70] d mX12_meet n 81 L (.inl x :: st) h Q | _ => False)) ∧
  (∀ (n d : Nat) (L : List (Option iV)) (r : List iV) (z0 : iV) (z1 : iV) (h : iH) (Q : Option iV → iH → Prop), G sp sc [70] (d + 1) mX12_meet (n + 1) 81 L (z1 :: z0 :: r) h Q = (cs r ≤ 8 ∧ Call sp sc d mX12_goesOn [z0, z1] h (fun q h1 => GC sp sc [70] (d + 1) mX12_meet n 84 L q r h h1 Q))) ∧
  (∀ (n d : Nat) (L : List (Option iV)) (a : Int) (r : List iV) (h : iH) (Q : Option iV → iH → Prop), G sp sc [70] d mX12_meet (n + 1) 84 L (.inl a :: r) h Q = (inI a = true ∧ (¬ a = 0 → G sp sc [70] d mX12_meet n 90 L r h Q) ∧ (¬ (¬ a = 0) → G sp sc [70] d mX12_meet n 87 L r h Q))) ∧
  (∀ (n d : Nat) (L : List (Option iV)) (st : List iV) (h : iH) (Q : Option iV → iH → Prop), G sp sc [70] d mX12_meet (n + 1) 87 L st h Q = G sp sc [70] d mX12_meet n 174 L st h Q) ∧
  (∀ (n d : Nat) (L : List (Option iV)) (st : List iV) (h : iH) (Q : Option iV → iH → Prop), G sp sc [70] d mX12_meet (n + 1) 90 L st h Q = (match ld L 0 with | some (.inr (.inr (r + 1))) => G sp sc [70] d mX12_meet n 91 L (.inr (.inr (r + 1)) :: st) h Q | _ => False)) ∧
  (∀ (n d : Nat) (L : List (Option iV)) (st : List iV) (h : iH) (Q : Option iV → iH → Prop), G sp sc [70] d mX12_meet (n + 1) 91 L st h Q = (match ld L 4 with | some (.inl x) => G sp sc [70] d mX12_meet n 93 L (.inl x :: st) h Q | _ => False)) ∧
  (∀ (n d : Nat) (L : List (Option iV)) (st : List iV) (h : iH) (Q : Option iV → iH → Prop), G sp sc [70] d mX12_meet (n + 1) 93 L st h Q = G sp sc [70] d mX12_meet n 94 L (.inl 0 :: st) h Q) ∧
  (∀ (n d : Nat) (L : List (Option iV)) (r : List iV) (z0 : iV) (z1 : iV) (h : iH) (Q : Option iV → iH → Prop), G sp sc [70] (d + 1) mX12_meet (n + 1) 94 L (z1 :: z0 :: r) h Q = (cs r ≤ 8 ∧ Call sp sc d mX12_atCouple [z0, z1] h (fun q h1 => GC sp sc [70] (d + 1) mX12_meet n 97 L q r h h1 Q))) ∧
  (∀ (n d : Nat) (L : List (Option iV)) (r : List iV) (j : Int) (m : Nat) (h : iH) (Q : Option iV → iH → Prop), G sp sc [70] d mX12_meet (n + 1) 97 L (.inl j :: .inr (.inr (m + 2)) :: r) h Q = (match h.1[m]? with | some (.inr (.inl (0, xs))) => inA j xs.length = true ∧ G sp sc [70] d mX12_meet n 98 L (.inl (xs.getD j.toNat 0) :: r) h Q | _ => False)) ∧
  (∀ (n d : Nat) (L : List (Option iV)) (r : List iV) (x : Int) (h : iH) (Q : Option iV → iH → Prop), G sp sc [70] d mX12_meet (n + 1) 98 L (.inl x :: r) h Q = (match st1 L 5 (.inl x) with | some L' => G sp sc [70] d mX12_meet n 100 L' r h Q | none => False)) ∧
  (∀ (n d : Nat) (L : List (Option iV)) (st : List iV) (h : iH) (Q : Option iV → iH → Prop), G sp sc [70] d mX12_meet (n + 1) 100 L st h Q = (match ld L 0 with | some (.inr (.inr (r + 1))) => G sp sc [70] d mX12_meet n 101 L (.inr (.inr (r + 1)) :: st) h Q | _ => False)) ∧
  (∀ (n d : Nat) (L : List (Option iV)) (st : List iV) (h : iH) (Q : Option iV → iH → Prop), G sp sc [70] d mX12_meet (n + 1) 101 L st h Q = (match ld L 4 with | some (.inl x) => G sp sc [70] d mX12_meet n 103 L (.inl x :: st) h Q | _ => False)) ∧
  (∀ (n d : Nat) (L : List (Option iV)) (st : List iV) (h : iH) (Q : Option iV → iH → Prop), G sp sc [70] d mX12_meet (n + 1) 103 L st h Q = G sp sc [70] d mX12_meet n 104 L (.inl 1 :: st) h Q) ∧
  (∀ (n d : Nat) (L : List (Option iV)) (r : List iV) (z0 : iV) (z1 : iV) (h : iH) (Q : Option iV → iH → Prop), G sp sc [70] (d + 1) mX12_meet (n + 1) 104 L (z1 :: z0 :: r) h Q = (cs r ≤ 8 ∧ Call sp sc d mX12_atCouple [z0, z1] h (fun q h1 => GC sp sc [70] (d + 1) mX12_meet n 107 L q r h h1 Q))) ∧
  (∀ (n d : Nat) (L : List (Option iV)) (r : List iV) (j : Int) (m : Nat) (h : iH) (Q : Option iV → iH → Prop), G sp sc [70] d mX12_meet (n + 1) 107 L (.inl j :: .inr (.inr (m + 2)) :: r) h Q = (match h.1[m]? with | some (.inr (.inl (0, xs))) => inA j xs.length = true ∧ G sp sc [70] d mX12_meet n 108 L (.inl (xs.getD j.toNat 0) :: r) h Q | _ => False)) ∧
  (∀ (n d : Nat) (L : List (Option iV)) (r : List iV) (x : Int) (h : iH) (Q : Option iV → iH → Prop), G sp sc [70] d mX12_meet (n + 1) 108 L (.inl x :: r) h Q = (match st1 L 6 (.inl x) with | some L' => G sp sc [70] d mX12_meet n 110 L' r h Q | none => False)) ∧
  (∀ (n d : Nat) (L : List (Option iV)) (st : List iV) (h : iH) (Q : Option iV → iH → Prop), G sp sc [70] d mX12_meet (n + 1) 110 L st h Q = (match ld L 6 with | some (.inl x) => G sp sc [70] d mX12_meet n 112 L (.inl x :: st) h Q | _ => False)) ∧
  (∀ (n d : Nat) (L : List (Option iV)) (st : List iV) (h : iH) (Q : Option iV → iH → Prop), G sp sc [70] d mX12_meet (n + 1) 112 L st h Q = (match ld L 2 with | some (.inl x) => G sp sc [70] d mX12_meet n 113 L (.inl x :: st) h Q | _ => False)) ∧
  (∀ (n d : Nat) (L : List (Option iV)) (a : Int) (b : Int) (r : List iV) (h : iH) (Q : Option iV → iH → Prop), G sp sc [70] d mX12_meet (n + 1) 113 L (.inl b :: .inl a :: r) h Q = ((inI a = true ∧ inI b = true) ∧ (¬ a = b → G sp sc [70] d mX12_meet n 142 L r h Q) ∧ (¬ (¬ a = b) → G sp sc [70] d mX12_meet n 116 L r h Q))) ∧
  (∀ (n d : Nat) (L : List (Option iV)) (st : List iV) (h : iH) (Q : Option iV → iH → Prop), G sp sc [70] d mX12_meet (n + 1) 116 L st h Q = (match ld L 5 with | some (.inl x) => G sp sc [70] d mX12_meet n 118 L (.inl x :: st) h Q | _ => False)) ∧
  (∀ (n d : Nat) (L : List (Option iV)) (st : List iV) (h : iH) (Q : Option iV → iH → Prop), G sp sc [70] d mX12_meet (n + 1) 118 L st h Q = (match ld L 1 with | some (.inl x) => G sp sc [70] d mX12_meet n 119 L (.inl x :: st) h Q | _ => False)) ∧
  (∀ (n d : Nat) (L : List (Option iV)) (a : Int) (b : Int) (r : List iV) (h : iH) (Q : Option iV → iH → Prop), G sp sc [70] d mX12_meet (n + 1) 119 L (.inl b :: .inl a :: r) h Q = ((inI a = true ∧ inI b = true) ∧ (a = b → G sp sc [70] d mX12_meet n 142 L r h Q) ∧ (¬ (a = b) → G sp sc [70] d mX12_meet n 122 L r h Q))) ∧
  (∀ (n d : Nat) (L : List (Option iV)) (st : List iV) (h : iH) (Q : Option iV → iH → Prop), G sp sc [70] d mX12_meet (n + 1) 122 L st h Q = (match ld L 0 with | some (.inr (.inr (r + 1))) => G sp sc [70] d mX12_meet n 123 L (.inr (.inr (r + 1)) :: st) h Q | _ => False)) ∧
  (∀ (n d : Nat) (L : List (Option iV)) (st : List iV) (h : iH) (Q : Option iV → iH → Prop), G sp sc [70] d mX12_meet (n + 1) 123 L st h Q = G sp sc [70] d mX12_meet n 124 L (.inl 0 :: st) h Q) ∧
  (∀ (n d : Nat) (L : List (Option iV)) (st : List iV) (h : iH) (Q : Option iV → iH → Prop), G sp sc [70] d mX12_meet (n + 1) 124 L st h Q = (match ld L 5 with | some (.inl x) => G sp sc [70] d mX12_meet n 126 L (.inl x :: st) h Q | _ => False)) ∧
  (∀ (n d : Nat) (L : List (Option iV)) (st : List iV) (h : iH) (Q : Option iV → iH → Prop), G sp sc [70] d mX12_meet (n + 1) 126 L st h Q = (match ld L 6 with | some (.inl x) => G sp sc [70] d mX12_meet n 128 L (.inl x :: st) h Q | _ => False)) ∧
  (∀ (n d : Nat) (L : List (Option iV)) (r : List iV) (z0 : iV) (z1 : iV) (z2 : iV) (h : iH) (Q : Option iV → iH → Prop), G sp sc [70] (d + 1) mX12_meet (n + 1) 128 L (z2 :: z1 :: z0 :: r) h Q = (cs r ≤ 8 ∧ Call sp sc d mX12_atLike [z0, z1, z2] h (fun q h1 => GC sp sc [70] (d + 1) mX12_meet n 131 L q r h h1 Q))) ∧
  (∀ (n d : Nat) (L : List (Option iV)) (st : List iV) (h : iH) (Q : Option iV → iH → Prop), G sp sc [70] d mX12_meet (n + 1) 131 L st h Q = (match ld L 0 with | some (.inr (.inr (r + 1))) => G sp sc [70] d mX12_meet n 132 L (.inr (.inr (r + 1)) :: st) h Q | _ => False)) ∧
  (∀ (n d : Nat) (L : List (Option iV)) (st : List iV) (h : iH) (Q : Option iV → iH → Prop), G sp sc [70] d mX12_meet (n + 1) 132 L st h Q = G sp sc [70] d mX12_meet n 133 L (.inl 0 :: st) h Q) ∧
  (∀ (n d : Nat) (L : List (Option iV)) (st : List iV) (h : iH) (Q : Option iV → iH → Prop), G sp sc [70] d mX12_meet (n + 1) 133 L st h Q = (match ld L 5 with | some (.inl x) => G sp sc [70] d mX12_meet n 135 L (.inl x :: st) h Q | _ => False)) ∧
  (∀ (n d : Nat) (L : List (Option iV)) (r : List iV) (z0 : iV) (z1 : iV) (z2 : iV) (h : iH) (Q : Option iV → iH → Prop), G sp sc [70] (d + 1) mX12_meet (n + 1) 135 L (z2 :: z1 :: z0 :: r) h Q = (cs r ≤ 8 ∧ Call sp sc d mX12_sulksOf [z0, z1, z2] h (fun q h1 => GC sp sc [70] (d + 1) mX12_meet n 138 L q r h h1 Q))) ∧
  (∀ (n d : Nat) (L : List (Option iV)) (a : Int) (r : List iV) (h : iH) (Q : Option iV → iH → Prop), G sp sc [70] d mX12_meet (n + 1) 138 L (.inl a :: r) h Q = G sp sc [70] d mX12_meet n 139 L (.inl (-a) :: r) h Q) ∧
  (∀ (n d : Nat) (L : List (Option iV)) (r : List iV) (z0 : iV) (z1 : iV) (z2 : iV) (h : iH) (Q : Option iV → iH → Prop), G sp sc [70] (d + 1) mX12_meet (n + 1) 139 L (z2 :: z1 :: z0 :: r) h Q = (cs r ≤ 8 ∧ Call sp sc d mX12_changesLike [z0, z1, z2] h (fun q h1 => GC sp sc [70] (d + 1) mX12_meet n 142 L q r h h1 Q))) ∧
  (∀ (n d : Nat) (L : List (Option iV)) (st : List iV) (h : iH) (Q : Option iV → iH → Prop), G sp sc [70] d mX12_meet (n + 1) 142 L st h Q = (match ld L 5 with | some (.inl x) => G sp sc [70] d mX12_meet n 144 L (.inl x :: st) h Q | _ => False)) ∧
  (∀ (n d : Nat) (L : List (Option iV)) (st : List iV) (h : iH) (Q : Option iV → iH → Prop), G sp sc [70] d mX12_meet (n + 1) 144 L st h Q = (match ld L 1 with | some (.inl x) => G sp sc [70] d mX12_meet n 145 L (.inl x :: st) h Q | _ => False)) ∧
  (∀ (n d : Nat) (L : List (Option iV)) (a : Int) (b : Int) (r : List iV) (h : iH) (Q : Option iV → iH → Prop), G sp sc [70] d mX12_meet (n + 1) 145 L (.inl b :: .inl a :: r) h Q = ((inI a = true ∧ inI b = true) ∧ (¬ a = b → G sp sc [70] d mX12_meet n 174 L r h Q) ∧ (¬ (¬ a = b) → G sp sc [70] d mX12_meet n 148 L r h Q))) ∧
  (∀ (n d : Nat) (L : List (Option iV)) (st : List iV) (h : iH) (Q : Option iV → iH → Prop), G sp sc [70] d mX12_meet (n + 1) 148 L st h Q = (match ld L 6 with | some (.inl x) => G sp sc [70] d mX12_meet n 150 L (.inl x :: st) h Q | _ => False)) ∧
  (∀ (n d : Nat) (L : List (Option iV)) (st : List iV) (h : iH) (Q : Option iV → iH → Prop), G sp sc [70] d mX12_meet (n + 1) 150 L st h Q = (match ld L 2 with | some (.inl x) => G sp sc [70] d mX12_meet n 151 L (.inl x :: st) h Q | _ => False)) ∧
  (∀ (n d : Nat) (L : List (Option iV)) (a : Int) (b : Int) (r : List iV) (h : iH) (Q : Option iV → iH → Prop), G sp sc [70] d mX12_meet (n + 1) 151 L (.inl b :: .inl a :: r) h Q = ((inI a = true ∧ inI b = true) ∧ (a = b → G sp sc [70] d mX12_meet n 174 L r h Q) ∧ (¬ (a = b) → G sp sc [70] d mX12_meet n 154 L r h Q))) ∧
  (∀ (n d : Nat) (L : List (Option iV)) (st : List iV) (h : iH) (Q : Option iV → iH → Prop), G sp sc [70] d mX12_meet (n + 1) 154 L st h Q = (match ld L 0 with | some (.inr (.inr (r + 1))) => G sp sc [70] d mX12_meet n 155 L (.inr (.inr (r + 1)) :: st) h Q | _ => False)) ∧
  (∀ (n d : Nat) (L : List (Option iV)) (st : List iV) (h : iH) (Q : Option iV → iH → Prop), G sp sc [70] d mX12_meet (n + 1) 155 L st h Q = G sp sc [70] d mX12_meet n 156 L (.inl 1 :: st) h Q) ∧
  (∀ (n d : Nat) (L : List (Option iV)) (st : List iV) (h : iH) (Q : Option iV → iH → Prop), G sp sc [70] d mX12_meet (n + 1) 156 L st h Q = (match ld L 6 with | some (.inl x) => G sp sc [70] d mX12_meet n 158 L (.inl x :: st) h Q | _ => False)) ∧
  (∀ (n d : Nat) (L : List (Option iV)) (st : List iV) (h : iH) (Q : Option iV → iH → Prop), G sp sc [70] d mX12_meet (n + 1) 158 L st h Q = (match ld L 5 with | some (.inl x) => G sp sc [70] d mX12_meet n 160 L (.inl x :: st) h Q | _ => False)) ∧
  (∀ (n d : Nat) (L : List (Option iV)) (r : List iV) (z0 : iV) (z1 : iV) (z2 : iV) (h : iH) (Q : Option iV → iH → Prop), G sp sc [70] (d + 1) mX12_meet (n + 1) 160 L (z2 :: z1 :: z0 :: r) h Q = (cs r ≤ 8 ∧ Call sp sc d mX12_atLike [z0, z1, z2] h (fun q h1 => GC sp sc [70] (d + 1) mX12_meet n 163 L q r h h1 Q))) ∧
  (∀ (n d : Nat) (L : List (Option iV)) (st : List iV) (h : iH) (Q : Option iV → iH → Prop), G sp sc [70] d mX12_meet (n + 1) 163 L st h Q = (match ld L 0 with | some (.inr (.inr (r + 1))) => G sp sc [70] d mX12_meet n 164 L (.inr (.inr (r + 1)) :: st) h Q | _ => False)) ∧
  (∀ (n d : Nat) (L : List (Option iV)) (st : List iV) (h : iH) (Q : Option iV → iH → Prop), G sp sc [70] d mX12_meet (n + 1) 164 L st h Q = G sp sc [70] d mX12_meet n 165 L (.inl 1 :: st) h Q) ∧
  (∀ (n d : Nat) (L : List (Option iV)) (st : List iV) (h : iH) (Q : Option iV → iH → Prop), G sp sc [70] d mX12_meet (n + 1) 165 L st h Q = (match ld L 6 with | some (.inl x) => G sp sc [70] d mX12_meet n 167 L (.inl x :: st) h Q | _ => False)) ∧
  (∀ (n d : Nat) (L : List (Option iV)) (r : List iV) (z0 : iV) (z1 : iV) (z2 : iV) (h : iH) (Q : Option iV → iH → Prop), G sp sc [70] (d + 1) mX12_meet (n + 1) 167 L (z2 :: z1 :: z0 :: r) h Q = (cs r ≤ 8 ∧ Call sp sc d mX12_sulksOf [z0, z1, z2] h (fun q h1 => GC sp sc [70] (d + 1) mX12_meet n 170 L q r h h1 Q))) ∧
  (∀ (n d : Nat) (L : List (Option iV)) (a : Int) (r : List iV) (h : iH) (Q : Option iV → iH → Prop), G sp sc [70] d mX12_meet (n + 1) 170 L (.inl a :: r) h Q = G sp sc [70] d mX12_meet n 171 L (.inl (-a) :: r) h Q) ∧
  (∀ (n d : Nat) (L : List (Option iV)) (r : List iV) (z0 : iV) (z1 : iV) (z2 : iV) (h : iH) (Q : Option iV → iH → Prop), G sp sc [70] (d + 1) mX12_meet (n + 1) 171 L (z2 :: z1 :: z0 :: r) h Q = (cs r ≤ 8 ∧ Call sp sc d mX12_changesLike [z0, z1, z2] h (fun q h1 => GC sp sc [70] (d + 1) mX12_meet n 174 L q r h h1 Q))) ∧
  (∀ (n d : Nat) (L : List (Option iV)) (st : List iV) (h : iH) (Q : Option iV → iH → Prop), G sp sc [70] d mX12_meet (n + 1) 174 L st h Q = (match ld L 4 with | some (.inl x) => (match st1 L 4 (.inl (x + 1)) with | some L' => G sp sc [70] d mX12_meet n 177 L' st h Q | none => False) | _ => False)) ∧
  (∀ (n d : Nat) (L : List (Option iV)) (st : List iV) (h : iH) (Q : Option iV → iH → Prop), G sp sc [70] d mX12_meet (n + 1) 177 L st h Q = Run sp sc d mX12_meet 70 L st h Q) ∧
  (∀ (n d : Nat) (L : List (Option iV))  (h : iH) (Q : Option iV → iH → Prop), G sp sc [70] d mX12_meet (n + 1) 180 L [] h Q = Q none h) := ⟨by intros; exact G_at (by decide +kernel : fetch mX12_meet 0 = some (.aload_n 0)),
  by intros; exact G_at (by decide +kernel : fetch mX12_meet 1 = some (.iload_n 1)),
  by intros; exact G_at (by decide +kernel : fetch mX12_meet 2 = some (.iload_n 2)),
  by intros; exact G_callS (k := 3) (kd := 0) (by decide +kernel : fetch mX12_meet 3 = some (.invokestatic 105)) (by decide +kernel) (by decide +kernel) (by decide +kernel) rfl (by decide),
  by intros; exact G_at (by decide +kernel : fetch mX12_meet 6 = some (.istore_n 3)),
  by intros; exact G_at (by decide +kernel : fetch mX12_meet 7 = some (.aload_n 0)),
  by intros; exact G_at (by decide +kernel : fetch mX12_meet 8 = some (.iconst 0)),
  by intros; exact G_at (by decide +kernel : fetch mX12_meet 9 = some (.iload_n 1)),
  by intros; exact G_at (by decide +kernel : fetch mX12_meet 10 = some (.iload_n 2)),
  by intros; exact G_callS (k := 3) (kd := 0) (by decide +kernel : fetch mX12_meet 11 = some (.invokestatic 109)) (by decide +kernel) (by decide +kernel) (by decide +kernel) rfl (by decide),
  by intros; exact G_at (by decide +kernel : fetch mX12_meet 14 = some (.aload_n 0)),
  by intros; exact G_at (by decide +kernel : fetch mX12_meet 15 = some (.iconst 0)),
  by intros; exact G_at (by decide +kernel : fetch mX12_meet 16 = some (.iload_n 1)),
  by intros; exact G_at (by decide +kernel : fetch mX12_meet 17 = some (.iconst 0)),
  by intros; exact G_callS (k := 3) (kd := 0) (by decide +kernel : fetch mX12_meet 18 = some (.invokestatic 88)) (by decide +kernel) (by decide +kernel) (by decide +kernel) rfl (by decide),
  by intros; exact G_at (by decide +kernel : fetch mX12_meet 21 = some (.iaload)),
  by intros; exact G_at (by decide +kernel : fetch mX12_meet 22 = some (.aload_n 0)),
  by intros; exact G_at (by decide +kernel : fetch mX12_meet 23 = some (.iconst 0)),
  by intros; exact G_at (by decide +kernel : fetch mX12_meet 24 = some (.iload_n 1)),
  by intros; exact G_at (by decide +kernel : fetch mX12_meet 25 = some (.iconst 1)),
  by intros; exact G_callS (k := 3) (kd := 0) (by decide +kernel : fetch mX12_meet 26 = some (.invokestatic 88)) (by decide +kernel) (by decide +kernel) (by decide +kernel) rfl (by decide),
  by intros; exact G_at (by decide +kernel : fetch mX12_meet 29 = some (.iaload)),
  by intros; exact G_at (by decide +kernel : fetch mX12_meet 30 = some (.iload_n 3)),
  by intros; exact G_callS (k := 3) (kd := 0) (by decide +kernel : fetch mX12_meet 31 = some (.invokestatic 112)) (by decide +kernel) (by decide +kernel) (by decide +kernel) rfl (by decide),
  by intros; exact G_callS (k := 3) (kd := 0) (by decide +kernel : fetch mX12_meet 34 = some (.invokestatic 116)) (by decide +kernel) (by decide +kernel) (by decide +kernel) rfl (by decide),
  by intros; exact G_at (by decide +kernel : fetch mX12_meet 37 = some (.aload_n 0)),
  by intros; exact G_at (by decide +kernel : fetch mX12_meet 38 = some (.iconst 1)),
  by intros; exact G_at (by decide +kernel : fetch mX12_meet 39 = some (.iload_n 2)),
  by intros; exact G_at (by decide +kernel : fetch mX12_meet 40 = some (.iload_n 1)),
  by intros; exact G_callS (k := 3) (kd := 0) (by decide +kernel : fetch mX12_meet 41 = some (.invokestatic 109)) (by decide +kernel) (by decide +kernel) (by decide +kernel) rfl (by decide),
  by intros; exact G_at (by decide +kernel : fetch mX12_meet 44 = some (.aload_n 0)),
  by intros; exact G_at (by decide +kernel : fetch mX12_meet 45 = some (.iconst 1)),
  by intros; exact G_at (by decide +kernel : fetch mX12_meet 46 = some (.iload_n 2)),
  by intros; exact G_at (by decide +kernel : fetch mX12_meet 47 = some (.iconst 0)),
  by intros; exact G_callS (k := 3) (kd := 0) (by decide +kernel : fetch mX12_meet 48 = some (.invokestatic 88)) (by decide +kernel) (by decide +kernel) (by decide +kernel) rfl (by decide),
  by intros; exact G_at (by decide +kernel : fetch mX12_meet 51 = some (.iaload)),
  by intros; exact G_at (by decide +kernel : fetch mX12_meet 52 = some (.aload_n 0)),
  by intros; exact G_at (by decide +kernel : fetch mX12_meet 53 = some (.iconst 1)),
  by intros; exact G_at (by decide +kernel : fetch mX12_meet 54 = some (.iload_n 2)),
  by intros; exact G_at (by decide +kernel : fetch mX12_meet 55 = some (.iconst 1)),
  by intros; exact G_callS (k := 3) (kd := 0) (by decide +kernel : fetch mX12_meet 56 = some (.invokestatic 88)) (by decide +kernel) (by decide +kernel) (by decide +kernel) rfl (by decide),
  by intros; exact G_at (by decide +kernel : fetch mX12_meet 59 = some (.iaload)),
  by intros; exact G_at (by decide +kernel : fetch mX12_meet 60 = some (.iload_n 3)),
  by intros; exact G_callS (k := 3) (kd := 0) (by decide +kernel : fetch mX12_meet 61 = some (.invokestatic 112)) (by decide +kernel) (by decide +kernel) (by decide +kernel) rfl (by decide),
  by intros; exact G_callS (k := 3) (kd := 0) (by decide +kernel : fetch mX12_meet 64 = some (.invokestatic 116)) (by decide +kernel) (by decide +kernel) (by decide +kernel) rfl (by decide),
  by intros; exact G_at (by decide +kernel : fetch mX12_meet 67 = some (.iconst 0)),
  by intros; exact G_at (by decide +kernel : fetch mX12_meet 68 = some (.istore 4)),
  by intros; exact G_at (by decide +kernel : fetch mX12_meet 70 = some (.iload 4)),
  by intros; exact G_at (by decide +kernel : fetch mX12_meet 72 = some (.aload_n 0)),
  by intros; exact G_at (by decide +kernel : fetch mX12_meet 73 = some (.iconst 2)),
  by intros; exact G_at (by decide +kernel : fetch mX12_meet 74 = some (.iaload)),
  by intros; exact G_at (by decide +kernel : fetch mX12_meet 75 = some (.if_icmp .ge 105)),
  by intros; exact G_at (by decide +kernel : fetch mX12_meet 78 = some (.aload_n 0)),
  by intros; exact G_at (by decide +kernel : fetch mX12_meet 79 = some (.iload 4)),
  by intros; exact G_callS (k := 2) (kd := 0) (by decide +kernel : fetch mX12_meet 81 = some (.invokestatic 95)) (by decide +kernel) (by decide +kernel) (by decide +kernel) rfl (by decide),
  by intros; exact G_at (by decide +kernel : fetch mX12_meet 84 = some (.ifCond .ne 6)),
  by intros; exact G_at (by decide +kernel : fetch mX12_meet 87 = some (.goto 87)),
  by intros; exact G_at (by decide +kernel : fetch mX12_meet 90 = some (.aload_n 0)),
  by intros; exact G_at (by decide +kernel : fetch mX12_meet 91 = some (.iload 4)),
  by intros; exact G_at (by decide +kernel : fetch mX12_meet 93 = some (.iconst 0)),
  by intros; exact G_callS (k := 2) (kd := 0) (by decide +kernel : fetch mX12_meet 94 = some (.invokestatic 92)) (by decide +kernel) (by decide +kernel) (by decide +kernel) rfl (by decide),
  by intros; exact G_at (by decide +kernel : fetch mX12_meet 97 = some (.iaload)),
  by intros; exact G_at (by decide +kernel : fetch mX12_meet 98 = some (.istore 5)),
  by intros; exact G_at (by decide +kernel : fetch mX12_meet 100 = some (.aload_n 0)),
  by intros; exact G_at (by decide +kernel : fetch mX12_meet 101 = some (.iload 4)),
  by intros; exact G_at (by decide +kernel : fetch mX12_meet 103 = some (.iconst 1)),
  by intros; exact G_callS (k := 2) (kd := 0) (by decide +kernel : fetch mX12_meet 104 = some (.invokestatic 92)) (by decide +kernel) (by decide +kernel) (by decide +kernel) rfl (by decide),
  by intros; exact G_at (by decide +kernel : fetch mX12_meet 107 = some (.iaload)),
  by intros; exact G_at (by decide +kernel : fetch mX12_meet 108 = some (.istore 6)),
  by intros; exact G_at (by decide +kernel : fetch mX12_meet 110 = some (.iload 6)),
  by intros; exact G_at (by decide +kernel : fetch mX12_meet 112 = some (.iload_n 2)),
  by intros; exact G_at (by decide +kernel : fetch mX12_meet 113 = some (.if_icmp .ne 29)),
  by intros; exact G_at (by decide +kernel : fetch mX12_meet 116 = some (.iload 5)),
  by intros; exact G_at (by decide +kernel : fetch mX12_meet 118 = some (.iload_n 1)),
  by intros; exact G_at (by decide +kernel : fetch mX12_meet 119 = some (.if_icmp .eq 23)),
  by intros; exact G_at (by decide +kernel : fetch mX12_meet 122 = some (.aload_n 0)),
  by intros; exact G_at (by decide +kernel : fetch mX12_meet 123 = some (.iconst 0)),
  by intros; exact G_at (by decide +kernel : fetch mX12_meet 124 = some (.iload 5)),
  by intros; exact G_at (by decide +kernel : fetch mX12_meet 126 = some (.iload 6)),
  by intros; exact G_callS (k := 3) (kd := 0) (by decide +kernel : fetch mX12_meet 128 = some (.invokestatic 109)) (by decide +kernel) (by decide +kernel) (by decide +kernel) rfl (by decide),
  by intros; exact G_at (by decide +kernel : fetch mX12_meet 131 = some (.aload_n 0)),
  by intros; exact G_at (by decide +kernel : fetch mX12_meet 132 = some (.iconst 0)),
  by intros; exact G_at (by decide +kernel : fetch mX12_meet 133 = some (.iload 5)),
  by intros; exact G_callS (k := 3) (kd := 0) (by decide +kernel : fetch mX12_meet 135 = some (.invokestatic 120)) (by decide +kernel) (by decide +kernel) (by decide +kernel) rfl (by decide),
  by intros; exact G_at (by decide +kernel : fetch mX12_meet 138 = some (.ineg)),
  by intros; exact G_callS (k := 3) (kd := 0) (by decide +kernel : fetch mX12_meet 139 = some (.invokestatic 116)) (by decide +kernel) (by decide +kernel) (by decide +kernel) rfl (by decide),
  by intros; exact G_at (by decide +kernel : fetch mX12_meet 142 = some (.iload 5)),
  by intros; exact G_at (by decide +kernel : fetch mX12_meet 144 = some (.iload_n 1)),
  by intros; exact G_at (by decide +kernel : fetch mX12_meet 145 = some (.if_icmp .ne 29)),
  by intros; exact G_at (by decide +kernel : fetch mX12_meet 148 = some (.iload 6)),
  by intros; exact G_at (by decide +kernel : fetch mX12_meet 150 = some (.iload_n 2)),
  by intros; exact G_at (by decide +kernel : fetch mX12_meet 151 = some (.if_icmp .eq 23)),
  by intros; exact G_at (by decide +kernel : fetch mX12_meet 154 = some (.aload_n 0)),
  by intros; exact G_at (by decide +kernel : fetch mX12_meet 155 = some (.iconst 1)),
  by intros; exact G_at (by decide +kernel : fetch mX12_meet 156 = some (.iload 6)),
  by intros; exact G_at (by decide +kernel : fetch mX12_meet 158 = some (.iload 5)),
  by intros; exact G_callS (k := 3) (kd := 0) (by decide +kernel : fetch mX12_meet 160 = some (.invokestatic 109)) (by decide +kernel) (by decide +kernel) (by decide +kernel) rfl (by decide),
  by intros; exact G_at (by decide +kernel : fetch mX12_meet 163 = some (.aload_n 0)),
  by intros; exact G_at (by decide +kernel : fetch mX12_meet 164 = some (.iconst 1)),
  by intros; exact G_at (by decide +kernel : fetch mX12_meet 165 = some (.iload 6)),
  by intros; exact G_callS (k := 3) (kd := 0) (by decide +kernel : fetch mX12_meet 167 = some (.invokestatic 120)) (by decide +kernel) (by decide +kernel) (by decide +kernel) rfl (by decide),
  by intros; exact G_at (by decide +kernel : fetch mX12_meet 170 = some (.ineg)),
  by intros; exact G_callS (k := 3) (kd := 0) (by decide +kernel : fetch mX12_meet 171 = some (.invokestatic 116)) (by decide +kernel) (by decide +kernel) (by decide +kernel) rfl (by decide),
  by intros; exact G_at (by decide +kernel : fetch mX12_meet 174 = some (.iinc 4 1)),
  by intros; exact G_at (by decide +kernel : fetch mX12_meet 177 = some (.goto (-107))),
  by intros; exact G_retv (by decide +kernel : fetch mX12_meet 180 = some (.return_)) (by decide +kernel)⟩
theorem gX12_ends : (∀ (n d : Nat) (L : List (Option iV)) (st : List iV) (h : iH) (Q : Option iV → iH → Prop), G sp sc [] d mX12_ends (n + 1) 0 L st h Q = (match ld L 1 with | some (.inr (.inr (r + 1))) => G sp sc [] d mX12_ends n 1 L (.inr (.inr (r + 1)) :: st) h Q | _ => False)) ∧
  (∀ (n d : Nat) (L : List (Option iV)) (st : List iV) (h : iH) (Q : Option iV → iH → Prop), G sp sc [] d mX12_ends (n + 1) 1 L st h Q = (match ld L 2 with | some (.inl x) => G sp sc [] d mX12_ends n 2 L (.inl x :: st) h Q | _ => False)) ∧
  (∀ (n d : Nat) (L : List (Option iV)) (st : List iV) (h : iH) (Q : Option iV → iH → Prop), G sp sc [] d mX12_ends (n + 1) 2 L st h Q = G sp sc [] d mX12_ends n 3 L (.inl 2 :: st) h Q) ∧
  (∀ (n d : Nat) (L : List (Option iV)) (r : List iV) (z0 : iV) (z1 : iV) (h : iH) (Q : Option iV → iH → Prop), G sp sc [] (d + 1) mX12_ends (n + 1) 3 L (z1 :: z0 :: r) h Q = (cs r ≤ 8 ∧ Call sp sc d mX12_atCouple [z0, z1] h (fun q h1 => GC sp sc [] (d + 1) mX12_ends n 6 L q r h h1 Q))) ∧
  (∀ (n d : Nat) (L : List (Option iV)) (st : List iV) (h : iH) (Q : Option iV → iH → Prop), G sp sc [] d mX12_ends (n + 1) 6 L st h Q = (match ld L 3 with | some (.inl x) => G sp sc [] d mX12_ends n 7 L (.inl x :: st) h Q | _ => False)) ∧
  (∀ (n d : Nat) (L : List (Option iV)) (r : List iV) (v : Int) (j : Int) (m : Nat) (h : iH) (Q : Option iV → iH → Prop), G sp sc [] d mX12_ends (n + 1) 7 L (.inl v :: .inl j :: .inr (.inr (m + 2)) :: r) h Q = (match h.1[m]? with | some (.inr (.inl (0, xs))) => inA j xs.length = true ∧ G sp sc [] d mX12_ends n 8 L r (h.1.set m (.inr (.inl (0, xs.set j.toNat v))), h.2) Q | _ => False)) ∧
  (∀ (n d : Nat) (L : List (Option iV)) (st : List iV) (h : iH) (Q : Option iV → iH → Prop), G sp sc [] d mX12_ends (n + 1) 8 L st h Q = (match ld L 0 with | some (.inr (.inr (r + 1))) => G sp sc [] d mX12_ends n 9 L (.inr (.inr (r + 1)) :: st) h Q | _ => False)) ∧
  (∀ (n d : Nat) (L : List (Option iV)) (r : List iV) (m : Nat) (h : iH) (Q : Option iV → iH → Prop), G sp sc [] d mX12_ends (n + 1) 9 L (.inr (.inr (m + 2)) :: r) h Q = (match h.1[m]? with | some (.inl (ci, fs)) => (match lkF 12 25 ci with | some k => (match fs[k]? with | some v => G sp sc [] d mX12_ends n 12 L (v :: r) h Q | none => False) | none => False) | _ => False)) ∧
  (∀ (n d : Nat) (L : List (Option iV)) (st : List iV) (h : iH) (Q : Option iV → iH → Prop), G sp sc [] d mX12_ends (n + 1) 12 L st h Q = (match ld L 2 with | some (.inl x) => G sp sc [] d mX12_ends n 13 L (.inl x :: st) h Q | _ => False)) ∧
  (∀ (n d : Nat) (L : List (Option iV)) (st : List iV) (h : iH) (Q : Option iV → iH → Prop), G sp sc [] d mX12_ends (n + 1) 13 L st h Q = (match ld L 0 with | some (.inr (.inr (r + 1))) => G sp sc [] d mX12_ends n 14 L (.inr (.inr (r + 1)) :: st) h Q | _ => False)) ∧
  (∀ (n d : Nat) (L : List (Option iV)) (r : List iV) (m : Nat) (h : iH) (Q : Option iV → iH → Prop), G sp sc [] d mX12_ends (n + 1) 14 L (.inr (.inr (m + 2)) :: r) h Q = (match h.1[m]? with | some (.inl (ci, fs)) => (match lkF 12 85 ci with | some k => (match fs[k]? with | some v => G sp sc [] d mX12_ends n 17 L (v :: r) h Q | none => False) | none => False) | _ => False)) ∧
  (∀ (n d : Nat) (L : List (Option iV)) (st : List iV) (h : iH) (Q : Option iV → iH → Prop), G sp sc [] d mX12_ends (n + 1) 17 L st h Q = G sp sc [] d mX12_ends n 18 L (.inl 1 :: st) h Q) ∧
  (∀ (n d : Nat) (L : List (Option iV)) (a : Int) (b : Int) (r : List iV) (h : iH) (Q : Option iV → iH → Prop), G sp sc [] d mX12_ends (n + 1) 18 L (.inl b :: .inl a :: r) h Q = G sp sc [] d mX12_ends n 19 L (.inl (a + b) :: r) h Q) ∧
  (∀ (n d : Nat) (L : List (Option iV)) (r : List iV) (v : Int) (j : Int) (m : Nat) (h : iH) (Q : Option iV → iH → Prop), G sp sc [] d mX12_ends (n + 1) 19 L (.inl v :: .inl j :: .inr (.inr (m + 2)) :: r) h Q = (match h.1[m]? with | some (.inr (.inl (0, xs))) => inA j xs.length = true ∧ G sp sc [] d mX12_ends n 20 L r (h.1.set m (.inr (.inl (0, xs.set j.toNat v))), h.2) Q | _ => False)) ∧
  (∀ (n d : Nat) (L : List (Option iV))  (h : iH) (Q : Option iV → iH → Prop), G sp sc [] d mX12_ends (n + 1) 20 L [] h Q = Q none h) ∧
  lkF 12 25 12 = some 6 ∧
  lkF 12 85 12 = some 11 := ⟨by intros; exact G_at (by decide +kernel : fetch mX12_ends 0 = some (.aload_n 1)),
  by intros; exact G_at (by decide +kernel : fetch mX12_ends 1 = some (.iload_n 2)),
  by intros; exact G_at (by decide +kernel : fetch mX12_ends 2 = some (.iconst 2)),
  by intros; exact G_callS (k := 2) (kd := 0) (by decide +kernel : fetch mX12_ends 3 = some (.invokestatic 92)) (by decide +kernel) (by decide +kernel) (by decide +kernel) rfl (by decide),
  by intros; exact G_at (by decide +kernel : fetch mX12_ends 6 = some (.iload_n 3)),
  by intros; exact G_at (by decide +kernel : fetch mX12_ends 7 = some (.iastore)),
  by intros; exact G_at (by decide +kernel : fetch mX12_ends 8 = some (.aload_n 0)),
  by intros; exact G_own (by decide +kernel : fetch mX12_ends 9 = some (.getfield 25)) (by decide +kernel),
  by intros; exact G_at (by decide +kernel : fetch mX12_ends 12 = some (.iload_n 2)),
  by intros; exact G_at (by decide +kernel : fetch mX12_ends 13 = some (.aload_n 0)),
  by intros; exact G_own (by decide +kernel : fetch mX12_ends 14 = some (.getfield 85)) (by decide +kernel),
  by intros; exact G_at (by decide +kernel : fetch mX12_ends 17 = some (.iconst 1)),
  by intros; exact G_at (by decide +kernel : fetch mX12_ends 18 = some (.iadd)),
  by intros; exact G_at (by decide +kernel : fetch mX12_ends 19 = some (.iastore)),
  by intros; exact G_retv (by decide +kernel : fetch mX12_ends 20 = some (.return_)) (by decide +kernel),
  by decide +kernel,
  by decide +kernel⟩
theorem gX12_bind : (∀ (n d : Nat) (L : List (Option iV)) (st : List iV) (h : iH) (Q : Option iV → iH → Prop), G sp sc [30] d mX12_bind (n + 1) 0 L st h Q = (match ld L 1 with | some (.inr (.inr (r + 1))) => G sp sc [30] d mX12_bind n 1 L (.inr (.inr (r + 1)) :: st) h Q | _ => False)) ∧
  (∀ (n d : Nat) (L : List (Option iV)) (st : List iV) (h : iH) (Q : Option iV → iH → Prop), G sp sc [30] d mX12_bind (n + 1) 1 L st h Q = G sp sc [30] d mX12_bind n 2 L (.inl 0 :: st) h Q) ∧
  (∀ (n d : Nat) (L : List (Option iV)) (st : List iV) (h : iH) (Q : Option iV → iH → Prop), G sp sc [30] d mX12_bind (n + 1) 2 L st h Q = (match ld L 2 with | some (.inl x) => G sp sc [30] d mX12_bind n 3 L (.inl x :: st) h Q | _ => False)) ∧
  (∀ (n d : Nat) (L : List (Option iV)) (st : List iV) (h : iH) (Q : Option iV → iH → Prop), G sp sc [30] d mX12_bind (n + 1) 3 L st h Q = G sp sc [30] d mX12_bind n 4 L (.inl 3 :: st) h Q) ∧
  (∀ (n d : Nat) (L : List (Option iV)) (r : List iV) (z0 : iV) (z1 : iV) (z2 : iV) (h : iH) (Q : Option iV → iH → Prop), G sp sc [30] (d + 1) mX12_bind (n + 1) 4 L (z2 :: z1 :: z0 :: r) h Q = (cs r ≤ 8 ∧ Call sp sc d mX12_atOne [z0, z1, z2] h (fun q h1 => GC sp sc [30] (d + 1) mX12_bind n 7 L q r h h1 Q))) ∧
  (∀ (n d : Nat) (L : List (Option iV)) (st : List iV) (h : iH) (Q : Option iV → iH → Prop), G sp sc [30] d mX12_bind (n + 1) 7 L st h Q = (match ld L 3 with | some (.inl x) => G sp sc [30] d mX12_bind n 8 L (.inl x :: st) h Q | _ => False)) ∧
  (∀ (n d : Nat) (L : List (Option iV)) (r : List iV) (v : Int) (j : Int) (m : Nat) (h : iH) (Q : Option iV → iH → Prop), G sp sc [30] d mX12_bind (n + 1) 8 L (.inl v :: .inl j :: .inr (.inr (m + 2)) :: r) h Q = (match h.1[m]? with | some (.inr (.inl (0, xs))) => inA j xs.length = true ∧ G sp sc [30] d mX12_bind n 9 L r (h.1.set m (.inr (.inl (0, xs.set j.toNat v))), h.2) Q | _ => False)) ∧
  (∀ (n d : Nat) (L : List (Option iV)) (st : List iV) (h : iH) (Q : Option iV → iH → Prop), G sp sc [30] d mX12_bind (n + 1) 9 L st h Q = (match ld L 1 with | some (.inr (.inr (r + 1))) => G sp sc [30] d mX12_bind n 10 L (.inr (.inr (r + 1)) :: st) h Q | _ => False)) ∧
  (∀ (n d : Nat) (L : List (Option iV)) (st : List iV) (h : iH) (Q : Option iV → iH → Prop), G sp sc [30] d mX12_bind (n + 1) 10 L st h Q = G sp sc [30] d mX12_bind n 11 L (.inl 1 :: st) h Q) ∧
  (∀ (n d : Nat) (L : List (Option iV)) (st : List iV) (h : iH) (Q : Option iV → iH → Prop), G sp sc [30] d mX12_bind (n + 1) 11 L st h Q = (match ld L 3 with | some (.inl x) => G sp sc [30] d mX12_bind n 12 L (.inl x :: st) h Q | _ => False)) ∧
  (∀ (n d : Nat) (L : List (Option iV)) (st : List iV) (h : iH) (Q : Option iV → iH → Prop), G sp sc [30] d mX12_bind (n + 1) 12 L st h Q = G sp sc [30] d mX12_bind n 13 L (.inl 3 :: st) h Q) ∧
  (∀ (n d : Nat) (L : List (Option iV)) (r : List iV) (z0 : iV) (z1 : iV) (z2 : iV) (h : iH) (Q : Option iV → iH → Prop), G sp sc [30] (d + 1) mX12_bind (n + 1) 13 L (z2 :: z1 :: z0 :: r) h Q = (cs r ≤ 8 ∧ Call sp sc d mX12_atOne [z0, z1, z2] h (fun q h1 => GC sp sc [30] (d + 1) mX12_bind n 16 L q r h h1 Q))) ∧
  (∀ (n d : Nat) (L : List (Option iV)) (st : List iV) (h : iH) (Q : Option iV → iH → Prop), G sp sc [30] d mX12_bind (n + 1) 16 L st h Q = (match ld L 2 with | some (.inl x) => G sp sc [30] d mX12_bind n 17 L (.inl x :: st) h Q | _ => False)) ∧
  (∀ (n d : Nat) (L : List (Option iV)) (r : List iV) (v : Int) (j : Int) (m : Nat) (h : iH) (Q : Option iV → iH → Prop), G sp sc [30] d mX12_bind (n + 1) 17 L (.inl v :: .inl j :: .inr (.inr (m + 2)) :: r) h Q = (match h.1[m]? with | some (.inr (.inl (0, xs))) => inA j xs.length = true ∧ G sp sc [30] d mX12_bind n 18 L r (h.1.set m (.inr (.inl (0, xs.set j.toNat v))), h.2) Q | _ => False)) ∧
  (∀ (n d : Nat) (L : List (Option iV)) (st : List iV) (h : iH) (Q : Option iV → iH → Prop), G sp sc [30] d mX12_bind (n + 1) 18 L st h Q = (match ld L 0 with | some (.inr (.inr (r + 1))) => G sp sc [30] d mX12_bind n 19 L (.inr (.inr (r + 1)) :: st) h Q | _ => False)) ∧
  (∀ (n d : Nat) (L : List (Option iV)) (st : List iV) (h : iH) (Q : Option iV → iH → Prop), G sp sc [30] d mX12_bind (n + 1) 19 L st h Q = (match ld L 1 with | some (.inr (.inr (r + 1))) => G sp sc [30] d mX12_bind n 20 L (.inr (.inr (r + 1)) :: st) h Q | _ => False)) ∧
  (∀ (n d : Nat) (L : List (Option iV)) (st : List iV) (h : iH) (Q : Option iV → iH → Prop), G sp sc [30] d mX12_bind (n + 1) 20 L st h Q = (match ld L 4 with | some (.inl x) => G sp sc [30] d mX12_bind n 22 L (.inl x :: st) h Q | _ => False)) ∧
  (∀ (n d : Nat) (L : List (Option iV)) (st : List iV) (h : iH) (Q : Option iV → iH → Prop), G sp sc [30] d mX12_bind (n + 1) 22 L st h Q = (match ld L 5 with | some (.inl x) => G sp sc [30] d mX12_bind n 24 L (.inl x :: st) h Q | _ => False)) ∧
  (∀ (n d : Nat) (L : List (Option iV)) (r : List iV) (m : Nat) (z0 : iV) (z1 : iV) (z2 : iV) (h : iH) (Q : Option iV → iH → Prop), G sp sc [30] (d + 1) mX12_bind (n + 1) 24 L (z2 :: z1 :: z0 :: .inr (.inr (m + 2)) :: r) h Q = (match h.1[m]? with | some (.inl (ci, _)) => (match lkC 12 124 ci with | some (y1, n1, kd) => (n1 = 3 ∧ (kd = 2 ∨ kd = 3 ∨ kd = 8) ∧ cs r ≤ 8) ∧ Call sp sc d y1 [.inr (.inr (m + 2)), z0, z1, z2] h (fun q h1 => GC sp sc [30] (d + 1) mX12_bind n 27 L q r h h1 Q) | none => False) | _ => False)) ∧
  (∀ (n d : Nat) (L : List (Option iV)) (st : List iV) (h : iH) (Q : Option iV → iH → Prop), G sp sc [30] d mX12_bind (n + 1) 27 L st h Q = G sp sc [30] d mX12_bind n 28 L (.inl 0 :: st) h Q) ∧
  (∀ (n d : Nat) (L : List (Option iV)) (r : List iV) (x : Int) (h : iH) (Q : Option iV → iH → Prop), G sp sc [30] d mX12_bind (n + 1) 28 L (.inl x :: r) h Q = (match st1 L 6 (.inl x) with | some L' => Run sp sc d mX12_bind 30 L' r h Q | none => False)) ∧
  (∀ (n d : Nat) (L : List (Option iV)) (st : List iV) (h : iH) (Q : Option iV → iH → Prop), G sp sc [30] d mX12_bind (n + 1) 30 L st h Q = (match ld L 6 with | some (.inl x) => G sp sc [30] d mX12_bind n 32 L (.inl x :: st) h Q | _ => False)) ∧
  (∀ (n d : Nat) (L : List (Option iV)) (st : List iV) (h : iH) (Q : Option iV → iH → Prop), G sp sc [30] d mX12_bind (n + 1) 32 L st h Q = (match ld L 1 with | some (.inr (.inr (r + 1))) => G sp sc [30] d mX12_bind n 33 L (.inr (.inr (r + 1)) :: st) h Q | _ => False)) ∧
  (∀ (n d : Nat) (L : List (Option iV)) (st : List iV) (h : iH) (Q : Option iV → iH → Prop), G sp sc [30] d mX12_bind (n + 1) 33 L st h Q = G sp sc [30] d mX12_bind n 34 L (.inl 2 :: st) h Q) ∧
  (∀ (n d : Nat) (L : List (Option iV)) (r : List iV) (j : Int) (m : Nat) (h : iH) (Q : Option iV → iH → Prop), G sp sc [30] d mX12_bind (n + 1) 34 L (.inl j :: .inr (.inr (m + 2)) :: r) h Q = (match h.1[m]? with | some (.inr (.inl (0, xs))) => inA j xs.length = true ∧ G sp sc [30] d mX12_bind n 35 L (.inl (xs.getD j.toNat 0) :: r) h Q | _ => False)) ∧
  (∀ (n d : Nat) (L : List (Option iV)) (a : Int) (b : Int) (r : List iV) (h : iH) (Q : Option iV → iH → Prop), G sp sc [30] d mX12_bind (n + 1) 35 L (.inl b :: .inl a :: r) h Q = ((inI a = true ∧ inI b = true) ∧ (b ≤ a → G sp sc [30] d mX12_bind n 85 L r h Q) ∧ (¬ (b ≤ a) → G sp sc [30] d mX12_bind n 38 L r h Q))) ∧
  (∀ (n d : Nat) (L : List (Option iV)) (st : List iV) (h : iH) (Q : Option iV → iH → Prop), G sp sc [30] d mX12_bind (n + 1) 38 L st h Q = (match ld L 1 with | some (.inr (.inr (r + 1))) => G sp sc [30] d mX12_bind n 39 L (.inr (.inr (r + 1)) :: st) h Q | _ => False)) ∧
  (∀ (n d : Nat) (L : List (Option iV)) (st : List iV) (h : iH) (Q : Option iV → iH → Prop), G sp sc [30] d mX12_bind (n + 1) 39 L st h Q = (match ld L 6 with | some (.inl x) => G sp sc [30] d mX12_bind n 41 L (.inl x :: st) h Q | _ => False)) ∧
  (∀ (n d : Nat) (L : List (Option iV)) (r : List iV) (z0 : iV) (z1 : iV) (h : iH) (Q : Option iV → iH → Prop), G sp sc [30] (d + 1) mX12_bind (n + 1) 41 L (z1 :: z0 :: r) h Q = (cs r ≤ 8 ∧ Call sp sc d mX12_goesOn [z0, z1] h (fun q h1 => GC sp sc [30] (d + 1) mX12_bind n 44 L q r h h1 Q))) ∧
  (∀ (n d : Nat) (L : List (Option iV)) (a : Int) (r : List iV) (h : iH) (Q : Option iV → iH → Prop), G sp sc [30] d mX12_bind (n + 1) 44 L (.inl a :: r) h Q = (inI a = true ∧ (a = 0 → G sp sc [30] d mX12_bind n 79 L r h Q) ∧ (¬ (a = 0) → G sp sc [30] d mX12_bind n 47 L r h Q))) ∧
  (∀ (n d : Nat) (L : List (Option iV)) (st : List iV) (h : iH) (Q : Option iV → iH → Prop), G sp sc [30] d mX12_bind (n + 1) 47 L st h Q = (match ld L 1 with | some (.inr (.inr (r + 1))) => G sp sc [30] d mX12_bind n 48 L (.inr (.inr (r + 1)) :: st) h Q | _ => False)) ∧
  (∀ (n d : Nat) (L : List (Option iV)) (st : List iV) (h : iH) (Q : Option iV → iH → Prop), G sp sc [30] d mX12_bind (n + 1) 48 L st h Q = (match ld L 6 with | some (.inl x) => G sp sc [30] d mX12_bind n 50 L (.inl x :: st) h Q | _ => False)) ∧
  (∀ (n d : Nat) (L : List (Option iV)) (st : List iV) (h : iH) (Q : Option iV → iH → Prop), G sp sc [30] d mX12_bind (n + 1) 50 L st h Q = G sp sc [30] d mX12_bind n 51 L (.inl 0 :: st) h Q) ∧
  (∀ (n d : Nat) (L : List (Option iV)) (r : List iV) (z0 : iV) (z1 : iV) (h : iH) (Q : Option iV → iH → Prop), G sp sc [30] (d + 1) mX12_bind (n + 1) 51 L (z1 :: z0 :: r) h Q = (cs r ≤ 8 ∧ Call sp sc d mX12_atCouple [z0, z1] h (fun q h1 => GC sp sc [30] (d + 1) mX12_bind n 54 L q r h h1 Q))) ∧
  (∀ (n d : Nat) (L : List (Option iV)) (r : List iV) (j : Int) (m : Nat) (h : iH) (Q : Option iV → iH → Prop), G sp sc [30] d mX12_bind (n + 1) 54 L (.inl j :: .inr (.inr (m + 2)) :: r) h Q = (match h.1[m]? with | some (.inr (.inl (0, xs))) => inA j xs.length = true ∧ G sp sc [30] d mX12_bind n 55 L (.inl (xs.getD j.toNat 0) :: r) h Q | _ => False)) ∧
  (∀ (n d : Nat) (L : List (Option iV)) (st : List iV) (h : iH) (Q : Option iV → iH → Prop), G sp sc [30] d mX12_bind (n + 1) 55 L st h Q = (match ld L 2 with | some (.inl x) => G sp sc [30] d mX12_bind n 56 L (.inl x :: st) h Q | _ => False)) ∧
  (∀ (n d : Nat) (L : List (Option iV)) (a : Int) (b : Int) (r : List iV) (h : iH) (Q : Option iV → iH → Prop), G sp sc [30] d mX12_bind (n + 1) 56 L (.inl b :: .inl a :: r) h Q = ((inI a = true ∧ inI b = true) ∧ (a = b → G sp sc [30] d mX12_bind n 71 L r h Q) ∧ (¬ (a = b) → G sp sc [30] d mX12_bind n 59 L r h Q))) ∧
  (∀ (n d : Nat) (L : List (Option iV)) (st : List iV) (h : iH) (Q : Option iV → iH → Prop), G sp sc [30] d mX12_bind (n + 1) 59 L st h Q = (match ld L 1 with | some (.inr (.inr (r + 1))) => G sp sc [30] d mX12_bind n 60 L (.inr (.inr (r + 1)) :: st) h Q | _ => False)) ∧
  (∀ (n d : Nat) (L : List (Option iV)) (st : List iV) (h : iH) (Q : Option iV → iH → Prop), G sp sc [30] d mX12_bind (n + 1) 60 L st h Q = (match ld L 6 with | some (.inl x) => G sp sc [30] d mX12_bind n 62 L (.inl x :: st) h Q | _ => False)) ∧
  (∀ (n d : Nat) (L : List (Option iV)) (st : List iV) (h : iH) (Q : Option iV → iH → Prop), G sp sc [30] d mX12_bind (n + 1) 62 L st h Q = G sp sc [30] d mX12_bind n 63 L (.inl 1 :: st) h Q) ∧
  (∀ (n d : Nat) (L : List (Option iV)) (r : List iV) (z0 : iV) (z1 : iV) (h : iH) (Q : Option iV → iH → Prop), G sp sc [30] (d + 1) mX12_bind (n + 1) 63 L (z1 :: z0 :: r) h Q = (cs r ≤ 8 ∧ Call sp sc d mX12_atCouple [z0, z1] h (fun q h1 => GC sp sc [30] (d + 1) mX12_bind n 66 L q r h h1 Q))) ∧
  (∀ (n d : Nat) (L : List (Option iV)) (r : List iV) (j : Int) (m : Nat) (h : iH) (Q : Option iV → iH → Prop), G sp sc [30] d mX12_bind (n + 1) 66 L (.inl j :: .inr (.inr (m + 2)) :: r) h Q = (match h.1[m]? with | some (.inr (.inl (0, xs))) => inA j xs.length = true ∧ G sp sc [30] d mX12_bind n 67 L (.inl (xs.getD j.toNat 0) :: r) h Q | _ => False)) ∧
  (∀ (n d : Nat) (L : List (Option iV)) (st : List iV) (h : iH) (Q : Option iV → iH → Prop), G sp sc [30] d mX12_bind (n + 1) 67 L st h Q = (match ld L 3 with | some (.inl x) => G sp sc [30] d mX12_bind n 68 L (.inl x :: st) h Q | _ => False)) ∧
  (∀ (n d : Nat) (L : List (Option iV)) (a : Int) (b : Int) (r : List iV) (h : iH) (Q : Option iV → iH → Prop), G sp sc [30] d mX12_bind (n + 1) 68 L (.inl b :: .inl a :: r) h Q = ((inI a = true ∧ inI b = true) ∧ (¬ a = b → G sp sc [30] d mX12_bind n 79 L r h Q) ∧ (¬ (¬ a = b) → G sp sc [30] d mX12_bind n 71 L r h Q))) ∧
  (∀ (n d : Nat) (L : List (Option iV)) (st : List iV) (h : iH) (Q : Option iV → iH → Prop), G sp sc [30] d mX12_bind (n + 1) 71 L st h Q = (match ld L 0 with | some (.inr (.inr (r + 1))) => G sp sc [30] d mX12_bind n 72 L (.inr (.inr (r + 1)) :: st) h Q | _ => False)) ∧
  (∀ (n d : Nat) (L : List (Option iV)) (st : List iV) (h : iH) (Q : Option iV → iH → Prop), G sp sc [30] d mX12_bind (n + 1) 72 L st h Q = (match ld L 1 with | some (.inr (.inr (r + 1))) => G sp sc [30] d mX12_bind n 73 L (.inr (.inr (r + 1)) :: st) h Q | _ => False)) ∧
  (∀ (n d : Nat) (L : List (Option iV)) (st : List iV) (h : iH) (Q : Option iV → iH → Prop), G sp sc [30] d mX12_bind (n + 1) 73 L st h Q = (match ld L 6 with | some (.inl x) => G sp sc [30] d mX12_bind n 75 L (.inl x :: st) h Q | _ => False)) ∧
  (∀ (n d : Nat) (L : List (Option iV)) (st : List iV) (h : iH) (Q : Option iV → iH → Prop), G sp sc [30] d mX12_bind (n + 1) 75 L st h Q = G sp sc [30] d mX12_bind n 76 L (.inl 2 :: st) h Q) ∧
  (∀ (n d : Nat) (L : List (Option iV)) (r : List iV) (m : Nat) (z0 : iV) (z1 : iV) (z2 : iV) (h : iH) (Q : Option iV → iH → Prop), G sp sc [30] (d + 1) mX12_bind (n + 1) 76 L (z2 :: z1 :: z0 :: .inr (.inr (m + 2)) :: r) h Q = (match h.1[m]? with | some (.inl (ci, _)) => (match lkC 12 124 ci with | some (y1, n1, kd) => (n1 = 3 ∧ (kd = 2 ∨ kd = 3 ∨ kd = 8) ∧ cs r ≤ 8) ∧ Call sp sc d y1 [.inr (.inr (m + 2)), z0, z1, z2] h (fun q h1 => GC sp sc [30] (d + 1) mX12_bind n 79 L q r h h1 Q) | none => False) | _ => False)) ∧
  (∀ (n d : Nat) (L : List (Option iV)) (st : List iV) (h : iH) (Q : Option iV → iH → Prop), G sp sc [30] d mX12_bind (n + 1) 79 L st h Q = (match ld L 6 with | some (.inl x) => (match st1 L 6 (.inl (x + 1)) with | some L' => G sp sc [30] d mX12_bind n 82 L' st h Q | none => False) | _ => False)) ∧
  (∀ (n d : Nat) (L : List (Option iV)) (st : List iV) (h : iH) (Q : Option iV → iH → Prop), G sp sc [30] d mX12_bind (n + 1) 82 L st h Q = Run sp sc d mX12_bind 30 L st h Q) ∧
  (∀ (n d : Nat) (L : List (Option iV))  (h : iH) (Q : Option iV → iH → Prop), G sp sc [30] d mX12_bind (n + 1) 85 L [] h Q = Q none h) ∧
  lkC 12 124 12 = some (mX12_ends, 3, 2) := ⟨by intros; exact G_at (by decide +kernel : fetch mX12_bind 0 = some (.aload_n 1)),
  by intros; exact G_at (by decide +kernel : fetch mX12_bind 1 = some (.iconst 0)),
  by intros; exact G_at (by decide +kernel : fetch mX12_bind 2 = some (.iload_n 2)),
  by intros; exact G_at (by decide +kernel : fetch mX12_bind 3 = some (.iconst 3)),
  by intros; exact G_callS (k := 3) (kd := 0) (by decide +kernel : fetch mX12_bind 4 = some (.invokestatic 88)) (by decide +kernel) (by decide +kernel) (by decide +kernel) rfl (by decide),
  by intros; exact G_at (by decide +kernel : fetch mX12_bind 7 = some (.iload_n 3)),
  by intros; exact G_at (by decide +kernel : fetch mX12_bind 8 = some (.iastore)),
  by intros; exact G_at (by decide +kernel : fetch mX12_bind 9 = some (.aload_n 1)),
  by intros; exact G_at (by decide +kernel : fetch mX12_bind 10 = some (.iconst 1)),
  by intros; exact G_at (by decide +kernel : fetch mX12_bind 11 = some (.iload_n 3)),
  by intros; exact G_at (by decide +kernel : fetch mX12_bind 12 = some (.iconst 3)),
  by intros; exact G_callS (k := 3) (kd := 0) (by decide +kernel : fetch mX12_bind 13 = some (.invokestatic 88)) (by decide +kernel) (by decide +kernel) (by decide +kernel) rfl (by decide),
  by intros; exact G_at (by decide +kernel : fetch mX12_bind 16 = some (.iload_n 2)),
  by intros; exact G_at (by decide +kernel : fetch mX12_bind 17 = some (.iastore)),
  by intros; exact G_at (by decide +kernel : fetch mX12_bind 18 = some (.aload_n 0)),
  by intros; exact G_at (by decide +kernel : fetch mX12_bind 19 = some (.aload_n 1)),
  by intros; exact G_at (by decide +kernel : fetch mX12_bind 20 = some (.iload 4)),
  by intros; exact G_at (by decide +kernel : fetch mX12_bind 22 = some (.iload 5)),
  by intros; exact G_callV (by decide +kernel : fetch mX12_bind 24 = some (.invokevirtual 124)) (by decide +kernel) (by decide +kernel) rfl,
  by intros; exact G_at (by decide +kernel : fetch mX12_bind 27 = some (.iconst 0)),
  by intros; exact G_at (by decide +kernel : fetch mX12_bind 28 = some (.istore 6)),
  by intros; exact G_at (by decide +kernel : fetch mX12_bind 30 = some (.iload 6)),
  by intros; exact G_at (by decide +kernel : fetch mX12_bind 32 = some (.aload_n 1)),
  by intros; exact G_at (by decide +kernel : fetch mX12_bind 33 = some (.iconst 2)),
  by intros; exact G_at (by decide +kernel : fetch mX12_bind 34 = some (.iaload)),
  by intros; exact G_at (by decide +kernel : fetch mX12_bind 35 = some (.if_icmp .ge 50)),
  by intros; exact G_at (by decide +kernel : fetch mX12_bind 38 = some (.aload_n 1)),
  by intros; exact G_at (by decide +kernel : fetch mX12_bind 39 = some (.iload 6)),
  by intros; exact G_callS (k := 2) (kd := 0) (by decide +kernel : fetch mX12_bind 41 = some (.invokestatic 95)) (by decide +kernel) (by decide +kernel) (by decide +kernel) rfl (by decide),
  by intros; exact G_at (by decide +kernel : fetch mX12_bind 44 = some (.ifCond .eq 35)),
  by intros; exact G_at (by decide +kernel : fetch mX12_bind 47 = some (.aload_n 1)),
  by intros; exact G_at (by decide +kernel : fetch mX12_bind 48 = some (.iload 6)),
  by intros; exact G_at (by decide +kernel : fetch mX12_bind 50 = some (.iconst 0)),
  by intros; exact G_callS (k := 2) (kd := 0) (by decide +kernel : fetch mX12_bind 51 = some (.invokestatic 92)) (by decide +kernel) (by decide +kernel) (by decide +kernel) rfl (by decide),
  by intros; exact G_at (by decide +kernel : fetch mX12_bind 54 = some (.iaload)),
  by intros; exact G_at (by decide +kernel : fetch mX12_bind 55 = some (.iload_n 2)),
  by intros; exact G_at (by decide +kernel : fetch mX12_bind 56 = some (.if_icmp .eq 15)),
  by intros; exact G_at (by decide +kernel : fetch mX12_bind 59 = some (.aload_n 1)),
  by intros; exact G_at (by decide +kernel : fetch mX12_bind 60 = some (.iload 6)),
  by intros; exact G_at (by decide +kernel : fetch mX12_bind 62 = some (.iconst 1)),
  by intros; exact G_callS (k := 2) (kd := 0) (by decide +kernel : fetch mX12_bind 63 = some (.invokestatic 92)) (by decide +kernel) (by decide +kernel) (by decide +kernel) rfl (by decide),
  by intros; exact G_at (by decide +kernel : fetch mX12_bind 66 = some (.iaload)),
  by intros; exact G_at (by decide +kernel : fetch mX12_bind 67 = some (.iload_n 3)),
  by intros; exact G_at (by decide +kernel : fetch mX12_bind 68 = some (.if_icmp .ne 11)),
  by intros; exact G_at (by decide +kernel : fetch mX12_bind 71 = some (.aload_n 0)),
  by intros; exact G_at (by decide +kernel : fetch mX12_bind 72 = some (.aload_n 1)),
  by intros; exact G_at (by decide +kernel : fetch mX12_bind 73 = some (.iload 6)),
  by intros; exact G_at (by decide +kernel : fetch mX12_bind 75 = some (.iconst 2)),
  by intros; exact G_callV (by decide +kernel : fetch mX12_bind 76 = some (.invokevirtual 124)) (by decide +kernel) (by decide +kernel) rfl,
  by intros; exact G_at (by decide +kernel : fetch mX12_bind 79 = some (.iinc 6 1)),
  by intros; exact G_at (by decide +kernel : fetch mX12_bind 82 = some (.goto (-52))),
  by intros; exact G_retv (by decide +kernel : fetch mX12_bind 85 = some (.return_)) (by decide +kernel),
  by decide +kernel⟩
theorem gX12_turn : (∀ (n d : Nat) (L : List (Option iV)) (st : List iV) (h : iH) (Q : Option iV → iH → Prop), G sp sc [] d mX12_turn (n + 1) 0 L st h Q = (match ld L 1 with | some (.inr (.inr (r + 1))) => G sp sc [] d mX12_turn n 1 L (.inr (.inr (r + 1)) :: st) h Q | _ => False)) ∧
  (∀ (n d : Nat) (L : List (Option iV)) (st : List iV) (h : iH) (Q : Option iV → iH → Prop), G sp sc [] d mX12_turn (n + 1) 1 L st h Q = (match ld L 2 with | some (.inl x) => G sp sc [] d mX12_turn n 2 L (.inl x :: st) h Q | _ => False)) ∧
  (∀ (n d : Nat) (L : List (Option iV)) (st : List iV) (h : iH) (Q : Option iV → iH → Prop), G sp sc [] d mX12_turn (n + 1) 2 L st h Q = G sp sc [] d mX12_turn n 3 L (.inl 0 :: st) h Q) ∧
  (∀ (n d : Nat) (L : List (Option iV)) (r : List iV) (z0 : iV) (z1 : iV) (h : iH) (Q : Option iV → iH → Prop), G sp sc [] (d + 1) mX12_turn (n + 1) 3 L (z1 :: z0 :: r) h Q = (cs r ≤ 8 ∧ Call sp sc d mX12_atCouple [z0, z1] h (fun q h1 => GC sp sc [] (d + 1) mX12_turn n 6 L q r h h1 Q))) ∧
  (∀ (n d : Nat) (L : List (Option iV)) (r : List iV) (j : Int) (m : Nat) (h : iH) (Q : Option iV → iH → Prop), G sp sc [] d mX12_turn (n + 1) 6 L (.inl j :: .inr (.inr (m + 2)) :: r) h Q = (match h.1[m]? with | some (.inr (.inl (0, xs))) => inA j xs.length = true ∧ G sp sc [] d mX12_turn n 7 L (.inl (xs.getD j.toNat 0) :: r) h Q | _ => False)) ∧
  (∀ (n d : Nat) (L : List (Option iV)) (r : List iV) (x : Int) (h : iH) (Q : Option iV → iH → Prop), G sp sc [] d mX12_turn (n + 1) 7 L (.inl x :: r) h Q = (match st1 L 4 (.inl x) with | some L' => G sp sc [] d mX12_turn n 9 L' r h Q | none => False)) ∧
  (∀ (n d : Nat) (L : List (Option iV)) (st : List iV) (h : iH) (Q : Option iV → iH → Prop), G sp sc [] d mX12_turn (n + 1) 9 L st h Q = (match ld L 1 with | some (.inr (.inr (r + 1))) => G sp sc [] d mX12_turn n 10 L (.inr (.inr (r + 1)) :: st) h Q | _ => False)) ∧
  (∀ (n d : Nat) (L : List (Option iV)) (st : List iV) (h : iH) (Q : Option iV → iH → Prop), G sp sc [] d mX12_turn (n + 1) 10 L st h Q = (match ld L 2 with | some (.inl x) => G sp sc [] d mX12_turn n 11 L (.inl x :: st) h Q | _ => False)) ∧
  (∀ (n d : Nat) (L : List (Option iV)) (st : List iV) (h : iH) (Q : Option iV → iH → Prop), G sp sc [] d mX12_turn (n + 1) 11 L st h Q = G sp sc [] d mX12_turn n 12 L (.inl 1 :: st) h Q) ∧
  (∀ (n d : Nat) (L : List (Option iV)) (r : List iV) (z0 : iV) (z1 : iV) (h : iH) (Q : Option iV → iH → Prop), G sp sc [] (d + 1) mX12_turn (n + 1) 12 L (z1 :: z0 :: r) h Q = (cs r ≤ 8 ∧ Call sp sc d mX12_atCouple [z0, z1] h (fun q h1 => GC sp sc [] (d + 1) mX12_turn n 15 L q r h h1 Q))) ∧
  (∀ (n d : Nat) (L : List (Option iV)) (r : List iV) (j : Int) (m : Nat) (h : iH) (Q : Option iV → iH → Prop), G sp sc [] d mX12_turn (n + 1) 15 L (.inl j :: .inr (.inr (m + 2)) :: r) h Q = (match h.1[m]? with | some (.inr (.inl (0, xs))) => inA j xs.length = true ∧ G sp sc [] d mX12_turn n 16 L (.inl (xs.getD j.toNat 0) :: r) h Q | _ => False)) ∧
  (∀ (n d : Nat) (L : List (Option iV)) (r : List iV) (x : Int) (h : iH) (Q : Option iV → iH → Prop), G sp sc [] d mX12_turn (n + 1) 16 L (.inl x :: r) h Q = (match st1 L 5 (.inl x) with | some L' => G sp sc [] d mX12_turn n 18 L' r h Q | none => False)) ∧
  (∀ (n d : Nat) (L : List (Option iV)) (st : List iV) (h : iH) (Q : Option iV → iH → Prop), G sp sc [] d mX12_turn (n + 1) 18 L st h Q = (match ld L 1 with | some (.inr (.inr (r + 1))) => G sp sc [] d mX12_turn n 19 L (.inr (.inr (r + 1)) :: st) h Q | _ => False)) ∧
  (∀ (n d : Nat) (L : List (Option iV)) (st : List iV) (h : iH) (Q : Option iV → iH → Prop), G sp sc [] d mX12_turn (n + 1) 19 L st h Q = G sp sc [] d mX12_turn n 20 L (.inl 5 :: st) h Q) ∧
  (∀ (n d : Nat) (L : List (Option iV)) (st : List iV) (h : iH) (Q : Option iV → iH → Prop), G sp sc [] d mX12_turn (n + 1) 20 L st h Q = (match ld L 1 with | some (.inr (.inr (r + 1))) => G sp sc [] d mX12_turn n 21 L (.inr (.inr (r + 1)) :: st) h Q | _ => False)) ∧
  (∀ (n d : Nat) (L : List (Option iV)) (st : List iV) (h : iH) (Q : Option iV → iH → Prop), G sp sc [] d mX12_turn (n + 1) 21 L st h Q = (match ld L 2 with | some (.inl x) => G sp sc [] d mX12_turn n 22 L (.inl x :: st) h Q | _ => False)) ∧
  (∀ (n d : Nat) (L : List (Option iV)) (st : List iV) (h : iH) (Q : Option iV → iH → Prop), G sp sc [] d mX12_turn (n + 1) 22 L st h Q = G sp sc [] d mX12_turn n 23 L (.inl 3 :: st) h Q) ∧
  (∀ (n d : Nat) (L : List (Option iV)) (r : List iV) (z0 : iV) (z1 : iV) (h : iH) (Q : Option iV → iH → Prop), G sp sc [] (d + 1) mX12_turn (n + 1) 23 L (z1 :: z0 :: r) h Q = (cs r ≤ 8 ∧ Call sp sc d mX12_atCouple [z0, z1] h (fun q h1 => GC sp sc [] (d + 1) mX12_turn n 26 L q r h h1 Q))) ∧
  (∀ (n d : Nat) (L : List (Option iV)) (r : List iV) (j : Int) (m : Nat) (h : iH) (Q : Option iV → iH → Prop), G sp sc [] d mX12_turn (n + 1) 26 L (.inl j :: .inr (.inr (m + 2)) :: r) h Q = (match h.1[m]? with | some (.inr (.inl (0, xs))) => inA j xs.length = true ∧ G sp sc [] d mX12_turn n 27 L (.inl (xs.getD j.toNat 0) :: r) h Q | _ => False)) ∧
  (∀ (n d : Nat) (L : List (Option iV)) (a : Int) (b : Int) (r : List iV) (h : iH) (Q : Option iV → iH → Prop), G sp sc [] d mX12_turn (n + 1) 27 L (.inl b :: .inl a :: r) h Q = G sp sc [] d mX12_turn n 28 L (.inl (a + b) :: r) h Q) ∧
  (∀ (n d : Nat) (L : List (Option iV)) (r : List iV) (j : Int) (m : Nat) (h : iH) (Q : Option iV → iH → Prop), G sp sc [] d mX12_turn (n + 1) 28 L (.inl j :: .inr (.inr (m + 2)) :: r) h Q = (match h.1[m]? with | some (.inr (.inl (0, xs))) => inA j xs.length = true ∧ G sp sc [] d mX12_turn n 29 L (.inl (xs.getD j.toNat 0) :: r) h Q | _ => False)) ∧
  (∀ (n d : Nat) (L : List (Option iV)) (r : List iV) (x : Int) (h : iH) (Q : Option iV → iH → Prop), G sp sc [] d mX12_turn (n + 1) 29 L (.inl x :: r) h Q = (match st1 L 6 (.inl x) with | some L' => G sp sc [] d mX12_turn n 31 L' r h Q | none => False)) ∧
  (∀ (n d : Nat) (L : List (Option iV)) (st : List iV) (h : iH) (Q : Option iV → iH → Prop), G sp sc [] d mX12_turn (n + 1) 31 L st h Q = (match ld L 1 with | some (.inr (.inr (r + 1))) => G sp sc [] d mX12_turn n 32 L (.inr (.inr (r + 1)) :: st) h Q | _ => False)) ∧
  (∀ (n d : Nat) (L : List (Option iV)) (st : List iV) (h : iH) (Q : Option iV → iH → Prop), G sp sc [] d mX12_turn (n + 1) 32 L st h Q = G sp sc [] d mX12_turn n 33 L (.inl 0 :: st) h Q) ∧
  (∀ (n d : Nat) (L : List (Option iV)) (st : List iV) (h : iH) (Q : Option iV → iH → Prop), G sp sc [] d mX12_turn (n + 1) 33 L st h Q = (match ld L 4 with | some (.inl x) => G sp sc [] d mX12_turn n 35 L (.inl x :: st) h Q | _ => False)) ∧
  (∀ (n d : Nat) (L : List (Option iV)) (st : List iV) (h : iH) (Q : Option iV → iH → Prop), G sp sc [] d mX12_turn (n + 1) 35 L st h Q = (match ld L 6 with | some (.inl x) => G sp sc [] d mX12_turn n 37 L (.inl x :: st) h Q | _ => False)) ∧
  (∀ (n d : Nat) (L : List (Option iV)) (r : List iV) (z0 : iV) (z1 : iV) (z2 : iV) (z3 : iV) (h : iH) (Q : Option iV → iH → Prop), G sp sc [] (d + 1) mX12_turn (n + 1) 37 L (z3 :: z2 :: z1 :: z0 :: r) h Q = (cs r ≤ 8 ∧ Call sp sc d mX12_doer [z0, z1, z2, z3] h (fun q h1 => GC sp sc [] (d + 1) mX12_turn n 40 L q r h h1 Q))) ∧
  (∀ (n d : Nat) (L : List (Option iV)) (r : List iV) (x : Int) (h : iH) (Q : Option iV → iH → Prop), G sp sc [] d mX12_turn (n + 1) 40 L (.inl x :: r) h Q = (match st1 L 7 (.inl x) with | some L' => G sp sc [] d mX12_turn n 42 L' r h Q | none => False)) ∧
  (∀ (n d : Nat) (L : List (Option iV)) (st : List iV) (h : iH) (Q : Option iV → iH → Prop), G sp sc [] d mX12_turn (n + 1) 42 L st h Q = (match ld L 1 with | some (.inr (.inr (r + 1))) => G sp sc [] d mX12_turn n 43 L (.inr (.inr (r + 1)) :: st) h Q | _ => False)) ∧
  (∀ (n d : Nat) (L : List (Option iV)) (st : List iV) (h : iH) (Q : Option iV → iH → Prop), G sp sc [] d mX12_turn (n + 1) 43 L st h Q = G sp sc [] d mX12_turn n 44 L (.inl 1 :: st) h Q) ∧
  (∀ (n d : Nat) (L : List (Option iV)) (st : List iV) (h : iH) (Q : Option iV → iH → Prop), G sp sc [] d mX12_turn (n + 1) 44 L st h Q = (match ld L 5 with | some (.inl x) => G sp sc [] d mX12_turn n 46 L (.inl x :: st) h Q | _ => False)) ∧
  (∀ (n d : Nat) (L : List (Option iV)) (st : List iV) (h : iH) (Q : Option iV → iH → Prop), G sp sc [] d mX12_turn (n + 1) 46 L st h Q = (match ld L 6 with | some (.inl x) => G sp sc [] d mX12_turn n 48 L (.inl x :: st) h Q | _ => False)) ∧
  (∀ (n d : Nat) (L : List (Option iV)) (r : List iV) (z0 : iV) (z1 : iV) (z2 : iV) (z3 : iV) (h : iH) (Q : Option iV → iH → Prop), G sp sc [] (d + 1) mX12_turn (n + 1) 48 L (z3 :: z2 :: z1 :: z0 :: r) h Q = (cs r ≤ 8 ∧ Call sp sc d mX12_doer [z0, z1, z2, z3] h (fun q h1 => GC sp sc [] (d + 1) mX12_turn n 51 L q r h h1 Q))) ∧
  (∀ (n d : Nat) (L : List (Option iV)) (r : List iV) (x : Int) (h : iH) (Q : Option iV → iH → Prop), G sp sc [] d mX12_turn (n + 1) 51 L (.inl x :: r) h Q = (match st1 L 8 (.inl x) with | some L' => G sp sc [] d mX12_turn n 53 L' r h Q | none => False)) ∧
  (∀ (n d : Nat) (L : List (Option iV)) (st : List iV) (h : iH) (Q : Option iV → iH → Prop), G sp sc [] d mX12_turn (n + 1) 53 L st h Q = (match ld L 1 with | some (.inr (.inr (r + 1))) => G sp sc [] d mX12_turn n 54 L (.inr (.inr (r + 1)) :: st) h Q | _ => False)) ∧
  (∀ (n d : Nat) (L : List (Option iV)) (st : List iV) (h : iH) (Q : Option iV → iH → Prop), G sp sc [] d mX12_turn (n + 1) 54 L st h Q = G sp sc [] d mX12_turn n 55 L (.inl 0 :: st) h Q) ∧
  (∀ (n d : Nat) (L : List (Option iV)) (st : List iV) (h : iH) (Q : Option iV → iH → Prop), G sp sc [] d mX12_turn (n + 1) 55 L st h Q = (match ld L 7 with | some (.inl x) => G sp sc [] d mX12_turn n 57 L (.inl x :: st) h Q | _ => False)) ∧
  (∀ (n d : Nat) (L : List (Option iV)) (st : List iV) (h : iH) (Q : Option iV → iH → Prop), G sp sc [] d mX12_turn (n + 1) 57 L st h Q = G sp sc [] d mX12_turn n 58 L (.inl 3 :: st) h Q) ∧
  (∀ (n d : Nat) (L : List (Option iV)) (r : List iV) (z0 : iV) (z1 : iV) (z2 : iV) (h : iH) (Q : Option iV → iH → Prop), G sp sc [] (d + 1) mX12_turn (n + 1) 58 L (z2 :: z1 :: z0 :: r) h Q = (cs r ≤ 8 ∧ Call sp sc d mX12_atOne [z0, z1, z2] h (fun q h1 => GC sp sc [] (d + 1) mX12_turn n 61 L q r h h1 Q))) ∧
  (∀ (n d : Nat) (L : List (Option iV)) (r : List iV) (j : Int) (m : Nat) (h : iH) (Q : Option iV → iH → Prop), G sp sc [] d mX12_turn (n + 1) 61 L (.inl j :: .inr (.inr (m + 2)) :: r) h Q = (match h.1[m]? with | some (.inr (.inl (0, xs))) => inA j xs.length = true ∧ G sp sc [] d mX12_turn n 62 L (.inl (xs.getD j.toNat 0) :: r) h Q | _ => False)) ∧
  (∀ (n d : Nat) (L : List (Option iV)) (a : Int) (r : List iV) (h : iH) (Q : Option iV → iH → Prop), G sp sc [] d mX12_turn (n + 1) 62 L (.inl a :: r) h Q = (inI a = true ∧ (0 ≤ a → G sp sc [] d mX12_turn n 97 L r h Q) ∧ (¬ (0 ≤ a) → G sp sc [] d mX12_turn n 65 L r h Q))) ∧
  (∀ (n d : Nat) (L : List (Option iV)) (st : List iV) (h : iH) (Q : Option iV → iH → Prop), G sp sc [] d mX12_turn (n + 1) 65 L st h Q = (match ld L 1 with | some (.inr (.inr (r + 1))) => G sp sc [] d mX12_turn n 66 L (.inr (.inr (r + 1)) :: st) h Q | _ => False)) ∧
  (∀ (n d : Nat) (L : List (Option iV)) (st : List iV) (h : iH) (Q : Option iV → iH → Prop), G sp sc [] d mX12_turn (n + 1) 66 L st h Q = G sp sc [] d mX12_turn n 67 L (.inl 1 :: st) h Q) ∧
  (∀ (n d : Nat) (L : List (Option iV)) (st : List iV) (h : iH) (Q : Option iV → iH → Prop), G sp sc [] d mX12_turn (n + 1) 67 L st h Q = (match ld L 8 with | some (.inl x) => G sp sc [] d mX12_turn n 69 L (.inl x :: st) h Q | _ => False)) ∧
  (∀ (n d : Nat) (L : List (Option iV)) (st : List iV) (h : iH) (Q : Option iV → iH → Prop), G sp sc [] d mX12_turn (n + 1) 69 L st h Q = G sp sc [] d mX12_turn n 70 L (.inl 3 :: st) h Q) ∧
  (∀ (n d : Nat) (L : List (Option iV)) (r : List iV) (z0 : iV) (z1 : iV) (z2 : iV) (h : iH) (Q : Option iV → iH → Prop), G sp sc [] (d + 1) mX12_turn (n + 1) 70 L (z2 :: z1 :: z0 :: r) h Q = (cs r ≤ 8 ∧ Call sp sc d mX12_atOne [z0, z1, z2] h (fun q h1 => GC sp sc [] (d + 1) mX12_turn n 73 L q r h h1 Q))) ∧
  (∀ (n d : Nat) (L : List (Option iV)) (r : List iV) (j : Int) (m : Nat) (h : iH) (Q : Option iV → iH → Prop), G sp sc [] d mX12_turn (n + 1) 73 L (.inl j :: .inr (.inr (m + 2)) :: r) h Q = (match h.1[m]? with | some (.inr (.inl (0, xs))) => inA j xs.length = true ∧ G sp sc [] d mX12_turn n 74 L (.inl (xs.getD j.toNat 0) :: r) h Q | _ => False)) ∧
  (∀ (n d : Nat) (L : List (Option iV)) (a : Int) (r : List iV) (h : iH) (Q : Option iV → iH → Prop), G sp sc [] d mX12_turn (n + 1) 74 L (.inl a :: r) h Q = (inI a = true ∧ (0 ≤ a → G sp sc [] d mX12_turn n 97 L r h Q) ∧ (¬ (0 ≤ a) → G sp sc [] d mX12_turn n 77 L r h Q))) ∧
  (∀ (n d : Nat) (L : List (Option iV)) (st : List iV) (h : iH) (Q : Option iV → iH → Prop), G sp sc [] d mX12_turn (n + 1) 77 L st h Q = (match ld L 3 with | some (.inl x) => G sp sc [] d mX12_turn n 78 L (.inl x :: st) h Q | _ => False)) ∧
  (∀ (n d : Nat) (L : List (Option iV)) (st : List iV) (h : iH) (Q : Option iV → iH → Prop), G sp sc [] d mX12_turn (n + 1) 78 L st h Q = (match ld L 7 with | some (.inl x) => G sp sc [] d mX12_turn n 80 L (.inl x :: st) h Q | _ => False)) ∧
  (∀ (n d : Nat) (L : List (Option iV)) (r : List iV) (z0 : iV) (z1 : iV) (h : iH) (Q : Option iV → iH → Prop), G sp sc [] (d + 1) mX12_turn (n + 1) 80 L (z1 :: z0 :: r) h Q = (cs r ≤ 8 ∧ Call sp sc d mX12_has [z0, z1] h (fun q h1 => GC sp sc [] (d + 1) mX12_turn n 83 L q r h h1 Q))) ∧
  (∀ (n d : Nat) (L : List (Option iV)) (a : Int) (r : List iV) (h : iH) (Q : Option iV → iH → Prop), G sp sc [] d mX12_turn (n + 1) 83 L (.inl a :: r) h Q = (inI a = true ∧ (¬ a = 0 → G sp sc [] d mX12_turn n 97 L r h Q) ∧ (¬ (¬ a = 0) → G sp sc [] d mX12_turn n 86 L r h Q))) ∧
  (∀ (n d : Nat) (L : List (Option iV)) (st : List iV) (h : iH) (Q : Option iV → iH → Prop), G sp sc [] d mX12_turn (n + 1) 86 L st h Q = (match ld L 3 with | some (.inl x) => G sp sc [] d mX12_turn n 87 L (.inl x :: st) h Q | _ => False)) ∧
  (∀ (n d : Nat) (L : List (Option iV)) (st : List iV) (h : iH) (Q : Option iV → iH → Prop), G sp sc [] d mX12_turn (n + 1) 87 L st h Q = G sp sc [] d mX12_turn n 88 L (.inl 5 :: st) h Q) ∧
  (∀ (n d : Nat) (L : List (Option iV)) (st : List iV) (h : iH) (Q : Option iV → iH → Prop), G sp sc [] d mX12_turn (n + 1) 88 L st h Q = (match ld L 8 with | some (.inl x) => G sp sc [] d mX12_turn n 90 L (.inl x :: st) h Q | _ => False)) ∧
  (∀ (n d : Nat) (L : List (Option iV)) (a : Int) (b : Int) (r : List iV) (h : iH) (Q : Option iV → iH → Prop), G sp sc [] d mX12_turn (n + 1) 90 L (.inl b :: .inl a :: r) h Q = G sp sc [] d mX12_turn n 91 L (.inl (a + b) :: r) h Q) ∧
  (∀ (n d : Nat) (L : List (Option iV)) (r : List iV) (z0 : iV) (z1 : iV) (h : iH) (Q : Option iV → iH → Prop), G sp sc [] (d + 1) mX12_turn (n + 1) 91 L (z1 :: z0 :: r) h Q = (cs r ≤ 8 ∧ Call sp sc d mX12_has [z0, z1] h (fun q h1 => GC sp sc [] (d + 1) mX12_turn n 94 L q r h h1 Q))) ∧
  (∀ (n d : Nat) (L : List (Option iV)) (a : Int) (r : List iV) (h : iH) (Q : Option iV → iH → Prop), G sp sc [] d mX12_turn (n + 1) 94 L (.inl a :: r) h Q = (inI a = true ∧ (a = 0 → G sp sc [] d mX12_turn n 109 L r h Q) ∧ (¬ (a = 0) → G sp sc [] d mX12_turn n 97 L r h Q))) ∧
  (∀ (n d : Nat) (L : List (Option iV)) (st : List iV) (h : iH) (Q : Option iV → iH → Prop), G sp sc [] d mX12_turn (n + 1) 97 L st h Q = (match ld L 0 with | some (.inr (.inr (r + 1))) => G sp sc [] d mX12_turn n 98 L (.inr (.inr (r + 1)) :: st) h Q | _ => False)) ∧
  (∀ (n d : Nat) (L : List (Option iV)) (r : List iV) (m : Nat) (h : iH) (Q : Option iV → iH → Prop), G sp sc [] d mX12_turn (n + 1) 98 L (.inr (.inr (m + 2)) :: r) h Q = (match h.1[m]? with | some (.inl (ci, fs)) => (match lkF 12 22 ci with | some k => (match fs[k]? with | some v => G sp sc [] d mX12_turn n 101 L (v :: r) h Q | none => False) | none => False) | _ => False)) ∧
  (∀ (n d : Nat) (L : List (Option iV)) (st : List iV) (h : iH) (Q : Option iV → iH → Prop), G sp sc [] d mX12_turn (n + 1) 101 L st h Q = (match ld L 2 with | some (.inl x) => G sp sc [] d mX12_turn n 102 L (.inl x :: st) h Q | _ => False)) ∧
  (∀ (n d : Nat) (L : List (Option iV)) (a : Int) (b : Nat) (r : List iV) (h : iH) (Q : Option iV → iH → Prop), G sp sc [] d mX12_turn (n + 1) 102 L (.inl a :: .inr (.inr b) :: r) h Q = G sp sc [] d mX12_turn n 103 L (.inl a :: .inr (.inr b) :: .inl a :: .inr (.inr b) :: r) h Q) ∧
  (∀ (n d : Nat) (L : List (Option iV)) (r : List iV) (j : Int) (m : Nat) (h : iH) (Q : Option iV → iH → Prop), G sp sc [] d mX12_turn (n + 1) 103 L (.inl j :: .inr (.inr (m + 2)) :: r) h Q = (match h.1[m]? with | some (.inr (.inl (0, xs))) => inA j xs.length = true ∧ G sp sc [] d mX12_turn n 104 L (.inl (xs.getD j.toNat 0) :: r) h Q | _ => False)) ∧
  (∀ (n d : Nat) (L : List (Option iV)) (st : List iV) (h : iH) (Q : Option iV → iH → Prop), G sp sc [] d mX12_turn (n + 1) 104 L st h Q = G sp sc [] d mX12_turn n 105 L (.inl 1 :: st) h Q) ∧
  (∀ (n d : Nat) (L : List (Option iV)) (a : Int) (b : Int) (r : List iV) (h : iH) (Q : Option iV → iH → Prop), G sp sc [] d mX12_turn (n + 1) 105 L (.inl b :: .inl a :: r) h Q = G sp sc [] d mX12_turn n 106 L (.inl (a + b) :: r) h Q) ∧
  (∀ (n d : Nat) (L : List (Option iV)) (r : List iV) (v : Int) (j : Int) (m : Nat) (h : iH) (Q : Option iV → iH → Prop), G sp sc [] d mX12_turn (n + 1) 106 L (.inl v :: .inl j :: .inr (.inr (m + 2)) :: r) h Q = (match h.1[m]? with | some (.inr (.inl (0, xs))) => inA j xs.length = true ∧ G sp sc [] d mX12_turn n 107 L r (h.1.set m (.inr (.inl (0, xs.set j.toNat v))), h.2) Q | _ => False)) ∧
  (∀ (n d : Nat) (L : List (Option iV)) (st : List iV) (h : iH) (Q : Option iV → iH → Prop), G sp sc [] d mX12_turn (n + 1) 107 L st h Q = (match ld L 3 with | some (.inl x) => G sp sc [] d mX12_turn n 108 L (.inl x :: st) h Q | _ => False)) ∧
  (∀ (n d : Nat) (L : List (Option iV)) (a : Int) (h : iH) (Q : Option iV → iH → Prop), G sp sc [] d mX12_turn (n + 1) 108 L [.inl a] h Q = Q (some (.inl a)) h) ∧
  (∀ (n d : Nat) (L : List (Option iV)) (st : List iV) (h : iH) (Q : Option iV → iH → Prop), G sp sc [] d mX12_turn (n + 1) 109 L st h Q = (match ld L 1 with | some (.inr (.inr (r + 1))) => G sp sc [] d mX12_turn n 110 L (.inr (.inr (r + 1)) :: st) h Q | _ => False)) ∧
  (∀ (n d : Nat) (L : List (Option iV)) (st : List iV) (h : iH) (Q : Option iV → iH → Prop), G sp sc [] d mX12_turn (n + 1) 110 L st h Q = (match ld L 7 with | some (.inl x) => G sp sc [] d mX12_turn n 112 L (.inl x :: st) h Q | _ => False)) ∧
  (∀ (n d : Nat) (L : List (Option iV)) (st : List iV) (h : iH) (Q : Option iV → iH → Prop), G sp sc [] d mX12_turn (n + 1) 112 L st h Q = (match ld L 8 with | some (.inl x) => G sp sc [] d mX12_turn n 114 L (.inl x :: st) h Q | _ => False)) ∧
  (∀ (n d : Nat) (L : List (Option iV)) (r : List iV) (z0 : iV) (z1 : iV) (z2 : iV) (h : iH) (Q : Option iV → iH → Prop), G sp sc [] (d + 1) mX12_turn (n + 1) 114 L (z2 :: z1 :: z0 :: r) h Q = (cs r ≤ 8 ∧ Call sp sc d mX12_meet [z0, z1, z2] h (fun q h1 => GC sp sc [] (d + 1) mX12_turn n 117 L q r h h1 Q))) ∧
  (∀ (n d : Nat) (L : List (Option iV)) (st : List iV) (h : iH) (Q : Option iV → iH → Prop), G sp sc [] d mX12_turn (n + 1) 117 L st h Q = (match ld L 7 with | some (.inl x) => G sp sc [] d mX12_turn n 119 L (.inl x :: st) h Q | _ => False)) ∧
  (∀ (n d : Nat) (L : List (Option iV)) (st : List iV) (h : iH) (Q : Option iV → iH → Prop), G sp sc [] d mX12_turn (n + 1) 119 L st h Q = (match ld L 4 with | some (.inl x) => G sp sc [] d mX12_turn n 121 L (.inl x :: st) h Q | _ => False)) ∧
  (∀ (n d : Nat) (L : List (Option iV)) (a : Int) (b : Int) (r : List iV) (h : iH) (Q : Option iV → iH → Prop), G sp sc [] d mX12_turn (n + 1) 121 L (.inl b :: .inl a :: r) h Q = ((inI a = true ∧ inI b = true) ∧ (¬ a = b → G sp sc [] d mX12_turn n 135 L r h Q) ∧ (¬ (¬ a = b) → G sp sc [] d mX12_turn n 124 L r h Q))) ∧
  (∀ (n d : Nat) (L : List (Option iV)) (st : List iV) (h : iH) (Q : Option iV → iH → Prop), G sp sc [] d mX12_turn (n + 1) 124 L st h Q = (match ld L 8 with | some (.inl x) => G sp sc [] d mX12_turn n 126 L (.inl x :: st) h Q | _ => False)) ∧
  (∀ (n d : Nat) (L : List (Option iV)) (st : List iV) (h : iH) (Q : Option iV → iH → Prop), G sp sc [] d mX12_turn (n + 1) 126 L st h Q = (match ld L 5 with | some (.inl x) => G sp sc [] d mX12_turn n 128 L (.inl x :: st) h Q | _ => False)) ∧
  (∀ (n d : Nat) (L : List (Option iV)) (a : Int) (b : Int) (r : List iV) (h : iH) (Q : Option iV → iH → Prop), G sp sc [] d mX12_turn (n + 1) 128 L (.inl b :: .inl a :: r) h Q = ((inI a = true ∧ inI b = true) ∧ (¬ a = b → G sp sc [] d mX12_turn n 135 L r h Q) ∧ (¬ (¬ a = b) → G sp sc [] d mX12_turn n 131 L r h Q))) ∧
  (∀ (n d : Nat) (L : List (Option iV)) (st : List iV) (h : iH) (Q : Option iV → iH → Prop), G sp sc [] d mX12_turn (n + 1) 131 L st h Q = G sp sc [] d mX12_turn n 132 L (.inl 1 :: st) h Q) ∧
  (∀ (n d : Nat) (L : List (Option iV)) (st : List iV) (h : iH) (Q : Option iV → iH → Prop), G sp sc [] d mX12_turn (n + 1) 132 L st h Q = G sp sc [] d mX12_turn n 136 L st h Q) ∧
  (∀ (n d : Nat) (L : List (Option iV)) (st : List iV) (h : iH) (Q : Option iV → iH → Prop), G sp sc [] d mX12_turn (n + 1) 135 L st h Q = G sp sc [] d mX12_turn n 136 L (.inl 0 :: st) h Q) ∧
  (∀ (n d : Nat) (L : List (Option iV)) (r : List iV) (x : Int) (h : iH) (Q : Option iV → iH → Prop), G sp sc [] d mX12_turn (n + 1) 136 L (.inl x :: r) h Q = (match st1 L 9 (.inl x) with | some L' => G sp sc [] d mX12_turn n 138 L' r h Q | none => False)) ∧
  (∀ (n d : Nat) (L : List (Option iV)) (st : List iV) (h : iH) (Q : Option iV → iH → Prop), G sp sc [] d mX12_turn (n + 1) 138 L st h Q = (match ld L 9 with | some (.inl x) => G sp sc [] d mX12_turn n 140 L (.inl x :: st) h Q | _ => False)) ∧
  (∀ (n d : Nat) (L : List (Option iV)) (a : Int) (r : List iV) (h : iH) (Q : Option iV → iH → Prop), G sp sc [] d mX12_turn (n + 1) 140 L (.inl a :: r) h Q = (inI a = true ∧ (¬ a = 0 → G sp sc [] d mX12_turn n 216 L r h Q) ∧ (¬ (¬ a = 0) → G sp sc [] d mX12_turn n 143 L r h Q))) ∧
  (∀ (n d : Nat) (L : List (Option iV)) (st : List iV) (h : iH) (Q : Option iV → iH → Prop), G sp sc [] d mX12_turn (n + 1) 143 L st h Q = (match ld L 1 with | some (.inr (.inr (r + 1))) => G sp sc [] d mX12_turn n 144 L (.inr (.inr (r + 1)) :: st) h Q | _ => False)) ∧
  (∀ (n d : Nat) (L : List (Option iV)) (st : List iV) (h : iH) (Q : Option iV → iH → Prop), G sp sc [] d mX12_turn (n + 1) 144 L st h Q = G sp sc [] d mX12_turn n 145 L (.inl 0 :: st) h Q) ∧
  (∀ (n d : Nat) (L : List (Option iV)) (st : List iV) (h : iH) (Q : Option iV → iH → Prop), G sp sc [] d mX12_turn (n + 1) 145 L st h Q = (match ld L 7 with | some (.inl x) => G sp sc [] d mX12_turn n 147 L (.inl x :: st) h Q | _ => False)) ∧
  (∀ (n d : Nat) (L : List (Option iV)) (st : List iV) (h : iH) (Q : Option iV → iH → Prop), G sp sc [] d mX12_turn (n + 1) 147 L st h Q = (match ld L 8 with | some (.inl x) => G sp sc [] d mX12_turn n 149 L (.inl x :: st) h Q | _ => False)) ∧
  (∀ (n d : Nat) (L : List (Option iV)) (r : List iV) (z0 : iV) (z1 : iV) (z2 : iV) (h : iH) (Q : Option iV → iH → Prop), G sp sc [] (d + 1) mX12_turn (n + 1) 149 L (z2 :: z1 :: z0 :: r) h Q = (cs r ≤ 8 ∧ Call sp sc d mX12_atLike [z0, z1, z2] h (fun q h1 => GC sp sc [] (d + 1) mX12_turn n 152 L q r h h1 Q))) ∧
  (∀ (n d : Nat) (L : List (Option iV)) (r : List iV) (j : Int) (m : Nat) (h : iH) (Q : Option iV → iH → Prop), G sp sc [] d mX12_turn (n + 1) 152 L (.inl j :: .inr (.inr (m + 2)) :: r) h Q = (match h.1[m]? with | some (.inr (.inl (0, xs))) => inA j xs.length = true ∧ G sp sc [] d mX12_turn n 153 L (.inl (xs.getD j.toNat 0) :: r) h Q | _ => False)) ∧
  (∀ (n d : Nat) (L : List (Option iV)) (st : List iV) (h : iH) (Q : Option iV → iH → Prop), G sp sc [] d mX12_turn (n + 1) 153 L st h Q = (match ld L 1 with | some (.inr (.inr (r + 1))) => G sp sc [] d mX12_turn n 154 L (.inr (.inr (r + 1)) :: st) h Q | _ => False)) ∧
  (∀ (n d : Nat) (L : List (Option iV)) (st : List iV) (h : iH) (Q : Option iV → iH → Prop), G sp sc [] d mX12_turn (n + 1) 154 L st h Q = G sp sc [] d mX12_turn n 155 L (.inl 4 :: st) h Q) ∧
  (∀ (n d : Nat) (L : List (Option iV)) (r : List iV) (j : Int) (m : Nat) (h : iH) (Q : Option iV → iH → Prop), G sp sc [] d mX12_turn (n + 1) 155 L (.inl j :: .inr (.inr (m + 2)) :: r) h Q = (match h.1[m]? with | some (.inr (.inl (0, xs))) => inA j xs.length = true ∧ G sp sc [] d mX12_turn n 156 L (.inl (xs.getD j.toNat 0) :: r) h Q | _ => False)) ∧
  (∀ (n d : Nat) (L : List (Option iV)) (a : Int) (b : Int) (r : List iV) (h : iH) (Q : Option iV → iH → Prop), G sp sc [] d mX12_turn (n + 1) 156 L (.inl b :: .inl a :: r) h Q = ((inI a = true ∧ inI b = true) ∧ (a ≤ b → G sp sc [] d mX12_turn n 216 L r h Q) ∧ (¬ (a ≤ b) → G sp sc [] d mX12_turn n 159 L r h Q))) ∧
  (∀ (n d : Nat) (L : List (Option iV)) (st : List iV) (h : iH) (Q : Option iV → iH → Prop), G sp sc [] d mX12_turn (n + 1) 159 L st h Q = (match ld L 1 with | some (.inr (.inr (r + 1))) => G sp sc [] d mX12_turn n 160 L (.inr (.inr (r + 1)) :: st) h Q | _ => False)) ∧
  (∀ (n d : Nat) (L : List (Option iV)) (st : List iV) (h : iH) (Q : Option iV → iH → Prop), G sp sc [] d mX12_turn (n + 1) 160 L st h Q = G sp sc [] d mX12_turn n 161 L (.inl 1 :: st) h Q) ∧
  (∀ (n d : Nat) (L : List (Option iV)) (st : List iV) (h : iH) (Q : Option iV → iH → Prop), G sp sc [] d mX12_turn (n + 1) 161 L st h Q = (match ld L 8 with | some (.inl x) => G sp sc [] d mX12_turn n 163 L (.inl x :: st) h Q | _ => False)) ∧
  (∀ (n d : Nat) (L : List (Option iV)) (st : List iV) (h : iH) (Q : Option iV → iH → Prop), G sp sc [] d mX12_turn (n + 1) 163 L st h Q = (match ld L 7 with | some (.inl x) => G sp sc [] d mX12_turn n 165 L (.inl x :: st) h Q | _ => False)) ∧
  (∀ (n d : Nat) (L : List (Option iV)) (r : List iV) (z0 : iV) (z1 : iV) (z2 : iV) (h : iH) (Q : Option iV → iH → Prop), G sp sc [] (d + 1) mX12_turn (n + 1) 165 L (z2 :: z1 :: z0 :: r) h Q = (cs r ≤ 8 ∧ Call sp sc d mX12_atLike [z0, z1, z2] h (fun q h1 => GC sp sc [] (d + 1) mX12_turn n 168 L q r h h1 Q))) ∧
  (∀ (n d : Nat) (L : List (Option iV)) (r : List iV) (j : Int) (m : Nat) (h : iH) (Q : Option iV → iH → Prop), G sp sc [] d mX12_turn (n + 1) 168 L (.inl j :: .inr (.inr (m + 2)) :: r) h Q = (match h.1[m]? with | some (.inr (.inl (0, xs))) => inA j xs.length = true ∧ G sp sc [] d mX12_turn n 169 L (.inl (xs.getD j.toNat 0) :: r) h Q | _ => False)) ∧
  (∀ (n d : Nat) (L : List (Option iV)) (st : List iV) (h : iH) (Q : Option iV → iH → Prop), G sp sc [] d mX12_turn (n + 1) 169 L st h Q = (match ld L 1 with | some (.inr (.inr (r + 1))) => G sp sc [] d mX12_turn n 170 L (.inr (.inr (r + 1)) :: st) h Q | _ => False)) ∧
  (∀ (n d : Nat) (L : List (Option iV)) (st : List iV) (h : iH) (Q : Option iV → iH → Prop), G sp sc [] d mX12_turn (n + 1) 170 L st h Q = G sp sc [] d mX12_turn n 171 L (.inl 4 :: st) h Q) ∧
  (∀ (n d : Nat) (L : List (Option iV)) (r : List iV) (j : Int) (m : Nat) (h : iH) (Q : Option iV → iH → Prop), G sp sc [] d mX12_turn (n + 1) 171 L (.inl j :: .inr (.inr (m + 2)) :: r) h Q = (match h.1[m]? with | some (.inr (.inl (0, xs))) => inA j xs.length = true ∧ G sp sc [] d mX12_turn n 172 L (.inl (xs.getD j.toNat 0) :: r) h Q | _ => False)) ∧
  (∀ (n d : Nat) (L : List (Option iV)) (a : Int) (b : Int) (r : List iV) (h : iH) (Q : Option iV → iH → Prop), G sp sc [] d mX12_turn (n + 1) 172 L (.inl b :: .inl a :: r) h Q = ((inI a = true ∧ inI b = true) ∧ (a ≤ b → G sp sc [] d mX12_turn n 216 L r h Q) ∧ (¬ (a ≤ b) → G sp sc [] d mX12_turn n 175 L r h Q))) ∧
  (∀ (n d : Nat) (L : List (Option iV)) (st : List iV) (h : iH) (Q : Option iV → iH → Prop), G sp sc [] d mX12_turn (n + 1) 175 L st h Q = (match ld L 0 with | some (.inr (.inr (r + 1))) => G sp sc [] d mX12_turn n 176 L (.inr (.inr (r + 1)) :: st) h Q | _ => False)) ∧
  (∀ (n d : Nat) (L : List (Option iV)) (st : List iV) (h : iH) (Q : Option iV → iH → Prop), G sp sc [] d mX12_turn (n + 1) 176 L st h Q = (match ld L 1 with | some (.inr (.inr (r + 1))) => G sp sc [] d mX12_turn n 177 L (.inr (.inr (r + 1)) :: st) h Q | _ => False)) ∧
  (∀ (n d : Nat) (L : List (Option iV)) (st : List iV) (h : iH) (Q : Option iV → iH → Prop), G sp sc [] d mX12_turn (n + 1) 177 L st h Q = (match ld L 7 with | some (.inl x) => G sp sc [] d mX12_turn n 179 L (.inl x :: st) h Q | _ => False)) ∧
  (∀ (n d : Nat) (L : List (Option iV)) (st : List iV) (h : iH) (Q : Option iV → iH → Prop), G sp sc [] d mX12_turn (n + 1) 179 L st h Q = (match ld L 8 with | some (.inl x) => G sp sc [] d mX12_turn n 181 L (.inl x :: st) h Q | _ => False)) ∧
  (∀ (n d : Nat) (L : List (Option iV)) (st : List iV) (h : iH) (Q : Option iV → iH → Prop), G sp sc [] d mX12_turn (n + 1) 181 L st h Q = (match ld L 2 with | some (.inl x) => G sp sc [] d mX12_turn n 182 L (.inl x :: st) h Q | _ => False)) ∧
  (∀ (n d : Nat) (L : List (Option iV)) (st : List iV) (h : iH) (Q : Option iV → iH → Prop), G sp sc [] d mX12_turn (n + 1) 182 L st h Q = G sp sc [] d mX12_turn n 183 L (.inl 2 :: st) h Q) ∧
  (∀ (n d : Nat) (L : List (Option iV)) (r : List iV) (m : Nat) (z0 : iV) (z1 : iV) (z2 : iV) (z3 : iV) (z4 : iV) (h : iH) (Q : Option iV → iH → Prop), G sp sc [] (d + 1) mX12_turn (n + 1) 183 L (z4 :: z3 :: z2 :: z1 :: z0 :: .inr (.inr (m + 2)) :: r) h Q = (match h.1[m]? with | some (.inl (ci, _)) => (match lkC 12 138 ci with | some (y1, n1, kd) => (n1 = 5 ∧ (kd = 2 ∨ kd = 3 ∨ kd = 8) ∧ cs r ≤ 8) ∧ Call sp sc d y1 [.inr (.inr (m + 2)), z0, z1, z2, z3, z4] h (fun q h1 => GC sp sc [] (d + 1) mX12_turn n 186 L q r h h1 Q) | none => False) | _ => False)) ∧
  (∀ (n d : Nat) (L : List (Option iV)) (st : List iV) (h : iH) (Q : Option iV → iH → Prop), G sp sc [] d mX12_turn (n + 1) 186 L st h Q = (match ld L 0 with | some (.inr (.inr (r + 1))) => G sp sc [] d mX12_turn n 187 L (.inr (.inr (r + 1)) :: st) h Q | _ => False)) ∧
  (∀ (n d : Nat) (L : List (Option iV)) (a : Int) (r : List iV) (h : iH) (Q : Option iV → iH → Prop), G sp sc [] d mX12_turn (n + 1) 187 L (.inl a :: r) h Q = G sp sc [] d mX12_turn n 188 L (.inl a :: .inl a :: r) h Q) ∧
  (∀ (n d : Nat) (L : List (Option iV)) (a : Nat) (r : List iV) (h : iH) (Q : Option iV → iH → Prop), G sp sc [] d mX12_turn (n + 1) 187 L (.inr (.inr a) :: r) h Q = G sp sc [] d mX12_turn n 188 L (.inr (.inr a) :: .inr (.inr a) :: r) h Q) ∧
  (∀ (n d : Nat) (L : List (Option iV)) (r : List iV) (m : Nat) (h : iH) (Q : Option iV → iH → Prop), G sp sc [] d mX12_turn (n + 1) 188 L (.inr (.inr (m + 2)) :: r) h Q = (match h.1[m]? with | some (.inl (ci, fs)) => (match lkF 12 79 ci with | some k => (match fs[k]? with | some v => G sp sc [] d mX12_turn n 191 L (v :: r) h Q | none => False) | none => False) | _ => False)) ∧
  (∀ (n d : Nat) (L : List (Option iV)) (st : List iV) (h : iH) (Q : Option iV → iH → Prop), G sp sc [] d mX12_turn (n + 1) 191 L st h Q = G sp sc [] d mX12_turn n 192 L (.inl 1 :: st) h Q) ∧
  (∀ (n d : Nat) (L : List (Option iV)) (a : Int) (b : Int) (r : List iV) (h : iH) (Q : Option iV → iH → Prop), G sp sc [] d mX12_turn (n + 1) 192 L (.inl b :: .inl a :: r) h Q = G sp sc [] d mX12_turn n 193 L (.inl (a + b) :: r) h Q) ∧
  (∀ (n d : Nat) (L : List (Option iV)) (r : List iV) (v : iV) (m : Nat) (h : iH) (Q : Option iV → iH → Prop), G sp sc [] d mX12_turn (n + 1) 193 L (v :: .inr (.inr (m + 2)) :: r) h Q = (match h.1[m]? with | some (.inl (ci, fs)) => (match lkF 12 79 ci with | some k => (fitV (tyT ci k) v = true ∧ k < fs.length ∧ pOK 12 false ci k = true) ∧ G sp sc [] d mX12_turn n 196 L r (h.1.set m (.inl (ci, fs.set k v)), h.2) Q | none => False) | _ => False)) ∧
  (∀ (n d : Nat) (L : List (Option iV)) (st : List iV) (h : iH) (Q : Option iV → iH → Prop), G sp sc [] d mX12_turn (n + 1) 196 L st h Q = (match ld L 0 with | some (.inr (.inr (r + 1))) => G sp sc [] d mX12_turn n 197 L (.inr (.inr (r + 1)) :: st) h Q | _ => False)) ∧
  (∀ (n d : Nat) (L : List (Option iV)) (r : List iV) (m : Nat) (h : iH) (Q : Option iV → iH → Prop), G sp sc [] d mX12_turn (n + 1) 197 L (.inr (.inr (m + 2)) :: r) h Q = (match h.1[m]? with | some (.inl (ci, fs)) => (match lkF 12 82 ci with | some k => (match fs[k]? with | some v => G sp sc [] d mX12_turn n 200 L (v :: r) h Q | none => False) | none => False) | _ => False)) ∧
  (∀ (n d : Nat) (L : List (Option iV)) (a : Int) (r : List iV) (h : iH) (Q : Option iV → iH → Prop), G sp sc [] d mX12_turn (n + 1) 200 L (.inl a :: r) h Q = (inI a = true ∧ (0 ≤ a → G sp sc [] d mX12_turn n 260 L r h Q) ∧ (¬ (0 ≤ a) → G sp sc [] d mX12_turn n 203 L r h Q))) ∧
  (∀ (n d : Nat) (L : List (Option iV)) (st : List iV) (h : iH) (Q : Option iV → iH → Prop), G sp sc [] d mX12_turn (n + 1) 203 L st h Q = (match ld L 0 with | some (.inr (.inr (r + 1))) => G sp sc [] d mX12_turn n 204 L (.inr (.inr (r + 1)) :: st) h Q | _ => False)) ∧
  (∀ (n d : Nat) (L : List (Option iV)) (st : List iV) (h : iH) (Q : Option iV → iH → Prop), G sp sc [] d mX12_turn (n + 1) 204 L st h Q = (match ld L 0 with | some (.inr (.inr (r + 1))) => G sp sc [] d mX12_turn n 205 L (.inr (.inr (r + 1)) :: st) h Q | _ => False)) ∧
  (∀ (n d : Nat) (L : List (Option iV)) (r : List iV) (m : Nat) (h : iH) (Q : Option iV → iH → Prop), G sp sc [] d mX12_turn (n + 1) 205 L (.inr (.inr (m + 2)) :: r) h Q = (match h.1[m]? with | some (.inl (ci, fs)) => (match lkF 12 85 ci with | some k => (match fs[k]? with | some v => G sp sc [] d mX12_turn n 208 L (v :: r) h Q | none => False) | none => False) | _ => False)) ∧
  (∀ (n d : Nat) (L : List (Option iV)) (st : List iV) (h : iH) (Q : Option iV → iH → Prop), G sp sc [] d mX12_turn (n + 1) 208 L st h Q = G sp sc [] d mX12_turn n 209 L (.inl 1 :: st) h Q) ∧
  (∀ (n d : Nat) (L : List (Option iV)) (a : Int) (b : Int) (r : List iV) (h : iH) (Q : Option iV → iH → Prop), G sp sc [] d mX12_turn (n + 1) 209 L (.inl b :: .inl a :: r) h Q = G sp sc [] d mX12_turn n 210 L (.inl (a + b) :: r) h Q) ∧
  (∀ (n d : Nat) (L : List (Option iV)) (r : List iV) (v : iV) (m : Nat) (h : iH) (Q : Option iV → iH → Prop), G sp sc [] d mX12_turn (n + 1) 210 L (v :: .inr (.inr (m + 2)) :: r) h Q = (match h.1[m]? with | some (.inl (ci, fs)) => (match lkF 12 82 ci with | some k => (fitV (tyT ci k) v = true ∧ k < fs.length ∧ pOK 12 false ci k = true) ∧ G sp sc [] d mX12_turn n 213 L r (h.1.set m (.inl (ci, fs.set k v)), h.2) Q | none => False) | _ => False)) ∧
  (∀ (n d : Nat) (L : List (Option iV)) (st : List iV) (h : iH) (Q : Option iV → iH → Prop), G sp sc [] d mX12_turn (n + 1) 213 L st h Q = G sp sc [] d mX12_turn n 260 L st h Q) ∧
  (∀ (n d : Nat) (L : List (Option iV)) (st : List iV) (h : iH) (Q : Option iV → iH → Prop), G sp sc [] d mX12_turn (n + 1) 216 L st h Q = (match ld L 1 with | some (.inr (.inr (r + 1))) => G sp sc [] d mX12_turn n 217 L (.inr (.inr (r + 1)) :: st) h Q | _ => False)) ∧
  (∀ (n d : Nat) (L : List (Option iV)) (st : List iV) (h : iH) (Q : Option iV → iH → Prop), G sp sc [] d mX12_turn (n + 1) 217 L st h Q = (match ld L 2 with | some (.inl x) => G sp sc [] d mX12_turn n 218 L (.inl x :: st) h Q | _ => False)) ∧
  (∀ (n d : Nat) (L : List (Option iV)) (st : List iV) (h : iH) (Q : Option iV → iH → Prop), G sp sc [] d mX12_turn (n + 1) 218 L st h Q = G sp sc [] d mX12_turn n 219 L (.inl 3 :: st) h Q) ∧
  (∀ (n d : Nat) (L : List (Option iV)) (r : List iV) (z0 : iV) (z1 : iV) (h : iH) (Q : Option iV → iH → Prop), G sp sc [] (d + 1) mX12_turn (n + 1) 219 L (z1 :: z0 :: r) h Q = (cs r ≤ 8 ∧ Call sp sc d mX12_atCouple [z0, z1] h (fun q h1 => GC sp sc [] (d + 1) mX12_turn n 222 L q r h h1 Q))) ∧
  (∀ (n d : Nat) (L : List (Option iV)) (a : Int) (b : Nat) (r : List iV) (h : iH) (Q : Option iV → iH → Prop), G sp sc [] d mX12_turn (n + 1) 222 L (.inl a :: .inr (.inr b) :: r) h Q = G sp sc [] d mX12_turn n 223 L (.inl a :: .inr (.inr b) :: .inl a :: .inr (.inr b) :: r) h Q) ∧
  (∀ (n d : Nat) (L : List (Option iV)) (r : List iV) (j : Int) (m : Nat) (h : iH) (Q : Option iV → iH → Prop), G sp sc [] d mX12_turn (n + 1) 223 L (.inl j :: .inr (.inr (m + 2)) :: r) h Q = (match h.1[m]? with | some (.inr (.inl (0, xs))) => inA j xs.length = true ∧ G sp sc [] d mX12_turn n 224 L (.inl (xs.getD j.toNat 0) :: r) h Q | _ => False)) ∧
  (∀ (n d : Nat) (L : List (Option iV)) (st : List iV) (h : iH) (Q : Option iV → iH → Prop), G sp sc [] d mX12_turn (n + 1) 224 L st h Q = G sp sc [] d mX12_turn n 225 L (.inl 1 :: st) h Q) ∧
  (∀ (n d : Nat) (L : List (Option iV)) (a : Int) (b : Int) (r : List iV) (h : iH) (Q : Option iV → iH → Prop), G sp sc [] d mX12_turn (n + 1) 225 L (.inl b :: .inl a :: r) h Q = G sp sc [] d mX12_turn n 226 L (.inl (a + b) :: r) h Q) ∧
  (∀ (n d : Nat) (L : List (Option iV)) (r : List iV) (v : Int) (j : Int) (m : Nat) (h : iH) (Q : Option iV → iH → Prop), G sp sc [] d mX12_turn (n + 1) 226 L (.inl v :: .inl j :: .inr (.inr (m + 2)) :: r) h Q = (match h.1[m]? with | some (.inr (.inl (0, xs))) => inA j xs.length = true ∧ G sp sc [] d mX12_turn n 227 L r (h.1.set m (.inr (.inl (0, xs.set j.toNat v))), h.2) Q | _ => False)) ∧
  (∀ (n d : Nat) (L : List (Option iV)) (st : List iV) (h : iH) (Q : Option iV → iH → Prop), G sp sc [] d mX12_turn (n + 1) 227 L st h Q = (match ld L 0 with | some (.inr (.inr (r + 1))) => G sp sc [] d mX12_turn n 228 L (.inr (.inr (r + 1)) :: st) h Q | _ => False)) ∧
  (∀ (n d : Nat) (L : List (Option iV)) (a : Int) (r : List iV) (h : iH) (Q : Option iV → iH → Prop), G sp sc [] d mX12_turn (n + 1) 228 L (.inl a :: r) h Q = G sp sc [] d mX12_turn n 229 L (.inl a :: .inl a :: r) h Q) ∧
  (∀ (n d : Nat) (L : List (Option iV)) (a : Nat) (r : List iV) (h : iH) (Q : Option iV → iH → Prop), G sp sc [] d mX12_turn (n + 1) 228 L (.inr (.inr a) :: r) h Q = G sp sc [] d mX12_turn n 229 L (.inr (.inr a) :: .inr (.inr a) :: r) h Q) ∧
  (∀ (n d : Nat) (L : List (Option iV)) (r : List iV) (m : Nat) (h : iH) (Q : Option iV → iH → Prop), G sp sc [] d mX12_turn (n + 1) 229 L (.inr (.inr (m + 2)) :: r) h Q = (match h.1[m]? with | some (.inl (ci, fs)) => (match lkF 12 75 ci with | some k => (match fs[k]? with | some v => G sp sc [] d mX12_turn n 232 L (v :: r) h Q | none => False) | none => False) | _ => False)) ∧
  (∀ (n d : Nat) (L : List (Option iV)) (st : List iV) (h : iH) (Q : Option iV → iH → Prop), G sp sc [] d mX12_turn (n + 1) 232 L st h Q = G sp sc [] d mX12_turn n 233 L (.inl 1 :: st) h Q) ∧
  (∀ (n d : Nat) (L : List (Option iV)) (a : Int) (b : Int) (r : List iV) (h : iH) (Q : Option iV → iH → Prop), G sp sc [] d mX12_turn (n + 1) 233 L (.inl b :: .inl a :: r) h Q = G sp sc [] d mX12_turn n 234 L (.inl (a + b) :: r) h Q) ∧
  (∀ (n d : Nat) (L : List (Option iV)) (r : List iV) (v : iV) (m : Nat) (h : iH) (Q : Option iV → iH → Prop), G sp sc [] d mX12_turn (n + 1) 234 L (v :: .inr (.inr (m + 2)) :: r) h Q = (match h.1[m]? with | some (.inl (ci, fs)) => (match lkF 12 75 ci with | some k => (fitV (tyT ci k) v = true ∧ k < fs.length ∧ pOK 12 false ci k = true) ∧ G sp sc [] d mX12_turn n 237 L r (h.1.set m (.inl (ci, fs.set k v)), h.2) Q | none => False) | _ => False)) ∧
  (∀ (n d : Nat) (L : List (Option iV)) (st : List iV) (h : iH) (Q : Option iV → iH → Prop), G sp sc [] d mX12_turn (n + 1) 237 L st h Q = (match ld L 1 with | some (.inr (.inr (r + 1))) => G sp sc [] d mX12_turn n 238 L (.inr (.inr (r + 1)) :: st) h Q | _ => False)) ∧
  (∀ (n d : Nat) (L : List (Option iV)) (st : List iV) (h : iH) (Q : Option iV → iH → Prop), G sp sc [] d mX12_turn (n + 1) 238 L st h Q = (match ld L 2 with | some (.inl x) => G sp sc [] d mX12_turn n 239 L (.inl x :: st) h Q | _ => False)) ∧
  (∀ (n d : Nat) (L : List (Option iV)) (st : List iV) (h : iH) (Q : Option iV → iH → Prop), G sp sc [] d mX12_turn (n + 1) 239 L st h Q = G sp sc [] d mX12_turn n 240 L (.inl 3 :: st) h Q) ∧
  (∀ (n d : Nat) (L : List (Option iV)) (r : List iV) (z0 : iV) (z1 : iV) (h : iH) (Q : Option iV → iH → Prop), G sp sc [] (d + 1) mX12_turn (n + 1) 240 L (z1 :: z0 :: r) h Q = (cs r ≤ 8 ∧ Call sp sc d mX12_atCouple [z0, z1] h (fun q h1 => GC sp sc [] (d + 1) mX12_turn n 243 L q r h h1 Q))) ∧
  (∀ (n d : Nat) (L : List (Option iV)) (r : List iV) (j : Int) (m : Nat) (h : iH) (Q : Option iV → iH → Prop), G sp sc [] d mX12_turn (n + 1) 243 L (.inl j :: .inr (.inr (m + 2)) :: r) h Q = (match h.1[m]? with | some (.inr (.inl (0, xs))) => inA j xs.length = true ∧ G sp sc [] d mX12_turn n 244 L (.inl (xs.getD j.toNat 0) :: r) h Q | _ => False)) ∧
  (∀ (n d : Nat) (L : List (Option iV)) (st : List iV) (h : iH) (Q : Option iV → iH → Prop), G sp sc [] d mX12_turn (n + 1) 244 L st h Q = ((-128 ≤ (6 : Int) ∧ (6 : Int) < 128) ∧ G sp sc [] d mX12_turn n 246 L (.inl 6 :: st) h Q)) ∧
  (∀ (n d : Nat) (L : List (Option iV)) (a : Int) (b : Int) (r : List iV) (h : iH) (Q : Option iV → iH → Prop), G sp sc [] d mX12_turn (n + 1) 246 L (.inl b :: .inl a :: r) h Q = ((inI a = true ∧ inI b = true) ∧ (¬ a = b → G sp sc [] d mX12_turn n 260 L r h Q) ∧ (¬ (¬ a = b) → G sp sc [] d mX12_turn n 249 L r h Q))) ∧
  (∀ (n d : Nat) (L : List (Option iV)) (st : List iV) (h : iH) (Q : Option iV → iH → Prop), G sp sc [] d mX12_turn (n + 1) 249 L st h Q = (match ld L 0 with | some (.inr (.inr (r + 1))) => G sp sc [] d mX12_turn n 250 L (.inr (.inr (r + 1)) :: st) h Q | _ => False)) ∧
  (∀ (n d : Nat) (L : List (Option iV)) (st : List iV) (h : iH) (Q : Option iV → iH → Prop), G sp sc [] d mX12_turn (n + 1) 250 L st h Q = (match ld L 1 with | some (.inr (.inr (r + 1))) => G sp sc [] d mX12_turn n 251 L (.inr (.inr (r + 1)) :: st) h Q | _ => False)) ∧
  (∀ (n d : Nat) (L : List (Option iV)) (st : List iV) (h : iH) (Q : Option iV → iH → Prop), G sp sc [] d mX12_turn (n + 1) 251 L st h Q = (match ld L 4 with | some (.inl x) => G sp sc [] d mX12_turn n 253 L (.inl x :: st) h Q | _ => False)) ∧
  (∀ (n d : Nat) (L : List (Option iV)) (st : List iV) (h : iH) (Q : Option iV → iH → Prop), G sp sc [] d mX12_turn (n + 1) 253 L st h Q = (match ld L 5 with | some (.inl x) => G sp sc [] d mX12_turn n 255 L (.inl x :: st) h Q | _ => False)) ∧
  (∀ (n d : Nat) (L : List (Option iV)) (st : List iV) (h : iH) (Q : Option iV → iH → Prop), G sp sc [] d mX12_turn (n + 1) 255 L st h Q = (match ld L 2 with | some (.inl x) => G sp sc [] d mX12_turn n 256 L (.inl x :: st) h Q | _ => False)) ∧
  (∀ (n d : Nat) (L : List (Option iV)) (st : List iV) (h : iH) (Q : Option iV → iH → Prop), G sp sc [] d mX12_turn (n + 1) 256 L st h Q = G sp sc [] d mX12_turn n 257 L (.inl 1 :: st) h Q) ∧
  (∀ (n d : Nat) (L : List (Option iV)) (r : List iV) (m : Nat) (z0 : iV) (z1 : iV) (z2 : iV) (z3 : iV) (z4 : iV) (h : iH) (Q : Option iV → iH → Prop), G sp sc [] (d + 1) mX12_turn (n + 1) 257 L (z4 :: z3 :: z2 :: z1 :: z0 :: .inr (.inr (m + 2)) :: r) h Q = (match h.1[m]? with | some (.inl (ci, _)) => (match lkC 12 138 ci with | some (y1, n1, kd) => (n1 = 5 ∧ (kd = 2 ∨ kd = 3 ∨ kd = 8) ∧ cs r ≤ 8) ∧ Call sp sc d y1 [.inr (.inr (m + 2)), z0, z1, z2, z3, z4] h (fun q h1 => GC sp sc [] (d + 1) mX12_turn n 260 L q r h h1 Q) | none => False) | _ => False)) ∧
  (∀ (n d : Nat) (L : List (Option iV)) (st : List iV) (h : iH) (Q : Option iV → iH → Prop), G sp sc [] d mX12_turn (n + 1) 260 L st h Q = (match ld L 3 with | some (.inl x) => G sp sc [] d mX12_turn n 261 L (.inl x :: st) h Q | _ => False)) ∧
  (∀ (n d : Nat) (L : List (Option iV)) (st : List iV) (h : iH) (Q : Option iV → iH → Prop), G sp sc [] d mX12_turn (n + 1) 261 L st h Q = G sp sc [] d mX12_turn n 262 L (.inl 1 :: st) h Q) ∧
  (∀ (n d : Nat) (L : List (Option iV)) (st : List iV) (h : iH) (Q : Option iV → iH → Prop), G sp sc [] d mX12_turn (n + 1) 262 L st h Q = (match ld L 7 with | some (.inl x) => G sp sc [] d mX12_turn n 264 L (.inl x :: st) h Q | _ => False)) ∧
  (∀ (n d : Nat) (L : List (Option iV)) (a : Int) (b : Int) (r : List iV) (h : iH) (Q : Option iV → iH → Prop), G sp sc [] d mX12_turn (n + 1) 264 L (.inl b :: .inl a :: r) h Q = G sp sc [] d mX12_turn n 265 L (.inl (bShl a b) :: r) h Q) ∧
  (∀ (n d : Nat) (L : List (Option iV)) (a : Int) (b : Int) (r : List iV) (h : iH) (Q : Option iV → iH → Prop), G sp sc [] d mX12_turn (n + 1) 265 L (.inl b :: .inl a :: r) h Q = G sp sc [] d mX12_turn n 266 L (.inl (bOr a b) :: r) h Q) ∧
  (∀ (n d : Nat) (L : List (Option iV)) (st : List iV) (h : iH) (Q : Option iV → iH → Prop), G sp sc [] d mX12_turn (n + 1) 266 L st h Q = G sp sc [] d mX12_turn n 267 L (.inl 1 :: st) h Q) ∧
  (∀ (n d : Nat) (L : List (Option iV)) (st : List iV) (h : iH) (Q : Option iV → iH → Prop), G sp sc [] d mX12_turn (n + 1) 267 L st h Q = G sp sc [] d mX12_turn n 268 L (.inl 5 :: st) h Q) ∧
  (∀ (n d : Nat) (L : List (Option iV)) (st : List iV) (h : iH) (Q : Option iV → iH → Prop), G sp sc [] d mX12_turn (n + 1) 268 L st h Q = (match ld L 8 with | some (.inl x) => G sp sc [] d mX12_turn n 270 L (.inl x :: st) h Q | _ => False)) ∧
  (∀ (n d : Nat) (L : List (Option iV)) (a : Int) (b : Int) (r : List iV) (h : iH) (Q : Option iV → iH → Prop), G sp sc [] d mX12_turn (n + 1) 270 L (.inl b :: .inl a :: r) h Q = G sp sc [] d mX12_turn n 271 L (.inl (a + b) :: r) h Q) ∧
  (∀ (n d : Nat) (L : List (Option iV)) (a : Int) (b : Int) (r : List iV) (h : iH) (Q : Option iV → iH → Prop), G sp sc [] d mX12_turn (n + 1) 271 L (.inl b :: .inl a :: r) h Q = G sp sc [] d mX12_turn n 272 L (.inl (bShl a b) :: r) h Q) ∧
  (∀ (n d : Nat) (L : List (Option iV)) (a : Int) (b : Int) (r : List iV) (h : iH) (Q : Option iV → iH → Prop), G sp sc [] d mX12_turn (n + 1) 272 L (.inl b :: .inl a :: r) h Q = G sp sc [] d mX12_turn n 273 L (.inl (bOr a b) :: r) h Q) ∧
  (∀ (n d : Nat) (L : List (Option iV)) (a : Int) (h : iH) (Q : Option iV → iH → Prop), G sp sc [] d mX12_turn (n + 1) 273 L [.inl a] h Q = Q (some (.inl a)) h) ∧
  lkC 12 138 12 = some (mX12_bind, 5, 2) ∧
  lkF 12 22 12 = some 5 ∧
  lkF 12 75 12 = some 8 ∧
  lkF 12 79 12 = some 9 ∧
  lkF 12 82 12 = some 10 ∧
  lkF 12 85 12 = some 11 ∧
  pOK 12 false 12 10 = true ∧
  pOK 12 false 12 8 = true ∧
  pOK 12 false 12 9 = true := ⟨by intros; exact G_at (by decide +kernel : fetch mX12_turn 0 = some (.aload_n 1)),
  by intros; exact G_at (by decide +kernel : fetch mX12_turn 1 = some (.iload_n 2)),
  by intros; exact G_at (by decide +kernel : fetch mX12_turn 2 = some (.iconst 0)),
  by intros; exact G_callS (k := 2) (kd := 0) (by decide +kernel : fetch mX12_turn 3 = some (.invokestatic 92)) (by decide +kernel) (by decide +kernel) (by decide +kernel) rfl (by decide),
  by intros; exact G_at (by decide +kernel : fetch mX12_turn 6 = some (.iaload)),
  by intros; exact G_at (by decide +kernel : fetch mX12_turn 7 = some (.istore 4)),
  by intros; exact G_at (by decide +kernel : fetch mX12_turn 9 = some (.aload_n 1)),
  by intros; exact G_at (by decide +kernel : fetch mX12_turn 10 = some (.iload_n 2)),
  by intros; exact G_at (by decide +kernel : fetch mX12_turn 11 = some (.iconst 1)),
  by intros; exact G_callS (k := 2) (kd := 0) (by decide +kernel : fetch mX12_turn 12 = some (.invokestatic 92)) (by decide +kernel) (by decide +kernel) (by decide +kernel) rfl (by decide),
  by intros; exact G_at (by decide +kernel : fetch mX12_turn 15 = some (.iaload)),
  by intros; exact G_at (by decide +kernel : fetch mX12_turn 16 = some (.istore 5)),
  by intros; exact G_at (by decide +kernel : fetch mX12_turn 18 = some (.aload_n 1)),
  by intros; exact G_at (by decide +kernel : fetch mX12_turn 19 = some (.iconst 5)),
  by intros; exact G_at (by decide +kernel : fetch mX12_turn 20 = some (.aload_n 1)),
  by intros; exact G_at (by decide +kernel : fetch mX12_turn 21 = some (.iload_n 2)),
  by intros; exact G_at (by decide +kernel : fetch mX12_turn 22 = some (.iconst 3)),
  by intros; exact G_callS (k := 2) (kd := 0) (by decide +kernel : fetch mX12_turn 23 = some (.invokestatic 92)) (by decide +kernel) (by decide +kernel) (by decide +kernel) rfl (by decide),
  by intros; exact G_at (by decide +kernel : fetch mX12_turn 26 = some (.iaload)),
  by intros; exact G_at (by decide +kernel : fetch mX12_turn 27 = some (.iadd)),
  by intros; exact G_at (by decide +kernel : fetch mX12_turn 28 = some (.iaload)),
  by intros; exact G_at (by decide +kernel : fetch mX12_turn 29 = some (.istore 6)),
  by intros; exact G_at (by decide +kernel : fetch mX12_turn 31 = some (.aload_n 1)),
  by intros; exact G_at (by decide +kernel : fetch mX12_turn 32 = some (.iconst 0)),
  by intros; exact G_at (by decide +kernel : fetch mX12_turn 33 = some (.iload 4)),
  by intros; exact G_at (by decide +kernel : fetch mX12_turn 35 = some (.iload 6)),
  by intros; exact G_callS (k := 4) (kd := 0) (by decide +kernel : fetch mX12_turn 37 = some (.invokestatic 127)) (by decide +kernel) (by decide +kernel) (by decide +kernel) rfl (by decide),
  by intros; exact G_at (by decide +kernel : fetch mX12_turn 40 = some (.istore 7)),
  by intros; exact G_at (by decide +kernel : fetch mX12_turn 42 = some (.aload_n 1)),
  by intros; exact G_at (by decide +kernel : fetch mX12_turn 43 = some (.iconst 1)),
  by intros; exact G_at (by decide +kernel : fetch mX12_turn 44 = some (.iload 5)),
  by intros; exact G_at (by decide +kernel : fetch mX12_turn 46 = some (.iload 6)),
  by intros; exact G_callS (k := 4) (kd := 0) (by decide +kernel : fetch mX12_turn 48 = some (.invokestatic 127)) (by decide +kernel) (by decide +kernel) (by decide +kernel) rfl (by decide),
  by intros; exact G_at (by decide +kernel : fetch mX12_turn 51 = some (.istore 8)),
  by intros; exact G_at (by decide +kernel : fetch mX12_turn 53 = some (.aload_n 1)),
  by intros; exact G_at (by decide +kernel : fetch mX12_turn 54 = some (.iconst 0)),
  by intros; exact G_at (by decide +kernel : fetch mX12_turn 55 = some (.iload 7)),
  by intros; exact G_at (by decide +kernel : fetch mX12_turn 57 = some (.iconst 3)),
  by intros; exact G_callS (k := 3) (kd := 0) (by decide +kernel : fetch mX12_turn 58 = some (.invokestatic 88)) (by decide +kernel) (by decide +kernel) (by decide +kernel) rfl (by decide),
  by intros; exact G_at (by decide +kernel : fetch mX12_turn 61 = some (.iaload)),
  by intros; exact G_at (by decide +kernel : fetch mX12_turn 62 = some (.ifCond .ge 35)),
  by intros; exact G_at (by decide +kernel : fetch mX12_turn 65 = some (.aload_n 1)),
  by intros; exact G_at (by decide +kernel : fetch mX12_turn 66 = some (.iconst 1)),
  by intros; exact G_at (by decide +kernel : fetch mX12_turn 67 = some (.iload 8)),
  by intros; exact G_at (by decide +kernel : fetch mX12_turn 69 = some (.iconst 3)),
  by intros; exact G_callS (k := 3) (kd := 0) (by decide +kernel : fetch mX12_turn 70 = some (.invokestatic 88)) (by decide +kernel) (by decide +kernel) (by decide +kernel) rfl (by decide),
  by intros; exact G_at (by decide +kernel : fetch mX12_turn 73 = some (.iaload)),
  by intros; exact G_at (by decide +kernel : fetch mX12_turn 74 = some (.ifCond .ge 23)),
  by intros; exact G_at (by decide +kernel : fetch mX12_turn 77 = some (.iload_n 3)),
  by intros; exact G_at (by decide +kernel : fetch mX12_turn 78 = some (.iload 7)),
  by intros; exact G_callS (k := 2) (kd := 0) (by decide +kernel : fetch mX12_turn 80 = some (.invokestatic 131)) (by decide +kernel) (by decide +kernel) (by decide +kernel) rfl (by decide),
  by intros; exact G_at (by decide +kernel : fetch mX12_turn 83 = some (.ifCond .ne 14)),
  by intros; exact G_at (by decide +kernel : fetch mX12_turn 86 = some (.iload_n 3)),
  by intros; exact G_at (by decide +kernel : fetch mX12_turn 87 = some (.iconst 5)),
  by intros; exact G_at (by decide +kernel : fetch mX12_turn 88 = some (.iload 8)),
  by intros; exact G_at (by decide +kernel : fetch mX12_turn 90 = some (.iadd)),
  by intros; exact G_callS (k := 2) (kd := 0) (by decide +kernel : fetch mX12_turn 91 = some (.invokestatic 131)) (by decide +kernel) (by decide +kernel) (by decide +kernel) rfl (by decide),
  by intros; exact G_at (by decide +kernel : fetch mX12_turn 94 = some (.ifCond .eq 15)),
  by intros; exact G_at (by decide +kernel : fetch mX12_turn 97 = some (.aload_n 0)),
  by intros; exact G_own (by decide +kernel : fetch mX12_turn 98 = some (.getfield 22)) (by decide +kernel),
  by intros; exact G_at (by decide +kernel : fetch mX12_turn 101 = some (.iload_n 2)),
  by intros; exact G_at (by decide +kernel : fetch mX12_turn 102 = some (.dup2)),
  by intros; exact G_at (by decide +kernel : fetch mX12_turn 103 = some (.iaload)),
  by intros; exact G_at (by decide +kernel : fetch mX12_turn 104 = some (.iconst 1)),
  by intros; exact G_at (by decide +kernel : fetch mX12_turn 105 = some (.iadd)),
  by intros; exact G_at (by decide +kernel : fetch mX12_turn 106 = some (.iastore)),
  by intros; exact G_at (by decide +kernel : fetch mX12_turn 107 = some (.iload_n 3)),
  by intros; exact G_reti (by decide +kernel : fetch mX12_turn 108 = some (.ireturn)) (by decide +kernel),
  by intros; exact G_at (by decide +kernel : fetch mX12_turn 109 = some (.aload_n 1)),
  by intros; exact G_at (by decide +kernel : fetch mX12_turn 110 = some (.iload 7)),
  by intros; exact G_at (by decide +kernel : fetch mX12_turn 112 = some (.iload 8)),
  by intros; exact G_callS (k := 3) (kd := 0) (by decide +kernel : fetch mX12_turn 114 = some (.invokestatic 135)) (by decide +kernel) (by decide +kernel) (by decide +kernel) rfl (by decide),
  by intros; exact G_at (by decide +kernel : fetch mX12_turn 117 = some (.iload 7)),
  by intros; exact G_at (by decide +kernel : fetch mX12_turn 119 = some (.iload 4)),
  by intros; exact G_at (by decide +kernel : fetch mX12_turn 121 = some (.if_icmp .ne 14)),
  by intros; exact G_at (by decide +kernel : fetch mX12_turn 124 = some (.iload 8)),
  by intros; exact G_at (by decide +kernel : fetch mX12_turn 126 = some (.iload 5)),
  by intros; exact G_at (by decide +kernel : fetch mX12_turn 128 = some (.if_icmp .ne 7)),
  by intros; exact G_at (by decide +kernel : fetch mX12_turn 131 = some (.iconst 1)),
  by intros; exact G_at (by decide +kernel : fetch mX12_turn 132 = some (.goto 4)),
  by intros; exact G_at (by decide +kernel : fetch mX12_turn 135 = some (.iconst 0)),
  by intros; exact G_at (by decide +kernel : fetch mX12_turn 136 = some (.istore 9)),
  by intros; exact G_at (by decide +kernel : fetch mX12_turn 138 = some (.iload 9)),
  by intros; exact G_at (by decide +kernel : fetch mX12_turn 140 = some (.ifCond .ne 76)),
  by intros; exact G_at (by decide +kernel : fetch mX12_turn 143 = some (.aload_n 1)),
  by intros; exact G_at (by decide +kernel : fetch mX12_turn 144 = some (.iconst 0)),
  by intros; exact G_at (by decide +kernel : fetch mX12_turn 145 = some (.iload 7)),
  by intros; exact G_at (by decide +kernel : fetch mX12_turn 147 = some (.iload 8)),
  by intros; exact G_callS (k := 3) (kd := 0) (by decide +kernel : fetch mX12_turn 149 = some (.invokestatic 109)) (by decide +kernel) (by decide +kernel) (by decide +kernel) rfl (by decide),
  by intros; exact G_at (by decide +kernel : fetch mX12_turn 152 = some (.iaload)),
  by intros; exact G_at (by decide +kernel : fetch mX12_turn 153 = some (.aload_n 1)),
  by intros; exact G_at (by decide +kernel : fetch mX12_turn 154 = some (.iconst 4)),
  by intros; exact G_at (by decide +kernel : fetch mX12_turn 155 = some (.iaload)),
  by intros; exact G_at (by decide +kernel : fetch mX12_turn 156 = some (.if_icmp .le 60)),
  by intros; exact G_at (by decide +kernel : fetch mX12_turn 159 = some (.aload_n 1)),
  by intros; exact G_at (by decide +kernel : fetch mX12_turn 160 = some (.iconst 1)),
  by intros; exact G_at (by decide +kernel : fetch mX12_turn 161 = some (.iload 8)),
  by intros; exact G_at (by decide +kernel : fetch mX12_turn 163 = some (.iload 7)),
  by intros; exact G_callS (k := 3) (kd := 0) (by decide +kernel : fetch mX12_turn 165 = some (.invokestatic 109)) (by decide +kernel) (by decide +kernel) (by decide +kernel) rfl (by decide),
  by intros; exact G_at (by decide +kernel : fetch mX12_turn 168 = some (.iaload)),
  by intros; exact G_at (by decide +kernel : fetch mX12_turn 169 = some (.aload_n 1)),
  by intros; exact G_at (by decide +kernel : fetch mX12_turn 170 = some (.iconst 4)),
  by intros; exact G_at (by decide +kernel : fetch mX12_turn 171 = some (.iaload)),
  by intros; exact G_at (by decide +kernel : fetch mX12_turn 172 = some (.if_icmp .le 44)),
  by intros; exact G_at (by decide +kernel : fetch mX12_turn 175 = some (.aload_n 0)),
  by intros; exact G_at (by decide +kernel : fetch mX12_turn 176 = some (.aload_n 1)),
  by intros; exact G_at (by decide +kernel : fetch mX12_turn 177 = some (.iload 7)),
  by intros; exact G_at (by decide +kernel : fetch mX12_turn 179 = some (.iload 8)),
  by intros; exact G_at (by decide +kernel : fetch mX12_turn 181 = some (.iload_n 2)),
  by intros; exact G_at (by decide +kernel : fetch mX12_turn 182 = some (.iconst 2)),
  by intros; exact G_callV (by decide +kernel : fetch mX12_turn 183 = some (.invokevirtual 138)) (by decide +kernel) (by decide +kernel) rfl,
  by intros; exact G_at (by decide +kernel : fetch mX12_turn 186 = some (.aload_n 0)),
  by intros; exact G_at (by decide +kernel : fetch mX12_turn 187 = some (.dup)),
  by intros; exact G_at (by decide +kernel : fetch mX12_turn 187 = some (.dup)),
  by intros; exact G_own (by decide +kernel : fetch mX12_turn 188 = some (.getfield 79)) (by decide +kernel),
  by intros; exact G_at (by decide +kernel : fetch mX12_turn 191 = some (.iconst 1)),
  by intros; exact G_at (by decide +kernel : fetch mX12_turn 192 = some (.iadd)),
  by intros; exact G_ownW (by decide +kernel : fetch mX12_turn 193 = some (.putfield 79)) (by decide +kernel) (by decide +kernel),
  by intros; exact G_at (by decide +kernel : fetch mX12_turn 196 = some (.aload_n 0)),
  by intros; exact G_own (by decide +kernel : fetch mX12_turn 197 = some (.getfield 82)) (by decide +kernel),
  by intros; exact G_at (by decide +kernel : fetch mX12_turn 200 = some (.ifCond .ge 60)),
  by intros; exact G_at (by decide +kernel : fetch mX12_turn 203 = some (.aload_n 0)),
  by intros; exact G_at (by decide +kernel : fetch mX12_turn 204 = some (.aload_n 0)),
  by intros; exact G_own (by decide +kernel : fetch mX12_turn 205 = some (.getfield 85)) (by decide +kernel),
  by intros; exact G_at (by decide +kernel : fetch mX12_turn 208 = some (.iconst 1)),
  by intros; exact G_at (by decide +kernel : fetch mX12_turn 209 = some (.iadd)),
  by intros; exact G_ownW (by decide +kernel : fetch mX12_turn 210 = some (.putfield 82)) (by decide +kernel) (by decide +kernel),
  by intros; exact G_at (by decide +kernel : fetch mX12_turn 213 = some (.goto 47)),
  by intros; exact G_at (by decide +kernel : fetch mX12_turn 216 = some (.aload_n 1)),
  by intros; exact G_at (by decide +kernel : fetch mX12_turn 217 = some (.iload_n 2)),
  by intros; exact G_at (by decide +kernel : fetch mX12_turn 218 = some (.iconst 3)),
  by intros; exact G_callS (k := 2) (kd := 0) (by decide +kernel : fetch mX12_turn 219 = some (.invokestatic 92)) (by decide +kernel) (by decide +kernel) (by decide +kernel) rfl (by decide),
  by intros; exact G_at (by decide +kernel : fetch mX12_turn 222 = some (.dup2)),
  by intros; exact G_at (by decide +kernel : fetch mX12_turn 223 = some (.iaload)),
  by intros; exact G_at (by decide +kernel : fetch mX12_turn 224 = some (.iconst 1)),
  by intros; exact G_at (by decide +kernel : fetch mX12_turn 225 = some (.iadd)),
  by intros; exact G_at (by decide +kernel : fetch mX12_turn 226 = some (.iastore)),
  by intros; exact G_at (by decide +kernel : fetch mX12_turn 227 = some (.aload_n 0)),
  by intros; exact G_at (by decide +kernel : fetch mX12_turn 228 = some (.dup)),
  by intros; exact G_at (by decide +kernel : fetch mX12_turn 228 = some (.dup)),
  by intros; exact G_own (by decide +kernel : fetch mX12_turn 229 = some (.getfield 75)) (by decide +kernel),
  by intros; exact G_at (by decide +kernel : fetch mX12_turn 232 = some (.iconst 1)),
  by intros; exact G_at (by decide +kernel : fetch mX12_turn 233 = some (.iadd)),
  by intros; exact G_ownW (by decide +kernel : fetch mX12_turn 234 = some (.putfield 75)) (by decide +kernel) (by decide +kernel),
  by intros; exact G_at (by decide +kernel : fetch mX12_turn 237 = some (.aload_n 1)),
  by intros; exact G_at (by decide +kernel : fetch mX12_turn 238 = some (.iload_n 2)),
  by intros; exact G_at (by decide +kernel : fetch mX12_turn 239 = some (.iconst 3)),
  by intros; exact G_callS (k := 2) (kd := 0) (by decide +kernel : fetch mX12_turn 240 = some (.invokestatic 92)) (by decide +kernel) (by decide +kernel) (by decide +kernel) rfl (by decide),
  by intros; exact G_at (by decide +kernel : fetch mX12_turn 243 = some (.iaload)),
  by intros; exact G_at (by decide +kernel : fetch mX12_turn 244 = some (.bipush 6)),
  by intros; exact G_at (by decide +kernel : fetch mX12_turn 246 = some (.if_icmp .ne 14)),
  by intros; exact G_at (by decide +kernel : fetch mX12_turn 249 = some (.aload_n 0)),
  by intros; exact G_at (by decide +kernel : fetch mX12_turn 250 = some (.aload_n 1)),
  by intros; exact G_at (by decide +kernel : fetch mX12_turn 251 = some (.iload 4)),
  by intros; exact G_at (by decide +kernel : fetch mX12_turn 253 = some (.iload 5)),
  by intros; exact G_at (by decide +kernel : fetch mX12_turn 255 = some (.iload_n 2)),
  by intros; exact G_at (by decide +kernel : fetch mX12_turn 256 = some (.iconst 1)),
  by intros; exact G_callV (by decide +kernel : fetch mX12_turn 257 = some (.invokevirtual 138)) (by decide +kernel) (by decide +kernel) rfl,
  by intros; exact G_at (by decide +kernel : fetch mX12_turn 260 = some (.iload_n 3)),
  by intros; exact G_at (by decide +kernel : fetch mX12_turn 261 = some (.iconst 1)),
  by intros; exact G_at (by decide +kernel : fetch mX12_turn 262 = some (.iload 7)),
  by intros; exact G_at (by decide +kernel : fetch mX12_turn 264 = some (.ishl)),
  by intros; exact G_at (by decide +kernel : fetch mX12_turn 265 = some (.ior)),
  by intros; exact G_at (by decide +kernel : fetch mX12_turn 266 = some (.iconst 1)),
  by intros; exact G_at (by decide +kernel : fetch mX12_turn 267 = some (.iconst 5)),
  by intros; exact G_at (by decide +kernel : fetch mX12_turn 268 = some (.iload 8)),
  by intros; exact G_at (by decide +kernel : fetch mX12_turn 270 = some (.iadd)),
  by intros; exact G_at (by decide +kernel : fetch mX12_turn 271 = some (.ishl)),
  by intros; exact G_at (by decide +kernel : fetch mX12_turn 272 = some (.ior)),
  by intros; exact G_reti (by decide +kernel : fetch mX12_turn 273 = some (.ireturn)) (by decide +kernel),
  by decide +kernel,
  by decide +kernel,
  by decide +kernel,
  by decide +kernel,
  by decide +kernel,
  by decide +kernel,
  by decide +kernel,
  by decide +kernel,
  by decide +kernel⟩
theorem gX12_goes : (∀ (n d : Nat) (L : List (Option iV)) (st : List iV) (h : iH) (Q : Option iV → iH → Prop), G sp sc [4] d mX12_goes (n + 1) 0 L st h Q = G sp sc [4] d mX12_goes n 1 L (.inl 0 :: st) h Q) ∧
  (∀ (n d : Nat) (L : List (Option iV)) (r : List iV) (x : Int) (h : iH) (Q : Option iV → iH → Prop), G sp sc [4] d mX12_goes (n + 1) 1 L (.inl x :: r) h Q = (match st1 L 2 (.inl x) with | some L' => G sp sc [4] d mX12_goes n 2 L' r h Q | none => False)) ∧
  (∀ (n d : Nat) (L : List (Option iV)) (st : List iV) (h : iH) (Q : Option iV → iH → Prop), G sp sc [4] d mX12_goes (n + 1) 2 L st h Q = G sp sc [4] d mX12_goes n 3 L (.inl 0 :: st) h Q) ∧
  (∀ (n d : Nat) (L : List (Option iV)) (r : List iV) (x : Int) (h : iH) (Q : Option iV → iH → Prop), G sp sc [4] d mX12_goes (n + 1) 3 L (.inl x :: r) h Q = (match st1 L 3 (.inl x) with | some L' => Run sp sc d mX12_goes 4 L' r h Q | none => False)) ∧
  (∀ (n d : Nat) (L : List (Option iV)) (st : List iV) (h : iH) (Q : Option iV → iH → Prop), G sp sc [4] d mX12_goes (n + 1) 4 L st h Q = (match ld L 3 with | some (.inl x) => G sp sc [4] d mX12_goes n 5 L (.inl x :: st) h Q | _ => False)) ∧
  (∀ (n d : Nat) (L : List (Option iV)) (st : List iV) (h : iH) (Q : Option iV → iH → Prop), G sp sc [4] d mX12_goes (n + 1) 5 L st h Q = (match ld L 1 with | some (.inr (.inr (r + 1))) => G sp sc [4] d mX12_goes n 6 L (.inr (.inr (r + 1)) :: st) h Q | _ => False)) ∧
  (∀ (n d : Nat) (L : List (Option iV)) (st : List iV) (h : iH) (Q : Option iV → iH → Prop), G sp sc [4] d mX12_goes (n + 1) 6 L st h Q = G sp sc [4] d mX12_goes n 7 L (.inl 2 :: st) h Q) ∧
  (∀ (n d : Nat) (L : List (Option iV)) (r : List iV) (j : Int) (m : Nat) (h : iH) (Q : Option iV → iH → Prop), G sp sc [4] d mX12_goes (n + 1) 7 L (.inl j :: .inr (.inr (m + 2)) :: r) h Q = (match h.1[m]? with | some (.inr (.inl (0, xs))) => inA j xs.length = true ∧ G sp sc [4] d mX12_goes n 8 L (.inl (xs.getD j.toNat 0) :: r) h Q | _ => False)) ∧
  (∀ (n d : Nat) (L : List (Option iV)) (a : Int) (b : Int) (r : List iV) (h : iH) (Q : Option iV → iH → Prop), G sp sc [4] d mX12_goes (n + 1) 8 L (.inl b :: .inl a :: r) h Q = ((inI a = true ∧ inI b = true) ∧ (b ≤ a → G sp sc [4] d mX12_goes n 43 L r h Q) ∧ (¬ (b ≤ a) → G sp sc [4] d mX12_goes n 11 L r h Q))) ∧
  (∀ (n d : Nat) (L : List (Option iV)) (st : List iV) (h : iH) (Q : Option iV → iH → Prop), G sp sc [4] d mX12_goes (n + 1) 11 L st h Q = (match ld L 1 with | some (.inr (.inr (r + 1))) => G sp sc [4] d mX12_goes n 12 L (.inr (.inr (r + 1)) :: st) h Q | _ => False)) ∧
  (∀ (n d : Nat) (L : List (Option iV)) (st : List iV) (h : iH) (Q : Option iV → iH → Prop), G sp sc [4] d mX12_goes (n + 1) 12 L st h Q = (match ld L 0 with | some (.inr (.inr (r + 1))) => G sp sc [4] d mX12_goes n 13 L (.inr (.inr (r + 1)) :: st) h Q | _ => False)) ∧
  (∀ (n d : Nat) (L : List (Option iV)) (r : List iV) (m : Nat) (h : iH) (Q : Option iV → iH → Prop), G sp sc [4] d mX12_goes (n + 1) 13 L (.inr (.inr (m + 2)) :: r) h Q = (match h.1[m]? with | some (.inl (ci, fs)) => (match lkF 12 28 ci with | some k => (match fs[k]? with | some v => G sp sc [4] d mX12_goes n 16 L (v :: r) h Q | none => False) | none => False) | _ => False)) ∧
  (∀ (n d : Nat) (L : List (Option iV)) (st : List iV) (h : iH) (Q : Option iV → iH → Prop), G sp sc [4] d mX12_goes (n + 1) 16 L st h Q = (match ld L 3 with | some (.inl x) => G sp sc [4] d mX12_goes n 17 L (.inl x :: st) h Q | _ => False)) ∧
  (∀ (n d : Nat) (L : List (Option iV)) (r : List iV) (j : Int) (m : Nat) (h : iH) (Q : Option iV → iH → Prop), G sp sc [4] d mX12_goes (n + 1) 17 L (.inl j :: .inr (.inr (m + 2)) :: r) h Q = (match h.1[m]? with | some (.inr (.inl (0, xs))) => inA j xs.length = true ∧ G sp sc [4] d mX12_goes n 18 L (.inl (xs.getD j.toNat 0) :: r) h Q | _ => False)) ∧
  (∀ (n d : Nat) (L : List (Option iV)) (r : List iV) (z0 : iV) (z1 : iV) (h : iH) (Q : Option iV → iH → Prop), G sp sc [4] (d + 1) mX12_goes (n + 1) 18 L (z1 :: z0 :: r) h Q = (cs r ≤ 8 ∧ Call sp sc d mX12_goesOn [z0, z1] h (fun q h1 => GC sp sc [4] (d + 1) mX12_goes n 21 L q r h h1 Q))) ∧
  (∀ (n d : Nat) (L : List (Option iV)) (a : Int) (r : List iV) (h : iH) (Q : Option iV → iH → Prop), G sp sc [4] d mX12_goes (n + 1) 21 L (.inl a :: r) h Q = (inI a = true ∧ (a = 0 → G sp sc [4] d mX12_goes n 37 L r h Q) ∧ (¬ (a = 0) → G sp sc [4] d mX12_goes n 24 L r h Q))) ∧
  (∀ (n d : Nat) (L : List (Option iV)) (st : List iV) (h : iH) (Q : Option iV → iH → Prop), G sp sc [4] d mX12_goes (n + 1) 24 L st h Q = (match ld L 0 with | some (.inr (.inr (r + 1))) => G sp sc [4] d mX12_goes n 25 L (.inr (.inr (r + 1)) :: st) h Q | _ => False)) ∧
  (∀ (n d : Nat) (L : List (Option iV)) (st : List iV) (h : iH) (Q : Option iV → iH → Prop), G sp sc [4] d mX12_goes (n + 1) 25 L st h Q = (match ld L 1 with | some (.inr (.inr (r + 1))) => G sp sc [4] d mX12_goes n 26 L (.inr (.inr (r + 1)) :: st) h Q | _ => False)) ∧
  (∀ (n d : Nat) (L : List (Option iV)) (st : List iV) (h : iH) (Q : Option iV → iH → Prop), G sp sc [4] d mX12_goes (n + 1) 26 L st h Q = (match ld L 0 with | some (.inr (.inr (r + 1))) => G sp sc [4] d mX12_goes n 27 L (.inr (.inr (r + 1)) :: st) h Q | _ => False)) ∧
  (∀ (n d : Nat) (L : List (Option iV)) (r : List iV) (m : Nat) (h : iH) (Q : Option iV → iH → Prop), G sp sc [4] d mX12_goes (n + 1) 27 L (.inr (.inr (m + 2)) :: r) h Q = (match h.1[m]? with | some (.inl (ci, fs)) => (match lkF 12 28 ci with | some k => (match fs[k]? with | some v => G sp sc [4] d mX12_goes n 30 L (v :: r) h Q | none => False) | none => False) | _ => False)) ∧
  (∀ (n d : Nat) (L : List (Option iV)) (st : List iV) (h : iH) (Q : Option iV → iH → Prop), G sp sc [4] d mX12_goes (n + 1) 30 L st h Q = (match ld L 3 with | some (.inl x) => G sp sc [4] d mX12_goes n 31 L (.inl x :: st) h Q | _ => False)) ∧
  (∀ (n d : Nat) (L : List (Option iV)) (r : List iV) (j : Int) (m : Nat) (h : iH) (Q : Option iV → iH → Prop), G sp sc [4] d mX12_goes (n + 1) 31 L (.inl j :: .inr (.inr (m + 2)) :: r) h Q = (match h.1[m]? with | some (.inr (.inl (0, xs))) => inA j xs.length = true ∧ G sp sc [4] d mX12_goes n 32 L (.inl (xs.getD j.toNat 0) :: r) h Q | _ => False)) ∧
  (∀ (n d : Nat) (L : List (Option iV)) (st : List iV) (h : iH) (Q : Option iV → iH → Prop), G sp sc [4] d mX12_goes (n + 1) 32 L st h Q = (match ld L 2 with | some (.inl x) => G sp sc [4] d mX12_goes n 33 L (.inl x :: st) h Q | _ => False)) ∧
  (∀ (n d : Nat) (L : List (Option iV)) (r : List iV) (m : Nat) (z0 : iV) (z1 : iV) (z2 : iV) (h : iH) (Q : Option iV → iH → Prop), G sp sc [4] (d + 1) mX12_goes (n + 1) 33 L (z2 :: z1 :: z0 :: .inr (.inr (m + 2)) :: r) h Q = (match h.1[m]? with | some (.inl (ci, _)) => (match lkC 12 142 ci with | some (y1, n1, kd) => (n1 = 3 ∧ (kd = 2 ∨ kd = 3 ∨ kd = 8) ∧ cs r ≤ 8) ∧ Call sp sc d y1 [.inr (.inr (m + 2)), z0, z1, z2] h (fun q h1 => GC sp sc [4] (d + 1) mX12_goes n 36 L q r h h1 Q) | none => False) | _ => False)) ∧
  (∀ (n d : Nat) (L : List (Option iV)) (r : List iV) (x : Int) (h : iH) (Q : Option iV → iH → Prop), G sp sc [4] d mX12_goes (n + 1) 36 L (.inl x :: r) h Q = (match st1 L 2 (.inl x) with | some L' => G sp sc [4] d mX12_goes n 37 L' r h Q | none => False)) ∧
  (∀ (n d : Nat) (L : List (Option iV)) (st : List iV) (h : iH) (Q : Option iV → iH → Prop), G sp sc [4] d mX12_goes (n + 1) 37 L st h Q = (match ld L 3 with | some (.inl x) => (match st1 L 3 (.inl (x + 1)) with | some L' => G sp sc [4] d mX12_goes n 40 L' st h Q | none => False) | _ => False)) ∧
  (∀ (n d : Nat) (L : List (Option iV)) (st : List iV) (h : iH) (Q : Option iV → iH → Prop), G sp sc [4] d mX12_goes (n + 1) 40 L st h Q = Run sp sc d mX12_goes 4 L st h Q) ∧
  (∀ (n d : Nat) (L : List (Option iV)) (st : List iV) (h : iH) (Q : Option iV → iH → Prop), G sp sc [4] d mX12_goes (n + 1) 43 L st h Q = (match ld L 1 with | some (.inr (.inr (r + 1))) => G sp sc [4] d mX12_goes n 44 L (.inr (.inr (r + 1)) :: st) h Q | _ => False)) ∧
  (∀ (n d : Nat) (L : List (Option iV)) (st : List iV) (h : iH) (Q : Option iV → iH → Prop), G sp sc [4] d mX12_goes (n + 1) 44 L st h Q = G sp sc [4] d mX12_goes n 45 L (.inl 3 :: st) h Q) ∧
  (∀ (n d : Nat) (L : List (Option iV)) (a : Int) (b : Nat) (r : List iV) (h : iH) (Q : Option iV → iH → Prop), G sp sc [4] d mX12_goes (n + 1) 45 L (.inl a :: .inr (.inr b) :: r) h Q = G sp sc [4] d mX12_goes n 46 L (.inl a :: .inr (.inr b) :: .inl a :: .inr (.inr b) :: r) h Q) ∧
  (∀ (n d : Nat) (L : List (Option iV)) (r : List iV) (j : Int) (m : Nat) (h : iH) (Q : Option iV → iH → Prop), G sp sc [4] d mX12_goes (n + 1) 46 L (.inl j :: .inr (.inr (m + 2)) :: r) h Q = (match h.1[m]? with | some (.inr (.inl (0, xs))) => inA j xs.length = true ∧ G sp sc [4] d mX12_goes n 47 L (.inl (xs.getD j.toNat 0) :: r) h Q | _ => False)) ∧
  (∀ (n d : Nat) (L : List (Option iV)) (st : List iV) (h : iH) (Q : Option iV → iH → Prop), G sp sc [4] d mX12_goes (n + 1) 47 L st h Q = G sp sc [4] d mX12_goes n 48 L (.inl 1 :: st) h Q) ∧
  (∀ (n d : Nat) (L : List (Option iV)) (a : Int) (b : Int) (r : List iV) (h : iH) (Q : Option iV → iH → Prop), G sp sc [4] d mX12_goes (n + 1) 48 L (.inl b :: .inl a :: r) h Q = G sp sc [4] d mX12_goes n 49 L (.inl (a + b) :: r) h Q) ∧
  (∀ (n d : Nat) (L : List (Option iV)) (r : List iV) (v : Int) (j : Int) (m : Nat) (h : iH) (Q : Option iV → iH → Prop), G sp sc [4] d mX12_goes (n + 1) 49 L (.inl v :: .inl j :: .inr (.inr (m + 2)) :: r) h Q = (match h.1[m]? with | some (.inr (.inl (0, xs))) => inA j xs.length = true ∧ G sp sc [4] d mX12_goes n 50 L r (h.1.set m (.inr (.inl (0, xs.set j.toNat v))), h.2) Q | _ => False)) ∧
  (∀ (n d : Nat) (L : List (Option iV)) (st : List iV) (h : iH) (Q : Option iV → iH → Prop), G sp sc [4] d mX12_goes (n + 1) 50 L st h Q = (match ld L 0 with | some (.inr (.inr (r + 1))) => G sp sc [4] d mX12_goes n 51 L (.inr (.inr (r + 1)) :: st) h Q | _ => False)) ∧
  (∀ (n d : Nat) (L : List (Option iV)) (a : Int) (r : List iV) (h : iH) (Q : Option iV → iH → Prop), G sp sc [4] d mX12_goes (n + 1) 51 L (.inl a :: r) h Q = G sp sc [4] d mX12_goes n 52 L (.inl a :: .inl a :: r) h Q) ∧
  (∀ (n d : Nat) (L : List (Option iV)) (a : Nat) (r : List iV) (h : iH) (Q : Option iV → iH → Prop), G sp sc [4] d mX12_goes (n + 1) 51 L (.inr (.inr a) :: r) h Q = G sp sc [4] d mX12_goes n 52 L (.inr (.inr a) :: .inr (.inr a) :: r) h Q) ∧
  (∀ (n d : Nat) (L : List (Option iV)) (r : List iV) (m : Nat) (h : iH) (Q : Option iV → iH → Prop), G sp sc [4] d mX12_goes (n + 1) 52 L (.inr (.inr (m + 2)) :: r) h Q = (match h.1[m]? with | some (.inl (ci, fs)) => (match lkF 12 85 ci with | some k => (match fs[k]? with | some v => G sp sc [4] d mX12_goes n 55 L (v :: r) h Q | none => False) | none => False) | _ => False)) ∧
  (∀ (n d : Nat) (L : List (Option iV)) (st : List iV) (h : iH) (Q : Option iV → iH → Prop), G sp sc [4] d mX12_goes (n + 1) 55 L st h Q = G sp sc [4] d mX12_goes n 56 L (.inl 1 :: st) h Q) ∧
  (∀ (n d : Nat) (L : List (Option iV)) (a : Int) (b : Int) (r : List iV) (h : iH) (Q : Option iV → iH → Prop), G sp sc [4] d mX12_goes (n + 1) 56 L (.inl b :: .inl a :: r) h Q = G sp sc [4] d mX12_goes n 57 L (.inl (a + b) :: r) h Q) ∧
  (∀ (n d : Nat) (L : List (Option iV)) (r : List iV) (v : iV) (m : Nat) (h : iH) (Q : Option iV → iH → Prop), G sp sc [4] d mX12_goes (n + 1) 57 L (v :: .inr (.inr (m + 2)) :: r) h Q = (match h.1[m]? with | some (.inl (ci, fs)) => (match lkF 12 85 ci with | some k => (fitV (tyT ci k) v = true ∧ k < fs.length ∧ pOK 12 false ci k = true) ∧ G sp sc [4] d mX12_goes n 60 L r (h.1.set m (.inl (ci, fs.set k v)), h.2) Q | none => False) | _ => False)) ∧
  (∀ (n d : Nat) (L : List (Option iV))  (h : iH) (Q : Option iV → iH → Prop), G sp sc [4] d mX12_goes (n + 1) 60 L [] h Q = Q none h) ∧
  lkC 12 142 12 = some (mX12_turn, 3, 2) ∧
  lkF 12 28 12 = some 7 ∧
  lkF 12 85 12 = some 11 ∧
  pOK 12 false 12 11 = true := ⟨by intros; exact G_at (by decide +kernel : fetch mX12_goes 0 = some (.iconst 0)),
  by intros; exact G_at (by decide +kernel : fetch mX12_goes 1 = some (.istore_n 2)),
  by intros; exact G_at (by decide +kernel : fetch mX12_goes 2 = some (.iconst 0)),
  by intros; exact G_at (by decide +kernel : fetch mX12_goes 3 = some (.istore_n 3)),
  by intros; exact G_at (by decide +kernel : fetch mX12_goes 4 = some (.iload_n 3)),
  by intros; exact G_at (by decide +kernel : fetch mX12_goes 5 = some (.aload_n 1)),
  by intros; exact G_at (by decide +kernel : fetch mX12_goes 6 = some (.iconst 2)),
  by intros; exact G_at (by decide +kernel : fetch mX12_goes 7 = some (.iaload)),
  by intros; exact G_at (by decide +kernel : fetch mX12_goes 8 = some (.if_icmp .ge 35)),
  by intros; exact G_at (by decide +kernel : fetch mX12_goes 11 = some (.aload_n 1)),
  by intros; exact G_at (by decide +kernel : fetch mX12_goes 12 = some (.aload_n 0)),
  by intros; exact G_own (by decide +kernel : fetch mX12_goes 13 = some (.getfield 28)) (by decide +kernel),
  by intros; exact G_at (by decide +kernel : fetch mX12_goes 16 = some (.iload_n 3)),
  by intros; exact G_at (by decide +kernel : fetch mX12_goes 17 = some (.iaload)),
  by intros; exact G_callS (k := 2) (kd := 0) (by decide +kernel : fetch mX12_goes 18 = some (.invokestatic 95)) (by decide +kernel) (by decide +kernel) (by decide +kernel) rfl (by decide),
  by intros; exact G_at (by decide +kernel : fetch mX12_goes 21 = some (.ifCond .eq 16)),
  by intros; exact G_at (by decide +kernel : fetch mX12_goes 24 = some (.aload_n 0)),
  by intros; exact G_at (by decide +kernel : fetch mX12_goes 25 = some (.aload_n 1)),
  by intros; exact G_at (by decide +kernel : fetch mX12_goes 26 = some (.aload_n 0)),
  by intros; exact G_own (by decide +kernel : fetch mX12_goes 27 = some (.getfield 28)) (by decide +kernel),
  by intros; exact G_at (by decide +kernel : fetch mX12_goes 30 = some (.iload_n 3)),
  by intros; exact G_at (by decide +kernel : fetch mX12_goes 31 = some (.iaload)),
  by intros; exact G_at (by decide +kernel : fetch mX12_goes 32 = some (.iload_n 2)),
  by intros; exact G_callV (by decide +kernel : fetch mX12_goes 33 = some (.invokevirtual 142)) (by decide +kernel) (by decide +kernel) rfl,
  by intros; exact G_at (by decide +kernel : fetch mX12_goes 36 = some (.istore_n 2)),
  by intros; exact G_at (by decide +kernel : fetch mX12_goes 37 = some (.iinc 3 1)),
  by intros; exact G_at (by decide +kernel : fetch mX12_goes 40 = some (.goto (-36))),
  by intros; exact G_at (by decide +kernel : fetch mX12_goes 43 = some (.aload_n 1)),
  by intros; exact G_at (by decide +kernel : fetch mX12_goes 44 = some (.iconst 3)),
  by intros; exact G_at (by decide +kernel : fetch mX12_goes 45 = some (.dup2)),
  by intros; exact G_at (by decide +kernel : fetch mX12_goes 46 = some (.iaload)),
  by intros; exact G_at (by decide +kernel : fetch mX12_goes 47 = some (.iconst 1)),
  by intros; exact G_at (by decide +kernel : fetch mX12_goes 48 = some (.iadd)),
  by intros; exact G_at (by decide +kernel : fetch mX12_goes 49 = some (.iastore)),
  by intros; exact G_at (by decide +kernel : fetch mX12_goes 50 = some (.aload_n 0)),
  by intros; exact G_at (by decide +kernel : fetch mX12_goes 51 = some (.dup)),
  by intros; exact G_at (by decide +kernel : fetch mX12_goes 51 = some (.dup)),
  by intros; exact G_own (by decide +kernel : fetch mX12_goes 52 = some (.getfield 85)) (by decide +kernel),
  by intros; exact G_at (by decide +kernel : fetch mX12_goes 55 = some (.iconst 1)),
  by intros; exact G_at (by decide +kernel : fetch mX12_goes 56 = some (.iadd)),
  by intros; exact G_ownW (by decide +kernel : fetch mX12_goes 57 = some (.putfield 85)) (by decide +kernel) (by decide +kernel),
  by intros; exact G_retv (by decide +kernel : fetch mX12_goes 60 = some (.return_)) (by decide +kernel),
  by decide +kernel,
  by decide +kernel,
  by decide +kernel,
  by decide +kernel⟩
theorem gX12_inMind : (∀ (n d : Nat) (L : List (Option iV)) (st : List iV) (h : iH) (Q : Option iV → iH → Prop), G sp sc [17] d mX12_inMind (n + 1) 0 L st h Q = (match ld L 0 with | some (.inr (.inr (r + 1))) => G sp sc [17] d mX12_inMind n 1 L (.inr (.inr (r + 1)) :: st) h Q | _ => False)) ∧
  (∀ (n d : Nat) (L : List (Option iV)) (r : List iV) (m : Nat) (h : iH) (Q : Option iV → iH → Prop), G sp sc [17] d mX12_inMind (n + 1) 1 L (.inr (.inr (m + 2)) :: r) h Q = (match h.1[m]? with | some (.inl (ci, fs)) => (match lkF 12 9 ci with | some k => (match fs[k]? with | some v => G sp sc [17] d mX12_inMind n 4 L (v :: r) h Q | none => False) | none => False) | _ => False)) ∧
  (∀ (n d : Nat) (L : List (Option iV)) (st : List iV) (h : iH) (Q : Option iV → iH → Prop), G sp sc [17] d mX12_inMind (n + 1) 4 L st h Q = (match ld L 0 with | some (.inr (.inr (r + 1))) => G sp sc [17] d mX12_inMind n 5 L (.inr (.inr (r + 1)) :: st) h Q | _ => False)) ∧
  (∀ (n d : Nat) (L : List (Option iV)) (r : List iV) (m : Nat) (h : iH) (Q : Option iV → iH → Prop), G sp sc [17] d mX12_inMind (n + 1) 5 L (.inr (.inr (m + 2)) :: r) h Q = (match h.1[m]? with | some (.inl (ci, fs)) => (match lkF 12 13 ci with | some k => (match fs[k]? with | some v => G sp sc [17] d mX12_inMind n 8 L (v :: r) h Q | none => False) | none => False) | _ => False)) ∧
  (∀ (n d : Nat) (L : List (Option iV)) (r : List iV) (z0 : iV) (z1 : iV) (h : iH) (Q : Option iV → iH → Prop), G sp sc [17] (d + 1) mX12_inMind (n + 1) 8 L (z1 :: z0 :: r) h Q = (cs r ≤ 8 ∧ Call sp sc d mX12_lays [z0, z1] h (fun q h1 => GC sp sc [17] (d + 1) mX12_inMind n 11 L q r h h1 Q))) ∧
  (∀ (n d : Nat) (L : List (Option iV)) (st : List iV) (h : iH) (Q : Option iV → iH → Prop), G sp sc [17] d mX12_inMind (n + 1) 11 L st h Q = (match ld L 0 with | some (.inr (.inr (r + 1))) => G sp sc [17] d mX12_inMind n 12 L (.inr (.inr (r + 1)) :: st) h Q | _ => False)) ∧
  (∀ (n d : Nat) (L : List (Option iV)) (r : List iV) (m : Nat) (h : iH) (Q : Option iV → iH → Prop), G sp sc [17] (d + 1) mX12_inMind (n + 1) 12 L (.inr (.inr (m + 2)) :: r) h Q = (match h.1[m]? with | some (.inl (ci, _)) => (match lkC 12 149 ci with | some (y1, n1, kd) => (n1 = 0 ∧ (kd = 2 ∨ kd = 3 ∨ kd = 8) ∧ cs r ≤ 8) ∧ Call sp sc d y1 [.inr (.inr (m + 2))] h (fun q h1 => GC sp sc [17] (d + 1) mX12_inMind n 15 L q r h h1 Q) | none => False) | _ => False)) ∧
  (∀ (n d : Nat) (L : List (Option iV)) (st : List iV) (h : iH) (Q : Option iV → iH → Prop), G sp sc [17] d mX12_inMind (n + 1) 15 L st h Q = G sp sc [17] d mX12_inMind n 16 L (.inl 0 :: st) h Q) ∧
  (∀ (n d : Nat) (L : List (Option iV)) (r : List iV) (x : Int) (h : iH) (Q : Option iV → iH → Prop), G sp sc [17] d mX12_inMind (n + 1) 16 L (.inl x :: r) h Q = (match st1 L 2 (.inl x) with | some L' => Run sp sc d mX12_inMind 17 L' r h Q | none => False)) ∧
  (∀ (n d : Nat) (L : List (Option iV)) (st : List iV) (h : iH) (Q : Option iV → iH → Prop), G sp sc [17] d mX12_inMind (n + 1) 17 L st h Q = (match ld L 2 with | some (.inl x) => G sp sc [17] d mX12_inMind n 18 L (.inl x :: st) h Q | _ => False)) ∧
  (∀ (n d : Nat) (L : List (Option iV)) (st : List iV) (h : iH) (Q : Option iV → iH → Prop), G sp sc [17] d mX12_inMind (n + 1) 18 L st h Q = (match ld L 1 with | some (.inl x) => G sp sc [17] d mX12_inMind n 19 L (.inl x :: st) h Q | _ => False)) ∧
  (∀ (n d : Nat) (L : List (Option iV)) (a : Int) (b : Int) (r : List iV) (h : iH) (Q : Option iV → iH → Prop), G sp sc [17] d mX12_inMind (n + 1) 19 L (.inl b :: .inl a :: r) h Q = ((inI a = true ∧ inI b = true) ∧ (b ≤ a → G sp sc [17] d mX12_inMind n 36 L r h Q) ∧ (¬ (b ≤ a) → G sp sc [17] d mX12_inMind n 22 L r h Q))) ∧
  (∀ (n d : Nat) (L : List (Option iV)) (st : List iV) (h : iH) (Q : Option iV → iH → Prop), G sp sc [17] d mX12_inMind (n + 1) 22 L st h Q = (match ld L 0 with | some (.inr (.inr (r + 1))) => G sp sc [17] d mX12_inMind n 23 L (.inr (.inr (r + 1)) :: st) h Q | _ => False)) ∧
  (∀ (n d : Nat) (L : List (Option iV)) (st : List iV) (h : iH) (Q : Option iV → iH → Prop), G sp sc [17] d mX12_inMind (n + 1) 23 L st h Q = (match ld L 0 with | some (.inr (.inr (r + 1))) => G sp sc [17] d mX12_inMind n 24 L (.inr (.inr (r + 1)) :: st) h Q | _ => False)) ∧
  (∀ (n d : Nat) (L : List (Option iV)) (r : List iV) (m : Nat) (h : iH) (Q : Option iV → iH → Prop), G sp sc [17] d mX12_inMind (n + 1) 24 L (.inr (.inr (m + 2)) :: r) h Q = (match h.1[m]? with | some (.inl (ci, fs)) => (match lkF 12 13 ci with | some k => (match fs[k]? with | some v => G sp sc [17] d mX12_inMind n 27 L (v :: r) h Q | none => False) | none => False) | _ => False)) ∧
  (∀ (n d : Nat) (L : List (Option iV)) (r : List iV) (m : Nat) (z0 : iV) (h : iH) (Q : Option iV → iH → Prop), G sp sc [17] (d + 1) mX12_inMind (n + 1) 27 L (z0 :: .inr (.inr (m + 2)) :: r) h Q = (match h.1[m]? with | some (.inl (ci, _)) => (match lkC 12 152 ci with | some (y1, n1, kd) => (n1 = 1 ∧ (kd = 2 ∨ kd = 3 ∨ kd = 8) ∧ cs r ≤ 8) ∧ Call sp sc d y1 [.inr (.inr (m + 2)), z0] h (fun q h1 => GC sp sc [17] (d + 1) mX12_inMind n 30 L q r h h1 Q) | none => False) | _ => False)) ∧
  (∀ (n d : Nat) (L : List (Option iV)) (st : List iV) (h : iH) (Q : Option iV → iH → Prop), G sp sc [17] d mX12_inMind (n + 1) 30 L st h Q = (match ld L 2 with | some (.inl x) => (match st1 L 2 (.inl (x + 1)) with | some L' => G sp sc [17] d mX12_inMind n 33 L' st h Q | none => False) | _ => False)) ∧
  (∀ (n d : Nat) (L : List (Option iV)) (st : List iV) (h : iH) (Q : Option iV → iH → Prop), G sp sc [17] d mX12_inMind (n + 1) 33 L st h Q = Run sp sc d mX12_inMind 17 L st h Q) ∧
  (∀ (n d : Nat) (L : List (Option iV))  (h : iH) (Q : Option iV → iH → Prop), G sp sc [17] d mX12_inMind (n + 1) 36 L [] h Q = Q none h) ∧
  lkC 12 149 12 = some (mX12_begins, 0, 2) ∧
  lkC 12 152 12 = some (mX12_goes, 1, 2) ∧
  lkF 12 13 12 = some 1 ∧
  lkF 12 9 12 = some 0 := ⟨by intros; exact G_at (by decide +kernel : fetch mX12_inMind 0 = some (.aload_n 0)),
  by intros; exact G_own (by decide +kernel : fetch mX12_inMind 1 = some (.getfield 9)) (by decide +kernel),
  by intros; exact G_at (by decide +kernel : fetch mX12_inMind 4 = some (.aload_n 0)),
  by intros; exact G_own (by decide +kernel : fetch mX12_inMind 5 = some (.getfield 13)) (by decide +kernel),
  by intros; exact G_callS (k := 2) (kd := 0) (by decide +kernel : fetch mX12_inMind 8 = some (.invokestatic 145)) (by decide +kernel) (by decide +kernel) (by decide +kernel) rfl (by decide),
  by intros; exact G_at (by decide +kernel : fetch mX12_inMind 11 = some (.aload_n 0)),
  by intros; exact G_callV (by decide +kernel : fetch mX12_inMind 12 = some (.invokevirtual 149)) (by decide +kernel) (by decide +kernel) rfl,
  by intros; exact G_at (by decide +kernel : fetch mX12_inMind 15 = some (.iconst 0)),
  by intros; exact G_at (by decide +kernel : fetch mX12_inMind 16 = some (.istore_n 2)),
  by intros; exact G_at (by decide +kernel : fetch mX12_inMind 17 = some (.iload_n 2)),
  by intros; exact G_at (by decide +kernel : fetch mX12_inMind 18 = some (.iload_n 1)),
  by intros; exact G_at (by decide +kernel : fetch mX12_inMind 19 = some (.if_icmp .ge 17)),
  by intros; exact G_at (by decide +kernel : fetch mX12_inMind 22 = some (.aload_n 0)),
  by intros; exact G_at (by decide +kernel : fetch mX12_inMind 23 = some (.aload_n 0)),
  by intros; exact G_own (by decide +kernel : fetch mX12_inMind 24 = some (.getfield 13)) (by decide +kernel),
  by intros; exact G_callV (by decide +kernel : fetch mX12_inMind 27 = some (.invokevirtual 152)) (by decide +kernel) (by decide +kernel) rfl,
  by intros; exact G_at (by decide +kernel : fetch mX12_inMind 30 = some (.iinc 2 1)),
  by intros; exact G_at (by decide +kernel : fetch mX12_inMind 33 = some (.goto (-16))),
  by intros; exact G_retv (by decide +kernel : fetch mX12_inMind 36 = some (.return_)) (by decide +kernel),
  by decide +kernel,
  by decide +kernel,
  by decide +kernel,
  by decide +kernel⟩
theorem gX12_manySuch : (∀ (n d : Nat) (L : List (Option iV)) (st : List iV) (h : iH) (Q : Option iV → iH → Prop), G sp sc [4] d mX12_manySuch (n + 1) 0 L st h Q = G sp sc [4] d mX12_manySuch n 1 L (.inl 0 :: st) h Q) ∧
  (∀ (n d : Nat) (L : List (Option iV)) (r : List iV) (x : Int) (h : iH) (Q : Option iV → iH → Prop), G sp sc [4] d mX12_manySuch (n + 1) 1 L (.inl x :: r) h Q = (match st1 L 2 (.inl x) with | some L' => G sp sc [4] d mX12_manySuch n 2 L' r h Q | none => False)) ∧
  (∀ (n d : Nat) (L : List (Option iV)) (st : List iV) (h : iH) (Q : Option iV → iH → Prop), G sp sc [4] d mX12_manySuch (n + 1) 2 L st h Q = G sp sc [4] d mX12_manySuch n 3 L (.inl 0 :: st) h Q) ∧
  (∀ (n d : Nat) (L : List (Option iV)) (r : List iV) (x : Int) (h : iH) (Q : Option iV → iH → Prop), G sp sc [4] d mX12_manySuch (n + 1) 3 L (.inl x :: r) h Q = (match st1 L 3 (.inl x) with | some L' => Run sp sc d mX12_manySuch 4 L' r h Q | none => False)) ∧
  (∀ (n d : Nat) (L : List (Option iV)) (st : List iV) (h : iH) (Q : Option iV → iH → Prop), G sp sc [4] d mX12_manySuch (n + 1) 4 L st h Q = (match ld L 3 with | some (.inl x) => G sp sc [4] d mX12_manySuch n 5 L (.inl x :: st) h Q | _ => False)) ∧
  (∀ (n d : Nat) (L : List (Option iV)) (st : List iV) (h : iH) (Q : Option iV → iH → Prop), G sp sc [4] d mX12_manySuch (n + 1) 5 L st h Q = (match ld L 0 with | some (.inr (.inr (r + 1))) => G sp sc [4] d mX12_manySuch n 6 L (.inr (.inr (r + 1)) :: st) h Q | _ => False)) ∧
  (∀ (n d : Nat) (L : List (Option iV)) (st : List iV) (h : iH) (Q : Option iV → iH → Prop), G sp sc [4] d mX12_manySuch (n + 1) 6 L st h Q = G sp sc [4] d mX12_manySuch n 7 L (.inl 2 :: st) h Q) ∧
  (∀ (n d : Nat) (L : List (Option iV)) (r : List iV) (j : Int) (m : Nat) (h : iH) (Q : Option iV → iH → Prop), G sp sc [4] d mX12_manySuch (n + 1) 7 L (.inl j :: .inr (.inr (m + 2)) :: r) h Q = (match h.1[m]? with | some (.inr (.inl (0, xs))) => inA j xs.length = true ∧ G sp sc [4] d mX12_manySuch n 8 L (.inl (xs.getD j.toNat 0) :: r) h Q | _ => False)) ∧
  (∀ (n d : Nat) (L : List (Option iV)) (a : Int) (b : Int) (r : List iV) (h : iH) (Q : Option iV → iH → Prop), G sp sc [4] d mX12_manySuch (n + 1) 8 L (.inl b :: .inl a :: r) h Q = ((inI a = true ∧ inI b = true) ∧ (b ≤ a → G sp sc [4] d mX12_manySuch n 36 L r h Q) ∧ (¬ (b ≤ a) → G sp sc [4] d mX12_manySuch n 11 L r h Q))) ∧
  (∀ (n d : Nat) (L : List (Option iV)) (st : List iV) (h : iH) (Q : Option iV → iH → Prop), G sp sc [4] d mX12_manySuch (n + 1) 11 L st h Q = (match ld L 2 with | some (.inl x) => G sp sc [4] d mX12_manySuch n 12 L (.inl x :: st) h Q | _ => False)) ∧
  (∀ (n d : Nat) (L : List (Option iV)) (st : List iV) (h : iH) (Q : Option iV → iH → Prop), G sp sc [4] d mX12_manySuch (n + 1) 12 L st h Q = (match ld L 0 with | some (.inr (.inr (r + 1))) => G sp sc [4] d mX12_manySuch n 13 L (.inr (.inr (r + 1)) :: st) h Q | _ => False)) ∧
  (∀ (n d : Nat) (L : List (Option iV)) (st : List iV) (h : iH) (Q : Option iV → iH → Prop), G sp sc [4] d mX12_manySuch (n + 1) 13 L st h Q = (match ld L 3 with | some (.inl x) => G sp sc [4] d mX12_manySuch n 14 L (.inl x :: st) h Q | _ => False)) ∧
  (∀ (n d : Nat) (L : List (Option iV)) (st : List iV) (h : iH) (Q : Option iV → iH → Prop), G sp sc [4] d mX12_manySuch (n + 1) 14 L st h Q = G sp sc [4] d mX12_manySuch n 15 L (.inl 2 :: st) h Q) ∧
  (∀ (n d : Nat) (L : List (Option iV)) (r : List iV) (z0 : iV) (z1 : iV) (h : iH) (Q : Option iV → iH → Prop), G sp sc [4] (d + 1) mX12_manySuch (n + 1) 15 L (z1 :: z0 :: r) h Q = (cs r ≤ 8 ∧ Call sp sc d mX12_atCouple [z0, z1] h (fun q h1 => GC sp sc [4] (d + 1) mX12_manySuch n 18 L q r h h1 Q))) ∧
  (∀ (n d : Nat) (L : List (Option iV)) (r : List iV) (j : Int) (m : Nat) (h : iH) (Q : Option iV → iH → Prop), G sp sc [4] d mX12_manySuch (n + 1) 18 L (.inl j :: .inr (.inr (m + 2)) :: r) h Q = (match h.1[m]? with | some (.inr (.inl (0, xs))) => inA j xs.length = true ∧ G sp sc [4] d mX12_manySuch n 19 L (.inl (xs.getD j.toNat 0) :: r) h Q | _ => False)) ∧
  (∀ (n d : Nat) (L : List (Option iV)) (st : List iV) (h : iH) (Q : Option iV → iH → Prop), G sp sc [4] d mX12_manySuch (n + 1) 19 L st h Q = (match ld L 1 with | some (.inl x) => G sp sc [4] d mX12_manySuch n 20 L (.inl x :: st) h Q | _ => False)) ∧
  (∀ (n d : Nat) (L : List (Option iV)) (a : Int) (b : Int) (r : List iV) (h : iH) (Q : Option iV → iH → Prop), G sp sc [4] d mX12_manySuch (n + 1) 20 L (.inl b :: .inl a :: r) h Q = ((inI a = true ∧ inI b = true) ∧ (¬ a = b → G sp sc [4] d mX12_manySuch n 27 L r h Q) ∧ (¬ (¬ a = b) → G sp sc [4] d mX12_manySuch n 23 L r h Q))) ∧
  (∀ (n d : Nat) (L : List (Option iV)) (st : List iV) (h : iH) (Q : Option iV → iH → Prop), G sp sc [4] d mX12_manySuch (n + 1) 23 L st h Q = G sp sc [4] d mX12_manySuch n 24 L (.inl 1 :: st) h Q) ∧
  (∀ (n d : Nat) (L : List (Option iV)) (st : List iV) (h : iH) (Q : Option iV → iH → Prop), G sp sc [4] d mX12_manySuch (n + 1) 24 L st h Q = G sp sc [4] d mX12_manySuch n 28 L st h Q) ∧
  (∀ (n d : Nat) (L : List (Option iV)) (st : List iV) (h : iH) (Q : Option iV → iH → Prop), G sp sc [4] d mX12_manySuch (n + 1) 27 L st h Q = G sp sc [4] d mX12_manySuch n 28 L (.inl 0 :: st) h Q) ∧
  (∀ (n d : Nat) (L : List (Option iV)) (a : Int) (b : Int) (r : List iV) (h : iH) (Q : Option iV → iH → Prop), G sp sc [4] d mX12_manySuch (n + 1) 28 L (.inl b :: .inl a :: r) h Q = G sp sc [4] d mX12_manySuch n 29 L (.inl (a + b) :: r) h Q) ∧
  (∀ (n d : Nat) (L : List (Option iV)) (r : List iV) (x : Int) (h : iH) (Q : Option iV → iH → Prop), G sp sc [4] d mX12_manySuch (n + 1) 29 L (.inl x :: r) h Q = (match st1 L 2 (.inl x) with | some L' => G sp sc [4] d mX12_manySuch n 30 L' r h Q | none => False)) ∧
  (∀ (n d : Nat) (L : List (Option iV)) (st : List iV) (h : iH) (Q : Option iV → iH → Prop), G sp sc [4] d mX12_manySuch (n + 1) 30 L st h Q = (match ld L 3 with | some (.inl x) => (match st1 L 3 (.inl (x + 1)) with | some L' => G sp sc [4] d mX12_manySuch n 33 L' st h Q | none => False) | _ => False)) ∧
  (∀ (n d : Nat) (L : List (Option iV)) (st : List iV) (h : iH) (Q : Option iV → iH → Prop), G sp sc [4] d mX12_manySuch (n + 1) 33 L st h Q = Run sp sc d mX12_manySuch 4 L st h Q) ∧
  (∀ (n d : Nat) (L : List (Option iV)) (st : List iV) (h : iH) (Q : Option iV → iH → Prop), G sp sc [4] d mX12_manySuch (n + 1) 36 L st h Q = (match ld L 2 with | some (.inl x) => G sp sc [4] d mX12_manySuch n 37 L (.inl x :: st) h Q | _ => False)) ∧
  (∀ (n d : Nat) (L : List (Option iV)) (a : Int) (h : iH) (Q : Option iV → iH → Prop), G sp sc [4] d mX12_manySuch (n + 1) 37 L [.inl a] h Q = Q (some (.inl a)) h) := ⟨by intros; exact G_at (by decide +kernel : fetch mX12_manySuch 0 = some (.iconst 0)),
  by intros; exact G_at (by decide +kernel : fetch mX12_manySuch 1 = some (.istore_n 2)),
  by intros; exact G_at (by decide +kernel : fetch mX12_manySuch 2 = some (.iconst 0)),
  by intros; exact G_at (by decide +kernel : fetch mX12_manySuch 3 = some (.istore_n 3)),
  by intros; exact G_at (by decide +kernel : fetch mX12_manySuch 4 = some (.iload_n 3)),
  by intros; exact G_at (by decide +kernel : fetch mX12_manySuch 5 = some (.aload_n 0)),
  by intros; exact G_at (by decide +kernel : fetch mX12_manySuch 6 = some (.iconst 2)),
  by intros; exact G_at (by decide +kernel : fetch mX12_manySuch 7 = some (.iaload)),
  by intros; exact G_at (by decide +kernel : fetch mX12_manySuch 8 = some (.if_icmp .ge 28)),
  by intros; exact G_at (by decide +kernel : fetch mX12_manySuch 11 = some (.iload_n 2)),
  by intros; exact G_at (by decide +kernel : fetch mX12_manySuch 12 = some (.aload_n 0)),
  by intros; exact G_at (by decide +kernel : fetch mX12_manySuch 13 = some (.iload_n 3)),
  by intros; exact G_at (by decide +kernel : fetch mX12_manySuch 14 = some (.iconst 2)),
  by intros; exact G_callS (k := 2) (kd := 0) (by decide +kernel : fetch mX12_manySuch 15 = some (.invokestatic 92)) (by decide +kernel) (by decide +kernel) (by decide +kernel) rfl (by decide),
  by intros; exact G_at (by decide +kernel : fetch mX12_manySuch 18 = some (.iaload)),
  by intros; exact G_at (by decide +kernel : fetch mX12_manySuch 19 = some (.iload_n 1)),
  by intros; exact G_at (by decide +kernel : fetch mX12_manySuch 20 = some (.if_icmp .ne 7)),
  by intros; exact G_at (by decide +kernel : fetch mX12_manySuch 23 = some (.iconst 1)),
  by intros; exact G_at (by decide +kernel : fetch mX12_manySuch 24 = some (.goto 4)),
  by intros; exact G_at (by decide +kernel : fetch mX12_manySuch 27 = some (.iconst 0)),
  by intros; exact G_at (by decide +kernel : fetch mX12_manySuch 28 = some (.iadd)),
  by intros; exact G_at (by decide +kernel : fetch mX12_manySuch 29 = some (.istore_n 2)),
  by intros; exact G_at (by decide +kernel : fetch mX12_manySuch 30 = some (.iinc 3 1)),
  by intros; exact G_at (by decide +kernel : fetch mX12_manySuch 33 = some (.goto (-29))),
  by intros; exact G_at (by decide +kernel : fetch mX12_manySuch 36 = some (.iload_n 2)),
  by intros; exact G_reti (by decide +kernel : fetch mX12_manySuch 37 = some (.ireturn)) (by decide +kernel)⟩
theorem gX12_here : (∀ (n d : Nat) (L : List (Option iV)) (st : List iV) (h : iH) (Q : Option iV → iH → Prop), G sp sc [] d mX12_here (n + 1) 0 L st h Q = (match ld L 0 with | some (.inr (.inr (r + 1))) => G sp sc [] d mX12_here n 1 L (.inr (.inr (r + 1)) :: st) h Q | _ => False)) ∧
  (∀ (n d : Nat) (L : List (Option iV)) (r : List iV) (m : Nat) (h : iH) (Q : Option iV → iH → Prop), G sp sc [] d mX12_here (n + 1) 1 L (.inr (.inr (m + 2)) :: r) h Q = (match h.1[m]? with | some (.inl (ci, fs)) => (match lkF 12 156 ci with | some k => (match fs[k]? with | some v => G sp sc [] d mX12_here n 4 L (v :: r) h Q | none => False) | none => False) | _ => False)) ∧
  (∀ (n d : Nat) (L : List (Option iV)) (st : List iV) (h : iH) (Q : Option iV → iH → Prop), G sp sc [] d mX12_here (n + 1) 4 L st h Q = (match ld L 0 with | some (.inr (.inr (r + 1))) => G sp sc [] d mX12_here n 5 L (.inr (.inr (r + 1)) :: st) h Q | _ => False)) ∧
  (∀ (n d : Nat) (L : List (Option iV)) (r : List iV) (m : Nat) (h : iH) (Q : Option iV → iH → Prop), G sp sc [] d mX12_here (n + 1) 5 L (.inr (.inr (m + 2)) :: r) h Q = (match h.1[m]? with | some (.inl (ci, fs)) => (match lkF 12 159 ci with | some k => (match fs[k]? with | some v => G sp sc [] d mX12_here n 8 L (v :: r) h Q | none => False) | none => False) | _ => False)) ∧
  (∀ (n d : Nat) (L : List (Option iV)) (a : Int) (b : Int) (r : List iV) (h : iH) (Q : Option iV → iH → Prop), G sp sc [] d mX12_here (n + 1) 8 L (.inl b :: .inl a :: r) h Q = ((inI a = true ∧ inI b = true) ∧ (b ≤ a → G sp sc [] d mX12_here n 32 L r h Q) ∧ (¬ (b ≤ a) → G sp sc [] d mX12_here n 11 L r h Q))) ∧
  (∀ (n d : Nat) (L : List (Option iV)) (st : List iV) (h : iH) (Q : Option iV → iH → Prop), G sp sc [] d mX12_here (n + 1) 11 L st h Q = (match ld L 0 with | some (.inr (.inr (r + 1))) => G sp sc [] d mX12_here n 12 L (.inr (.inr (r + 1)) :: st) h Q | _ => False)) ∧
  (∀ (n d : Nat) (L : List (Option iV)) (r : List iV) (m : Nat) (h : iH) (Q : Option iV → iH → Prop), G sp sc [] d mX12_here (n + 1) 12 L (.inr (.inr (m + 2)) :: r) h Q = (match h.1[m]? with | some (.inl (ci, fs)) => (match lkF 12 64 ci with | some k => (match fs[k]? with | some v => G sp sc [] d mX12_here n 15 L (v :: r) h Q | none => False) | none => False) | _ => False)) ∧
  (∀ (n d : Nat) (L : List (Option iV)) (st : List iV) (h : iH) (Q : Option iV → iH → Prop), G sp sc [] d mX12_here (n + 1) 15 L st h Q = (match ld L 0 with | some (.inr (.inr (r + 1))) => G sp sc [] d mX12_here n 16 L (.inr (.inr (r + 1)) :: st) h Q | _ => False)) ∧
  (∀ (n d : Nat) (L : List (Option iV)) (r : List iV) (m : Nat) (h : iH) (Q : Option iV → iH → Prop), G sp sc [] d mX12_here (n + 1) 16 L (.inr (.inr (m + 2)) :: r) h Q = (match h.1[m]? with | some (.inl (ci, fs)) => (match lkF 12 162 ci with | some k => (match fs[k]? with | some v => G sp sc [] d mX12_here n 19 L (v :: r) h Q | none => False) | none => False) | _ => False)) ∧
  (∀ (n d : Nat) (L : List (Option iV)) (st : List iV) (h : iH) (Q : Option iV → iH → Prop), G sp sc [] d mX12_here (n + 1) 19 L st h Q = (match ld L 0 with | some (.inr (.inr (r + 1))) => G sp sc [] d mX12_here n 20 L (.inr (.inr (r + 1)) :: st) h Q | _ => False)) ∧
  (∀ (n d : Nat) (L : List (Option iV)) (r : List iV) (m : Nat) (h : iH) (Q : Option iV → iH → Prop), G sp sc [] d mX12_here (n + 1) 20 L (.inr (.inr (m + 2)) :: r) h Q = (match h.1[m]? with | some (.inl (ci, fs)) => (match lkF 12 156 ci with | some k => (match fs[k]? with | some v => G sp sc [] d mX12_here n 23 L (v :: r) h Q | none => False) | none => False) | _ => False)) ∧
  (∀ (n d : Nat) (L : List (Option iV)) (a : Int) (b : Int) (r : List iV) (h : iH) (Q : Option iV → iH → Prop), G sp sc [] d mX12_here (n + 1) 23 L (.inl b :: .inl a :: r) h Q = G sp sc [] d mX12_here n 24 L (.inl (a + b) :: r) h Q) ∧
  (∀ (n d : Nat) (L : List (Option iV)) (r : List iV) (j : Int) (m : Nat) (h : iH) (Q : Option iV → iH → Prop), G sp sc [] d mX12_here (n + 1) 24 L (.inl j :: .inr (.inr (m + 2)) :: r) h Q = (match h.1[m]? with | some (.inr (.inl (0, xs))) => inA j xs.length = true ∧ G sp sc [] d mX12_here n 25 L (.inl (xs.getD j.toNat 0) :: r) h Q | _ => False)) ∧
  (∀ (n d : Nat) (L : List (Option iV)) (st : List iV) (h : iH) (Q : Option iV → iH → Prop), G sp sc [] d mX12_here (n + 1) 25 L st h Q = ((-32768 ≤ (255 : Int) ∧ (255 : Int) < 32768) ∧ G sp sc [] d mX12_here n 28 L (.inl 255 :: st) h Q)) ∧
  (∀ (n d : Nat) (L : List (Option iV)) (a : Int) (b : Int) (r : List iV) (h : iH) (Q : Option iV → iH → Prop), G sp sc [] d mX12_here (n + 1) 28 L (.inl b :: .inl a :: r) h Q = G sp sc [] d mX12_here n 29 L (.inl (bAnd a b) :: r) h Q) ∧
  (∀ (n d : Nat) (L : List (Option iV)) (st : List iV) (h : iH) (Q : Option iV → iH → Prop), G sp sc [] d mX12_here (n + 1) 29 L st h Q = G sp sc [] d mX12_here n 33 L st h Q) ∧
  (∀ (n d : Nat) (L : List (Option iV)) (st : List iV) (h : iH) (Q : Option iV → iH → Prop), G sp sc [] d mX12_here (n + 1) 32 L st h Q = G sp sc [] d mX12_here n 33 L (.inl (-1) :: st) h Q) ∧
  (∀ (n d : Nat) (L : List (Option iV)) (a : Int) (h : iH) (Q : Option iV → iH → Prop), G sp sc [] d mX12_here (n + 1) 33 L [.inl a] h Q = Q (some (.inl a)) h) ∧
  lkF 12 156 12 = some 12 ∧
  lkF 12 159 12 = some 14 ∧
  lkF 12 162 12 = some 13 ∧
  lkF 12 64 12 = some 31 := ⟨by intros; exact G_at (by decide +kernel : fetch mX12_here 0 = some (.aload_n 0)),
  by intros; exact G_own (by decide +kernel : fetch mX12_here 1 = some (.getfield 156)) (by decide +kernel),
  by intros; exact G_at (by decide +kernel : fetch mX12_here 4 = some (.aload_n 0)),
  by intros; exact G_own (by decide +kernel : fetch mX12_here 5 = some (.getfield 159)) (by decide +kernel),
  by intros; exact G_at (by decide +kernel : fetch mX12_here 8 = some (.if_icmp .ge 24)),
  by intros; exact G_at (by decide +kernel : fetch mX12_here 11 = some (.aload_n 0)),
  by intros; exact G_own (by decide +kernel : fetch mX12_here 12 = some (.getfield 64)) (by decide +kernel),
  by intros; exact G_at (by decide +kernel : fetch mX12_here 15 = some (.aload_n 0)),
  by intros; exact G_own (by decide +kernel : fetch mX12_here 16 = some (.getfield 162)) (by decide +kernel),
  by intros; exact G_at (by decide +kernel : fetch mX12_here 19 = some (.aload_n 0)),
  by intros; exact G_own (by decide +kernel : fetch mX12_here 20 = some (.getfield 156)) (by decide +kernel),
  by intros; exact G_at (by decide +kernel : fetch mX12_here 23 = some (.iadd)),
  by intros; exact G_at (by decide +kernel : fetch mX12_here 24 = some (.iaload)),
  by intros; exact G_at (by decide +kernel : fetch mX12_here 25 = some (.sipush 255)),
  by intros; exact G_at (by decide +kernel : fetch mX12_here 28 = some (.iand)),
  by intros; exact G_at (by decide +kernel : fetch mX12_here 29 = some (.goto 4)),
  by intros; exact G_at (by decide +kernel : fetch mX12_here 32 = some (.iconst (-1))),
  by intros; exact G_reti (by decide +kernel : fetch mX12_here 33 = some (.ireturn)) (by decide +kernel),
  by decide +kernel,
  by decide +kernel,
  by decide +kernel,
  by decide +kernel⟩
end GG
