section GG
variable {sp : Nat → List iV → iH → Option (Option iV × iH)} {sc : List Int}
theorem gX12_about : (∀ (n d : Nat) (L : List (Option iV)) (st : List iV) (h : iH) (Q : Option iV → iH → Prop), G sp sc [] d mX12_about (n + 1) 0 L st h Q = (match ld L 0 with | some (.inr (.inr (r + 1))) => G sp sc [] d mX12_about n 1 L (.inr (.inr (r + 1)) :: st) h Q | _ => False)) ∧
  (∀ (n d : Nat) (L : List (Option iV)) (st : List iV) (h : iH) (Q : Option iV → iH → Prop), G sp sc [] d mX12_about (n + 1) 1 L st h Q = (match ld L 1 with | some (.inl x) => G sp sc [] d mX12_about n 2 L (.inl x :: st) h Q | _ => False)) ∧
  (∀ (n d : Nat) (L : List (Option iV)) (r : List iV) (m : Nat) (z0 : iV) (h : iH) (Q : Option iV → iH → Prop), G sp sc [] (d + 1) mX12_about (n + 1) 2 L (z0 :: .inr (.inr (m + 2)) :: r) h Q = (match h.1[m]? with | some (.inl (ci, _)) => (match lkC 12 208 ci with | some (y1, n1, kd) => (n1 = 1 ∧ (kd = 2 ∨ kd = 3 ∨ kd = 8) ∧ cs r ≤ 8) ∧ Call sp sc d y1 [.inr (.inr (m + 2)), z0] h (fun q h1 => GC sp sc [] (d + 1) mX12_about n 5 L q r h h1 Q) | none => False) | _ => False)) ∧
  (∀ (n d : Nat) (L : List (Option iV)) (a : Int) (r : List iV) (h : iH) (Q : Option iV → iH → Prop), G sp sc [] d mX12_about (n + 1) 5 L (.inl a :: r) h Q = (inI a = true ∧ (a = 0 → G sp sc [] d mX12_about n 17 L r h Q) ∧ (¬ (a = 0) → G sp sc [] d mX12_about n 8 L r h Q))) ∧
  (∀ (n d : Nat) (L : List (Option iV)) (st : List iV) (h : iH) (Q : Option iV → iH → Prop), G sp sc [] d mX12_about (n + 1) 8 L st h Q = (match ld L 2 with | some (.inl x) => G sp sc [] d mX12_about n 9 L (.inl x :: st) h Q | _ => False)) ∧
  (∀ (n d : Nat) (L : List (Option iV)) (st : List iV) (h : iH) (Q : Option iV → iH → Prop), G sp sc [] d mX12_about (n + 1) 9 L st h Q = G sp sc [] d mX12_about n 10 L (.inl 0 :: st) h Q) ∧
  (∀ (n d : Nat) (L : List (Option iV)) (st : List iV) (h : iH) (Q : Option iV → iH → Prop), G sp sc [] d mX12_about (n + 1) 10 L st h Q = G sp sc [] d mX12_about n 11 L (.inl 5 :: st) h Q) ∧
  (∀ (n d : Nat) (L : List (Option iV)) (r : List iV) (z0 : iV) (z1 : iV) (z2 : iV) (h : iH) (Q : Option iV → iH → Prop), G sp sc [] (d + 1) mX12_about (n + 1) 11 L (z2 :: z1 :: z0 :: r) h Q = (cs r ≤ 8 ∧ Call sp sc d mX12_isIn [z0, z1, z2] h (fun q h1 => GC sp sc [] (d + 1) mX12_about n 14 L q r h h1 Q))) ∧
  (∀ (n d : Nat) (L : List (Option iV)) (a : Int) (r : List iV) (h : iH) (Q : Option iV → iH → Prop), G sp sc [] d mX12_about (n + 1) 14 L (.inl a :: r) h Q = (inI a = true ∧ (¬ a = 0 → G sp sc [] d mX12_about n 19 L r h Q) ∧ (¬ (¬ a = 0) → G sp sc [] d mX12_about n 17 L r h Q))) ∧
  (∀ (n d : Nat) (L : List (Option iV)) (st : List iV) (h : iH) (Q : Option iV → iH → Prop), G sp sc [] d mX12_about (n + 1) 17 L st h Q = G sp sc [] d mX12_about n 18 L (.inl (-1) :: st) h Q) ∧
  (∀ (n d : Nat) (L : List (Option iV)) (a : Int) (h : iH) (Q : Option iV → iH → Prop), G sp sc [] d mX12_about (n + 1) 18 L [.inl a] h Q = Q (some (.inl a)) h) ∧
  (∀ (n d : Nat) (L : List (Option iV)) (st : List iV) (h : iH) (Q : Option iV → iH → Prop), G sp sc [] d mX12_about (n + 1) 19 L st h Q = (match ld L 2 with | some (.inl x) => G sp sc [] d mX12_about n 20 L (.inl x :: st) h Q | _ => False)) ∧
  (∀ (n d : Nat) (L : List (Option iV)) (st : List iV) (h : iH) (Q : Option iV → iH → Prop), G sp sc [] d mX12_about (n + 1) 20 L st h Q = G sp sc [] d mX12_about n 21 L (.inl 4 :: st) h Q) ∧
  (∀ (n d : Nat) (L : List (Option iV)) (a : Int) (b : Int) (r : List iV) (h : iH) (Q : Option iV → iH → Prop), G sp sc [] d mX12_about (n + 1) 21 L (.inl b :: .inl a :: r) h Q = ((inI a = true ∧ inI b = true) ∧ (b ≤ a → G sp sc [] d mX12_about n 35 L r h Q) ∧ (¬ (b ≤ a) → G sp sc [] d mX12_about n 24 L r h Q))) ∧
  (∀ (n d : Nat) (L : List (Option iV)) (st : List iV) (h : iH) (Q : Option iV → iH → Prop), G sp sc [] d mX12_about (n + 1) 24 L st h Q = (match ld L 0 with | some (.inr (.inr (r + 1))) => G sp sc [] d mX12_about n 25 L (.inr (.inr (r + 1)) :: st) h Q | _ => False)) ∧
  (∀ (n d : Nat) (L : List (Option iV)) (r : List iV) (m : Nat) (h : iH) (Q : Option iV → iH → Prop), G sp sc [] d mX12_about (n + 1) 25 L (.inr (.inr (m + 2)) :: r) h Q = (match h.1[m]? with | some (.inl (ci, fs)) => (match lkF 12 9 ci with | some k => (match fs[k]? with | some v => G sp sc [] d mX12_about n 28 L (v :: r) h Q | none => False) | none => False) | _ => False)) ∧
  (∀ (n d : Nat) (L : List (Option iV)) (st : List iV) (h : iH) (Q : Option iV → iH → Prop), G sp sc [] d mX12_about (n + 1) 28 L st h Q = (match ld L 1 with | some (.inl x) => G sp sc [] d mX12_about n 29 L (.inl x :: st) h Q | _ => False)) ∧
  (∀ (n d : Nat) (L : List (Option iV)) (st : List iV) (h : iH) (Q : Option iV → iH → Prop), G sp sc [] d mX12_about (n + 1) 29 L st h Q = (match ld L 2 with | some (.inl x) => G sp sc [] d mX12_about n 30 L (.inl x :: st) h Q | _ => False)) ∧
  (∀ (n d : Nat) (L : List (Option iV)) (r : List iV) (z0 : iV) (z1 : iV) (h : iH) (Q : Option iV → iH → Prop), G sp sc [] (d + 1) mX12_about (n + 1) 30 L (z1 :: z0 :: r) h Q = (cs r ≤ 8 ∧ Call sp sc d mX12_atCouple [z0, z1] h (fun q h1 => GC sp sc [] (d + 1) mX12_about n 33 L q r h h1 Q))) ∧
  (∀ (n d : Nat) (L : List (Option iV)) (r : List iV) (j : Int) (m : Nat) (h : iH) (Q : Option iV → iH → Prop), G sp sc [] d mX12_about (n + 1) 33 L (.inl j :: .inr (.inr (m + 2)) :: r) h Q = (match h.1[m]? with | some (.inr (.inl (0, xs))) => inA j xs.length = true ∧ G sp sc [] d mX12_about n 34 L (.inl (xs.getD j.toNat 0) :: r) h Q | _ => False)) ∧
  (∀ (n d : Nat) (L : List (Option iV)) (a : Int) (h : iH) (Q : Option iV → iH → Prop), G sp sc [] d mX12_about (n + 1) 34 L [.inl a] h Q = Q (some (.inl a)) h) ∧
  (∀ (n d : Nat) (L : List (Option iV)) (st : List iV) (h : iH) (Q : Option iV → iH → Prop), G sp sc [] d mX12_about (n + 1) 35 L st h Q = (match ld L 0 with | some (.inr (.inr (r + 1))) => G sp sc [] d mX12_about n 36 L (.inr (.inr (r + 1)) :: st) h Q | _ => False)) ∧
  (∀ (n d : Nat) (L : List (Option iV)) (r : List iV) (m : Nat) (h : iH) (Q : Option iV → iH → Prop), G sp sc [] d mX12_about (n + 1) 36 L (.inr (.inr (m + 2)) :: r) h Q = (match h.1[m]? with | some (.inl (ci, fs)) => (match lkF 12 9 ci with | some k => (match fs[k]? with | some v => G sp sc [] d mX12_about n 39 L (v :: r) h Q | none => False) | none => False) | _ => False)) ∧
  (∀ (n d : Nat) (L : List (Option iV)) (st : List iV) (h : iH) (Q : Option iV → iH → Prop), G sp sc [] d mX12_about (n + 1) 39 L st h Q = (match ld L 1 with | some (.inl x) => G sp sc [] d mX12_about n 40 L (.inl x :: st) h Q | _ => False)) ∧
  (∀ (n d : Nat) (L : List (Option iV)) (r : List iV) (z0 : iV) (z1 : iV) (h : iH) (Q : Option iV → iH → Prop), G sp sc [] (d + 1) mX12_about (n + 1) 40 L (z1 :: z0 :: r) h Q = (cs r ≤ 8 ∧ Call sp sc d mX12_goesOn [z0, z1] h (fun q h1 => GC sp sc [] (d + 1) mX12_about n 43 L q r h h1 Q))) ∧
  (∀ (n d : Nat) (L : List (Option iV)) (a : Int) (r : List iV) (h : iH) (Q : Option iV → iH → Prop), G sp sc [] d mX12_about (n + 1) 43 L (.inl a :: r) h Q = (inI a = true ∧ (¬ a = 0 → G sp sc [] d mX12_about n 49 L r h Q) ∧ (¬ (¬ a = 0) → G sp sc [] d mX12_about n 46 L r h Q))) ∧
  (∀ (n d : Nat) (L : List (Option iV)) (st : List iV) (h : iH) (Q : Option iV → iH → Prop), G sp sc [] d mX12_about (n + 1) 46 L st h Q = ((-128 ≤ ((-4) : Int) ∧ ((-4) : Int) < 128) ∧ G sp sc [] d mX12_about n 48 L (.inl (-4) :: st) h Q)) ∧
  (∀ (n d : Nat) (L : List (Option iV)) (a : Int) (h : iH) (Q : Option iV → iH → Prop), G sp sc [] d mX12_about (n + 1) 48 L [.inl a] h Q = Q (some (.inl a)) h) ∧
  (∀ (n d : Nat) (L : List (Option iV)) (st : List iV) (h : iH) (Q : Option iV → iH → Prop), G sp sc [] d mX12_about (n + 1) 49 L st h Q = (match ld L 0 with | some (.inr (.inr (r + 1))) => G sp sc [] d mX12_about n 50 L (.inr (.inr (r + 1)) :: st) h Q | _ => False)) ∧
  (∀ (n d : Nat) (L : List (Option iV)) (r : List iV) (m : Nat) (h : iH) (Q : Option iV → iH → Prop), G sp sc [] d mX12_about (n + 1) 50 L (.inr (.inr (m + 2)) :: r) h Q = (match h.1[m]? with | some (.inl (ci, fs)) => (match lkF 12 9 ci with | some k => (match fs[k]? with | some v => G sp sc [] d mX12_about n 53 L (v :: r) h Q | none => False) | none => False) | _ => False)) ∧
  (∀ (n d : Nat) (L : List (Option iV)) (st : List iV) (h : iH) (Q : Option iV → iH → Prop), G sp sc [] d mX12_about (n + 1) 53 L st h Q = (match ld L 2 with | some (.inl x) => G sp sc [] d mX12_about n 54 L (.inl x :: st) h Q | _ => False)) ∧
  (∀ (n d : Nat) (L : List (Option iV)) (st : List iV) (h : iH) (Q : Option iV → iH → Prop), G sp sc [] d mX12_about (n + 1) 54 L st h Q = G sp sc [] d mX12_about n 55 L (.inl 4 :: st) h Q) ∧
  (∀ (n d : Nat) (L : List (Option iV)) (a : Int) (b : Int) (r : List iV) (h : iH) (Q : Option iV → iH → Prop), G sp sc [] d mX12_about (n + 1) 55 L (.inl b :: .inl a :: r) h Q = G sp sc [] d mX12_about n 56 L (.inl (a - b) :: r) h Q) ∧
  (∀ (n d : Nat) (L : List (Option iV)) (st : List iV) (h : iH) (Q : Option iV → iH → Prop), G sp sc [] d mX12_about (n + 1) 56 L st h Q = (match ld L 0 with | some (.inr (.inr (r + 1))) => G sp sc [] d mX12_about n 57 L (.inr (.inr (r + 1)) :: st) h Q | _ => False)) ∧
  (∀ (n d : Nat) (L : List (Option iV)) (r : List iV) (m : Nat) (h : iH) (Q : Option iV → iH → Prop), G sp sc [] d mX12_about (n + 1) 57 L (.inr (.inr (m + 2)) :: r) h Q = (match h.1[m]? with | some (.inl (ci, fs)) => (match lkF 12 9 ci with | some k => (match fs[k]? with | some v => G sp sc [] d mX12_about n 60 L (v :: r) h Q | none => False) | none => False) | _ => False)) ∧
  (∀ (n d : Nat) (L : List (Option iV)) (st : List iV) (h : iH) (Q : Option iV → iH → Prop), G sp sc [] d mX12_about (n + 1) 60 L st h Q = (match ld L 1 with | some (.inl x) => G sp sc [] d mX12_about n 61 L (.inl x :: st) h Q | _ => False)) ∧
  (∀ (n d : Nat) (L : List (Option iV)) (st : List iV) (h : iH) (Q : Option iV → iH → Prop), G sp sc [] d mX12_about (n + 1) 61 L st h Q = (match ld L 2 with | some (.inl x) => G sp sc [] d mX12_about n 62 L (.inl x :: st) h Q | _ => False)) ∧
  (∀ (n d : Nat) (L : List (Option iV)) (st : List iV) (h : iH) (Q : Option iV → iH → Prop), G sp sc [] d mX12_about (n + 1) 62 L st h Q = G sp sc [] d mX12_about n 63 L (.inl 4 :: st) h Q) ∧
  (∀ (n d : Nat) (L : List (Option iV)) (a : Int) (b : Int) (r : List iV) (h : iH) (Q : Option iV → iH → Prop), G sp sc [] d mX12_about (n + 1) 63 L (.inl b :: .inl a :: r) h Q = G sp sc [] d mX12_about n 64 L (.inl (a - b) :: r) h Q) ∧
  (∀ (n d : Nat) (L : List (Option iV)) (r : List iV) (z0 : iV) (z1 : iV) (h : iH) (Q : Option iV → iH → Prop), G sp sc [] (d + 1) mX12_about (n + 1) 64 L (z1 :: z0 :: r) h Q = (cs r ≤ 8 ∧ Call sp sc d mX12_atCouple [z0, z1] h (fun q h1 => GC sp sc [] (d + 1) mX12_about n 67 L q r h h1 Q))) ∧
  (∀ (n d : Nat) (L : List (Option iV)) (r : List iV) (j : Int) (m : Nat) (h : iH) (Q : Option iV → iH → Prop), G sp sc [] d mX12_about (n + 1) 67 L (.inl j :: .inr (.inr (m + 2)) :: r) h Q = (match h.1[m]? with | some (.inr (.inl (0, xs))) => inA j xs.length = true ∧ G sp sc [] d mX12_about n 68 L (.inl (xs.getD j.toNat 0) :: r) h Q | _ => False)) ∧
  (∀ (n d : Nat) (L : List (Option iV)) (st : List iV) (h : iH) (Q : Option iV → iH → Prop), G sp sc [] d mX12_about (n + 1) 68 L st h Q = (match ld L 0 with | some (.inr (.inr (r + 1))) => G sp sc [] d mX12_about n 69 L (.inr (.inr (r + 1)) :: st) h Q | _ => False)) ∧
  (∀ (n d : Nat) (L : List (Option iV)) (r : List iV) (m : Nat) (h : iH) (Q : Option iV → iH → Prop), G sp sc [] d mX12_about (n + 1) 69 L (.inr (.inr (m + 2)) :: r) h Q = (match h.1[m]? with | some (.inl (ci, fs)) => (match lkF 12 9 ci with | some k => (match fs[k]? with | some v => G sp sc [] d mX12_about n 72 L (v :: r) h Q | none => False) | none => False) | _ => False)) ∧
  (∀ (n d : Nat) (L : List (Option iV)) (st : List iV) (h : iH) (Q : Option iV → iH → Prop), G sp sc [] d mX12_about (n + 1) 72 L st h Q = G sp sc [] d mX12_about n 73 L (.inl 5 :: st) h Q) ∧
  (∀ (n d : Nat) (L : List (Option iV)) (st : List iV) (h : iH) (Q : Option iV → iH → Prop), G sp sc [] d mX12_about (n + 1) 73 L st h Q = (match ld L 0 with | some (.inr (.inr (r + 1))) => G sp sc [] d mX12_about n 74 L (.inr (.inr (r + 1)) :: st) h Q | _ => False)) ∧
  (∀ (n d : Nat) (L : List (Option iV)) (r : List iV) (m : Nat) (h : iH) (Q : Option iV → iH → Prop), G sp sc [] d mX12_about (n + 1) 74 L (.inr (.inr (m + 2)) :: r) h Q = (match h.1[m]? with | some (.inl (ci, fs)) => (match lkF 12 9 ci with | some k => (match fs[k]? with | some v => G sp sc [] d mX12_about n 77 L (v :: r) h Q | none => False) | none => False) | _ => False)) ∧
  (∀ (n d : Nat) (L : List (Option iV)) (st : List iV) (h : iH) (Q : Option iV → iH → Prop), G sp sc [] d mX12_about (n + 1) 77 L st h Q = (match ld L 1 with | some (.inl x) => G sp sc [] d mX12_about n 78 L (.inl x :: st) h Q | _ => False)) ∧
  (∀ (n d : Nat) (L : List (Option iV)) (st : List iV) (h : iH) (Q : Option iV → iH → Prop), G sp sc [] d mX12_about (n + 1) 78 L st h Q = G sp sc [] d mX12_about n 79 L (.inl 3 :: st) h Q) ∧
  (∀ (n d : Nat) (L : List (Option iV)) (r : List iV) (z0 : iV) (z1 : iV) (h : iH) (Q : Option iV → iH → Prop), G sp sc [] (d + 1) mX12_about (n + 1) 79 L (z1 :: z0 :: r) h Q = (cs r ≤ 8 ∧ Call sp sc d mX12_atCouple [z0, z1] h (fun q h1 => GC sp sc [] (d + 1) mX12_about n 82 L q r h h1 Q))) ∧
  (∀ (n d : Nat) (L : List (Option iV)) (r : List iV) (j : Int) (m : Nat) (h : iH) (Q : Option iV → iH → Prop), G sp sc [] d mX12_about (n + 1) 82 L (.inl j :: .inr (.inr (m + 2)) :: r) h Q = (match h.1[m]? with | some (.inr (.inl (0, xs))) => inA j xs.length = true ∧ G sp sc [] d mX12_about n 83 L (.inl (xs.getD j.toNat 0) :: r) h Q | _ => False)) ∧
  (∀ (n d : Nat) (L : List (Option iV)) (a : Int) (b : Int) (r : List iV) (h : iH) (Q : Option iV → iH → Prop), G sp sc [] d mX12_about (n + 1) 83 L (.inl b :: .inl a :: r) h Q = G sp sc [] d mX12_about n 84 L (.inl (a + b) :: r) h Q) ∧
  (∀ (n d : Nat) (L : List (Option iV)) (r : List iV) (j : Int) (m : Nat) (h : iH) (Q : Option iV → iH → Prop), G sp sc [] d mX12_about (n + 1) 84 L (.inl j :: .inr (.inr (m + 2)) :: r) h Q = (match h.1[m]? with | some (.inr (.inl (0, xs))) => inA j xs.length = true ∧ G sp sc [] d mX12_about n 85 L (.inl (xs.getD j.toNat 0) :: r) h Q | _ => False)) ∧
  (∀ (n d : Nat) (L : List (Option iV)) (r : List iV) (z0 : iV) (z1 : iV) (z2 : iV) (z3 : iV) (h : iH) (Q : Option iV → iH → Prop), G sp sc [] (d + 1) mX12_about (n + 1) 85 L (z3 :: z2 :: z1 :: z0 :: r) h Q = (cs r ≤ 8 ∧ Call sp sc d mX12_doer [z0, z1, z2, z3] h (fun q h1 => GC sp sc [] (d + 1) mX12_about n 88 L q r h h1 Q))) ∧
  (∀ (n d : Nat) (L : List (Option iV)) (a : Int) (h : iH) (Q : Option iV → iH → Prop), G sp sc [] d mX12_about (n + 1) 88 L [.inl a] h Q = Q (some (.inl a)) h) ∧
  lkC 12 208 12 = some (mX12_isCouple, 1, 2) ∧
  lkF 12 9 12 = some 0 := ⟨by intros; exact G_at (by decide +kernel : fetch mX12_about 0 = some (.aload_n 0)),
  by intros; exact G_at (by decide +kernel : fetch mX12_about 1 = some (.iload_n 1)),
  by intros; exact G_callV (by decide +kernel : fetch mX12_about 2 = some (.invokevirtual 208)) (by decide +kernel) (by decide +kernel) rfl,
  by intros; exact G_at (by decide +kernel : fetch mX12_about 5 = some (.ifCond .eq 12)),
  by intros; exact G_at (by decide +kernel : fetch mX12_about 8 = some (.iload_n 2)),
  by intros; exact G_at (by decide +kernel : fetch mX12_about 9 = some (.iconst 0)),
  by intros; exact G_at (by decide +kernel : fetch mX12_about 10 = some (.iconst 5)),
  by intros; exact G_callS (k := 3) (kd := 0) (by decide +kernel : fetch mX12_about 11 = some (.invokestatic 67)) (by decide +kernel) (by decide +kernel) (by decide +kernel) rfl (by decide),
  by intros; exact G_at (by decide +kernel : fetch mX12_about 14 = some (.ifCond .ne 5)),
  by intros; exact G_at (by decide +kernel : fetch mX12_about 17 = some (.iconst (-1))),
  by intros; exact G_reti (by decide +kernel : fetch mX12_about 18 = some (.ireturn)) (by decide +kernel),
  by intros; exact G_at (by decide +kernel : fetch mX12_about 19 = some (.iload_n 2)),
  by intros; exact G_at (by decide +kernel : fetch mX12_about 20 = some (.iconst 4)),
  by intros; exact G_at (by decide +kernel : fetch mX12_about 21 = some (.if_icmp .ge 14)),
  by intros; exact G_at (by decide +kernel : fetch mX12_about 24 = some (.aload_n 0)),
  by intros; exact G_own (by decide +kernel : fetch mX12_about 25 = some (.getfield 9)) (by decide +kernel),
  by intros; exact G_at (by decide +kernel : fetch mX12_about 28 = some (.iload_n 1)),
  by intros; exact G_at (by decide +kernel : fetch mX12_about 29 = some (.iload_n 2)),
  by intros; exact G_callS (k := 2) (kd := 0) (by decide +kernel : fetch mX12_about 30 = some (.invokestatic 92)) (by decide +kernel) (by decide +kernel) (by decide +kernel) rfl (by decide),
  by intros; exact G_at (by decide +kernel : fetch mX12_about 33 = some (.iaload)),
  by intros; exact G_reti (by decide +kernel : fetch mX12_about 34 = some (.ireturn)) (by decide +kernel),
  by intros; exact G_at (by decide +kernel : fetch mX12_about 35 = some (.aload_n 0)),
  by intros; exact G_own (by decide +kernel : fetch mX12_about 36 = some (.getfield 9)) (by decide +kernel),
  by intros; exact G_at (by decide +kernel : fetch mX12_about 39 = some (.iload_n 1)),
  by intros; exact G_callS (k := 2) (kd := 0) (by decide +kernel : fetch mX12_about 40 = some (.invokestatic 95)) (by decide +kernel) (by decide +kernel) (by decide +kernel) rfl (by decide),
  by intros; exact G_at (by decide +kernel : fetch mX12_about 43 = some (.ifCond .ne 6)),
  by intros; exact G_at (by decide +kernel : fetch mX12_about 46 = some (.bipush (-4))),
  by intros; exact G_reti (by decide +kernel : fetch mX12_about 48 = some (.ireturn)) (by decide +kernel),
  by intros; exact G_at (by decide +kernel : fetch mX12_about 49 = some (.aload_n 0)),
  by intros; exact G_own (by decide +kernel : fetch mX12_about 50 = some (.getfield 9)) (by decide +kernel),
  by intros; exact G_at (by decide +kernel : fetch mX12_about 53 = some (.iload_n 2)),
  by intros; exact G_at (by decide +kernel : fetch mX12_about 54 = some (.iconst 4)),
  by intros; exact G_at (by decide +kernel : fetch mX12_about 55 = some (.isub)),
  by intros; exact G_at (by decide +kernel : fetch mX12_about 56 = some (.aload_n 0)),
  by intros; exact G_own (by decide +kernel : fetch mX12_about 57 = some (.getfield 9)) (by decide +kernel),
  by intros; exact G_at (by decide +kernel : fetch mX12_about 60 = some (.iload_n 1)),
  by intros; exact G_at (by decide +kernel : fetch mX12_about 61 = some (.iload_n 2)),
  by intros; exact G_at (by decide +kernel : fetch mX12_about 62 = some (.iconst 4)),
  by intros; exact G_at (by decide +kernel : fetch mX12_about 63 = some (.isub)),
  by intros; exact G_callS (k := 2) (kd := 0) (by decide +kernel : fetch mX12_about 64 = some (.invokestatic 92)) (by decide +kernel) (by decide +kernel) (by decide +kernel) rfl (by decide),
  by intros; exact G_at (by decide +kernel : fetch mX12_about 67 = some (.iaload)),
  by intros; exact G_at (by decide +kernel : fetch mX12_about 68 = some (.aload_n 0)),
  by intros; exact G_own (by decide +kernel : fetch mX12_about 69 = some (.getfield 9)) (by decide +kernel),
  by intros; exact G_at (by decide +kernel : fetch mX12_about 72 = some (.iconst 5)),
  by intros; exact G_at (by decide +kernel : fetch mX12_about 73 = some (.aload_n 0)),
  by intros; exact G_own (by decide +kernel : fetch mX12_about 74 = some (.getfield 9)) (by decide +kernel),
  by intros; exact G_at (by decide +kernel : fetch mX12_about 77 = some (.iload_n 1)),
  by intros; exact G_at (by decide +kernel : fetch mX12_about 78 = some (.iconst 3)),
  by intros; exact G_callS (k := 2) (kd := 0) (by decide +kernel : fetch mX12_about 79 = some (.invokestatic 92)) (by decide +kernel) (by decide +kernel) (by decide +kernel) rfl (by decide),
  by intros; exact G_at (by decide +kernel : fetch mX12_about 82 = some (.iaload)),
  by intros; exact G_at (by decide +kernel : fetch mX12_about 83 = some (.iadd)),
  by intros; exact G_at (by decide +kernel : fetch mX12_about 84 = some (.iaload)),
  by intros; exact G_callS (k := 4) (kd := 0) (by decide +kernel : fetch mX12_about 85 = some (.invokestatic 127)) (by decide +kernel) (by decide +kernel) (by decide +kernel) rfl (by decide),
  by intros; exact G_reti (by decide +kernel : fetch mX12_about 88 = some (.ireturn)) (by decide +kernel),
  by decide +kernel,
  by decide +kernel⟩
theorem gX12_who : (∀ (n d : Nat) (L : List (Option iV)) (st : List iV) (h : iH) (Q : Option iV → iH → Prop), G sp sc [] d mX12_who (n + 1) 0 L st h Q = (match ld L 1 with | some (.inl x) => G sp sc [] d mX12_who n 1 L (.inl x :: st) h Q | _ => False)) ∧
  (∀ (n d : Nat) (L : List (Option iV)) (st : List iV) (h : iH) (Q : Option iV → iH → Prop), G sp sc [] d mX12_who (n + 1) 1 L st h Q = G sp sc [] d mX12_who n 2 L (.inl 0 :: st) h Q) ∧
  (∀ (n d : Nat) (L : List (Option iV)) (st : List iV) (h : iH) (Q : Option iV → iH → Prop), G sp sc [] d mX12_who (n + 1) 2 L st h Q = G sp sc [] d mX12_who n 3 L (.inl 5 :: st) h Q) ∧
  (∀ (n d : Nat) (L : List (Option iV)) (r : List iV) (z0 : iV) (z1 : iV) (z2 : iV) (h : iH) (Q : Option iV → iH → Prop), G sp sc [] (d + 1) mX12_who (n + 1) 3 L (z2 :: z1 :: z0 :: r) h Q = (cs r ≤ 8 ∧ Call sp sc d mX12_isIn [z0, z1, z2] h (fun q h1 => GC sp sc [] (d + 1) mX12_who n 6 L q r h h1 Q))) ∧
  (∀ (n d : Nat) (L : List (Option iV)) (a : Int) (r : List iV) (h : iH) (Q : Option iV → iH → Prop), G sp sc [] d mX12_who (n + 1) 6 L (.inl a :: r) h Q = (inI a = true ∧ (a = 0 → G sp sc [] d mX12_who n 18 L r h Q) ∧ (¬ (a = 0) → G sp sc [] d mX12_who n 9 L r h Q))) ∧
  (∀ (n d : Nat) (L : List (Option iV)) (st : List iV) (h : iH) (Q : Option iV → iH → Prop), G sp sc [] d mX12_who (n + 1) 9 L st h Q = (match ld L 2 with | some (.inl x) => G sp sc [] d mX12_who n 10 L (.inl x :: st) h Q | _ => False)) ∧
  (∀ (n d : Nat) (L : List (Option iV)) (st : List iV) (h : iH) (Q : Option iV → iH → Prop), G sp sc [] d mX12_who (n + 1) 10 L st h Q = G sp sc [] d mX12_who n 11 L (.inl 0 :: st) h Q) ∧
  (∀ (n d : Nat) (L : List (Option iV)) (st : List iV) (h : iH) (Q : Option iV → iH → Prop), G sp sc [] d mX12_who (n + 1) 11 L st h Q = G sp sc [] d mX12_who n 12 L (.inl 2 :: st) h Q) ∧
  (∀ (n d : Nat) (L : List (Option iV)) (r : List iV) (z0 : iV) (z1 : iV) (z2 : iV) (h : iH) (Q : Option iV → iH → Prop), G sp sc [] (d + 1) mX12_who (n + 1) 12 L (z2 :: z1 :: z0 :: r) h Q = (cs r ≤ 8 ∧ Call sp sc d mX12_isIn [z0, z1, z2] h (fun q h1 => GC sp sc [] (d + 1) mX12_who n 15 L q r h h1 Q))) ∧
  (∀ (n d : Nat) (L : List (Option iV)) (a : Int) (r : List iV) (h : iH) (Q : Option iV → iH → Prop), G sp sc [] d mX12_who (n + 1) 15 L (.inl a :: r) h Q = (inI a = true ∧ (¬ a = 0 → G sp sc [] d mX12_who n 20 L r h Q) ∧ (¬ (¬ a = 0) → G sp sc [] d mX12_who n 18 L r h Q))) ∧
  (∀ (n d : Nat) (L : List (Option iV)) (st : List iV) (h : iH) (Q : Option iV → iH → Prop), G sp sc [] d mX12_who (n + 1) 18 L st h Q = G sp sc [] d mX12_who n 19 L (.inl (-1) :: st) h Q) ∧
  (∀ (n d : Nat) (L : List (Option iV)) (a : Int) (h : iH) (Q : Option iV → iH → Prop), G sp sc [] d mX12_who (n + 1) 19 L [.inl a] h Q = Q (some (.inl a)) h) ∧
  (∀ (n d : Nat) (L : List (Option iV)) (st : List iV) (h : iH) (Q : Option iV → iH → Prop), G sp sc [] d mX12_who (n + 1) 20 L st h Q = (match ld L 0 with | some (.inr (.inr (r + 1))) => G sp sc [] d mX12_who n 21 L (.inr (.inr (r + 1)) :: st) h Q | _ => False)) ∧
  (∀ (n d : Nat) (L : List (Option iV)) (r : List iV) (m : Nat) (h : iH) (Q : Option iV → iH → Prop), G sp sc [] d mX12_who (n + 1) 21 L (.inr (.inr (m + 2)) :: r) h Q = (match h.1[m]? with | some (.inl (ci, fs)) => (match lkF 12 9 ci with | some k => (match fs[k]? with | some v => G sp sc [] d mX12_who n 24 L (v :: r) h Q | none => False) | none => False) | _ => False)) ∧
  (∀ (n d : Nat) (L : List (Option iV)) (st : List iV) (h : iH) (Q : Option iV → iH → Prop), G sp sc [] d mX12_who (n + 1) 24 L st h Q = G sp sc [] d mX12_who n 25 L (.inl 5 :: st) h Q) ∧
  (∀ (n d : Nat) (L : List (Option iV)) (st : List iV) (h : iH) (Q : Option iV → iH → Prop), G sp sc [] d mX12_who (n + 1) 25 L st h Q = (match ld L 1 with | some (.inl x) => G sp sc [] d mX12_who n 26 L (.inl x :: st) h Q | _ => False)) ∧
  (∀ (n d : Nat) (L : List (Option iV)) (a : Int) (b : Int) (r : List iV) (h : iH) (Q : Option iV → iH → Prop), G sp sc [] d mX12_who (n + 1) 26 L (.inl b :: .inl a :: r) h Q = G sp sc [] d mX12_who n 27 L (.inl (a + b) :: r) h Q) ∧
  (∀ (n d : Nat) (L : List (Option iV)) (r : List iV) (j : Int) (m : Nat) (h : iH) (Q : Option iV → iH → Prop), G sp sc [] d mX12_who (n + 1) 27 L (.inl j :: .inr (.inr (m + 2)) :: r) h Q = (match h.1[m]? with | some (.inr (.inl (0, xs))) => inA j xs.length = true ∧ G sp sc [] d mX12_who n 28 L (.inl (xs.getD j.toNat 0) :: r) h Q | _ => False)) ∧
  (∀ (n d : Nat) (L : List (Option iV)) (r : List iV) (x : Int) (h : iH) (Q : Option iV → iH → Prop), G sp sc [] d mX12_who (n + 1) 28 L (.inl x :: r) h Q = (match st1 L 3 (.inl x) with | some L' => G sp sc [] d mX12_who n 29 L' r h Q | none => False)) ∧
  (∀ (n d : Nat) (L : List (Option iV)) (st : List iV) (h : iH) (Q : Option iV → iH → Prop), G sp sc [] d mX12_who (n + 1) 29 L st h Q = (match ld L 0 with | some (.inr (.inr (r + 1))) => G sp sc [] d mX12_who n 30 L (.inr (.inr (r + 1)) :: st) h Q | _ => False)) ∧
  (∀ (n d : Nat) (L : List (Option iV)) (r : List iV) (m : Nat) (h : iH) (Q : Option iV → iH → Prop), G sp sc [] d mX12_who (n + 1) 30 L (.inr (.inr (m + 2)) :: r) h Q = (match h.1[m]? with | some (.inl (ci, fs)) => (match lkF 12 9 ci with | some k => (match fs[k]? with | some v => G sp sc [] d mX12_who n 33 L (v :: r) h Q | none => False) | none => False) | _ => False)) ∧
  (∀ (n d : Nat) (L : List (Option iV)) (st : List iV) (h : iH) (Q : Option iV → iH → Prop), G sp sc [] d mX12_who (n + 1) 33 L st h Q = G sp sc [] d mX12_who n 34 L (.inl 5 :: st) h Q) ∧
  (∀ (n d : Nat) (L : List (Option iV)) (st : List iV) (h : iH) (Q : Option iV → iH → Prop), G sp sc [] d mX12_who (n + 1) 34 L st h Q = (match ld L 1 with | some (.inl x) => G sp sc [] d mX12_who n 35 L (.inl x :: st) h Q | _ => False)) ∧
  (∀ (n d : Nat) (L : List (Option iV)) (a : Int) (b : Int) (r : List iV) (h : iH) (Q : Option iV → iH → Prop), G sp sc [] d mX12_who (n + 1) 35 L (.inl b :: .inl a :: r) h Q = G sp sc [] d mX12_who n 36 L (.inl (a + b) :: r) h Q) ∧
  (∀ (n d : Nat) (L : List (Option iV)) (st : List iV) (h : iH) (Q : Option iV → iH → Prop), G sp sc [] d mX12_who (n + 1) 36 L st h Q = (match ld L 2 with | some (.inl x) => G sp sc [] d mX12_who n 37 L (.inl x :: st) h Q | _ => False)) ∧
  (∀ (n d : Nat) (L : List (Option iV)) (r : List iV) (v : Int) (j : Int) (m : Nat) (h : iH) (Q : Option iV → iH → Prop), G sp sc [] d mX12_who (n + 1) 37 L (.inl v :: .inl j :: .inr (.inr (m + 2)) :: r) h Q = (match h.1[m]? with | some (.inr (.inl (0, xs))) => inA j xs.length = true ∧ G sp sc [] d mX12_who n 38 L r (h.1.set m (.inr (.inl (0, xs.set j.toNat v))), h.2) Q | _ => False)) ∧
  (∀ (n d : Nat) (L : List (Option iV)) (st : List iV) (h : iH) (Q : Option iV → iH → Prop), G sp sc [] d mX12_who (n + 1) 38 L st h Q = (match ld L 3 with | some (.inl x) => G sp sc [] d mX12_who n 39 L (.inl x :: st) h Q | _ => False)) ∧
  (∀ (n d : Nat) (L : List (Option iV)) (a : Int) (h : iH) (Q : Option iV → iH → Prop), G sp sc [] d mX12_who (n + 1) 39 L [.inl a] h Q = Q (some (.inl a)) h) ∧
  lkF 12 9 12 = some 0 := ⟨by intros; exact G_at (by decide +kernel : fetch mX12_who 0 = some (.iload_n 1)),
  by intros; exact G_at (by decide +kernel : fetch mX12_who 1 = some (.iconst 0)),
  by intros; exact G_at (by decide +kernel : fetch mX12_who 2 = some (.iconst 5)),
  by intros; exact G_callS (k := 3) (kd := 0) (by decide +kernel : fetch mX12_who 3 = some (.invokestatic 67)) (by decide +kernel) (by decide +kernel) (by decide +kernel) rfl (by decide),
  by intros; exact G_at (by decide +kernel : fetch mX12_who 6 = some (.ifCond .eq 12)),
  by intros; exact G_at (by decide +kernel : fetch mX12_who 9 = some (.iload_n 2)),
  by intros; exact G_at (by decide +kernel : fetch mX12_who 10 = some (.iconst 0)),
  by intros; exact G_at (by decide +kernel : fetch mX12_who 11 = some (.iconst 2)),
  by intros; exact G_callS (k := 3) (kd := 0) (by decide +kernel : fetch mX12_who 12 = some (.invokestatic 67)) (by decide +kernel) (by decide +kernel) (by decide +kernel) rfl (by decide),
  by intros; exact G_at (by decide +kernel : fetch mX12_who 15 = some (.ifCond .ne 5)),
  by intros; exact G_at (by decide +kernel : fetch mX12_who 18 = some (.iconst (-1))),
  by intros; exact G_reti (by decide +kernel : fetch mX12_who 19 = some (.ireturn)) (by decide +kernel),
  by intros; exact G_at (by decide +kernel : fetch mX12_who 20 = some (.aload_n 0)),
  by intros; exact G_own (by decide +kernel : fetch mX12_who 21 = some (.getfield 9)) (by decide +kernel),
  by intros; exact G_at (by decide +kernel : fetch mX12_who 24 = some (.iconst 5)),
  by intros; exact G_at (by decide +kernel : fetch mX12_who 25 = some (.iload_n 1)),
  by intros; exact G_at (by decide +kernel : fetch mX12_who 26 = some (.iadd)),
  by intros; exact G_at (by decide +kernel : fetch mX12_who 27 = some (.iaload)),
  by intros; exact G_at (by decide +kernel : fetch mX12_who 28 = some (.istore_n 3)),
  by intros; exact G_at (by decide +kernel : fetch mX12_who 29 = some (.aload_n 0)),
  by intros; exact G_own (by decide +kernel : fetch mX12_who 30 = some (.getfield 9)) (by decide +kernel),
  by intros; exact G_at (by decide +kernel : fetch mX12_who 33 = some (.iconst 5)),
  by intros; exact G_at (by decide +kernel : fetch mX12_who 34 = some (.iload_n 1)),
  by intros; exact G_at (by decide +kernel : fetch mX12_who 35 = some (.iadd)),
  by intros; exact G_at (by decide +kernel : fetch mX12_who 36 = some (.iload_n 2)),
  by intros; exact G_at (by decide +kernel : fetch mX12_who 37 = some (.iastore)),
  by intros; exact G_at (by decide +kernel : fetch mX12_who 38 = some (.iload_n 3)),
  by intros; exact G_reti (by decide +kernel : fetch mX12_who 39 = some (.ireturn)) (by decide +kernel),
  by decide +kernel⟩
theorem gX12_slip : (∀ (n d : Nat) (L : List (Option iV)) (st : List iV) (h : iH) (Q : Option iV → iH → Prop), G sp sc [] d mX12_slip (n + 1) 0 L st h Q = (match ld L 1 with | some (.inl x) => G sp sc [] d mX12_slip n 1 L (.inl x :: st) h Q | _ => False)) ∧
  (∀ (n d : Nat) (L : List (Option iV)) (st : List iV) (h : iH) (Q : Option iV → iH → Prop), G sp sc [] d mX12_slip (n + 1) 1 L st h Q = G sp sc [] d mX12_slip n 2 L (.inl 0 :: st) h Q) ∧
  (∀ (n d : Nat) (L : List (Option iV)) (st : List iV) (h : iH) (Q : Option iV → iH → Prop), G sp sc [] d mX12_slip (n + 1) 2 L st h Q = ((-128 ≤ (99 : Int) ∧ (99 : Int) < 128) ∧ G sp sc [] d mX12_slip n 4 L (.inl 99 :: st) h Q)) ∧
  (∀ (n d : Nat) (L : List (Option iV)) (r : List iV) (z0 : iV) (z1 : iV) (z2 : iV) (h : iH) (Q : Option iV → iH → Prop), G sp sc [] (d + 1) mX12_slip (n + 1) 4 L (z2 :: z1 :: z0 :: r) h Q = (cs r ≤ 8 ∧ Call sp sc d mX12_isIn [z0, z1, z2] h (fun q h1 => GC sp sc [] (d + 1) mX12_slip n 7 L q r h h1 Q))) ∧
  (∀ (n d : Nat) (L : List (Option iV)) (a : Int) (r : List iV) (h : iH) (Q : Option iV → iH → Prop), G sp sc [] d mX12_slip (n + 1) 7 L (.inl a :: r) h Q = (inI a = true ∧ (¬ a = 0 → G sp sc [] d mX12_slip n 12 L r h Q) ∧ (¬ (¬ a = 0) → G sp sc [] d mX12_slip n 10 L r h Q))) ∧
  (∀ (n d : Nat) (L : List (Option iV)) (st : List iV) (h : iH) (Q : Option iV → iH → Prop), G sp sc [] d mX12_slip (n + 1) 10 L st h Q = G sp sc [] d mX12_slip n 11 L (.inl (-1) :: st) h Q) ∧
  (∀ (n d : Nat) (L : List (Option iV)) (a : Int) (h : iH) (Q : Option iV → iH → Prop), G sp sc [] d mX12_slip (n + 1) 11 L [.inl a] h Q = Q (some (.inl a)) h) ∧
  (∀ (n d : Nat) (L : List (Option iV)) (st : List iV) (h : iH) (Q : Option iV → iH → Prop), G sp sc [] d mX12_slip (n + 1) 12 L st h Q = (match ld L 0 with | some (.inr (.inr (r + 1))) => G sp sc [] d mX12_slip n 13 L (.inr (.inr (r + 1)) :: st) h Q | _ => False)) ∧
  (∀ (n d : Nat) (L : List (Option iV)) (r : List iV) (m : Nat) (h : iH) (Q : Option iV → iH → Prop), G sp sc [] d mX12_slip (n + 1) 13 L (.inr (.inr (m + 2)) :: r) h Q = (match h.1[m]? with | some (.inl (ci, fs)) => (match lkF 12 9 ci with | some k => (match fs[k]? with | some v => G sp sc [] d mX12_slip n 16 L (v :: r) h Q | none => False) | none => False) | _ => False)) ∧
  (∀ (n d : Nat) (L : List (Option iV)) (st : List iV) (h : iH) (Q : Option iV → iH → Prop), G sp sc [] d mX12_slip (n + 1) 16 L st h Q = G sp sc [] d mX12_slip n 17 L (.inl 4 :: st) h Q) ∧
  (∀ (n d : Nat) (L : List (Option iV)) (r : List iV) (j : Int) (m : Nat) (h : iH) (Q : Option iV → iH → Prop), G sp sc [] d mX12_slip (n + 1) 17 L (.inl j :: .inr (.inr (m + 2)) :: r) h Q = (match h.1[m]? with | some (.inr (.inl (0, xs))) => inA j xs.length = true ∧ G sp sc [] d mX12_slip n 18 L (.inl (xs.getD j.toNat 0) :: r) h Q | _ => False)) ∧
  (∀ (n d : Nat) (L : List (Option iV)) (r : List iV) (x : Int) (h : iH) (Q : Option iV → iH → Prop), G sp sc [] d mX12_slip (n + 1) 18 L (.inl x :: r) h Q = (match st1 L 2 (.inl x) with | some L' => G sp sc [] d mX12_slip n 19 L' r h Q | none => False)) ∧
  (∀ (n d : Nat) (L : List (Option iV)) (st : List iV) (h : iH) (Q : Option iV → iH → Prop), G sp sc [] d mX12_slip (n + 1) 19 L st h Q = (match ld L 0 with | some (.inr (.inr (r + 1))) => G sp sc [] d mX12_slip n 20 L (.inr (.inr (r + 1)) :: st) h Q | _ => False)) ∧
  (∀ (n d : Nat) (L : List (Option iV)) (r : List iV) (m : Nat) (h : iH) (Q : Option iV → iH → Prop), G sp sc [] d mX12_slip (n + 1) 20 L (.inr (.inr (m + 2)) :: r) h Q = (match h.1[m]? with | some (.inl (ci, fs)) => (match lkF 12 9 ci with | some k => (match fs[k]? with | some v => G sp sc [] d mX12_slip n 23 L (v :: r) h Q | none => False) | none => False) | _ => False)) ∧
  (∀ (n d : Nat) (L : List (Option iV)) (st : List iV) (h : iH) (Q : Option iV → iH → Prop), G sp sc [] d mX12_slip (n + 1) 23 L st h Q = G sp sc [] d mX12_slip n 24 L (.inl 4 :: st) h Q) ∧
  (∀ (n d : Nat) (L : List (Option iV)) (st : List iV) (h : iH) (Q : Option iV → iH → Prop), G sp sc [] d mX12_slip (n + 1) 24 L st h Q = (match ld L 1 with | some (.inl x) => G sp sc [] d mX12_slip n 25 L (.inl x :: st) h Q | _ => False)) ∧
  (∀ (n d : Nat) (L : List (Option iV)) (r : List iV) (v : Int) (j : Int) (m : Nat) (h : iH) (Q : Option iV → iH → Prop), G sp sc [] d mX12_slip (n + 1) 25 L (.inl v :: .inl j :: .inr (.inr (m + 2)) :: r) h Q = (match h.1[m]? with | some (.inr (.inl (0, xs))) => inA j xs.length = true ∧ G sp sc [] d mX12_slip n 26 L r (h.1.set m (.inr (.inl (0, xs.set j.toNat v))), h.2) Q | _ => False)) ∧
  (∀ (n d : Nat) (L : List (Option iV)) (st : List iV) (h : iH) (Q : Option iV → iH → Prop), G sp sc [] d mX12_slip (n + 1) 26 L st h Q = (match ld L 2 with | some (.inl x) => G sp sc [] d mX12_slip n 27 L (.inl x :: st) h Q | _ => False)) ∧
  (∀ (n d : Nat) (L : List (Option iV)) (a : Int) (h : iH) (Q : Option iV → iH → Prop), G sp sc [] d mX12_slip (n + 1) 27 L [.inl a] h Q = Q (some (.inl a)) h) ∧
  lkF 12 9 12 = some 0 := ⟨by intros; exact G_at (by decide +kernel : fetch mX12_slip 0 = some (.iload_n 1)),
  by intros; exact G_at (by decide +kernel : fetch mX12_slip 1 = some (.iconst 0)),
  by intros; exact G_at (by decide +kernel : fetch mX12_slip 2 = some (.bipush 99)),
  by intros; exact G_callS (k := 3) (kd := 0) (by decide +kernel : fetch mX12_slip 4 = some (.invokestatic 67)) (by decide +kernel) (by decide +kernel) (by decide +kernel) rfl (by decide),
  by intros; exact G_at (by decide +kernel : fetch mX12_slip 7 = some (.ifCond .ne 5)),
  by intros; exact G_at (by decide +kernel : fetch mX12_slip 10 = some (.iconst (-1))),
  by intros; exact G_reti (by decide +kernel : fetch mX12_slip 11 = some (.ireturn)) (by decide +kernel),
  by intros; exact G_at (by decide +kernel : fetch mX12_slip 12 = some (.aload_n 0)),
  by intros; exact G_own (by decide +kernel : fetch mX12_slip 13 = some (.getfield 9)) (by decide +kernel),
  by intros; exact G_at (by decide +kernel : fetch mX12_slip 16 = some (.iconst 4)),
  by intros; exact G_at (by decide +kernel : fetch mX12_slip 17 = some (.iaload)),
  by intros; exact G_at (by decide +kernel : fetch mX12_slip 18 = some (.istore_n 2)),
  by intros; exact G_at (by decide +kernel : fetch mX12_slip 19 = some (.aload_n 0)),
  by intros; exact G_own (by decide +kernel : fetch mX12_slip 20 = some (.getfield 9)) (by decide +kernel),
  by intros; exact G_at (by decide +kernel : fetch mX12_slip 23 = some (.iconst 4)),
  by intros; exact G_at (by decide +kernel : fetch mX12_slip 24 = some (.iload_n 1)),
  by intros; exact G_at (by decide +kernel : fetch mX12_slip 25 = some (.iastore)),
  by intros; exact G_at (by decide +kernel : fetch mX12_slip 26 = some (.iload_n 2)),
  by intros; exact G_reti (by decide +kernel : fetch mX12_slip 27 = some (.ireturn)) (by decide +kernel),
  by decide +kernel⟩
theorem gX12_days : (∀ (n d : Nat) (L : List (Option iV)) (st : List iV) (h : iH) (Q : Option iV → iH → Prop), G sp sc [35] d mX12_days (n + 1) 0 L st h Q = (match ld L 1 with | some (.inl x) => G sp sc [35] d mX12_days n 1 L (.inl x :: st) h Q | _ => False)) ∧
  (∀ (n d : Nat) (L : List (Option iV)) (st : List iV) (h : iH) (Q : Option iV → iH → Prop), G sp sc [35] d mX12_days (n + 1) 1 L st h Q = G sp sc [35] d mX12_days n 2 L (.inl 1 :: st) h Q) ∧
  (∀ (n d : Nat) (L : List (Option iV)) (st : List iV) (h : iH) (Q : Option iV → iH → Prop), G sp sc [35] d mX12_days (n + 1) 2 L st h Q = ((-128 ≤ (60 : Int) ∧ (60 : Int) < 128) ∧ G sp sc [35] d mX12_days n 4 L (.inl 60 :: st) h Q)) ∧
  (∀ (n d : Nat) (L : List (Option iV)) (r : List iV) (z0 : iV) (z1 : iV) (z2 : iV) (h : iH) (Q : Option iV → iH → Prop), G sp sc [35] (d + 1) mX12_days (n + 1) 4 L (z2 :: z1 :: z0 :: r) h Q = (cs r ≤ 8 ∧ Call sp sc d mX12_isIn [z0, z1, z2] h (fun q h1 => GC sp sc [35] (d + 1) mX12_days n 7 L q r h h1 Q))) ∧
  (∀ (n d : Nat) (L : List (Option iV)) (a : Int) (r : List iV) (h : iH) (Q : Option iV → iH → Prop), G sp sc [35] d mX12_days (n + 1) 7 L (.inl a :: r) h Q = (inI a = true ∧ (¬ a = 0 → G sp sc [35] d mX12_days n 12 L r h Q) ∧ (¬ (¬ a = 0) → G sp sc [35] d mX12_days n 10 L r h Q))) ∧
  (∀ (n d : Nat) (L : List (Option iV)) (st : List iV) (h : iH) (Q : Option iV → iH → Prop), G sp sc [35] d mX12_days (n + 1) 10 L st h Q = G sp sc [35] d mX12_days n 11 L (.inl (-1) :: st) h Q) ∧
  (∀ (n d : Nat) (L : List (Option iV)) (a : Int) (h : iH) (Q : Option iV → iH → Prop), G sp sc [35] d mX12_days (n + 1) 11 L [.inl a] h Q = Q (some (.inl a)) h) ∧
  (∀ (n d : Nat) (L : List (Option iV)) (st : List iV) (h : iH) (Q : Option iV → iH → Prop), G sp sc [35] d mX12_days (n + 1) 12 L st h Q = (match ld L 0 with | some (.inr (.inr (r + 1))) => G sp sc [35] d mX12_days n 13 L (.inr (.inr (r + 1)) :: st) h Q | _ => False)) ∧
  (∀ (n d : Nat) (L : List (Option iV)) (r : List iV) (m : Nat) (h : iH) (Q : Option iV → iH → Prop), G sp sc [35] d mX12_days (n + 1) 13 L (.inr (.inr (m + 2)) :: r) h Q = (match h.1[m]? with | some (.inl (ci, fs)) => (match lkF 12 9 ci with | some k => (match fs[k]? with | some v => G sp sc [35] d mX12_days n 16 L (v :: r) h Q | none => False) | none => False) | _ => False)) ∧
  (∀ (n d : Nat) (L : List (Option iV)) (st : List iV) (h : iH) (Q : Option iV → iH → Prop), G sp sc [35] d mX12_days (n + 1) 16 L st h Q = G sp sc [35] d mX12_days n 17 L (.inl 3 :: st) h Q) ∧
  (∀ (n d : Nat) (L : List (Option iV)) (r : List iV) (j : Int) (m : Nat) (h : iH) (Q : Option iV → iH → Prop), G sp sc [35] d mX12_days (n + 1) 17 L (.inl j :: .inr (.inr (m + 2)) :: r) h Q = (match h.1[m]? with | some (.inr (.inl (0, xs))) => inA j xs.length = true ∧ G sp sc [35] d mX12_days n 18 L (.inl (xs.getD j.toNat 0) :: r) h Q | _ => False)) ∧
  (∀ (n d : Nat) (L : List (Option iV)) (st : List iV) (h : iH) (Q : Option iV → iH → Prop), G sp sc [35] d mX12_days (n + 1) 18 L st h Q = (match ld L 1 with | some (.inl x) => G sp sc [35] d mX12_days n 19 L (.inl x :: st) h Q | _ => False)) ∧
  (∀ (n d : Nat) (L : List (Option iV)) (a : Int) (b : Int) (r : List iV) (h : iH) (Q : Option iV → iH → Prop), G sp sc [35] d mX12_days (n + 1) 19 L (.inl b :: .inl a :: r) h Q = G sp sc [35] d mX12_days n 20 L (.inl (a + b) :: r) h Q) ∧
  (∀ (n d : Nat) (L : List (Option iV)) (st : List iV) (h : iH) (Q : Option iV → iH → Prop), G sp sc [35] d mX12_days (n + 1) 20 L st h Q = ((-32768 ≤ (999 : Int) ∧ (999 : Int) < 32768) ∧ G sp sc [35] d mX12_days n 23 L (.inl 999 :: st) h Q)) ∧
  (∀ (n d : Nat) (L : List (Option iV)) (a : Int) (b : Int) (r : List iV) (h : iH) (Q : Option iV → iH → Prop), G sp sc [35] d mX12_days (n + 1) 23 L (.inl b :: .inl a :: r) h Q = ((inI a = true ∧ inI b = true) ∧ (a ≤ b → G sp sc [35] d mX12_days n 29 L r h Q) ∧ (¬ (a ≤ b) → G sp sc [35] d mX12_days n 26 L r h Q))) ∧
  (∀ (n d : Nat) (L : List (Option iV)) (st : List iV) (h : iH) (Q : Option iV → iH → Prop), G sp sc [35] d mX12_days (n + 1) 26 L st h Q = ((-128 ≤ ((-3) : Int) ∧ ((-3) : Int) < 128) ∧ G sp sc [35] d mX12_days n 28 L (.inl (-3) :: st) h Q)) ∧
  (∀ (n d : Nat) (L : List (Option iV)) (a : Int) (h : iH) (Q : Option iV → iH → Prop), G sp sc [35] d mX12_days (n + 1) 28 L [.inl a] h Q = Q (some (.inl a)) h) ∧
  (∀ (n d : Nat) (L : List (Option iV)) (st : List iV) (h : iH) (Q : Option iV → iH → Prop), G sp sc [35] d mX12_days (n + 1) 29 L st h Q = (match ld L 0 with | some (.inr (.inr (r + 1))) => G sp sc [35] d mX12_days n 30 L (.inr (.inr (r + 1)) :: st) h Q | _ => False)) ∧
  (∀ (n d : Nat) (L : List (Option iV)) (r : List iV) (m : Nat) (h : iH) (Q : Option iV → iH → Prop), G sp sc [35] (d + 1) mX12_days (n + 1) 30 L (.inr (.inr (m + 2)) :: r) h Q = (match h.1[m]? with | some (.inl (ci, _)) => (match lkC 12 149 ci with | some (y1, n1, kd) => (n1 = 0 ∧ (kd = 2 ∨ kd = 3 ∨ kd = 8) ∧ cs r ≤ 8) ∧ Call sp sc d y1 [.inr (.inr (m + 2))] h (fun q h1 => GC sp sc [35] (d + 1) mX12_days n 33 L q r h h1 Q) | none => False) | _ => False)) ∧
  (∀ (n d : Nat) (L : List (Option iV)) (st : List iV) (h : iH) (Q : Option iV → iH → Prop), G sp sc [35] d mX12_days (n + 1) 33 L st h Q = G sp sc [35] d mX12_days n 34 L (.inl 0 :: st) h Q) ∧
  (∀ (n d : Nat) (L : List (Option iV)) (r : List iV) (x : Int) (h : iH) (Q : Option iV → iH → Prop), G sp sc [35] d mX12_days (n + 1) 34 L (.inl x :: r) h Q = (match st1 L 2 (.inl x) with | some L' => Run sp sc d mX12_days 35 L' r h Q | none => False)) ∧
  (∀ (n d : Nat) (L : List (Option iV)) (st : List iV) (h : iH) (Q : Option iV → iH → Prop), G sp sc [35] d mX12_days (n + 1) 35 L st h Q = (match ld L 2 with | some (.inl x) => G sp sc [35] d mX12_days n 36 L (.inl x :: st) h Q | _ => False)) ∧
  (∀ (n d : Nat) (L : List (Option iV)) (st : List iV) (h : iH) (Q : Option iV → iH → Prop), G sp sc [35] d mX12_days (n + 1) 36 L st h Q = (match ld L 1 with | some (.inl x) => G sp sc [35] d mX12_days n 37 L (.inl x :: st) h Q | _ => False)) ∧
  (∀ (n d : Nat) (L : List (Option iV)) (a : Int) (b : Int) (r : List iV) (h : iH) (Q : Option iV → iH → Prop), G sp sc [35] d mX12_days (n + 1) 37 L (.inl b :: .inl a :: r) h Q = ((inI a = true ∧ inI b = true) ∧ (b ≤ a → G sp sc [35] d mX12_days n 54 L r h Q) ∧ (¬ (b ≤ a) → G sp sc [35] d mX12_days n 40 L r h Q))) ∧
  (∀ (n d : Nat) (L : List (Option iV)) (st : List iV) (h : iH) (Q : Option iV → iH → Prop), G sp sc [35] d mX12_days (n + 1) 40 L st h Q = (match ld L 0 with | some (.inr (.inr (r + 1))) => G sp sc [35] d mX12_days n 41 L (.inr (.inr (r + 1)) :: st) h Q | _ => False)) ∧
  (∀ (n d : Nat) (L : List (Option iV)) (st : List iV) (h : iH) (Q : Option iV → iH → Prop), G sp sc [35] d mX12_days (n + 1) 41 L st h Q = (match ld L 0 with | some (.inr (.inr (r + 1))) => G sp sc [35] d mX12_days n 42 L (.inr (.inr (r + 1)) :: st) h Q | _ => False)) ∧
  (∀ (n d : Nat) (L : List (Option iV)) (r : List iV) (m : Nat) (h : iH) (Q : Option iV → iH → Prop), G sp sc [35] d mX12_days (n + 1) 42 L (.inr (.inr (m + 2)) :: r) h Q = (match h.1[m]? with | some (.inl (ci, fs)) => (match lkF 12 9 ci with | some k => (match fs[k]? with | some v => G sp sc [35] d mX12_days n 45 L (v :: r) h Q | none => False) | none => False) | _ => False)) ∧
  (∀ (n d : Nat) (L : List (Option iV)) (r : List iV) (m : Nat) (z0 : iV) (h : iH) (Q : Option iV → iH → Prop), G sp sc [35] (d + 1) mX12_days (n + 1) 45 L (z0 :: .inr (.inr (m + 2)) :: r) h Q = (match h.1[m]? with | some (.inl (ci, _)) => (match lkC 12 152 ci with | some (y1, n1, kd) => (n1 = 1 ∧ (kd = 2 ∨ kd = 3 ∨ kd = 8) ∧ cs r ≤ 8) ∧ Call sp sc d y1 [.inr (.inr (m + 2)), z0] h (fun q h1 => GC sp sc [35] (d + 1) mX12_days n 48 L q r h h1 Q) | none => False) | _ => False)) ∧
  (∀ (n d : Nat) (L : List (Option iV)) (st : List iV) (h : iH) (Q : Option iV → iH → Prop), G sp sc [35] d mX12_days (n + 1) 48 L st h Q = (match ld L 2 with | some (.inl x) => (match st1 L 2 (.inl (x + 1)) with | some L' => G sp sc [35] d mX12_days n 51 L' st h Q | none => False) | _ => False)) ∧
  (∀ (n d : Nat) (L : List (Option iV)) (st : List iV) (h : iH) (Q : Option iV → iH → Prop), G sp sc [35] d mX12_days (n + 1) 51 L st h Q = Run sp sc d mX12_days 35 L st h Q) ∧
  (∀ (n d : Nat) (L : List (Option iV)) (st : List iV) (h : iH) (Q : Option iV → iH → Prop), G sp sc [35] d mX12_days (n + 1) 54 L st h Q = (match ld L 0 with | some (.inr (.inr (r + 1))) => G sp sc [35] d mX12_days n 55 L (.inr (.inr (r + 1)) :: st) h Q | _ => False)) ∧
  (∀ (n d : Nat) (L : List (Option iV)) (r : List iV) (m : Nat) (h : iH) (Q : Option iV → iH → Prop), G sp sc [35] d mX12_days (n + 1) 55 L (.inr (.inr (m + 2)) :: r) h Q = (match h.1[m]? with | some (.inl (ci, fs)) => (match lkF 12 75 ci with | some k => (match fs[k]? with | some v => G sp sc [35] d mX12_days n 58 L (v :: r) h Q | none => False) | none => False) | _ => False)) ∧
  (∀ (n d : Nat) (L : List (Option iV)) (a : Int) (h : iH) (Q : Option iV → iH → Prop), G sp sc [35] d mX12_days (n + 1) 58 L [.inl a] h Q = Q (some (.inl a)) h) ∧
  lkC 12 149 12 = some (mX12_begins, 0, 2) ∧
  lkC 12 152 12 = some (mX12_goes, 1, 2) ∧
  lkF 12 75 12 = some 8 ∧
  lkF 12 9 12 = some 0 := ⟨by intros; exact G_at (by decide +kernel : fetch mX12_days 0 = some (.iload_n 1)),
  by intros; exact G_at (by decide +kernel : fetch mX12_days 1 = some (.iconst 1)),
  by intros; exact G_at (by decide +kernel : fetch mX12_days 2 = some (.bipush 60)),
  by intros; exact G_callS (k := 3) (kd := 0) (by decide +kernel : fetch mX12_days 4 = some (.invokestatic 67)) (by decide +kernel) (by decide +kernel) (by decide +kernel) rfl (by decide),
  by intros; exact G_at (by decide +kernel : fetch mX12_days 7 = some (.ifCond .ne 5)),
  by intros; exact G_at (by decide +kernel : fetch mX12_days 10 = some (.iconst (-1))),
  by intros; exact G_reti (by decide +kernel : fetch mX12_days 11 = some (.ireturn)) (by decide +kernel),
  by intros; exact G_at (by decide +kernel : fetch mX12_days 12 = some (.aload_n 0)),
  by intros; exact G_own (by decide +kernel : fetch mX12_days 13 = some (.getfield 9)) (by decide +kernel),
  by intros; exact G_at (by decide +kernel : fetch mX12_days 16 = some (.iconst 3)),
  by intros; exact G_at (by decide +kernel : fetch mX12_days 17 = some (.iaload)),
  by intros; exact G_at (by decide +kernel : fetch mX12_days 18 = some (.iload_n 1)),
  by intros; exact G_at (by decide +kernel : fetch mX12_days 19 = some (.iadd)),
  by intros; exact G_at (by decide +kernel : fetch mX12_days 20 = some (.sipush 999)),
  by intros; exact G_at (by decide +kernel : fetch mX12_days 23 = some (.if_icmp .le 6)),
  by intros; exact G_at (by decide +kernel : fetch mX12_days 26 = some (.bipush (-3))),
  by intros; exact G_reti (by decide +kernel : fetch mX12_days 28 = some (.ireturn)) (by decide +kernel),
  by intros; exact G_at (by decide +kernel : fetch mX12_days 29 = some (.aload_n 0)),
  by intros; exact G_callV (by decide +kernel : fetch mX12_days 30 = some (.invokevirtual 149)) (by decide +kernel) (by decide +kernel) rfl,
  by intros; exact G_at (by decide +kernel : fetch mX12_days 33 = some (.iconst 0)),
  by intros; exact G_at (by decide +kernel : fetch mX12_days 34 = some (.istore_n 2)),
  by intros; exact G_at (by decide +kernel : fetch mX12_days 35 = some (.iload_n 2)),
  by intros; exact G_at (by decide +kernel : fetch mX12_days 36 = some (.iload_n 1)),
  by intros; exact G_at (by decide +kernel : fetch mX12_days 37 = some (.if_icmp .ge 17)),
  by intros; exact G_at (by decide +kernel : fetch mX12_days 40 = some (.aload_n 0)),
  by intros; exact G_at (by decide +kernel : fetch mX12_days 41 = some (.aload_n 0)),
  by intros; exact G_own (by decide +kernel : fetch mX12_days 42 = some (.getfield 9)) (by decide +kernel),
  by intros; exact G_callV (by decide +kernel : fetch mX12_days 45 = some (.invokevirtual 152)) (by decide +kernel) (by decide +kernel) rfl,
  by intros; exact G_at (by decide +kernel : fetch mX12_days 48 = some (.iinc 2 1)),
  by intros; exact G_at (by decide +kernel : fetch mX12_days 51 = some (.goto (-16))),
  by intros; exact G_at (by decide +kernel : fetch mX12_days 54 = some (.aload_n 0)),
  by intros; exact G_own (by decide +kernel : fetch mX12_days 55 = some (.getfield 75)) (by decide +kernel),
  by intros; exact G_reti (by decide +kernel : fetch mX12_days 58 = some (.ireturn)) (by decide +kernel),
  by decide +kernel,
  by decide +kernel,
  by decide +kernel,
  by decide +kernel⟩
theorem gX12_fate : (∀ (n d : Nat) (L : List (Option iV)) (st : List iV) (h : iH) (Q : Option iV → iH → Prop), G sp sc [] d mX12_fate (n + 1) 0 L st h Q = (match ld L 0 with | some (.inr (.inr (r + 1))) => G sp sc [] d mX12_fate n 1 L (.inr (.inr (r + 1)) :: st) h Q | _ => False)) ∧
  (∀ (n d : Nat) (L : List (Option iV)) (st : List iV) (h : iH) (Q : Option iV → iH → Prop), G sp sc [] d mX12_fate (n + 1) 1 L st h Q = (match ld L 1 with | some (.inl x) => G sp sc [] d mX12_fate n 2 L (.inl x :: st) h Q | _ => False)) ∧
  (∀ (n d : Nat) (L : List (Option iV)) (r : List iV) (m : Nat) (z0 : iV) (h : iH) (Q : Option iV → iH → Prop), G sp sc [] (d + 1) mX12_fate (n + 1) 2 L (z0 :: .inr (.inr (m + 2)) :: r) h Q = (match h.1[m]? with | some (.inl (ci, _)) => (match lkC 12 208 ci with | some (y1, n1, kd) => (n1 = 1 ∧ (kd = 2 ∨ kd = 3 ∨ kd = 8) ∧ cs r ≤ 8) ∧ Call sp sc d y1 [.inr (.inr (m + 2)), z0] h (fun q h1 => GC sp sc [] (d + 1) mX12_fate n 5 L q r h h1 Q) | none => False) | _ => False)) ∧
  (∀ (n d : Nat) (L : List (Option iV)) (a : Int) (r : List iV) (h : iH) (Q : Option iV → iH → Prop), G sp sc [] d mX12_fate (n + 1) 5 L (.inl a :: r) h Q = (inI a = true ∧ (a = 0 → G sp sc [] d mX12_fate n 27 L r h Q) ∧ (¬ (a = 0) → G sp sc [] d mX12_fate n 8 L r h Q))) ∧
  (∀ (n d : Nat) (L : List (Option iV)) (st : List iV) (h : iH) (Q : Option iV → iH → Prop), G sp sc [] d mX12_fate (n + 1) 8 L st h Q = (match ld L 2 with | some (.inl x) => G sp sc [] d mX12_fate n 9 L (.inl x :: st) h Q | _ => False)) ∧
  (∀ (n d : Nat) (L : List (Option iV)) (st : List iV) (h : iH) (Q : Option iV → iH → Prop), G sp sc [] d mX12_fate (n + 1) 9 L st h Q = G sp sc [] d mX12_fate n 10 L (.inl 0 :: st) h Q) ∧
  (∀ (n d : Nat) (L : List (Option iV)) (st : List iV) (h : iH) (Q : Option iV → iH → Prop), G sp sc [] d mX12_fate (n + 1) 10 L st h Q = ((-128 ≤ (60 : Int) ∧ (60 : Int) < 128) ∧ G sp sc [] d mX12_fate n 12 L (.inl 60 :: st) h Q)) ∧
  (∀ (n d : Nat) (L : List (Option iV)) (r : List iV) (z0 : iV) (z1 : iV) (z2 : iV) (h : iH) (Q : Option iV → iH → Prop), G sp sc [] (d + 1) mX12_fate (n + 1) 12 L (z2 :: z1 :: z0 :: r) h Q = (cs r ≤ 8 ∧ Call sp sc d mX12_isIn [z0, z1, z2] h (fun q h1 => GC sp sc [] (d + 1) mX12_fate n 15 L q r h h1 Q))) ∧
  (∀ (n d : Nat) (L : List (Option iV)) (a : Int) (r : List iV) (h : iH) (Q : Option iV → iH → Prop), G sp sc [] d mX12_fate (n + 1) 15 L (.inl a :: r) h Q = (inI a = true ∧ (a = 0 → G sp sc [] d mX12_fate n 27 L r h Q) ∧ (¬ (a = 0) → G sp sc [] d mX12_fate n 18 L r h Q))) ∧
  (∀ (n d : Nat) (L : List (Option iV)) (st : List iV) (h : iH) (Q : Option iV → iH → Prop), G sp sc [] d mX12_fate (n + 1) 18 L st h Q = (match ld L 3 with | some (.inl x) => G sp sc [] d mX12_fate n 19 L (.inl x :: st) h Q | _ => False)) ∧
  (∀ (n d : Nat) (L : List (Option iV)) (st : List iV) (h : iH) (Q : Option iV → iH → Prop), G sp sc [] d mX12_fate (n + 1) 19 L st h Q = G sp sc [] d mX12_fate n 20 L (.inl 0 :: st) h Q) ∧
  (∀ (n d : Nat) (L : List (Option iV)) (st : List iV) (h : iH) (Q : Option iV → iH → Prop), G sp sc [] d mX12_fate (n + 1) 20 L st h Q = G sp sc [] d mX12_fate n 21 L (.inl 3 :: st) h Q) ∧
  (∀ (n d : Nat) (L : List (Option iV)) (r : List iV) (z0 : iV) (z1 : iV) (z2 : iV) (h : iH) (Q : Option iV → iH → Prop), G sp sc [] (d + 1) mX12_fate (n + 1) 21 L (z2 :: z1 :: z0 :: r) h Q = (cs r ≤ 8 ∧ Call sp sc d mX12_isIn [z0, z1, z2] h (fun q h1 => GC sp sc [] (d + 1) mX12_fate n 24 L q r h h1 Q))) ∧
  (∀ (n d : Nat) (L : List (Option iV)) (a : Int) (r : List iV) (h : iH) (Q : Option iV → iH → Prop), G sp sc [] d mX12_fate (n + 1) 24 L (.inl a :: r) h Q = (inI a = true ∧ (¬ a = 0 → G sp sc [] d mX12_fate n 29 L r h Q) ∧ (¬ (¬ a = 0) → G sp sc [] d mX12_fate n 27 L r h Q))) ∧
  (∀ (n d : Nat) (L : List (Option iV)) (st : List iV) (h : iH) (Q : Option iV → iH → Prop), G sp sc [] d mX12_fate (n + 1) 27 L st h Q = G sp sc [] d mX12_fate n 28 L (.inl (-1) :: st) h Q) ∧
  (∀ (n d : Nat) (L : List (Option iV)) (a : Int) (h : iH) (Q : Option iV → iH → Prop), G sp sc [] d mX12_fate (n + 1) 28 L [.inl a] h Q = Q (some (.inl a)) h) ∧
  (∀ (n d : Nat) (L : List (Option iV)) (st : List iV) (h : iH) (Q : Option iV → iH → Prop), G sp sc [] d mX12_fate (n + 1) 29 L st h Q = (match ld L 0 with | some (.inr (.inr (r + 1))) => G sp sc [] d mX12_fate n 30 L (.inr (.inr (r + 1)) :: st) h Q | _ => False)) ∧
  (∀ (n d : Nat) (L : List (Option iV)) (st : List iV) (h : iH) (Q : Option iV → iH → Prop), G sp sc [] d mX12_fate (n + 1) 30 L st h Q = (match ld L 2 with | some (.inl x) => G sp sc [] d mX12_fate n 31 L (.inl x :: st) h Q | _ => False)) ∧
  (∀ (n d : Nat) (L : List (Option iV)) (r : List iV) (m : Nat) (z0 : iV) (h : iH) (Q : Option iV → iH → Prop), G sp sc [] (d + 1) mX12_fate (n + 1) 31 L (z0 :: .inr (.inr (m + 2)) :: r) h Q = (match h.1[m]? with | some (.inl (ci, _)) => (match lkC 12 211 ci with | some (y1, n1, kd) => (n1 = 1 ∧ (kd = 2 ∨ kd = 3 ∨ kd = 8) ∧ cs r ≤ 8) ∧ Call sp sc d y1 [.inr (.inr (m + 2)), z0] h (fun q h1 => GC sp sc [] (d + 1) mX12_fate n 34 L q r h h1 Q) | none => False) | _ => False)) ∧
  (∀ (n d : Nat) (L : List (Option iV)) (st : List iV) (h : iH) (Q : Option iV → iH → Prop), G sp sc [] d mX12_fate (n + 1) 34 L st h Q = (match ld L 3 with | some (.inl x) => G sp sc [] d mX12_fate n 35 L (.inl x :: st) h Q | _ => False)) ∧
  (∀ (n d : Nat) (L : List (Option iV)) (a : Int) (r : List iV) (h : iH) (Q : Option iV → iH → Prop), G sp sc [] d mX12_fate (n + 1) 35 L (.inl a :: r) h Q = (inI a = true ∧ (¬ a = 0 → G sp sc [] d mX12_fate n 51 L r h Q) ∧ (¬ (¬ a = 0) → G sp sc [] d mX12_fate n 38 L r h Q))) ∧
  (∀ (n d : Nat) (L : List (Option iV)) (st : List iV) (h : iH) (Q : Option iV → iH → Prop), G sp sc [] d mX12_fate (n + 1) 38 L st h Q = (match ld L 0 with | some (.inr (.inr (r + 1))) => G sp sc [] d mX12_fate n 39 L (.inr (.inr (r + 1)) :: st) h Q | _ => False)) ∧
  (∀ (n d : Nat) (L : List (Option iV)) (r : List iV) (m : Nat) (h : iH) (Q : Option iV → iH → Prop), G sp sc [] d mX12_fate (n + 1) 39 L (.inr (.inr (m + 2)) :: r) h Q = (match h.1[m]? with | some (.inl (ci, fs)) => (match lkF 12 13 ci with | some k => (match fs[k]? with | some v => G sp sc [] d mX12_fate n 42 L (v :: r) h Q | none => False) | none => False) | _ => False)) ∧
  (∀ (n d : Nat) (L : List (Option iV)) (st : List iV) (h : iH) (Q : Option iV → iH → Prop), G sp sc [] d mX12_fate (n + 1) 42 L st h Q = (match ld L 1 with | some (.inl x) => G sp sc [] d mX12_fate n 43 L (.inl x :: st) h Q | _ => False)) ∧
  (∀ (n d : Nat) (L : List (Option iV)) (st : List iV) (h : iH) (Q : Option iV → iH → Prop), G sp sc [] d mX12_fate (n + 1) 43 L st h Q = G sp sc [] d mX12_fate n 44 L (.inl 2 :: st) h Q) ∧
  (∀ (n d : Nat) (L : List (Option iV)) (r : List iV) (z0 : iV) (z1 : iV) (h : iH) (Q : Option iV → iH → Prop), G sp sc [] (d + 1) mX12_fate (n + 1) 44 L (z1 :: z0 :: r) h Q = (cs r ≤ 8 ∧ Call sp sc d mX12_atCouple [z0, z1] h (fun q h1 => GC sp sc [] (d + 1) mX12_fate n 47 L q r h h1 Q))) ∧
  (∀ (n d : Nat) (L : List (Option iV)) (r : List iV) (j : Int) (m : Nat) (h : iH) (Q : Option iV → iH → Prop), G sp sc [] d mX12_fate (n + 1) 47 L (.inl j :: .inr (.inr (m + 2)) :: r) h Q = (match h.1[m]? with | some (.inr (.inl (0, xs))) => inA j xs.length = true ∧ G sp sc [] d mX12_fate n 48 L (.inl (xs.getD j.toNat 0) :: r) h Q | _ => False)) ∧
  (∀ (n d : Nat) (L : List (Option iV)) (st : List iV) (h : iH) (Q : Option iV → iH → Prop), G sp sc [] d mX12_fate (n + 1) 48 L st h Q = G sp sc [] d mX12_fate n 89 L st h Q) ∧
  (∀ (n d : Nat) (L : List (Option iV)) (st : List iV) (h : iH) (Q : Option iV → iH → Prop), G sp sc [] d mX12_fate (n + 1) 51 L st h Q = (match ld L 3 with | some (.inl x) => G sp sc [] d mX12_fate n 52 L (.inl x :: st) h Q | _ => False)) ∧
  (∀ (n d : Nat) (L : List (Option iV)) (st : List iV) (h : iH) (Q : Option iV → iH → Prop), G sp sc [] d mX12_fate (n + 1) 52 L st h Q = G sp sc [] d mX12_fate n 53 L (.inl 1 :: st) h Q) ∧
  (∀ (n d : Nat) (L : List (Option iV)) (a : Int) (b : Int) (r : List iV) (h : iH) (Q : Option iV → iH → Prop), G sp sc [] d mX12_fate (n + 1) 53 L (.inl b :: .inl a :: r) h Q = ((inI a = true ∧ inI b = true) ∧ (¬ a = b → G sp sc [] d mX12_fate n 69 L r h Q) ∧ (¬ (¬ a = b) → G sp sc [] d mX12_fate n 56 L r h Q))) ∧
  (∀ (n d : Nat) (L : List (Option iV)) (st : List iV) (h : iH) (Q : Option iV → iH → Prop), G sp sc [] d mX12_fate (n + 1) 56 L st h Q = (match ld L 0 with | some (.inr (.inr (r + 1))) => G sp sc [] d mX12_fate n 57 L (.inr (.inr (r + 1)) :: st) h Q | _ => False)) ∧
  (∀ (n d : Nat) (L : List (Option iV)) (r : List iV) (m : Nat) (h : iH) (Q : Option iV → iH → Prop), G sp sc [] d mX12_fate (n + 1) 57 L (.inr (.inr (m + 2)) :: r) h Q = (match h.1[m]? with | some (.inl (ci, fs)) => (match lkF 12 13 ci with | some k => (match fs[k]? with | some v => G sp sc [] d mX12_fate n 60 L (v :: r) h Q | none => False) | none => False) | _ => False)) ∧
  (∀ (n d : Nat) (L : List (Option iV)) (st : List iV) (h : iH) (Q : Option iV → iH → Prop), G sp sc [] d mX12_fate (n + 1) 60 L st h Q = (match ld L 1 with | some (.inl x) => G sp sc [] d mX12_fate n 61 L (.inl x :: st) h Q | _ => False)) ∧
  (∀ (n d : Nat) (L : List (Option iV)) (st : List iV) (h : iH) (Q : Option iV → iH → Prop), G sp sc [] d mX12_fate (n + 1) 61 L st h Q = G sp sc [] d mX12_fate n 62 L (.inl 3 :: st) h Q) ∧
  (∀ (n d : Nat) (L : List (Option iV)) (r : List iV) (z0 : iV) (z1 : iV) (h : iH) (Q : Option iV → iH → Prop), G sp sc [] (d + 1) mX12_fate (n + 1) 62 L (z1 :: z0 :: r) h Q = (cs r ≤ 8 ∧ Call sp sc d mX12_atCouple [z0, z1] h (fun q h1 => GC sp sc [] (d + 1) mX12_fate n 65 L q r h h1 Q))) ∧
  (∀ (n d : Nat) (L : List (Option iV)) (r : List iV) (j : Int) (m : Nat) (h : iH) (Q : Option iV → iH → Prop), G sp sc [] d mX12_fate (n + 1) 65 L (.inl j :: .inr (.inr (m + 2)) :: r) h Q = (match h.1[m]? with | some (.inr (.inl (0, xs))) => inA j xs.length = true ∧ G sp sc [] d mX12_fate n 66 L (.inl (xs.getD j.toNat 0) :: r) h Q | _ => False)) ∧
  (∀ (n d : Nat) (L : List (Option iV)) (st : List iV) (h : iH) (Q : Option iV → iH → Prop), G sp sc [] d mX12_fate (n + 1) 66 L st h Q = G sp sc [] d mX12_fate n 89 L st h Q) ∧
  (∀ (n d : Nat) (L : List (Option iV)) (st : List iV) (h : iH) (Q : Option iV → iH → Prop), G sp sc [] d mX12_fate (n + 1) 69 L st h Q = (match ld L 3 with | some (.inl x) => G sp sc [] d mX12_fate n 70 L (.inl x :: st) h Q | _ => False)) ∧
  (∀ (n d : Nat) (L : List (Option iV)) (st : List iV) (h : iH) (Q : Option iV → iH → Prop), G sp sc [] d mX12_fate (n + 1) 70 L st h Q = G sp sc [] d mX12_fate n 71 L (.inl 2 :: st) h Q) ∧
  (∀ (n d : Nat) (L : List (Option iV)) (a : Int) (b : Int) (r : List iV) (h : iH) (Q : Option iV → iH → Prop), G sp sc [] d mX12_fate (n + 1) 71 L (.inl b :: .inl a :: r) h Q = ((inI a = true ∧ inI b = true) ∧ (¬ a = b → G sp sc [] d mX12_fate n 83 L r h Q) ∧ (¬ (¬ a = b) → G sp sc [] d mX12_fate n 74 L r h Q))) ∧
  (∀ (n d : Nat) (L : List (Option iV)) (st : List iV) (h : iH) (Q : Option iV → iH → Prop), G sp sc [] d mX12_fate (n + 1) 74 L st h Q = (match ld L 0 with | some (.inr (.inr (r + 1))) => G sp sc [] d mX12_fate n 75 L (.inr (.inr (r + 1)) :: st) h Q | _ => False)) ∧
  (∀ (n d : Nat) (L : List (Option iV)) (r : List iV) (m : Nat) (h : iH) (Q : Option iV → iH → Prop), G sp sc [] d mX12_fate (n + 1) 75 L (.inr (.inr (m + 2)) :: r) h Q = (match h.1[m]? with | some (.inl (ci, fs)) => (match lkF 12 22 ci with | some k => (match fs[k]? with | some v => G sp sc [] d mX12_fate n 78 L (v :: r) h Q | none => False) | none => False) | _ => False)) ∧
  (∀ (n d : Nat) (L : List (Option iV)) (st : List iV) (h : iH) (Q : Option iV → iH → Prop), G sp sc [] d mX12_fate (n + 1) 78 L st h Q = (match ld L 1 with | some (.inl x) => G sp sc [] d mX12_fate n 79 L (.inl x :: st) h Q | _ => False)) ∧
  (∀ (n d : Nat) (L : List (Option iV)) (r : List iV) (j : Int) (m : Nat) (h : iH) (Q : Option iV → iH → Prop), G sp sc [] d mX12_fate (n + 1) 79 L (.inl j :: .inr (.inr (m + 2)) :: r) h Q = (match h.1[m]? with | some (.inr (.inl (0, xs))) => inA j xs.length = true ∧ G sp sc [] d mX12_fate n 80 L (.inl (xs.getD j.toNat 0) :: r) h Q | _ => False)) ∧
  (∀ (n d : Nat) (L : List (Option iV)) (st : List iV) (h : iH) (Q : Option iV → iH → Prop), G sp sc [] d mX12_fate (n + 1) 80 L st h Q = G sp sc [] d mX12_fate n 89 L st h Q) ∧
  (∀ (n d : Nat) (L : List (Option iV)) (st : List iV) (h : iH) (Q : Option iV → iH → Prop), G sp sc [] d mX12_fate (n + 1) 83 L st h Q = (match ld L 0 with | some (.inr (.inr (r + 1))) => G sp sc [] d mX12_fate n 84 L (.inr (.inr (r + 1)) :: st) h Q | _ => False)) ∧
  (∀ (n d : Nat) (L : List (Option iV)) (r : List iV) (m : Nat) (h : iH) (Q : Option iV → iH → Prop), G sp sc [] d mX12_fate (n + 1) 84 L (.inr (.inr (m + 2)) :: r) h Q = (match h.1[m]? with | some (.inl (ci, fs)) => (match lkF 12 25 ci with | some k => (match fs[k]? with | some v => G sp sc [] d mX12_fate n 87 L (v :: r) h Q | none => False) | none => False) | _ => False)) ∧
  (∀ (n d : Nat) (L : List (Option iV)) (st : List iV) (h : iH) (Q : Option iV → iH → Prop), G sp sc [] d mX12_fate (n + 1) 87 L st h Q = (match ld L 1 with | some (.inl x) => G sp sc [] d mX12_fate n 88 L (.inl x :: st) h Q | _ => False)) ∧
  (∀ (n d : Nat) (L : List (Option iV)) (r : List iV) (j : Int) (m : Nat) (h : iH) (Q : Option iV → iH → Prop), G sp sc [] d mX12_fate (n + 1) 88 L (.inl j :: .inr (.inr (m + 2)) :: r) h Q = (match h.1[m]? with | some (.inr (.inl (0, xs))) => inA j xs.length = true ∧ G sp sc [] d mX12_fate n 89 L (.inl (xs.getD j.toNat 0) :: r) h Q | _ => False)) ∧
  (∀ (n d : Nat) (L : List (Option iV)) (a : Int) (h : iH) (Q : Option iV → iH → Prop), G sp sc [] d mX12_fate (n + 1) 89 L [.inl a] h Q = Q (some (.inl a)) h) ∧
  lkC 12 208 12 = some (mX12_isCouple, 1, 2) ∧
  lkC 12 211 12 = some (mX12_inMind, 1, 2) ∧
  lkF 12 13 12 = some 1 ∧
  lkF 12 22 12 = some 5 ∧
  lkF 12 25 12 = some 6 := ⟨by intros; exact G_at (by decide +kernel : fetch mX12_fate 0 = some (.aload_n 0)),
  by intros; exact G_at (by decide +kernel : fetch mX12_fate 1 = some (.iload_n 1)),
  by intros; exact G_callV (by decide +kernel : fetch mX12_fate 2 = some (.invokevirtual 208)) (by decide +kernel) (by decide +kernel) rfl,
  by intros; exact G_at (by decide +kernel : fetch mX12_fate 5 = some (.ifCond .eq 22)),
  by intros; exact G_at (by decide +kernel : fetch mX12_fate 8 = some (.iload_n 2)),
  by intros; exact G_at (by decide +kernel : fetch mX12_fate 9 = some (.iconst 0)),
  by intros; exact G_at (by decide +kernel : fetch mX12_fate 10 = some (.bipush 60)),
  by intros; exact G_callS (k := 3) (kd := 0) (by decide +kernel : fetch mX12_fate 12 = some (.invokestatic 67)) (by decide +kernel) (by decide +kernel) (by decide +kernel) rfl (by decide),
  by intros; exact G_at (by decide +kernel : fetch mX12_fate 15 = some (.ifCond .eq 12)),
  by intros; exact G_at (by decide +kernel : fetch mX12_fate 18 = some (.iload_n 3)),
  by intros; exact G_at (by decide +kernel : fetch mX12_fate 19 = some (.iconst 0)),
  by intros; exact G_at (by decide +kernel : fetch mX12_fate 20 = some (.iconst 3)),
  by intros; exact G_callS (k := 3) (kd := 0) (by decide +kernel : fetch mX12_fate 21 = some (.invokestatic 67)) (by decide +kernel) (by decide +kernel) (by decide +kernel) rfl (by decide),
  by intros; exact G_at (by decide +kernel : fetch mX12_fate 24 = some (.ifCond .ne 5)),
  by intros; exact G_at (by decide +kernel : fetch mX12_fate 27 = some (.iconst (-1))),
  by intros; exact G_reti (by decide +kernel : fetch mX12_fate 28 = some (.ireturn)) (by decide +kernel),
  by intros; exact G_at (by decide +kernel : fetch mX12_fate 29 = some (.aload_n 0)),
  by intros; exact G_at (by decide +kernel : fetch mX12_fate 30 = some (.iload_n 2)),
  by intros; exact G_callV (by decide +kernel : fetch mX12_fate 31 = some (.invokevirtual 211)) (by decide +kernel) (by decide +kernel) rfl,
  by intros; exact G_at (by decide +kernel : fetch mX12_fate 34 = some (.iload_n 3)),
  by intros; exact G_at (by decide +kernel : fetch mX12_fate 35 = some (.ifCond .ne 16)),
  by intros; exact G_at (by decide +kernel : fetch mX12_fate 38 = some (.aload_n 0)),
  by intros; exact G_own (by decide +kernel : fetch mX12_fate 39 = some (.getfield 13)) (by decide +kernel),
  by intros; exact G_at (by decide +kernel : fetch mX12_fate 42 = some (.iload_n 1)),
  by intros; exact G_at (by decide +kernel : fetch mX12_fate 43 = some (.iconst 2)),
  by intros; exact G_callS (k := 2) (kd := 0) (by decide +kernel : fetch mX12_fate 44 = some (.invokestatic 92)) (by decide +kernel) (by decide +kernel) (by decide +kernel) rfl (by decide),
  by intros; exact G_at (by decide +kernel : fetch mX12_fate 47 = some (.iaload)),
  by intros; exact G_at (by decide +kernel : fetch mX12_fate 48 = some (.goto 41)),
  by intros; exact G_at (by decide +kernel : fetch mX12_fate 51 = some (.iload_n 3)),
  by intros; exact G_at (by decide +kernel : fetch mX12_fate 52 = some (.iconst 1)),
  by intros; exact G_at (by decide +kernel : fetch mX12_fate 53 = some (.if_icmp .ne 16)),
  by intros; exact G_at (by decide +kernel : fetch mX12_fate 56 = some (.aload_n 0)),
  by intros; exact G_own (by decide +kernel : fetch mX12_fate 57 = some (.getfield 13)) (by decide +kernel),
  by intros; exact G_at (by decide +kernel : fetch mX12_fate 60 = some (.iload_n 1)),
  by intros; exact G_at (by decide +kernel : fetch mX12_fate 61 = some (.iconst 3)),
  by intros; exact G_callS (k := 2) (kd := 0) (by decide +kernel : fetch mX12_fate 62 = some (.invokestatic 92)) (by decide +kernel) (by decide +kernel) (by decide +kernel) rfl (by decide),
  by intros; exact G_at (by decide +kernel : fetch mX12_fate 65 = some (.iaload)),
  by intros; exact G_at (by decide +kernel : fetch mX12_fate 66 = some (.goto 23)),
  by intros; exact G_at (by decide +kernel : fetch mX12_fate 69 = some (.iload_n 3)),
  by intros; exact G_at (by decide +kernel : fetch mX12_fate 70 = some (.iconst 2)),
  by intros; exact G_at (by decide +kernel : fetch mX12_fate 71 = some (.if_icmp .ne 12)),
  by intros; exact G_at (by decide +kernel : fetch mX12_fate 74 = some (.aload_n 0)),
  by intros; exact G_own (by decide +kernel : fetch mX12_fate 75 = some (.getfield 22)) (by decide +kernel),
  by intros; exact G_at (by decide +kernel : fetch mX12_fate 78 = some (.iload_n 1)),
  by intros; exact G_at (by decide +kernel : fetch mX12_fate 79 = some (.iaload)),
  by intros; exact G_at (by decide +kernel : fetch mX12_fate 80 = some (.goto 9)),
  by intros; exact G_at (by decide +kernel : fetch mX12_fate 83 = some (.aload_n 0)),
  by intros; exact G_own (by decide +kernel : fetch mX12_fate 84 = some (.getfield 25)) (by decide +kernel),
  by intros; exact G_at (by decide +kernel : fetch mX12_fate 87 = some (.iload_n 1)),
  by intros; exact G_at (by decide +kernel : fetch mX12_fate 88 = some (.iaload)),
  by intros; exact G_reti (by decide +kernel : fetch mX12_fate 89 = some (.ireturn)) (by decide +kernel),
  by decide +kernel,
  by decide +kernel,
  by decide +kernel,
  by decide +kernel,
  by decide +kernel⟩
theorem gX12_then : (∀ (n d : Nat) (L : List (Option iV)) (st : List iV) (h : iH) (Q : Option iV → iH → Prop), G sp sc [] d mX12_then (n + 1) 0 L st h Q = (match ld L 0 with | some (.inr (.inr (r + 1))) => G sp sc [] d mX12_then n 1 L (.inr (.inr (r + 1)) :: st) h Q | _ => False)) ∧
  (∀ (n d : Nat) (L : List (Option iV)) (st : List iV) (h : iH) (Q : Option iV → iH → Prop), G sp sc [] d mX12_then (n + 1) 1 L st h Q = (match ld L 1 with | some (.inl x) => G sp sc [] d mX12_then n 2 L (.inl x :: st) h Q | _ => False)) ∧
  (∀ (n d : Nat) (L : List (Option iV)) (st : List iV) (h : iH) (Q : Option iV → iH → Prop), G sp sc [] d mX12_then (n + 1) 2 L st h Q = (match ld L 2 with | some (.inl x) => G sp sc [] d mX12_then n 3 L (.inl x :: st) h Q | _ => False)) ∧
  (∀ (n d : Nat) (L : List (Option iV)) (r : List iV) (m : Nat) (z0 : iV) (z1 : iV) (h : iH) (Q : Option iV → iH → Prop), G sp sc [] (d + 1) mX12_then (n + 1) 3 L (z1 :: z0 :: .inr (.inr (m + 2)) :: r) h Q = (match h.1[m]? with | some (.inl (ci, _)) => (match lkC 12 175 ci with | some (y1, n1, kd) => (n1 = 2 ∧ (kd = 2 ∨ kd = 3 ∨ kd = 8) ∧ cs r ≤ 8) ∧ Call sp sc d y1 [.inr (.inr (m + 2)), z0, z1] h (fun q h1 => GC sp sc [] (d + 1) mX12_then n 6 L q r h h1 Q) | none => False) | _ => False)) ∧
  (∀ (n d : Nat) (L : List (Option iV)) (a : Int) (r : List iV) (h : iH) (Q : Option iV → iH → Prop), G sp sc [] d mX12_then (n + 1) 6 L (.inl a :: r) h Q = (inI a = true ∧ (a = 0 → G sp sc [] d mX12_then n 31 L r h Q) ∧ (¬ (a = 0) → G sp sc [] d mX12_then n 9 L r h Q))) ∧
  (∀ (n d : Nat) (L : List (Option iV)) (st : List iV) (h : iH) (Q : Option iV → iH → Prop), G sp sc [] d mX12_then (n + 1) 9 L st h Q = (match ld L 0 with | some (.inr (.inr (r + 1))) => G sp sc [] d mX12_then n 10 L (.inr (.inr (r + 1)) :: st) h Q | _ => False)) ∧
  (∀ (n d : Nat) (L : List (Option iV)) (st : List iV) (h : iH) (Q : Option iV → iH → Prop), G sp sc [] d mX12_then (n + 1) 10 L st h Q = G sp sc [] d mX12_then n 11 L (.inl 1 :: st) h Q) ∧
  (∀ (n d : Nat) (L : List (Option iV)) (st : List iV) (h : iH) (Q : Option iV → iH → Prop), G sp sc [] d mX12_then (n + 1) 11 L st h Q = (match ld L 1 with | some (.inl x) => G sp sc [] d mX12_then n 12 L (.inl x :: st) h Q | _ => False)) ∧
  (∀ (n d : Nat) (L : List (Option iV)) (a : Int) (b : Int) (r : List iV) (h : iH) (Q : Option iV → iH → Prop), G sp sc [] d mX12_then (n + 1) 12 L (.inl b :: .inl a :: r) h Q = G sp sc [] d mX12_then n 13 L (.inl (a - b) :: r) h Q) ∧
  (∀ (n d : Nat) (L : List (Option iV)) (st : List iV) (h : iH) (Q : Option iV → iH → Prop), G sp sc [] d mX12_then (n + 1) 13 L st h Q = (match ld L 3 with | some (.inl x) => G sp sc [] d mX12_then n 14 L (.inl x :: st) h Q | _ => False)) ∧
  (∀ (n d : Nat) (L : List (Option iV)) (r : List iV) (m : Nat) (z0 : iV) (z1 : iV) (h : iH) (Q : Option iV → iH → Prop), G sp sc [] (d + 1) mX12_then (n + 1) 14 L (z1 :: z0 :: .inr (.inr (m + 2)) :: r) h Q = (match h.1[m]? with | some (.inl (ci, _)) => (match lkC 12 175 ci with | some (y1, n1, kd) => (n1 = 2 ∧ (kd = 2 ∨ kd = 3 ∨ kd = 8) ∧ cs r ≤ 8) ∧ Call sp sc d y1 [.inr (.inr (m + 2)), z0, z1] h (fun q h1 => GC sp sc [] (d + 1) mX12_then n 17 L q r h h1 Q) | none => False) | _ => False)) ∧
  (∀ (n d : Nat) (L : List (Option iV)) (a : Int) (r : List iV) (h : iH) (Q : Option iV → iH → Prop), G sp sc [] d mX12_then (n + 1) 17 L (.inl a :: r) h Q = (inI a = true ∧ (a = 0 → G sp sc [] d mX12_then n 31 L r h Q) ∧ (¬ (a = 0) → G sp sc [] d mX12_then n 20 L r h Q))) ∧
  (∀ (n d : Nat) (L : List (Option iV)) (st : List iV) (h : iH) (Q : Option iV → iH → Prop), G sp sc [] d mX12_then (n + 1) 20 L st h Q = (match ld L 4 with | some (.inl x) => G sp sc [] d mX12_then n 22 L (.inl x :: st) h Q | _ => False)) ∧
  (∀ (n d : Nat) (L : List (Option iV)) (st : List iV) (h : iH) (Q : Option iV → iH → Prop), G sp sc [] d mX12_then (n + 1) 22 L st h Q = G sp sc [] d mX12_then n 23 L (.inl 0 :: st) h Q) ∧
  (∀ (n d : Nat) (L : List (Option iV)) (st : List iV) (h : iH) (Q : Option iV → iH → Prop), G sp sc [] d mX12_then (n + 1) 23 L st h Q = ((-128 ≤ (60 : Int) ∧ (60 : Int) < 128) ∧ G sp sc [] d mX12_then n 25 L (.inl 60 :: st) h Q)) ∧
  (∀ (n d : Nat) (L : List (Option iV)) (r : List iV) (z0 : iV) (z1 : iV) (z2 : iV) (h : iH) (Q : Option iV → iH → Prop), G sp sc [] (d + 1) mX12_then (n + 1) 25 L (z2 :: z1 :: z0 :: r) h Q = (cs r ≤ 8 ∧ Call sp sc d mX12_isIn [z0, z1, z2] h (fun q h1 => GC sp sc [] (d + 1) mX12_then n 28 L q r h h1 Q))) ∧
  (∀ (n d : Nat) (L : List (Option iV)) (a : Int) (r : List iV) (h : iH) (Q : Option iV → iH → Prop), G sp sc [] d mX12_then (n + 1) 28 L (.inl a :: r) h Q = (inI a = true ∧ (¬ a = 0 → G sp sc [] d mX12_then n 33 L r h Q) ∧ (¬ (¬ a = 0) → G sp sc [] d mX12_then n 31 L r h Q))) ∧
  (∀ (n d : Nat) (L : List (Option iV)) (st : List iV) (h : iH) (Q : Option iV → iH → Prop), G sp sc [] d mX12_then (n + 1) 31 L st h Q = G sp sc [] d mX12_then n 32 L (.inl (-1) :: st) h Q) ∧
  (∀ (n d : Nat) (L : List (Option iV)) (a : Int) (h : iH) (Q : Option iV → iH → Prop), G sp sc [] d mX12_then (n + 1) 32 L [.inl a] h Q = Q (some (.inl a)) h) ∧
  (∀ (n d : Nat) (L : List (Option iV)) (st : List iV) (h : iH) (Q : Option iV → iH → Prop), G sp sc [] d mX12_then (n + 1) 33 L st h Q = (match ld L 0 with | some (.inr (.inr (r + 1))) => G sp sc [] d mX12_then n 34 L (.inr (.inr (r + 1)) :: st) h Q | _ => False)) ∧
  (∀ (n d : Nat) (L : List (Option iV)) (st : List iV) (h : iH) (Q : Option iV → iH → Prop), G sp sc [] d mX12_then (n + 1) 34 L st h Q = (match ld L 4 with | some (.inl x) => G sp sc [] d mX12_then n 36 L (.inl x :: st) h Q | _ => False)) ∧
  (∀ (n d : Nat) (L : List (Option iV)) (r : List iV) (m : Nat) (z0 : iV) (h : iH) (Q : Option iV → iH → Prop), G sp sc [] (d + 1) mX12_then (n + 1) 36 L (z0 :: .inr (.inr (m + 2)) :: r) h Q = (match h.1[m]? with | some (.inl (ci, _)) => (match lkC 12 211 ci with | some (y1, n1, kd) => (n1 = 1 ∧ (kd = 2 ∨ kd = 3 ∨ kd = 8) ∧ cs r ≤ 8) ∧ Call sp sc d y1 [.inr (.inr (m + 2)), z0] h (fun q h1 => GC sp sc [] (d + 1) mX12_then n 39 L q r h h1 Q) | none => False) | _ => False)) ∧
  (∀ (n d : Nat) (L : List (Option iV)) (st : List iV) (h : iH) (Q : Option iV → iH → Prop), G sp sc [] d mX12_then (n + 1) 39 L st h Q = (match ld L 0 with | some (.inr (.inr (r + 1))) => G sp sc [] d mX12_then n 40 L (.inr (.inr (r + 1)) :: st) h Q | _ => False)) ∧
  (∀ (n d : Nat) (L : List (Option iV)) (r : List iV) (m : Nat) (h : iH) (Q : Option iV → iH → Prop), G sp sc [] d mX12_then (n + 1) 40 L (.inr (.inr (m + 2)) :: r) h Q = (match h.1[m]? with | some (.inl (ci, fs)) => (match lkF 12 13 ci with | some k => (match fs[k]? with | some v => G sp sc [] d mX12_then n 43 L (v :: r) h Q | none => False) | none => False) | _ => False)) ∧
  (∀ (n d : Nat) (L : List (Option iV)) (st : List iV) (h : iH) (Q : Option iV → iH → Prop), G sp sc [] d mX12_then (n + 1) 43 L st h Q = (match ld L 1 with | some (.inl x) => G sp sc [] d mX12_then n 44 L (.inl x :: st) h Q | _ => False)) ∧
  (∀ (n d : Nat) (L : List (Option iV)) (st : List iV) (h : iH) (Q : Option iV → iH → Prop), G sp sc [] d mX12_then (n + 1) 44 L st h Q = (match ld L 2 with | some (.inl x) => G sp sc [] d mX12_then n 45 L (.inl x :: st) h Q | _ => False)) ∧
  (∀ (n d : Nat) (L : List (Option iV)) (st : List iV) (h : iH) (Q : Option iV → iH → Prop), G sp sc [] d mX12_then (n + 1) 45 L st h Q = (match ld L 3 with | some (.inl x) => G sp sc [] d mX12_then n 46 L (.inl x :: st) h Q | _ => False)) ∧
  (∀ (n d : Nat) (L : List (Option iV)) (r : List iV) (z0 : iV) (z1 : iV) (z2 : iV) (h : iH) (Q : Option iV → iH → Prop), G sp sc [] (d + 1) mX12_then (n + 1) 46 L (z2 :: z1 :: z0 :: r) h Q = (cs r ≤ 8 ∧ Call sp sc d mX12_atLike [z0, z1, z2] h (fun q h1 => GC sp sc [] (d + 1) mX12_then n 49 L q r h h1 Q))) ∧
  (∀ (n d : Nat) (L : List (Option iV)) (r : List iV) (j : Int) (m : Nat) (h : iH) (Q : Option iV → iH → Prop), G sp sc [] d mX12_then (n + 1) 49 L (.inl j :: .inr (.inr (m + 2)) :: r) h Q = (match h.1[m]? with | some (.inr (.inl (0, xs))) => inA j xs.length = true ∧ G sp sc [] d mX12_then n 50 L (.inl (xs.getD j.toNat 0) :: r) h Q | _ => False)) ∧
  (∀ (n d : Nat) (L : List (Option iV)) (a : Int) (h : iH) (Q : Option iV → iH → Prop), G sp sc [] d mX12_then (n + 1) 50 L [.inl a] h Q = Q (some (.inl a)) h) ∧
  lkC 12 175 12 = some (mX12_isOne, 2, 2) ∧
  lkC 12 211 12 = some (mX12_inMind, 1, 2) ∧
  lkF 12 13 12 = some 1 := ⟨by intros; exact G_at (by decide +kernel : fetch mX12_then 0 = some (.aload_n 0)),
  by intros; exact G_at (by decide +kernel : fetch mX12_then 1 = some (.iload_n 1)),
  by intros; exact G_at (by decide +kernel : fetch mX12_then 2 = some (.iload_n 2)),
  by intros; exact G_callV (by decide +kernel : fetch mX12_then 3 = some (.invokevirtual 175)) (by decide +kernel) (by decide +kernel) rfl,
  by intros; exact G_at (by decide +kernel : fetch mX12_then 6 = some (.ifCond .eq 25)),
  by intros; exact G_at (by decide +kernel : fetch mX12_then 9 = some (.aload_n 0)),
  by intros; exact G_at (by decide +kernel : fetch mX12_then 10 = some (.iconst 1)),
  by intros; exact G_at (by decide +kernel : fetch mX12_then 11 = some (.iload_n 1)),
  by intros; exact G_at (by decide +kernel : fetch mX12_then 12 = some (.isub)),
  by intros; exact G_at (by decide +kernel : fetch mX12_then 13 = some (.iload_n 3)),
  by intros; exact G_callV (by decide +kernel : fetch mX12_then 14 = some (.invokevirtual 175)) (by decide +kernel) (by decide +kernel) rfl,
  by intros; exact G_at (by decide +kernel : fetch mX12_then 17 = some (.ifCond .eq 14)),
  by intros; exact G_at (by decide +kernel : fetch mX12_then 20 = some (.iload 4)),
  by intros; exact G_at (by decide +kernel : fetch mX12_then 22 = some (.iconst 0)),
  by intros; exact G_at (by decide +kernel : fetch mX12_then 23 = some (.bipush 60)),
  by intros; exact G_callS (k := 3) (kd := 0) (by decide +kernel : fetch mX12_then 25 = some (.invokestatic 67)) (by decide +kernel) (by decide +kernel) (by decide +kernel) rfl (by decide),
  by intros; exact G_at (by decide +kernel : fetch mX12_then 28 = some (.ifCond .ne 5)),
  by intros; exact G_at (by decide +kernel : fetch mX12_then 31 = some (.iconst (-1))),
  by intros; exact G_reti (by decide +kernel : fetch mX12_then 32 = some (.ireturn)) (by decide +kernel),
  by intros; exact G_at (by decide +kernel : fetch mX12_then 33 = some (.aload_n 0)),
  by intros; exact G_at (by decide +kernel : fetch mX12_then 34 = some (.iload 4)),
  by intros; exact G_callV (by decide +kernel : fetch mX12_then 36 = some (.invokevirtual 211)) (by decide +kernel) (by decide +kernel) rfl,
  by intros; exact G_at (by decide +kernel : fetch mX12_then 39 = some (.aload_n 0)),
  by intros; exact G_own (by decide +kernel : fetch mX12_then 40 = some (.getfield 13)) (by decide +kernel),
  by intros; exact G_at (by decide +kernel : fetch mX12_then 43 = some (.iload_n 1)),
  by intros; exact G_at (by decide +kernel : fetch mX12_then 44 = some (.iload_n 2)),
  by intros; exact G_at (by decide +kernel : fetch mX12_then 45 = some (.iload_n 3)),
  by intros; exact G_callS (k := 3) (kd := 0) (by decide +kernel : fetch mX12_then 46 = some (.invokestatic 109)) (by decide +kernel) (by decide +kernel) (by decide +kernel) rfl (by decide),
  by intros; exact G_at (by decide +kernel : fetch mX12_then 49 = some (.iaload)),
  by intros; exact G_reti (by decide +kernel : fetch mX12_then 50 = some (.ireturn)) (by decide +kernel),
  by decide +kernel,
  by decide +kernel,
  by decide +kernel⟩
theorem gX12_bound : (∀ (n d : Nat) (L : List (Option iV)) (st : List iV) (h : iH) (Q : Option iV → iH → Prop), G sp sc [] d mX12_bound (n + 1) 0 L st h Q = (match ld L 0 with | some (.inr (.inr (r + 1))) => G sp sc [] d mX12_bound n 1 L (.inr (.inr (r + 1)) :: st) h Q | _ => False)) ∧
  (∀ (n d : Nat) (L : List (Option iV)) (st : List iV) (h : iH) (Q : Option iV → iH → Prop), G sp sc [] d mX12_bound (n + 1) 1 L st h Q = (match ld L 1 with | some (.inl x) => G sp sc [] d mX12_bound n 2 L (.inl x :: st) h Q | _ => False)) ∧
  (∀ (n d : Nat) (L : List (Option iV)) (st : List iV) (h : iH) (Q : Option iV → iH → Prop), G sp sc [] d mX12_bound (n + 1) 2 L st h Q = (match ld L 2 with | some (.inl x) => G sp sc [] d mX12_bound n 3 L (.inl x :: st) h Q | _ => False)) ∧
  (∀ (n d : Nat) (L : List (Option iV)) (r : List iV) (m : Nat) (z0 : iV) (z1 : iV) (h : iH) (Q : Option iV → iH → Prop), G sp sc [] (d + 1) mX12_bound (n + 1) 3 L (z1 :: z0 :: .inr (.inr (m + 2)) :: r) h Q = (match h.1[m]? with | some (.inl (ci, _)) => (match lkC 12 175 ci with | some (y1, n1, kd) => (n1 = 2 ∧ (kd = 2 ∨ kd = 3 ∨ kd = 8) ∧ cs r ≤ 8) ∧ Call sp sc d y1 [.inr (.inr (m + 2)), z0, z1] h (fun q h1 => GC sp sc [] (d + 1) mX12_bound n 6 L q r h h1 Q) | none => False) | _ => False)) ∧
  (∀ (n d : Nat) (L : List (Option iV)) (a : Int) (r : List iV) (h : iH) (Q : Option iV → iH → Prop), G sp sc [] d mX12_bound (n + 1) 6 L (.inl a :: r) h Q = (inI a = true ∧ (a = 0 → G sp sc [] d mX12_bound n 19 L r h Q) ∧ (¬ (a = 0) → G sp sc [] d mX12_bound n 9 L r h Q))) ∧
  (∀ (n d : Nat) (L : List (Option iV)) (st : List iV) (h : iH) (Q : Option iV → iH → Prop), G sp sc [] d mX12_bound (n + 1) 9 L st h Q = (match ld L 3 with | some (.inl x) => G sp sc [] d mX12_bound n 10 L (.inl x :: st) h Q | _ => False)) ∧
  (∀ (n d : Nat) (L : List (Option iV)) (st : List iV) (h : iH) (Q : Option iV → iH → Prop), G sp sc [] d mX12_bound (n + 1) 10 L st h Q = G sp sc [] d mX12_bound n 11 L (.inl 0 :: st) h Q) ∧
  (∀ (n d : Nat) (L : List (Option iV)) (st : List iV) (h : iH) (Q : Option iV → iH → Prop), G sp sc [] d mX12_bound (n + 1) 11 L st h Q = ((-128 ≤ (60 : Int) ∧ (60 : Int) < 128) ∧ G sp sc [] d mX12_bound n 13 L (.inl 60 :: st) h Q)) ∧
  (∀ (n d : Nat) (L : List (Option iV)) (r : List iV) (z0 : iV) (z1 : iV) (z2 : iV) (h : iH) (Q : Option iV → iH → Prop), G sp sc [] (d + 1) mX12_bound (n + 1) 13 L (z2 :: z1 :: z0 :: r) h Q = (cs r ≤ 8 ∧ Call sp sc d mX12_isIn [z0, z1, z2] h (fun q h1 => GC sp sc [] (d + 1) mX12_bound n 16 L q r h h1 Q))) ∧
  (∀ (n d : Nat) (L : List (Option iV)) (a : Int) (r : List iV) (h : iH) (Q : Option iV → iH → Prop), G sp sc [] d mX12_bound (n + 1) 16 L (.inl a :: r) h Q = (inI a = true ∧ (¬ a = 0 → G sp sc [] d mX12_bound n 21 L r h Q) ∧ (¬ (¬ a = 0) → G sp sc [] d mX12_bound n 19 L r h Q))) ∧
  (∀ (n d : Nat) (L : List (Option iV)) (st : List iV) (h : iH) (Q : Option iV → iH → Prop), G sp sc [] d mX12_bound (n + 1) 19 L st h Q = G sp sc [] d mX12_bound n 20 L (.inl (-1) :: st) h Q) ∧
  (∀ (n d : Nat) (L : List (Option iV)) (a : Int) (h : iH) (Q : Option iV → iH → Prop), G sp sc [] d mX12_bound (n + 1) 20 L [.inl a] h Q = Q (some (.inl a)) h) ∧
  (∀ (n d : Nat) (L : List (Option iV)) (st : List iV) (h : iH) (Q : Option iV → iH → Prop), G sp sc [] d mX12_bound (n + 1) 21 L st h Q = (match ld L 0 with | some (.inr (.inr (r + 1))) => G sp sc [] d mX12_bound n 22 L (.inr (.inr (r + 1)) :: st) h Q | _ => False)) ∧
  (∀ (n d : Nat) (L : List (Option iV)) (st : List iV) (h : iH) (Q : Option iV → iH → Prop), G sp sc [] d mX12_bound (n + 1) 22 L st h Q = (match ld L 3 with | some (.inl x) => G sp sc [] d mX12_bound n 23 L (.inl x :: st) h Q | _ => False)) ∧
  (∀ (n d : Nat) (L : List (Option iV)) (r : List iV) (m : Nat) (z0 : iV) (h : iH) (Q : Option iV → iH → Prop), G sp sc [] (d + 1) mX12_bound (n + 1) 23 L (z0 :: .inr (.inr (m + 2)) :: r) h Q = (match h.1[m]? with | some (.inl (ci, _)) => (match lkC 12 211 ci with | some (y1, n1, kd) => (n1 = 1 ∧ (kd = 2 ∨ kd = 3 ∨ kd = 8) ∧ cs r ≤ 8) ∧ Call sp sc d y1 [.inr (.inr (m + 2)), z0] h (fun q h1 => GC sp sc [] (d + 1) mX12_bound n 26 L q r h h1 Q) | none => False) | _ => False)) ∧
  (∀ (n d : Nat) (L : List (Option iV)) (st : List iV) (h : iH) (Q : Option iV → iH → Prop), G sp sc [] d mX12_bound (n + 1) 26 L st h Q = (match ld L 0 with | some (.inr (.inr (r + 1))) => G sp sc [] d mX12_bound n 27 L (.inr (.inr (r + 1)) :: st) h Q | _ => False)) ∧
  (∀ (n d : Nat) (L : List (Option iV)) (r : List iV) (m : Nat) (h : iH) (Q : Option iV → iH → Prop), G sp sc [] d mX12_bound (n + 1) 27 L (.inr (.inr (m + 2)) :: r) h Q = (match h.1[m]? with | some (.inl (ci, fs)) => (match lkF 12 13 ci with | some k => (match fs[k]? with | some v => G sp sc [] d mX12_bound n 30 L (v :: r) h Q | none => False) | none => False) | _ => False)) ∧
  (∀ (n d : Nat) (L : List (Option iV)) (st : List iV) (h : iH) (Q : Option iV → iH → Prop), G sp sc [] d mX12_bound (n + 1) 30 L st h Q = (match ld L 1 with | some (.inl x) => G sp sc [] d mX12_bound n 31 L (.inl x :: st) h Q | _ => False)) ∧
  (∀ (n d : Nat) (L : List (Option iV)) (st : List iV) (h : iH) (Q : Option iV → iH → Prop), G sp sc [] d mX12_bound (n + 1) 31 L st h Q = (match ld L 2 with | some (.inl x) => G sp sc [] d mX12_bound n 32 L (.inl x :: st) h Q | _ => False)) ∧
  (∀ (n d : Nat) (L : List (Option iV)) (st : List iV) (h : iH) (Q : Option iV → iH → Prop), G sp sc [] d mX12_bound (n + 1) 32 L st h Q = G sp sc [] d mX12_bound n 33 L (.inl 3 :: st) h Q) ∧
  (∀ (n d : Nat) (L : List (Option iV)) (r : List iV) (z0 : iV) (z1 : iV) (z2 : iV) (h : iH) (Q : Option iV → iH → Prop), G sp sc [] (d + 1) mX12_bound (n + 1) 33 L (z2 :: z1 :: z0 :: r) h Q = (cs r ≤ 8 ∧ Call sp sc d mX12_atOne [z0, z1, z2] h (fun q h1 => GC sp sc [] (d + 1) mX12_bound n 36 L q r h h1 Q))) ∧
  (∀ (n d : Nat) (L : List (Option iV)) (r : List iV) (j : Int) (m : Nat) (h : iH) (Q : Option iV → iH → Prop), G sp sc [] d mX12_bound (n + 1) 36 L (.inl j :: .inr (.inr (m + 2)) :: r) h Q = (match h.1[m]? with | some (.inr (.inl (0, xs))) => inA j xs.length = true ∧ G sp sc [] d mX12_bound n 37 L (.inl (xs.getD j.toNat 0) :: r) h Q | _ => False)) ∧
  (∀ (n d : Nat) (L : List (Option iV)) (r : List iV) (z0 : iV) (h : iH) (Q : Option iV → iH → Prop), G sp sc [] (d + 1) mX12_bound (n + 1) 37 L (z0 :: r) h Q = (cs r ≤ 8 ∧ Call sp sc d mX12_orNone [z0] h (fun q h1 => GC sp sc [] (d + 1) mX12_bound n 40 L q r h h1 Q))) ∧
  (∀ (n d : Nat) (L : List (Option iV)) (a : Int) (h : iH) (Q : Option iV → iH → Prop), G sp sc [] d mX12_bound (n + 1) 40 L [.inl a] h Q = Q (some (.inl a)) h) ∧
  lkC 12 175 12 = some (mX12_isOne, 2, 2) ∧
  lkC 12 211 12 = some (mX12_inMind, 1, 2) ∧
  lkF 12 13 12 = some 1 := ⟨by intros; exact G_at (by decide +kernel : fetch mX12_bound 0 = some (.aload_n 0)),
  by intros; exact G_at (by decide +kernel : fetch mX12_bound 1 = some (.iload_n 1)),
  by intros; exact G_at (by decide +kernel : fetch mX12_bound 2 = some (.iload_n 2)),
  by intros; exact G_callV (by decide +kernel : fetch mX12_bound 3 = some (.invokevirtual 175)) (by decide +kernel) (by decide +kernel) rfl,
  by intros; exact G_at (by decide +kernel : fetch mX12_bound 6 = some (.ifCond .eq 13)),
  by intros; exact G_at (by decide +kernel : fetch mX12_bound 9 = some (.iload_n 3)),
  by intros; exact G_at (by decide +kernel : fetch mX12_bound 10 = some (.iconst 0)),
  by intros; exact G_at (by decide +kernel : fetch mX12_bound 11 = some (.bipush 60)),
  by intros; exact G_callS (k := 3) (kd := 0) (by decide +kernel : fetch mX12_bound 13 = some (.invokestatic 67)) (by decide +kernel) (by decide +kernel) (by decide +kernel) rfl (by decide),
  by intros; exact G_at (by decide +kernel : fetch mX12_bound 16 = some (.ifCond .ne 5)),
  by intros; exact G_at (by decide +kernel : fetch mX12_bound 19 = some (.iconst (-1))),
  by intros; exact G_reti (by decide +kernel : fetch mX12_bound 20 = some (.ireturn)) (by decide +kernel),
  by intros; exact G_at (by decide +kernel : fetch mX12_bound 21 = some (.aload_n 0)),
  by intros; exact G_at (by decide +kernel : fetch mX12_bound 22 = some (.iload_n 3)),
  by intros; exact G_callV (by decide +kernel : fetch mX12_bound 23 = some (.invokevirtual 211)) (by decide +kernel) (by decide +kernel) rfl,
  by intros; exact G_at (by decide +kernel : fetch mX12_bound 26 = some (.aload_n 0)),
  by intros; exact G_own (by decide +kernel : fetch mX12_bound 27 = some (.getfield 13)) (by decide +kernel),
  by intros; exact G_at (by decide +kernel : fetch mX12_bound 30 = some (.iload_n 1)),
  by intros; exact G_at (by decide +kernel : fetch mX12_bound 31 = some (.iload_n 2)),
  by intros; exact G_at (by decide +kernel : fetch mX12_bound 32 = some (.iconst 3)),
  by intros; exact G_callS (k := 3) (kd := 0) (by decide +kernel : fetch mX12_bound 33 = some (.invokestatic 88)) (by decide +kernel) (by decide +kernel) (by decide +kernel) rfl (by decide),
  by intros; exact G_at (by decide +kernel : fetch mX12_bound 36 = some (.iaload)),
  by intros; exact G_callS (k := 1) (kd := 0) (by decide +kernel : fetch mX12_bound 37 = some (.invokestatic 195)) (by decide +kernel) (by decide +kernel) (by decide +kernel) rfl (by decide),
  by intros; exact G_reti (by decide +kernel : fetch mX12_bound 40 = some (.ireturn)) (by decide +kernel),
  by decide +kernel,
  by decide +kernel,
  by decide +kernel⟩
theorem gX12_slips : (∀ (n d : Nat) (L : List (Option iV)) (st : List iV) (h : iH) (Q : Option iV → iH → Prop), G sp sc [] d mX12_slips (n + 1) 0 L st h Q = (match ld L 1 with | some (.inl x) => G sp sc [] d mX12_slips n 1 L (.inl x :: st) h Q | _ => False)) ∧
  (∀ (n d : Nat) (L : List (Option iV)) (st : List iV) (h : iH) (Q : Option iV → iH → Prop), G sp sc [] d mX12_slips (n + 1) 1 L st h Q = G sp sc [] d mX12_slips n 2 L (.inl 0 :: st) h Q) ∧
  (∀ (n d : Nat) (L : List (Option iV)) (st : List iV) (h : iH) (Q : Option iV → iH → Prop), G sp sc [] d mX12_slips (n + 1) 2 L st h Q = ((-128 ≤ (60 : Int) ∧ (60 : Int) < 128) ∧ G sp sc [] d mX12_slips n 4 L (.inl 60 :: st) h Q)) ∧
  (∀ (n d : Nat) (L : List (Option iV)) (r : List iV) (z0 : iV) (z1 : iV) (z2 : iV) (h : iH) (Q : Option iV → iH → Prop), G sp sc [] (d + 1) mX12_slips (n + 1) 4 L (z2 :: z1 :: z0 :: r) h Q = (cs r ≤ 8 ∧ Call sp sc d mX12_isIn [z0, z1, z2] h (fun q h1 => GC sp sc [] (d + 1) mX12_slips n 7 L q r h h1 Q))) ∧
  (∀ (n d : Nat) (L : List (Option iV)) (a : Int) (r : List iV) (h : iH) (Q : Option iV → iH → Prop), G sp sc [] d mX12_slips (n + 1) 7 L (.inl a :: r) h Q = (inI a = true ∧ (a = 0 → G sp sc [] d mX12_slips n 19 L r h Q) ∧ (¬ (a = 0) → G sp sc [] d mX12_slips n 10 L r h Q))) ∧
  (∀ (n d : Nat) (L : List (Option iV)) (st : List iV) (h : iH) (Q : Option iV → iH → Prop), G sp sc [] d mX12_slips (n + 1) 10 L st h Q = (match ld L 2 with | some (.inl x) => G sp sc [] d mX12_slips n 11 L (.inl x :: st) h Q | _ => False)) ∧
  (∀ (n d : Nat) (L : List (Option iV)) (st : List iV) (h : iH) (Q : Option iV → iH → Prop), G sp sc [] d mX12_slips (n + 1) 11 L st h Q = G sp sc [] d mX12_slips n 12 L (.inl 0 :: st) h Q) ∧
  (∀ (n d : Nat) (L : List (Option iV)) (st : List iV) (h : iH) (Q : Option iV → iH → Prop), G sp sc [] d mX12_slips (n + 1) 12 L st h Q = G sp sc [] d mX12_slips n 13 L (.inl 1 :: st) h Q) ∧
  (∀ (n d : Nat) (L : List (Option iV)) (r : List iV) (z0 : iV) (z1 : iV) (z2 : iV) (h : iH) (Q : Option iV → iH → Prop), G sp sc [] (d + 1) mX12_slips (n + 1) 13 L (z2 :: z1 :: z0 :: r) h Q = (cs r ≤ 8 ∧ Call sp sc d mX12_isIn [z0, z1, z2] h (fun q h1 => GC sp sc [] (d + 1) mX12_slips n 16 L q r h h1 Q))) ∧
  (∀ (n d : Nat) (L : List (Option iV)) (a : Int) (r : List iV) (h : iH) (Q : Option iV → iH → Prop), G sp sc [] d mX12_slips (n + 1) 16 L (.inl a :: r) h Q = (inI a = true ∧ (¬ a = 0 → G sp sc [] d mX12_slips n 21 L r h Q) ∧ (¬ (¬ a = 0) → G sp sc [] d mX12_slips n 19 L r h Q))) ∧
  (∀ (n d : Nat) (L : List (Option iV)) (st : List iV) (h : iH) (Q : Option iV → iH → Prop), G sp sc [] d mX12_slips (n + 1) 19 L st h Q = G sp sc [] d mX12_slips n 20 L (.inl (-1) :: st) h Q) ∧
  (∀ (n d : Nat) (L : List (Option iV)) (a : Int) (h : iH) (Q : Option iV → iH → Prop), G sp sc [] d mX12_slips (n + 1) 20 L [.inl a] h Q = Q (some (.inl a)) h) ∧
  (∀ (n d : Nat) (L : List (Option iV)) (st : List iV) (h : iH) (Q : Option iV → iH → Prop), G sp sc [] d mX12_slips (n + 1) 21 L st h Q = (match ld L 0 with | some (.inr (.inr (r + 1))) => G sp sc [] d mX12_slips n 22 L (.inr (.inr (r + 1)) :: st) h Q | _ => False)) ∧
  (∀ (n d : Nat) (L : List (Option iV)) (st : List iV) (h : iH) (Q : Option iV → iH → Prop), G sp sc [] d mX12_slips (n + 1) 22 L st h Q = (match ld L 1 with | some (.inl x) => G sp sc [] d mX12_slips n 23 L (.inl x :: st) h Q | _ => False)) ∧
  (∀ (n d : Nat) (L : List (Option iV)) (r : List iV) (m : Nat) (z0 : iV) (h : iH) (Q : Option iV → iH → Prop), G sp sc [] (d + 1) mX12_slips (n + 1) 23 L (z0 :: .inr (.inr (m + 2)) :: r) h Q = (match h.1[m]? with | some (.inl (ci, _)) => (match lkC 12 211 ci with | some (y1, n1, kd) => (n1 = 1 ∧ (kd = 2 ∨ kd = 3 ∨ kd = 8) ∧ cs r ≤ 8) ∧ Call sp sc d y1 [.inr (.inr (m + 2)), z0] h (fun q h1 => GC sp sc [] (d + 1) mX12_slips n 26 L q r h h1 Q) | none => False) | _ => False)) ∧
  (∀ (n d : Nat) (L : List (Option iV)) (st : List iV) (h : iH) (Q : Option iV → iH → Prop), G sp sc [] d mX12_slips (n + 1) 26 L st h Q = (match ld L 2 with | some (.inl x) => G sp sc [] d mX12_slips n 27 L (.inl x :: st) h Q | _ => False)) ∧
  (∀ (n d : Nat) (L : List (Option iV)) (a : Int) (r : List iV) (h : iH) (Q : Option iV → iH → Prop), G sp sc [] d mX12_slips (n + 1) 27 L (.inl a :: r) h Q = (inI a = true ∧ (¬ a = 0 → G sp sc [] d mX12_slips n 37 L r h Q) ∧ (¬ (¬ a = 0) → G sp sc [] d mX12_slips n 30 L r h Q))) ∧
  (∀ (n d : Nat) (L : List (Option iV)) (st : List iV) (h : iH) (Q : Option iV → iH → Prop), G sp sc [] d mX12_slips (n + 1) 30 L st h Q = (match ld L 0 with | some (.inr (.inr (r + 1))) => G sp sc [] d mX12_slips n 31 L (.inr (.inr (r + 1)) :: st) h Q | _ => False)) ∧
  (∀ (n d : Nat) (L : List (Option iV)) (r : List iV) (m : Nat) (h : iH) (Q : Option iV → iH → Prop), G sp sc [] d mX12_slips (n + 1) 31 L (.inr (.inr (m + 2)) :: r) h Q = (match h.1[m]? with | some (.inl (ci, fs)) => (match lkF 12 79 ci with | some k => (match fs[k]? with | some v => G sp sc [] d mX12_slips n 34 L (v :: r) h Q | none => False) | none => False) | _ => False)) ∧
  (∀ (n d : Nat) (L : List (Option iV)) (st : List iV) (h : iH) (Q : Option iV → iH → Prop), G sp sc [] d mX12_slips (n + 1) 34 L st h Q = G sp sc [] d mX12_slips n 41 L st h Q) ∧
  (∀ (n d : Nat) (L : List (Option iV)) (st : List iV) (h : iH) (Q : Option iV → iH → Prop), G sp sc [] d mX12_slips (n + 1) 37 L st h Q = (match ld L 0 with | some (.inr (.inr (r + 1))) => G sp sc [] d mX12_slips n 38 L (.inr (.inr (r + 1)) :: st) h Q | _ => False)) ∧
  (∀ (n d : Nat) (L : List (Option iV)) (r : List iV) (m : Nat) (h : iH) (Q : Option iV → iH → Prop), G sp sc [] d mX12_slips (n + 1) 38 L (.inr (.inr (m + 2)) :: r) h Q = (match h.1[m]? with | some (.inl (ci, fs)) => (match lkF 12 82 ci with | some k => (match fs[k]? with | some v => G sp sc [] d mX12_slips n 41 L (v :: r) h Q | none => False) | none => False) | _ => False)) ∧
  (∀ (n d : Nat) (L : List (Option iV)) (a : Int) (h : iH) (Q : Option iV → iH → Prop), G sp sc [] d mX12_slips (n + 1) 41 L [.inl a] h Q = Q (some (.inl a)) h) ∧
  lkC 12 211 12 = some (mX12_inMind, 1, 2) ∧
  lkF 12 79 12 = some 9 ∧
  lkF 12 82 12 = some 10 := ⟨by intros; exact G_at (by decide +kernel : fetch mX12_slips 0 = some (.iload_n 1)),
  by intros; exact G_at (by decide +kernel : fetch mX12_slips 1 = some (.iconst 0)),
  by intros; exact G_at (by decide +kernel : fetch mX12_slips 2 = some (.bipush 60)),
  by intros; exact G_callS (k := 3) (kd := 0) (by decide +kernel : fetch mX12_slips 4 = some (.invokestatic 67)) (by decide +kernel) (by decide +kernel) (by decide +kernel) rfl (by decide),
  by intros; exact G_at (by decide +kernel : fetch mX12_slips 7 = some (.ifCond .eq 12)),
  by intros; exact G_at (by decide +kernel : fetch mX12_slips 10 = some (.iload_n 2)),
  by intros; exact G_at (by decide +kernel : fetch mX12_slips 11 = some (.iconst 0)),
  by intros; exact G_at (by decide +kernel : fetch mX12_slips 12 = some (.iconst 1)),
  by intros; exact G_callS (k := 3) (kd := 0) (by decide +kernel : fetch mX12_slips 13 = some (.invokestatic 67)) (by decide +kernel) (by decide +kernel) (by decide +kernel) rfl (by decide),
  by intros; exact G_at (by decide +kernel : fetch mX12_slips 16 = some (.ifCond .ne 5)),
  by intros; exact G_at (by decide +kernel : fetch mX12_slips 19 = some (.iconst (-1))),
  by intros; exact G_reti (by decide +kernel : fetch mX12_slips 20 = some (.ireturn)) (by decide +kernel),
  by intros; exact G_at (by decide +kernel : fetch mX12_slips 21 = some (.aload_n 0)),
  by intros; exact G_at (by decide +kernel : fetch mX12_slips 22 = some (.iload_n 1)),
  by intros; exact G_callV (by decide +kernel : fetch mX12_slips 23 = some (.invokevirtual 211)) (by decide +kernel) (by decide +kernel) rfl,
  by intros; exact G_at (by decide +kernel : fetch mX12_slips 26 = some (.iload_n 2)),
  by intros; exact G_at (by decide +kernel : fetch mX12_slips 27 = some (.ifCond .ne 10)),
  by intros; exact G_at (by decide +kernel : fetch mX12_slips 30 = some (.aload_n 0)),
  by intros; exact G_own (by decide +kernel : fetch mX12_slips 31 = some (.getfield 79)) (by decide +kernel),
  by intros; exact G_at (by decide +kernel : fetch mX12_slips 34 = some (.goto 7)),
  by intros; exact G_at (by decide +kernel : fetch mX12_slips 37 = some (.aload_n 0)),
  by intros; exact G_own (by decide +kernel : fetch mX12_slips 38 = some (.getfield 82)) (by decide +kernel),
  by intros; exact G_reti (by decide +kernel : fetch mX12_slips 41 = some (.ireturn)) (by decide +kernel),
  by decide +kernel,
  by decide +kernel,
  by decide +kernel⟩
theorem gX12_soonest : (∀ (n d : Nat) (L : List (Option iV)) (st : List iV) (h : iH) (Q : Option iV → iH → Prop), G sp sc [7] d mX12_soonest (n + 1) 0 L st h Q = (match ld L 0 with | some (.inr (.inr (r + 1))) => G sp sc [7] d mX12_soonest n 1 L (.inr (.inr (r + 1)) :: st) h Q | _ => False)) ∧
  (∀ (n d : Nat) (L : List (Option iV)) (st : List iV) (h : iH) (Q : Option iV → iH → Prop), G sp sc [7] d mX12_soonest (n + 1) 1 L st h Q = G sp sc [7] d mX12_soonest n 2 L (.inl 0 :: st) h Q) ∧
  (∀ (n d : Nat) (L : List (Option iV)) (r : List iV) (m : Nat) (z0 : iV) (h : iH) (Q : Option iV → iH → Prop), G sp sc [7] (d + 1) mX12_soonest (n + 1) 2 L (z0 :: .inr (.inr (m + 2)) :: r) h Q = (match h.1[m]? with | some (.inl (ci, _)) => (match lkC 12 211 ci with | some (y1, n1, kd) => (n1 = 1 ∧ (kd = 2 ∨ kd = 3 ∨ kd = 8) ∧ cs r ≤ 8) ∧ Call sp sc d y1 [.inr (.inr (m + 2)), z0] h (fun q h1 => GC sp sc [7] (d + 1) mX12_soonest n 5 L q r h h1 Q) | none => False) | _ => False)) ∧
  (∀ (n d : Nat) (L : List (Option iV)) (st : List iV) (h : iH) (Q : Option iV → iH → Prop), G sp sc [7] d mX12_soonest (n + 1) 5 L st h Q = G sp sc [7] d mX12_soonest n 6 L (.inl 0 :: st) h Q) ∧
  (∀ (n d : Nat) (L : List (Option iV)) (r : List iV) (x : Int) (h : iH) (Q : Option iV → iH → Prop), G sp sc [7] d mX12_soonest (n + 1) 6 L (.inl x :: r) h Q = (match st1 L 1 (.inl x) with | some L' => Run sp sc d mX12_soonest 7 L' r h Q | none => False)) ∧
  (∀ (n d : Nat) (L : List (Option iV)) (st : List iV) (h : iH) (Q : Option iV → iH → Prop), G sp sc [7] d mX12_soonest (n + 1) 7 L st h Q = (match ld L 1 with | some (.inl x) => G sp sc [7] d mX12_soonest n 8 L (.inl x :: st) h Q | _ => False)) ∧
  (∀ (n d : Nat) (L : List (Option iV)) (st : List iV) (h : iH) (Q : Option iV → iH → Prop), G sp sc [7] d mX12_soonest (n + 1) 8 L st h Q = ((-128 ≤ (60 : Int) ∧ (60 : Int) < 128) ∧ G sp sc [7] d mX12_soonest n 10 L (.inl 60 :: st) h Q)) ∧
  (∀ (n d : Nat) (L : List (Option iV)) (a : Int) (b : Int) (r : List iV) (h : iH) (Q : Option iV → iH → Prop), G sp sc [7] d mX12_soonest (n + 1) 10 L (.inl b :: .inl a :: r) h Q = ((inI a = true ∧ inI b = true) ∧ (b < a → G sp sc [7] d mX12_soonest n 40 L r h Q) ∧ (¬ (b < a) → G sp sc [7] d mX12_soonest n 13 L r h Q))) ∧
  (∀ (n d : Nat) (L : List (Option iV)) (st : List iV) (h : iH) (Q : Option iV → iH → Prop), G sp sc [7] d mX12_soonest (n + 1) 13 L st h Q = (match ld L 0 with | some (.inr (.inr (r + 1))) => G sp sc [7] d mX12_soonest n 14 L (.inr (.inr (r + 1)) :: st) h Q | _ => False)) ∧
  (∀ (n d : Nat) (L : List (Option iV)) (r : List iV) (m : Nat) (h : iH) (Q : Option iV → iH → Prop), G sp sc [7] d mX12_soonest (n + 1) 14 L (.inr (.inr (m + 2)) :: r) h Q = (match h.1[m]? with | some (.inl (ci, fs)) => (match lkF 12 13 ci with | some k => (match fs[k]? with | some v => G sp sc [7] d mX12_soonest n 17 L (v :: r) h Q | none => False) | none => False) | _ => False)) ∧
  (∀ (n d : Nat) (L : List (Option iV)) (st : List iV) (h : iH) (Q : Option iV → iH → Prop), G sp sc [7] d mX12_soonest (n + 1) 17 L st h Q = G sp sc [7] d mX12_soonest n 18 L (.inl 0 :: st) h Q) ∧
  (∀ (n d : Nat) (L : List (Option iV)) (r : List iV) (z0 : iV) (z1 : iV) (h : iH) (Q : Option iV → iH → Prop), G sp sc [7] (d + 1) mX12_soonest (n + 1) 18 L (z1 :: z0 :: r) h Q = (cs r ≤ 8 ∧ Call sp sc d mX12_manySuch [z0, z1] h (fun q h1 => GC sp sc [7] (d + 1) mX12_soonest n 21 L q r h h1 Q))) ∧
  (∀ (n d : Nat) (L : List (Option iV)) (a : Int) (r : List iV) (h : iH) (Q : Option iV → iH → Prop), G sp sc [7] d mX12_soonest (n + 1) 21 L (.inl a :: r) h Q = (inI a = true ∧ (¬ a = 0 → G sp sc [7] d mX12_soonest n 26 L r h Q) ∧ (¬ (¬ a = 0) → G sp sc [7] d mX12_soonest n 24 L r h Q))) ∧
  (∀ (n d : Nat) (L : List (Option iV)) (st : List iV) (h : iH) (Q : Option iV → iH → Prop), G sp sc [7] d mX12_soonest (n + 1) 24 L st h Q = (match ld L 1 with | some (.inl x) => G sp sc [7] d mX12_soonest n 25 L (.inl x :: st) h Q | _ => False)) ∧
  (∀ (n d : Nat) (L : List (Option iV)) (a : Int) (h : iH) (Q : Option iV → iH → Prop), G sp sc [7] d mX12_soonest (n + 1) 25 L [.inl a] h Q = Q (some (.inl a)) h) ∧
  (∀ (n d : Nat) (L : List (Option iV)) (st : List iV) (h : iH) (Q : Option iV → iH → Prop), G sp sc [7] d mX12_soonest (n + 1) 26 L st h Q = (match ld L 0 with | some (.inr (.inr (r + 1))) => G sp sc [7] d mX12_soonest n 27 L (.inr (.inr (r + 1)) :: st) h Q | _ => False)) ∧
  (∀ (n d : Nat) (L : List (Option iV)) (st : List iV) (h : iH) (Q : Option iV → iH → Prop), G sp sc [7] d mX12_soonest (n + 1) 27 L st h Q = (match ld L 0 with | some (.inr (.inr (r + 1))) => G sp sc [7] d mX12_soonest n 28 L (.inr (.inr (r + 1)) :: st) h Q | _ => False)) ∧
  (∀ (n d : Nat) (L : List (Option iV)) (r : List iV) (m : Nat) (h : iH) (Q : Option iV → iH → Prop), G sp sc [7] d mX12_soonest (n + 1) 28 L (.inr (.inr (m + 2)) :: r) h Q = (match h.1[m]? with | some (.inl (ci, fs)) => (match lkF 12 13 ci with | some k => (match fs[k]? with | some v => G sp sc [7] d mX12_soonest n 31 L (v :: r) h Q | none => False) | none => False) | _ => False)) ∧
  (∀ (n d : Nat) (L : List (Option iV)) (r : List iV) (m : Nat) (z0 : iV) (h : iH) (Q : Option iV → iH → Prop), G sp sc [7] (d + 1) mX12_soonest (n + 1) 31 L (z0 :: .inr (.inr (m + 2)) :: r) h Q = (match h.1[m]? with | some (.inl (ci, _)) => (match lkC 12 152 ci with | some (y1, n1, kd) => (n1 = 1 ∧ (kd = 2 ∨ kd = 3 ∨ kd = 8) ∧ cs r ≤ 8) ∧ Call sp sc d y1 [.inr (.inr (m + 2)), z0] h (fun q h1 => GC sp sc [7] (d + 1) mX12_soonest n 34 L q r h h1 Q) | none => False) | _ => False)) ∧
  (∀ (n d : Nat) (L : List (Option iV)) (st : List iV) (h : iH) (Q : Option iV → iH → Prop), G sp sc [7] d mX12_soonest (n + 1) 34 L st h Q = (match ld L 1 with | some (.inl x) => (match st1 L 1 (.inl (x + 1)) with | some L' => G sp sc [7] d mX12_soonest n 37 L' st h Q | none => False) | _ => False)) ∧
  (∀ (n d : Nat) (L : List (Option iV)) (st : List iV) (h : iH) (Q : Option iV → iH → Prop), G sp sc [7] d mX12_soonest (n + 1) 37 L st h Q = Run sp sc d mX12_soonest 7 L st h Q) ∧
  (∀ (n d : Nat) (L : List (Option iV)) (st : List iV) (h : iH) (Q : Option iV → iH → Prop), G sp sc [7] d mX12_soonest (n + 1) 40 L st h Q = ((-128 ≤ ((-4) : Int) ∧ ((-4) : Int) < 128) ∧ G sp sc [7] d mX12_soonest n 42 L (.inl (-4) :: st) h Q)) ∧
  (∀ (n d : Nat) (L : List (Option iV)) (a : Int) (h : iH) (Q : Option iV → iH → Prop), G sp sc [7] d mX12_soonest (n + 1) 42 L [.inl a] h Q = Q (some (.inl a)) h) ∧
  lkC 12 152 12 = some (mX12_goes, 1, 2) ∧
  lkC 12 211 12 = some (mX12_inMind, 1, 2) ∧
  lkF 12 13 12 = some 1 := ⟨by intros; exact G_at (by decide +kernel : fetch mX12_soonest 0 = some (.aload_n 0)),
  by intros; exact G_at (by decide +kernel : fetch mX12_soonest 1 = some (.iconst 0)),
  by intros; exact G_callV (by decide +kernel : fetch mX12_soonest 2 = some (.invokevirtual 211)) (by decide +kernel) (by decide +kernel) rfl,
  by intros; exact G_at (by decide +kernel : fetch mX12_soonest 5 = some (.iconst 0)),
  by intros; exact G_at (by decide +kernel : fetch mX12_soonest 6 = some (.istore_n 1)),
  by intros; exact G_at (by decide +kernel : fetch mX12_soonest 7 = some (.iload_n 1)),
  by intros; exact G_at (by decide +kernel : fetch mX12_soonest 8 = some (.bipush 60)),
  by intros; exact G_at (by decide +kernel : fetch mX12_soonest 10 = some (.if_icmp .gt 30)),
  by intros; exact G_at (by decide +kernel : fetch mX12_soonest 13 = some (.aload_n 0)),
  by intros; exact G_own (by decide +kernel : fetch mX12_soonest 14 = some (.getfield 13)) (by decide +kernel),
  by intros; exact G_at (by decide +kernel : fetch mX12_soonest 17 = some (.iconst 0)),
  by intros; exact G_callS (k := 2) (kd := 0) (by decide +kernel : fetch mX12_soonest 18 = some (.invokestatic 215)) (by decide +kernel) (by decide +kernel) (by decide +kernel) rfl (by decide),
  by intros; exact G_at (by decide +kernel : fetch mX12_soonest 21 = some (.ifCond .ne 5)),
  by intros; exact G_at (by decide +kernel : fetch mX12_soonest 24 = some (.iload_n 1)),
  by intros; exact G_reti (by decide +kernel : fetch mX12_soonest 25 = some (.ireturn)) (by decide +kernel),
  by intros; exact G_at (by decide +kernel : fetch mX12_soonest 26 = some (.aload_n 0)),
  by intros; exact G_at (by decide +kernel : fetch mX12_soonest 27 = some (.aload_n 0)),
  by intros; exact G_own (by decide +kernel : fetch mX12_soonest 28 = some (.getfield 13)) (by decide +kernel),
  by intros; exact G_callV (by decide +kernel : fetch mX12_soonest 31 = some (.invokevirtual 152)) (by decide +kernel) (by decide +kernel) rfl,
  by intros; exact G_at (by decide +kernel : fetch mX12_soonest 34 = some (.iinc 1 1)),
  by intros; exact G_at (by decide +kernel : fetch mX12_soonest 37 = some (.goto (-30))),
  by intros; exact G_at (by decide +kernel : fetch mX12_soonest 40 = some (.bipush (-4))),
  by intros; exact G_reti (by decide +kernel : fetch mX12_soonest 42 = some (.ireturn)) (by decide +kernel),
  by decide +kernel,
  by decide +kernel,
  by decide +kernel⟩
theorem gX12_daysTillWed : (∀ (n d : Nat) (L : List (Option iV)) (st : List iV) (h : iH) (Q : Option iV → iH → Prop), G sp sc [] d mX12_daysTillWed (n + 1) 0 L st h Q = (match ld L 0 with | some (.inr (.inr (r + 1))) => G sp sc [] d mX12_daysTillWed n 1 L (.inr (.inr (r + 1)) :: st) h Q | _ => False)) ∧
  (∀ (n d : Nat) (L : List (Option iV)) (r : List iV) (m : Nat) (h : iH) (Q : Option iV → iH → Prop), G sp sc [] d mX12_daysTillWed (n + 1) 1 L (.inr (.inr (m + 2)) :: r) h Q = (match h.1[m]? with | some (.inl (ci, fs)) => (match lkF 12 9 ci with | some k => (match fs[k]? with | some v => G sp sc [] d mX12_daysTillWed n 4 L (v :: r) h Q | none => False) | none => False) | _ => False)) ∧
  (∀ (n d : Nat) (L : List (Option iV)) (st : List iV) (h : iH) (Q : Option iV → iH → Prop), G sp sc [] d mX12_daysTillWed (n + 1) 4 L st h Q = (match ld L 1 with | some (.inl x) => G sp sc [] d mX12_daysTillWed n 5 L (.inl x :: st) h Q | _ => False)) ∧
  (∀ (n d : Nat) (L : List (Option iV)) (st : List iV) (h : iH) (Q : Option iV → iH → Prop), G sp sc [] d mX12_daysTillWed (n + 1) 5 L st h Q = G sp sc [] d mX12_daysTillWed n 6 L (.inl 2 :: st) h Q) ∧
  (∀ (n d : Nat) (L : List (Option iV)) (r : List iV) (z0 : iV) (z1 : iV) (h : iH) (Q : Option iV → iH → Prop), G sp sc [] (d + 1) mX12_daysTillWed (n + 1) 6 L (z1 :: z0 :: r) h Q = (cs r ≤ 8 ∧ Call sp sc d mX12_atCouple [z0, z1] h (fun q h1 => GC sp sc [] (d + 1) mX12_daysTillWed n 9 L q r h h1 Q))) ∧
  (∀ (n d : Nat) (L : List (Option iV)) (r : List iV) (j : Int) (m : Nat) (h : iH) (Q : Option iV → iH → Prop), G sp sc [] d mX12_daysTillWed (n + 1) 9 L (.inl j :: .inr (.inr (m + 2)) :: r) h Q = (match h.1[m]? with | some (.inr (.inl (0, xs))) => inA j xs.length = true ∧ G sp sc [] d mX12_daysTillWed n 10 L (.inl (xs.getD j.toNat 0) :: r) h Q | _ => False)) ∧
  (∀ (n d : Nat) (L : List (Option iV)) (st : List iV) (h : iH) (Q : Option iV → iH → Prop), G sp sc [] d mX12_daysTillWed (n + 1) 10 L st h Q = G sp sc [] d mX12_daysTillWed n 11 L (.inl 1 :: st) h Q) ∧
  (∀ (n d : Nat) (L : List (Option iV)) (a : Int) (b : Int) (r : List iV) (h : iH) (Q : Option iV → iH → Prop), G sp sc [] d mX12_daysTillWed (n + 1) 11 L (.inl b :: .inl a :: r) h Q = ((inI a = true ∧ inI b = true) ∧ (¬ a = b → G sp sc [] d mX12_daysTillWed n 18 L r h Q) ∧ (¬ (¬ a = b) → G sp sc [] d mX12_daysTillWed n 14 L r h Q))) ∧
  (∀ (n d : Nat) (L : List (Option iV)) (st : List iV) (h : iH) (Q : Option iV → iH → Prop), G sp sc [] d mX12_daysTillWed (n + 1) 14 L st h Q = G sp sc [] d mX12_daysTillWed n 15 L (.inl 0 :: st) h Q) ∧
  (∀ (n d : Nat) (L : List (Option iV)) (st : List iV) (h : iH) (Q : Option iV → iH → Prop), G sp sc [] d mX12_daysTillWed (n + 1) 15 L st h Q = G sp sc [] d mX12_daysTillWed n 43 L st h Q) ∧
  (∀ (n d : Nat) (L : List (Option iV)) (st : List iV) (h : iH) (Q : Option iV → iH → Prop), G sp sc [] d mX12_daysTillWed (n + 1) 18 L st h Q = (match ld L 0 with | some (.inr (.inr (r + 1))) => G sp sc [] d mX12_daysTillWed n 19 L (.inr (.inr (r + 1)) :: st) h Q | _ => False)) ∧
  (∀ (n d : Nat) (L : List (Option iV)) (r : List iV) (m : Nat) (h : iH) (Q : Option iV → iH → Prop), G sp sc [] d mX12_daysTillWed (n + 1) 19 L (.inr (.inr (m + 2)) :: r) h Q = (match h.1[m]? with | some (.inl (ci, fs)) => (match lkF 12 13 ci with | some k => (match fs[k]? with | some v => G sp sc [] d mX12_daysTillWed n 22 L (v :: r) h Q | none => False) | none => False) | _ => False)) ∧
  (∀ (n d : Nat) (L : List (Option iV)) (st : List iV) (h : iH) (Q : Option iV → iH → Prop), G sp sc [] d mX12_daysTillWed (n + 1) 22 L st h Q = (match ld L 1 with | some (.inl x) => G sp sc [] d mX12_daysTillWed n 23 L (.inl x :: st) h Q | _ => False)) ∧
  (∀ (n d : Nat) (L : List (Option iV)) (st : List iV) (h : iH) (Q : Option iV → iH → Prop), G sp sc [] d mX12_daysTillWed (n + 1) 23 L st h Q = G sp sc [] d mX12_daysTillWed n 24 L (.inl 2 :: st) h Q) ∧
  (∀ (n d : Nat) (L : List (Option iV)) (r : List iV) (z0 : iV) (z1 : iV) (h : iH) (Q : Option iV → iH → Prop), G sp sc [] (d + 1) mX12_daysTillWed (n + 1) 24 L (z1 :: z0 :: r) h Q = (cs r ≤ 8 ∧ Call sp sc d mX12_atCouple [z0, z1] h (fun q h1 => GC sp sc [] (d + 1) mX12_daysTillWed n 27 L q r h h1 Q))) ∧
  (∀ (n d : Nat) (L : List (Option iV)) (r : List iV) (j : Int) (m : Nat) (h : iH) (Q : Option iV → iH → Prop), G sp sc [] d mX12_daysTillWed (n + 1) 27 L (.inl j :: .inr (.inr (m + 2)) :: r) h Q = (match h.1[m]? with | some (.inr (.inl (0, xs))) => inA j xs.length = true ∧ G sp sc [] d mX12_daysTillWed n 28 L (.inl (xs.getD j.toNat 0) :: r) h Q | _ => False)) ∧
  (∀ (n d : Nat) (L : List (Option iV)) (st : List iV) (h : iH) (Q : Option iV → iH → Prop), G sp sc [] d mX12_daysTillWed (n + 1) 28 L st h Q = G sp sc [] d mX12_daysTillWed n 29 L (.inl 1 :: st) h Q) ∧
  (∀ (n d : Nat) (L : List (Option iV)) (a : Int) (b : Int) (r : List iV) (h : iH) (Q : Option iV → iH → Prop), G sp sc [] d mX12_daysTillWed (n + 1) 29 L (.inl b :: .inl a :: r) h Q = ((inI a = true ∧ inI b = true) ∧ (¬ a = b → G sp sc [] d mX12_daysTillWed n 41 L r h Q) ∧ (¬ (¬ a = b) → G sp sc [] d mX12_daysTillWed n 32 L r h Q))) ∧
  (∀ (n d : Nat) (L : List (Option iV)) (st : List iV) (h : iH) (Q : Option iV → iH → Prop), G sp sc [] d mX12_daysTillWed (n + 1) 32 L st h Q = (match ld L 0 with | some (.inr (.inr (r + 1))) => G sp sc [] d mX12_daysTillWed n 33 L (.inr (.inr (r + 1)) :: st) h Q | _ => False)) ∧
  (∀ (n d : Nat) (L : List (Option iV)) (r : List iV) (m : Nat) (h : iH) (Q : Option iV → iH → Prop), G sp sc [] d mX12_daysTillWed (n + 1) 33 L (.inr (.inr (m + 2)) :: r) h Q = (match h.1[m]? with | some (.inl (ci, fs)) => (match lkF 12 25 ci with | some k => (match fs[k]? with | some v => G sp sc [] d mX12_daysTillWed n 36 L (v :: r) h Q | none => False) | none => False) | _ => False)) ∧
  (∀ (n d : Nat) (L : List (Option iV)) (st : List iV) (h : iH) (Q : Option iV → iH → Prop), G sp sc [] d mX12_daysTillWed (n + 1) 36 L st h Q = (match ld L 1 with | some (.inl x) => G sp sc [] d mX12_daysTillWed n 37 L (.inl x :: st) h Q | _ => False)) ∧
  (∀ (n d : Nat) (L : List (Option iV)) (r : List iV) (j : Int) (m : Nat) (h : iH) (Q : Option iV → iH → Prop), G sp sc [] d mX12_daysTillWed (n + 1) 37 L (.inl j :: .inr (.inr (m + 2)) :: r) h Q = (match h.1[m]? with | some (.inr (.inl (0, xs))) => inA j xs.length = true ∧ G sp sc [] d mX12_daysTillWed n 38 L (.inl (xs.getD j.toNat 0) :: r) h Q | _ => False)) ∧
  (∀ (n d : Nat) (L : List (Option iV)) (st : List iV) (h : iH) (Q : Option iV → iH → Prop), G sp sc [] d mX12_daysTillWed (n + 1) 38 L st h Q = G sp sc [] d mX12_daysTillWed n 43 L st h Q) ∧
  (∀ (n d : Nat) (L : List (Option iV)) (st : List iV) (h : iH) (Q : Option iV → iH → Prop), G sp sc [] d mX12_daysTillWed (n + 1) 41 L st h Q = ((-128 ≤ (61 : Int) ∧ (61 : Int) < 128) ∧ G sp sc [] d mX12_daysTillWed n 43 L (.inl 61 :: st) h Q)) ∧
  (∀ (n d : Nat) (L : List (Option iV)) (a : Int) (h : iH) (Q : Option iV → iH → Prop), G sp sc [] d mX12_daysTillWed (n + 1) 43 L [.inl a] h Q = Q (some (.inl a)) h) ∧
  lkF 12 13 12 = some 1 ∧
  lkF 12 25 12 = some 6 ∧
  lkF 12 9 12 = some 0 := ⟨by intros; exact G_at (by decide +kernel : fetch mX12_daysTillWed 0 = some (.aload_n 0)),
  by intros; exact G_own (by decide +kernel : fetch mX12_daysTillWed 1 = some (.getfield 9)) (by decide +kernel),
  by intros; exact G_at (by decide +kernel : fetch mX12_daysTillWed 4 = some (.iload_n 1)),
  by intros; exact G_at (by decide +kernel : fetch mX12_daysTillWed 5 = some (.iconst 2)),
  by intros; exact G_callS (k := 2) (kd := 0) (by decide +kernel : fetch mX12_daysTillWed 6 = some (.invokestatic 92)) (by decide +kernel) (by decide +kernel) (by decide +kernel) rfl (by decide),
  by intros; exact G_at (by decide +kernel : fetch mX12_daysTillWed 9 = some (.iaload)),
  by intros; exact G_at (by decide +kernel : fetch mX12_daysTillWed 10 = some (.iconst 1)),
  by intros; exact G_at (by decide +kernel : fetch mX12_daysTillWed 11 = some (.if_icmp .ne 7)),
  by intros; exact G_at (by decide +kernel : fetch mX12_daysTillWed 14 = some (.iconst 0)),
  by intros; exact G_at (by decide +kernel : fetch mX12_daysTillWed 15 = some (.goto 28)),
  by intros; exact G_at (by decide +kernel : fetch mX12_daysTillWed 18 = some (.aload_n 0)),
  by intros; exact G_own (by decide +kernel : fetch mX12_daysTillWed 19 = some (.getfield 13)) (by decide +kernel),
  by intros; exact G_at (by decide +kernel : fetch mX12_daysTillWed 22 = some (.iload_n 1)),
  by intros; exact G_at (by decide +kernel : fetch mX12_daysTillWed 23 = some (.iconst 2)),
  by intros; exact G_callS (k := 2) (kd := 0) (by decide +kernel : fetch mX12_daysTillWed 24 = some (.invokestatic 92)) (by decide +kernel) (by decide +kernel) (by decide +kernel) rfl (by decide),
  by intros; exact G_at (by decide +kernel : fetch mX12_daysTillWed 27 = some (.iaload)),
  by intros; exact G_at (by decide +kernel : fetch mX12_daysTillWed 28 = some (.iconst 1)),
  by intros; exact G_at (by decide +kernel : fetch mX12_daysTillWed 29 = some (.if_icmp .ne 12)),
  by intros; exact G_at (by decide +kernel : fetch mX12_daysTillWed 32 = some (.aload_n 0)),
  by intros; exact G_own (by decide +kernel : fetch mX12_daysTillWed 33 = some (.getfield 25)) (by decide +kernel),
  by intros; exact G_at (by decide +kernel : fetch mX12_daysTillWed 36 = some (.iload_n 1)),
  by intros; exact G_at (by decide +kernel : fetch mX12_daysTillWed 37 = some (.iaload)),
  by intros; exact G_at (by decide +kernel : fetch mX12_daysTillWed 38 = some (.goto 5)),
  by intros; exact G_at (by decide +kernel : fetch mX12_daysTillWed 41 = some (.bipush 61)),
  by intros; exact G_reti (by decide +kernel : fetch mX12_daysTillWed 43 = some (.ireturn)) (by decide +kernel),
  by decide +kernel,
  by decide +kernel,
  by decide +kernel⟩
theorem gX12_eachOrder : (∀ (n d : Nat) (L : List (Option iV)) (st : List iV) (h : iH) (Q : Option iV → iH → Prop), G sp sc [32, 65, 92, 145] d mX12_eachOrder (n + 1) 0 L st h Q = (match ld L 2 with | some (.inl x) => G sp sc [32, 65, 92, 145] d mX12_eachOrder n 1 L (.inl x :: st) h Q | _ => False)) ∧
  (∀ (n d : Nat) (L : List (Option iV)) (a : Int) (r : List iV) (h : iH) (Q : Option iV → iH → Prop), G sp sc [32, 65, 92, 145] d mX12_eachOrder (n + 1) 1 L (.inl a :: r) h Q = (inI a = true ∧ (¬ a = 0 → G sp sc [32, 65, 92, 145] d mX12_eachOrder n 142 L r h Q) ∧ (¬ (¬ a = 0) → G sp sc [32, 65, 92, 145] d mX12_eachOrder n 4 L r h Q))) ∧
  (∀ (n d : Nat) (L : List (Option iV)) (st : List iV) (h : iH) (Q : Option iV → iH → Prop), G sp sc [32, 65, 92, 145] d mX12_eachOrder (n + 1) 4 L st h Q = (match ld L 3 with | some (.inl x) => G sp sc [32, 65, 92, 145] d mX12_eachOrder n 5 L (.inl x :: st) h Q | _ => False)) ∧
  (∀ (n d : Nat) (L : List (Option iV)) (r : List iV) (x : Int) (h : iH) (Q : Option iV → iH → Prop), G sp sc [32, 65, 92, 145] d mX12_eachOrder (n + 1) 5 L (.inl x :: r) h Q = (match st1 L 4 (.inl x) with | some L' => G sp sc [32, 65, 92, 145] d mX12_eachOrder n 7 L' r h Q | none => False)) ∧
  (∀ (n d : Nat) (L : List (Option iV)) (st : List iV) (h : iH) (Q : Option iV → iH → Prop), G sp sc [32, 65, 92, 145] d mX12_eachOrder (n + 1) 7 L st h Q = (match ld L 0 with | some (.inr (.inr (r + 1))) => G sp sc [32, 65, 92, 145] d mX12_eachOrder n 8 L (.inr (.inr (r + 1)) :: st) h Q | _ => False)) ∧
  (∀ (n d : Nat) (L : List (Option iV)) (r : List iV) (m : Nat) (h : iH) (Q : Option iV → iH → Prop), G sp sc [32, 65, 92, 145] d mX12_eachOrder (n + 1) 8 L (.inr (.inr (m + 2)) :: r) h Q = (match h.1[m]? with | some (.inl (ci, fs)) => (match lkF 12 9 ci with | some k => (match fs[k]? with | some v => G sp sc [32, 65, 92, 145] d mX12_eachOrder n 11 L (v :: r) h Q | none => False) | none => False) | _ => False)) ∧
  (∀ (n d : Nat) (L : List (Option iV)) (st : List iV) (h : iH) (Q : Option iV → iH → Prop), G sp sc [32, 65, 92, 145] d mX12_eachOrder (n + 1) 11 L st h Q = (match ld L 0 with | some (.inr (.inr (r + 1))) => G sp sc [32, 65, 92, 145] d mX12_eachOrder n 12 L (.inr (.inr (r + 1)) :: st) h Q | _ => False)) ∧
  (∀ (n d : Nat) (L : List (Option iV)) (r : List iV) (m : Nat) (h : iH) (Q : Option iV → iH → Prop), G sp sc [32, 65, 92, 145] d mX12_eachOrder (n + 1) 12 L (.inr (.inr (m + 2)) :: r) h Q = (match h.1[m]? with | some (.inl (ci, fs)) => (match lkF 12 13 ci with | some k => (match fs[k]? with | some v => G sp sc [32, 65, 92, 145] d mX12_eachOrder n 15 L (v :: r) h Q | none => False) | none => False) | _ => False)) ∧
  (∀ (n d : Nat) (L : List (Option iV)) (r : List iV) (z0 : iV) (z1 : iV) (h : iH) (Q : Option iV → iH → Prop), G sp sc [32, 65, 92, 145] (d + 1) mX12_eachOrder (n + 1) 15 L (z1 :: z0 :: r) h Q = (cs r ≤ 8 ∧ Call sp sc d mX12_lays [z0, z1] h (fun q h1 => GC sp sc [32, 65, 92, 145] (d + 1) mX12_eachOrder n 18 L q r h h1 Q))) ∧
  (∀ (n d : Nat) (L : List (Option iV)) (st : List iV) (h : iH) (Q : Option iV → iH → Prop), G sp sc [32, 65, 92, 145] d mX12_eachOrder (n + 1) 18 L st h Q = (match ld L 0 with | some (.inr (.inr (r + 1))) => G sp sc [32, 65, 92, 145] d mX12_eachOrder n 19 L (.inr (.inr (r + 1)) :: st) h Q | _ => False)) ∧
  (∀ (n d : Nat) (L : List (Option iV)) (r : List iV) (m : Nat) (h : iH) (Q : Option iV → iH → Prop), G sp sc [32, 65, 92, 145] (d + 1) mX12_eachOrder (n + 1) 19 L (.inr (.inr (m + 2)) :: r) h Q = (match h.1[m]? with | some (.inl (ci, _)) => (match lkC 12 149 ci with | some (y1, n1, kd) => (n1 = 0 ∧ (kd = 2 ∨ kd = 3 ∨ kd = 8) ∧ cs r ≤ 8) ∧ Call sp sc d y1 [.inr (.inr (m + 2))] h (fun q h1 => GC sp sc [32, 65, 92, 145] (d + 1) mX12_eachOrder n 22 L q r h h1 Q) | none => False) | _ => False)) ∧
  (∀ (n d : Nat) (L : List (Option iV)) (st : List iV) (h : iH) (Q : Option iV → iH → Prop), G sp sc [32, 65, 92, 145] d mX12_eachOrder (n + 1) 22 L st h Q = (match ld L 0 with | some (.inr (.inr (r + 1))) => G sp sc [32, 65, 92, 145] d mX12_eachOrder n 23 L (.inr (.inr (r + 1)) :: st) h Q | _ => False)) ∧
  (∀ (n d : Nat) (L : List (Option iV)) (r : List iV) (m : Nat) (h : iH) (Q : Option iV → iH → Prop), G sp sc [32, 65, 92, 145] d mX12_eachOrder (n + 1) 23 L (.inr (.inr (m + 2)) :: r) h Q = (match h.1[m]? with | some (.inl (ci, fs)) => (match lkF 12 9 ci with | some k => (match fs[k]? with | some v => G sp sc [32, 65, 92, 145] d mX12_eachOrder n 26 L (v :: r) h Q | none => False) | none => False) | _ => False)) ∧
  (∀ (n d : Nat) (L : List (Option iV)) (st : List iV) (h : iH) (Q : Option iV → iH → Prop), G sp sc [32, 65, 92, 145] d mX12_eachOrder (n + 1) 26 L st h Q = G sp sc [32, 65, 92, 145] d mX12_eachOrder n 27 L (.inl 2 :: st) h Q) ∧
  (∀ (n d : Nat) (L : List (Option iV)) (r : List iV) (j : Int) (m : Nat) (h : iH) (Q : Option iV → iH → Prop), G sp sc [32, 65, 92, 145] d mX12_eachOrder (n + 1) 27 L (.inl j :: .inr (.inr (m + 2)) :: r) h Q = (match h.1[m]? with | some (.inr (.inl (0, xs))) => inA j xs.length = true ∧ G sp sc [32, 65, 92, 145] d mX12_eachOrder n 28 L (.inl (xs.getD j.toNat 0) :: r) h Q | _ => False)) ∧
  (∀ (n d : Nat) (L : List (Option iV)) (st : List iV) (h : iH) (Q : Option iV → iH → Prop), G sp sc [32, 65, 92, 145] d mX12_eachOrder (n + 1) 28 L st h Q = G sp sc [32, 65, 92, 145] d mX12_eachOrder n 29 L (.inl 1 :: st) h Q) ∧
  (∀ (n d : Nat) (L : List (Option iV)) (a : Int) (b : Int) (r : List iV) (h : iH) (Q : Option iV → iH → Prop), G sp sc [32, 65, 92, 145] d mX12_eachOrder (n + 1) 29 L (.inl b :: .inl a :: r) h Q = G sp sc [32, 65, 92, 145] d mX12_eachOrder n 30 L (.inl (a - b) :: r) h Q) ∧
  (∀ (n d : Nat) (L : List (Option iV)) (r : List iV) (x : Int) (h : iH) (Q : Option iV → iH → Prop), G sp sc [32, 65, 92, 145] d mX12_eachOrder (n + 1) 30 L (.inl x :: r) h Q = (match st1 L 5 (.inl x) with | some L' => Run sp sc d mX12_eachOrder 32 L' r h Q | none => False)) ∧
  (∀ (n d : Nat) (L : List (Option iV)) (st : List iV) (h : iH) (Q : Option iV → iH → Prop), G sp sc [32, 65, 92, 145] d mX12_eachOrder (n + 1) 32 L st h Q = (match ld L 5 with | some (.inl x) => G sp sc [32, 65, 92, 145] d mX12_eachOrder n 34 L (.inl x :: st) h Q | _ => False)) ∧
  (∀ (n d : Nat) (L : List (Option iV)) (a : Int) (r : List iV) (h : iH) (Q : Option iV → iH → Prop), G sp sc [32, 65, 92, 145] d mX12_eachOrder (n + 1) 34 L (.inl a :: r) h Q = (inI a = true ∧ (a < 0 → G sp sc [32, 65, 92, 145] d mX12_eachOrder n 62 L r h Q) ∧ (¬ (a < 0) → G sp sc [32, 65, 92, 145] d mX12_eachOrder n 37 L r h Q))) ∧
  (∀ (n d : Nat) (L : List (Option iV)) (st : List iV) (h : iH) (Q : Option iV → iH → Prop), G sp sc [32, 65, 92, 145] d mX12_eachOrder (n + 1) 37 L st h Q = (match ld L 0 with | some (.inr (.inr (r + 1))) => G sp sc [32, 65, 92, 145] d mX12_eachOrder n 38 L (.inr (.inr (r + 1)) :: st) h Q | _ => False)) ∧
  (∀ (n d : Nat) (L : List (Option iV)) (r : List iV) (m : Nat) (h : iH) (Q : Option iV → iH → Prop), G sp sc [32, 65, 92, 145] d mX12_eachOrder (n + 1) 38 L (.inr (.inr (m + 2)) :: r) h Q = (match h.1[m]? with | some (.inl (ci, fs)) => (match lkF 12 28 ci with | some k => (match fs[k]? with | some v => G sp sc [32, 65, 92, 145] d mX12_eachOrder n 41 L (v :: r) h Q | none => False) | none => False) | _ => False)) ∧
  (∀ (n d : Nat) (L : List (Option iV)) (st : List iV) (h : iH) (Q : Option iV → iH → Prop), G sp sc [32, 65, 92, 145] d mX12_eachOrder (n + 1) 41 L st h Q = (match ld L 5 with | some (.inl x) => G sp sc [32, 65, 92, 145] d mX12_eachOrder n 43 L (.inl x :: st) h Q | _ => False)) ∧
  (∀ (n d : Nat) (L : List (Option iV)) (st : List iV) (h : iH) (Q : Option iV → iH → Prop), G sp sc [32, 65, 92, 145] d mX12_eachOrder (n + 1) 43 L st h Q = (match ld L 4 with | some (.inl x) => G sp sc [32, 65, 92, 145] d mX12_eachOrder n 45 L (.inl x :: st) h Q | _ => False)) ∧
  (∀ (n d : Nat) (L : List (Option iV)) (st : List iV) (h : iH) (Q : Option iV → iH → Prop), G sp sc [32, 65, 92, 145] d mX12_eachOrder (n + 1) 45 L st h Q = ((-128 ≤ (10 : Int) ∧ (10 : Int) < 128) ∧ G sp sc [32, 65, 92, 145] d mX12_eachOrder n 47 L (.inl 10 :: st) h Q)) ∧
  (∀ (n d : Nat) (L : List (Option iV)) (a : Int) (b : Int) (r : List iV) (h : iH) (Q : Option iV → iH → Prop), G sp sc [32, 65, 92, 145] d mX12_eachOrder (n + 1) 47 L (.inl b :: .inl a :: r) h Q = ((inI a = true ∧ inI b = true ∧ 0 < b) ∧ G sp sc [32, 65, 92, 145] d mX12_eachOrder n 48 L (.inl (a.tmod b) :: r) h Q)) ∧
  (∀ (n d : Nat) (L : List (Option iV)) (r : List iV) (v : Int) (j : Int) (m : Nat) (h : iH) (Q : Option iV → iH → Prop), G sp sc [32, 65, 92, 145] d mX12_eachOrder (n + 1) 48 L (.inl v :: .inl j :: .inr (.inr (m + 2)) :: r) h Q = (match h.1[m]? with | some (.inr (.inl (0, xs))) => inA j xs.length = true ∧ G sp sc [32, 65, 92, 145] d mX12_eachOrder n 49 L r (h.1.set m (.inr (.inl (0, xs.set j.toNat v))), h.2) Q | _ => False)) ∧
  (∀ (n d : Nat) (L : List (Option iV)) (st : List iV) (h : iH) (Q : Option iV → iH → Prop), G sp sc [32, 65, 92, 145] d mX12_eachOrder (n + 1) 49 L st h Q = (match ld L 4 with | some (.inl x) => G sp sc [32, 65, 92, 145] d mX12_eachOrder n 51 L (.inl x :: st) h Q | _ => False)) ∧
  (∀ (n d : Nat) (L : List (Option iV)) (st : List iV) (h : iH) (Q : Option iV → iH → Prop), G sp sc [32, 65, 92, 145] d mX12_eachOrder (n + 1) 51 L st h Q = ((-128 ≤ (10 : Int) ∧ (10 : Int) < 128) ∧ G sp sc [32, 65, 92, 145] d mX12_eachOrder n 53 L (.inl 10 :: st) h Q)) ∧
  (∀ (n d : Nat) (L : List (Option iV)) (a : Int) (b : Int) (r : List iV) (h : iH) (Q : Option iV → iH → Prop), G sp sc [32, 65, 92, 145] d mX12_eachOrder (n + 1) 53 L (.inl b :: .inl a :: r) h Q = ((inI a = true ∧ inI b = true ∧ 0 < b) ∧ G sp sc [32, 65, 92, 145] d mX12_eachOrder n 54 L (.inl (a.tdiv b) :: r) h Q)) ∧
  (∀ (n d : Nat) (L : List (Option iV)) (r : List iV) (x : Int) (h : iH) (Q : Option iV → iH → Prop), G sp sc [32, 65, 92, 145] d mX12_eachOrder (n + 1) 54 L (.inl x :: r) h Q = (match st1 L 4 (.inl x) with | some L' => G sp sc [32, 65, 92, 145] d mX12_eachOrder n 56 L' r h Q | none => False)) ∧
  (∀ (n d : Nat) (L : List (Option iV)) (st : List iV) (h : iH) (Q : Option iV → iH → Prop), G sp sc [32, 65, 92, 145] d mX12_eachOrder (n + 1) 56 L st h Q = (match ld L 5 with | some (.inl x) => (match st1 L 5 (.inl (x + (-1))) with | some L' => G sp sc [32, 65, 92, 145] d mX12_eachOrder n 59 L' st h Q | none => False) | _ => False)) ∧
  (∀ (n d : Nat) (L : List (Option iV)) (st : List iV) (h : iH) (Q : Option iV → iH → Prop), G sp sc [32, 65, 92, 145] d mX12_eachOrder (n + 1) 59 L st h Q = Run sp sc d mX12_eachOrder 32 L st h Q) ∧
  (∀ (n d : Nat) (L : List (Option iV)) (st : List iV) (h : iH) (Q : Option iV → iH → Prop), G sp sc [32, 65, 92, 145] d mX12_eachOrder (n + 1) 62 L st h Q = G sp sc [32, 65, 92, 145] d mX12_eachOrder n 63 L (.inl 0 :: st) h Q) ∧
  (∀ (n d : Nat) (L : List (Option iV)) (r : List iV) (x : Int) (h : iH) (Q : Option iV → iH → Prop), G sp sc [32, 65, 92, 145] d mX12_eachOrder (n + 1) 63 L (.inl x :: r) h Q = (match st1 L 5 (.inl x) with | some L' => Run sp sc d mX12_eachOrder 65 L' r h Q | none => False)) ∧
  (∀ (n d : Nat) (L : List (Option iV)) (st : List iV) (h : iH) (Q : Option iV → iH → Prop), G sp sc [32, 65, 92, 145] d mX12_eachOrder (n + 1) 65 L st h Q = (match ld L 5 with | some (.inl x) => G sp sc [32, 65, 92, 145] d mX12_eachOrder n 67 L (.inl x :: st) h Q | _ => False)) ∧
  (∀ (n d : Nat) (L : List (Option iV)) (st : List iV) (h : iH) (Q : Option iV → iH → Prop), G sp sc [32, 65, 92, 145] d mX12_eachOrder (n + 1) 67 L st h Q = ((-128 ≤ (60 : Int) ∧ (60 : Int) < 128) ∧ G sp sc [32, 65, 92, 145] d mX12_eachOrder n 69 L (.inl 60 :: st) h Q)) ∧
  (∀ (n d : Nat) (L : List (Option iV)) (a : Int) (b : Int) (r : List iV) (h : iH) (Q : Option iV → iH → Prop), G sp sc [32, 65, 92, 145] d mX12_eachOrder (n + 1) 69 L (.inl b :: .inl a :: r) h Q = ((inI a = true ∧ inI b = true) ∧ (b ≤ a → G sp sc [32, 65, 92, 145] d mX12_eachOrder n 86 L r h Q) ∧ (¬ (b ≤ a) → G sp sc [32, 65, 92, 145] d mX12_eachOrder n 72 L r h Q))) ∧
  (∀ (n d : Nat) (L : List (Option iV)) (st : List iV) (h : iH) (Q : Option iV → iH → Prop), G sp sc [32, 65, 92, 145] d mX12_eachOrder (n + 1) 72 L st h Q = (match ld L 0 with | some (.inr (.inr (r + 1))) => G sp sc [32, 65, 92, 145] d mX12_eachOrder n 73 L (.inr (.inr (r + 1)) :: st) h Q | _ => False)) ∧
  (∀ (n d : Nat) (L : List (Option iV)) (st : List iV) (h : iH) (Q : Option iV → iH → Prop), G sp sc [32, 65, 92, 145] d mX12_eachOrder (n + 1) 73 L st h Q = (match ld L 0 with | some (.inr (.inr (r + 1))) => G sp sc [32, 65, 92, 145] d mX12_eachOrder n 74 L (.inr (.inr (r + 1)) :: st) h Q | _ => False)) ∧
  (∀ (n d : Nat) (L : List (Option iV)) (r : List iV) (m : Nat) (h : iH) (Q : Option iV → iH → Prop), G sp sc [32, 65, 92, 145] d mX12_eachOrder (n + 1) 74 L (.inr (.inr (m + 2)) :: r) h Q = (match h.1[m]? with | some (.inl (ci, fs)) => (match lkF 12 13 ci with | some k => (match fs[k]? with | some v => G sp sc [32, 65, 92, 145] d mX12_eachOrder n 77 L (v :: r) h Q | none => False) | none => False) | _ => False)) ∧
  (∀ (n d : Nat) (L : List (Option iV)) (r : List iV) (m : Nat) (z0 : iV) (h : iH) (Q : Option iV → iH → Prop), G sp sc [32, 65, 92, 145] (d + 1) mX12_eachOrder (n + 1) 77 L (z0 :: .inr (.inr (m + 2)) :: r) h Q = (match h.1[m]? with | some (.inl (ci, _)) => (match lkC 12 152 ci with | some (y1, n1, kd) => (n1 = 1 ∧ (kd = 2 ∨ kd = 3 ∨ kd = 8) ∧ cs r ≤ 8) ∧ Call sp sc d y1 [.inr (.inr (m + 2)), z0] h (fun q h1 => GC sp sc [32, 65, 92, 145] (d + 1) mX12_eachOrder n 80 L q r h h1 Q) | none => False) | _ => False)) ∧
  (∀ (n d : Nat) (L : List (Option iV)) (st : List iV) (h : iH) (Q : Option iV → iH → Prop), G sp sc [32, 65, 92, 145] d mX12_eachOrder (n + 1) 80 L st h Q = (match ld L 5 with | some (.inl x) => (match st1 L 5 (.inl (x + 1)) with | some L' => G sp sc [32, 65, 92, 145] d mX12_eachOrder n 83 L' st h Q | none => False) | _ => False)) ∧
  (∀ (n d : Nat) (L : List (Option iV)) (st : List iV) (h : iH) (Q : Option iV → iH → Prop), G sp sc [32, 65, 92, 145] d mX12_eachOrder (n + 1) 83 L st h Q = Run sp sc d mX12_eachOrder 65 L st h Q) ∧
  (∀ (n d : Nat) (L : List (Option iV)) (st : List iV) (h : iH) (Q : Option iV → iH → Prop), G sp sc [32, 65, 92, 145] d mX12_eachOrder (n + 1) 86 L st h Q = G sp sc [32, 65, 92, 145] d mX12_eachOrder n 87 L (.inl 0 :: st) h Q) ∧
  (∀ (n d : Nat) (L : List (Option iV)) (r : List iV) (x : Int) (h : iH) (Q : Option iV → iH → Prop), G sp sc [32, 65, 92, 145] d mX12_eachOrder (n + 1) 87 L (.inl x :: r) h Q = (match st1 L 5 (.inl x) with | some L' => G sp sc [32, 65, 92, 145] d mX12_eachOrder n 89 L' r h Q | none => False)) ∧
  (∀ (n d : Nat) (L : List (Option iV)) (st : List iV) (h : iH) (Q : Option iV → iH → Prop), G sp sc [32, 65, 92, 145] d mX12_eachOrder (n + 1) 89 L st h Q = G sp sc [32, 65, 92, 145] d mX12_eachOrder n 90 L (.inl 0 :: st) h Q) ∧
  (∀ (n d : Nat) (L : List (Option iV)) (r : List iV) (x : Int) (h : iH) (Q : Option iV → iH → Prop), G sp sc [32, 65, 92, 145] d mX12_eachOrder (n + 1) 90 L (.inl x :: r) h Q = (match st1 L 6 (.inl x) with | some L' => Run sp sc d mX12_eachOrder 92 L' r h Q | none => False)) ∧
  (∀ (n d : Nat) (L : List (Option iV)) (st : List iV) (h : iH) (Q : Option iV → iH → Prop), G sp sc [32, 65, 92, 145] d mX12_eachOrder (n + 1) 92 L st h Q = (match ld L 6 with | some (.inl x) => G sp sc [32, 65, 92, 145] d mX12_eachOrder n 94 L (.inl x :: st) h Q | _ => False)) ∧
  (∀ (n d : Nat) (L : List (Option iV)) (st : List iV) (h : iH) (Q : Option iV → iH → Prop), G sp sc [32, 65, 92, 145] d mX12_eachOrder (n + 1) 94 L st h Q = (match ld L 0 with | some (.inr (.inr (r + 1))) => G sp sc [32, 65, 92, 145] d mX12_eachOrder n 95 L (.inr (.inr (r + 1)) :: st) h Q | _ => False)) ∧
  (∀ (n d : Nat) (L : List (Option iV)) (r : List iV) (m : Nat) (h : iH) (Q : Option iV → iH → Prop), G sp sc [32, 65, 92, 145] d mX12_eachOrder (n + 1) 95 L (.inr (.inr (m + 2)) :: r) h Q = (match h.1[m]? with | some (.inl (ci, fs)) => (match lkF 12 9 ci with | some k => (match fs[k]? with | some v => G sp sc [32, 65, 92, 145] d mX12_eachOrder n 98 L (v :: r) h Q | none => False) | none => False) | _ => False)) ∧
  (∀ (n d : Nat) (L : List (Option iV)) (st : List iV) (h : iH) (Q : Option iV → iH → Prop), G sp sc [32, 65, 92, 145] d mX12_eachOrder (n + 1) 98 L st h Q = G sp sc [32, 65, 92, 145] d mX12_eachOrder n 99 L (.inl 2 :: st) h Q) ∧
  (∀ (n d : Nat) (L : List (Option iV)) (r : List iV) (j : Int) (m : Nat) (h : iH) (Q : Option iV → iH → Prop), G sp sc [32, 65, 92, 145] d mX12_eachOrder (n + 1) 99 L (.inl j :: .inr (.inr (m + 2)) :: r) h Q = (match h.1[m]? with | some (.inr (.inl (0, xs))) => inA j xs.length = true ∧ G sp sc [32, 65, 92, 145] d mX12_eachOrder n 100 L (.inl (xs.getD j.toNat 0) :: r) h Q | _ => False)) ∧
  (∀ (n d : Nat) (L : List (Option iV)) (a : Int) (b : Int) (r : List iV) (h : iH) (Q : Option iV → iH → Prop), G sp sc [32, 65, 92, 145] d mX12_eachOrder (n + 1) 100 L (.inl b :: .inl a :: r) h Q = ((inI a = true ∧ inI b = true) ∧ (b ≤ a → G sp sc [32, 65, 92, 145] d mX12_eachOrder n 120 L r h Q) ∧ (¬ (b ≤ a) → G sp sc [32, 65, 92, 145] d mX12_eachOrder n 103 L r h Q))) ∧
  (∀ (n d : Nat) (L : List (Option iV)) (st : List iV) (h : iH) (Q : Option iV → iH → Prop), G sp sc [32, 65, 92, 145] d mX12_eachOrder (n + 1) 103 L st h Q = (match ld L 5 with | some (.inl x) => G sp sc [32, 65, 92, 145] d mX12_eachOrder n 105 L (.inl x :: st) h Q | _ => False)) ∧
  (∀ (n d : Nat) (L : List (Option iV)) (st : List iV) (h : iH) (Q : Option iV → iH → Prop), G sp sc [32, 65, 92, 145] d mX12_eachOrder (n + 1) 105 L st h Q = (match ld L 0 with | some (.inr (.inr (r + 1))) => G sp sc [32, 65, 92, 145] d mX12_eachOrder n 106 L (.inr (.inr (r + 1)) :: st) h Q | _ => False)) ∧
  (∀ (n d : Nat) (L : List (Option iV)) (st : List iV) (h : iH) (Q : Option iV → iH → Prop), G sp sc [32, 65, 92, 145] d mX12_eachOrder (n + 1) 106 L st h Q = (match ld L 6 with | some (.inl x) => G sp sc [32, 65, 92, 145] d mX12_eachOrder n 108 L (.inl x :: st) h Q | _ => False)) ∧
  (∀ (n d : Nat) (L : List (Option iV)) (r : List iV) (m : Nat) (z0 : iV) (h : iH) (Q : Option iV → iH → Prop), G sp sc [32, 65, 92, 145] (d + 1) mX12_eachOrder (n + 1) 108 L (z0 :: .inr (.inr (m + 2)) :: r) h Q = (match h.1[m]? with | some (.inl (ci, _)) => (match lkC 12 219 ci with | some (y1, n1, kd) => (n1 = 1 ∧ (kd = 2 ∨ kd = 3 ∨ kd = 8) ∧ cs r ≤ 8) ∧ Call sp sc d y1 [.inr (.inr (m + 2)), z0] h (fun q h1 => GC sp sc [32, 65, 92, 145] (d + 1) mX12_eachOrder n 111 L q r h h1 Q) | none => False) | _ => False)) ∧
  (∀ (n d : Nat) (L : List (Option iV)) (a : Int) (b : Int) (r : List iV) (h : iH) (Q : Option iV → iH → Prop), G sp sc [32, 65, 92, 145] d mX12_eachOrder (n + 1) 111 L (.inl b :: .inl a :: r) h Q = G sp sc [32, 65, 92, 145] d mX12_eachOrder n 112 L (.inl (a + b) :: r) h Q) ∧
  (∀ (n d : Nat) (L : List (Option iV)) (r : List iV) (x : Int) (h : iH) (Q : Option iV → iH → Prop), G sp sc [32, 65, 92, 145] d mX12_eachOrder (n + 1) 112 L (.inl x :: r) h Q = (match st1 L 5 (.inl x) with | some L' => G sp sc [32, 65, 92, 145] d mX12_eachOrder n 114 L' r h Q | none => False)) ∧
  (∀ (n d : Nat) (L : List (Option iV)) (st : List iV) (h : iH) (Q : Option iV → iH → Prop), G sp sc [32, 65, 92, 145] d mX12_eachOrder (n + 1) 114 L st h Q = (match ld L 6 with | some (.inl x) => (match st1 L 6 (.inl (x + 1)) with | some L' => G sp sc [32, 65, 92, 145] d mX12_eachOrder n 117 L' st h Q | none => False) | _ => False)) ∧
  (∀ (n d : Nat) (L : List (Option iV)) (st : List iV) (h : iH) (Q : Option iV → iH → Prop), G sp sc [32, 65, 92, 145] d mX12_eachOrder (n + 1) 117 L st h Q = Run sp sc d mX12_eachOrder 92 L st h Q) ∧
  (∀ (n d : Nat) (L : List (Option iV)) (st : List iV) (h : iH) (Q : Option iV → iH → Prop), G sp sc [32, 65, 92, 145] d mX12_eachOrder (n + 1) 120 L st h Q = (match ld L 5 with | some (.inl x) => G sp sc [32, 65, 92, 145] d mX12_eachOrder n 122 L (.inl x :: st) h Q | _ => False)) ∧
  (∀ (n d : Nat) (L : List (Option iV)) (st : List iV) (h : iH) (Q : Option iV → iH → Prop), G sp sc [32, 65, 92, 145] d mX12_eachOrder (n + 1) 122 L st h Q = (match ld L 0 with | some (.inr (.inr (r + 1))) => G sp sc [32, 65, 92, 145] d mX12_eachOrder n 123 L (.inr (.inr (r + 1)) :: st) h Q | _ => False)) ∧
  (∀ (n d : Nat) (L : List (Option iV)) (r : List iV) (m : Nat) (h : iH) (Q : Option iV → iH → Prop), G sp sc [32, 65, 92, 145] d mX12_eachOrder (n + 1) 123 L (.inr (.inr (m + 2)) :: r) h Q = (match h.1[m]? with | some (.inl (ci, fs)) => (match lkF 12 222 ci with | some k => (match fs[k]? with | some v => G sp sc [32, 65, 92, 145] d mX12_eachOrder n 126 L (v :: r) h Q | none => False) | none => False) | _ => False)) ∧
  (∀ (n d : Nat) (L : List (Option iV)) (a : Int) (b : Int) (r : List iV) (h : iH) (Q : Option iV → iH → Prop), G sp sc [32, 65, 92, 145] d mX12_eachOrder (n + 1) 126 L (.inl b :: .inl a :: r) h Q = ((inI a = true ∧ inI b = true) ∧ (a < b → G sp sc [32, 65, 92, 145] d mX12_eachOrder n 130 L r h Q) ∧ (¬ (a < b) → G sp sc [32, 65, 92, 145] d mX12_eachOrder n 129 L r h Q))) ∧
  (∀ (n d : Nat) (L : List (Option iV))  (h : iH) (Q : Option iV → iH → Prop), G sp sc [32, 65, 92, 145] d mX12_eachOrder (n + 1) 129 L [] h Q = Q none h) ∧
  (∀ (n d : Nat) (L : List (Option iV)) (st : List iV) (h : iH) (Q : Option iV → iH → Prop), G sp sc [32, 65, 92, 145] d mX12_eachOrder (n + 1) 130 L st h Q = (match ld L 0 with | some (.inr (.inr (r + 1))) => G sp sc [32, 65, 92, 145] d mX12_eachOrder n 131 L (.inr (.inr (r + 1)) :: st) h Q | _ => False)) ∧
  (∀ (n d : Nat) (L : List (Option iV)) (st : List iV) (h : iH) (Q : Option iV → iH → Prop), G sp sc [32, 65, 92, 145] d mX12_eachOrder (n + 1) 131 L st h Q = (match ld L 5 with | some (.inl x) => G sp sc [32, 65, 92, 145] d mX12_eachOrder n 133 L (.inl x :: st) h Q | _ => False)) ∧
  (∀ (n d : Nat) (L : List (Option iV)) (r : List iV) (v : iV) (m : Nat) (h : iH) (Q : Option iV → iH → Prop), G sp sc [32, 65, 92, 145] d mX12_eachOrder (n + 1) 133 L (v :: .inr (.inr (m + 2)) :: r) h Q = (match h.1[m]? with | some (.inl (ci, fs)) => (match lkF 12 222 ci with | some k => (fitV (tyT ci k) v = true ∧ k < fs.length ∧ pOK 12 false ci k = true) ∧ G sp sc [32, 65, 92, 145] d mX12_eachOrder n 136 L r (h.1.set m (.inl (ci, fs.set k v)), h.2) Q | none => False) | _ => False)) ∧
  (∀ (n d : Nat) (L : List (Option iV)) (st : List iV) (h : iH) (Q : Option iV → iH → Prop), G sp sc [32, 65, 92, 145] d mX12_eachOrder (n + 1) 136 L st h Q = (match ld L 0 with | some (.inr (.inr (r + 1))) => G sp sc [32, 65, 92, 145] d mX12_eachOrder n 137 L (.inr (.inr (r + 1)) :: st) h Q | _ => False)) ∧
  (∀ (n d : Nat) (L : List (Option iV)) (st : List iV) (h : iH) (Q : Option iV → iH → Prop), G sp sc [32, 65, 92, 145] d mX12_eachOrder (n + 1) 137 L st h Q = (match ld L 3 with | some (.inl x) => G sp sc [32, 65, 92, 145] d mX12_eachOrder n 138 L (.inl x :: st) h Q | _ => False)) ∧
  (∀ (n d : Nat) (L : List (Option iV)) (r : List iV) (v : iV) (m : Nat) (h : iH) (Q : Option iV → iH → Prop), G sp sc [32, 65, 92, 145] d mX12_eachOrder (n + 1) 138 L (v :: .inr (.inr (m + 2)) :: r) h Q = (match h.1[m]? with | some (.inl (ci, fs)) => (match lkF 12 225 ci with | some k => (fitV (tyT ci k) v = true ∧ k < fs.length ∧ pOK 12 false ci k = true) ∧ G sp sc [32, 65, 92, 145] d mX12_eachOrder n 141 L r (h.1.set m (.inl (ci, fs.set k v)), h.2) Q | none => False) | _ => False)) ∧
  (∀ (n d : Nat) (L : List (Option iV))  (h : iH) (Q : Option iV → iH → Prop), G sp sc [32, 65, 92, 145] d mX12_eachOrder (n + 1) 141 L [] h Q = Q none h) ∧
  (∀ (n d : Nat) (L : List (Option iV)) (st : List iV) (h : iH) (Q : Option iV → iH → Prop), G sp sc [32, 65, 92, 145] d mX12_eachOrder (n + 1) 142 L st h Q = G sp sc [32, 65, 92, 145] d mX12_eachOrder n 143 L (.inl 0 :: st) h Q) ∧
  (∀ (n d : Nat) (L : List (Option iV)) (r : List iV) (x : Int) (h : iH) (Q : Option iV → iH → Prop), G sp sc [32, 65, 92, 145] d mX12_eachOrder (n + 1) 143 L (.inl x :: r) h Q = (match st1 L 4 (.inl x) with | some L' => Run sp sc d mX12_eachOrder 145 L' r h Q | none => False)) ∧
  (∀ (n d : Nat) (L : List (Option iV)) (st : List iV) (h : iH) (Q : Option iV → iH → Prop), G sp sc [32, 65, 92, 145] d mX12_eachOrder (n + 1) 145 L st h Q = (match ld L 4 with | some (.inl x) => G sp sc [32, 65, 92, 145] d mX12_eachOrder n 147 L (.inl x :: st) h Q | _ => False)) ∧
  (∀ (n d : Nat) (L : List (Option iV)) (st : List iV) (h : iH) (Q : Option iV → iH → Prop), G sp sc [32, 65, 92, 145] d mX12_eachOrder (n + 1) 147 L st h Q = (match ld L 0 with | some (.inr (.inr (r + 1))) => G sp sc [32, 65, 92, 145] d mX12_eachOrder n 148 L (.inr (.inr (r + 1)) :: st) h Q | _ => False)) ∧
  (∀ (n d : Nat) (L : List (Option iV)) (r : List iV) (m : Nat) (h : iH) (Q : Option iV → iH → Prop), G sp sc [32, 65, 92, 145] d mX12_eachOrder (n + 1) 148 L (.inr (.inr (m + 2)) :: r) h Q = (match h.1[m]? with | some (.inl (ci, fs)) => (match lkF 12 9 ci with | some k => (match fs[k]? with | some v => G sp sc [32, 65, 92, 145] d mX12_eachOrder n 151 L (v :: r) h Q | none => False) | none => False) | _ => False)) ∧
  (∀ (n d : Nat) (L : List (Option iV)) (st : List iV) (h : iH) (Q : Option iV → iH → Prop), G sp sc [32, 65, 92, 145] d mX12_eachOrder (n + 1) 151 L st h Q = G sp sc [32, 65, 92, 145] d mX12_eachOrder n 152 L (.inl 2 :: st) h Q) ∧
  (∀ (n d : Nat) (L : List (Option iV)) (r : List iV) (j : Int) (m : Nat) (h : iH) (Q : Option iV → iH → Prop), G sp sc [32, 65, 92, 145] d mX12_eachOrder (n + 1) 152 L (.inl j :: .inr (.inr (m + 2)) :: r) h Q = (match h.1[m]? with | some (.inr (.inl (0, xs))) => inA j xs.length = true ∧ G sp sc [32, 65, 92, 145] d mX12_eachOrder n 153 L (.inl (xs.getD j.toNat 0) :: r) h Q | _ => False)) ∧
  (∀ (n d : Nat) (L : List (Option iV)) (a : Int) (b : Int) (r : List iV) (h : iH) (Q : Option iV → iH → Prop), G sp sc [32, 65, 92, 145] d mX12_eachOrder (n + 1) 153 L (.inl b :: .inl a :: r) h Q = ((inI a = true ∧ inI b = true) ∧ (b ≤ a → G sp sc [32, 65, 92, 145] d mX12_eachOrder n 193 L r h Q) ∧ (¬ (b ≤ a) → G sp sc [32, 65, 92, 145] d mX12_eachOrder n 156 L r h Q))) ∧
  (∀ (n d : Nat) (L : List (Option iV)) (st : List iV) (h : iH) (Q : Option iV → iH → Prop), G sp sc [32, 65, 92, 145] d mX12_eachOrder (n + 1) 156 L st h Q = (match ld L 2 with | some (.inl x) => G sp sc [32, 65, 92, 145] d mX12_eachOrder n 157 L (.inl x :: st) h Q | _ => False)) ∧
  (∀ (n d : Nat) (L : List (Option iV)) (st : List iV) (h : iH) (Q : Option iV → iH → Prop), G sp sc [32, 65, 92, 145] d mX12_eachOrder (n + 1) 157 L st h Q = (match ld L 4 with | some (.inl x) => G sp sc [32, 65, 92, 145] d mX12_eachOrder n 159 L (.inl x :: st) h Q | _ => False)) ∧
  (∀ (n d : Nat) (L : List (Option iV)) (r : List iV) (z0 : iV) (z1 : iV) (h : iH) (Q : Option iV → iH → Prop), G sp sc [32, 65, 92, 145] (d + 1) mX12_eachOrder (n + 1) 159 L (z1 :: z0 :: r) h Q = (cs r ≤ 8 ∧ Call sp sc d mX12_has [z0, z1] h (fun q h1 => GC sp sc [32, 65, 92, 145] (d + 1) mX12_eachOrder n 162 L q r h h1 Q))) ∧
  (∀ (n d : Nat) (L : List (Option iV)) (a : Int) (r : List iV) (h : iH) (Q : Option iV → iH → Prop), G sp sc [32, 65, 92, 145] d mX12_eachOrder (n + 1) 162 L (.inl a :: r) h Q = (inI a = true ∧ (a = 0 → G sp sc [32, 65, 92, 145] d mX12_eachOrder n 187 L r h Q) ∧ (¬ (a = 0) → G sp sc [32, 65, 92, 145] d mX12_eachOrder n 165 L r h Q))) ∧
  (∀ (n d : Nat) (L : List (Option iV)) (st : List iV) (h : iH) (Q : Option iV → iH → Prop), G sp sc [32, 65, 92, 145] d mX12_eachOrder (n + 1) 165 L st h Q = (match ld L 0 with | some (.inr (.inr (r + 1))) => G sp sc [32, 65, 92, 145] d mX12_eachOrder n 166 L (.inr (.inr (r + 1)) :: st) h Q | _ => False)) ∧
  (∀ (n d : Nat) (L : List (Option iV)) (st : List iV) (h : iH) (Q : Option iV → iH → Prop), G sp sc [32, 65, 92, 145] d mX12_eachOrder (n + 1) 166 L st h Q = (match ld L 1 with | some (.inl x) => G sp sc [32, 65, 92, 145] d mX12_eachOrder n 167 L (.inl x :: st) h Q | _ => False)) ∧
  (∀ (n d : Nat) (L : List (Option iV)) (st : List iV) (h : iH) (Q : Option iV → iH → Prop), G sp sc [32, 65, 92, 145] d mX12_eachOrder (n + 1) 167 L st h Q = G sp sc [32, 65, 92, 145] d mX12_eachOrder n 168 L (.inl 1 :: st) h Q) ∧
  (∀ (n d : Nat) (L : List (Option iV)) (a : Int) (b : Int) (r : List iV) (h : iH) (Q : Option iV → iH → Prop), G sp sc [32, 65, 92, 145] d mX12_eachOrder (n + 1) 168 L (.inl b :: .inl a :: r) h Q = G sp sc [32, 65, 92, 145] d mX12_eachOrder n 169 L (.inl (a + b) :: r) h Q) ∧
  (∀ (n d : Nat) (L : List (Option iV)) (st : List iV) (h : iH) (Q : Option iV → iH → Prop), G sp sc [32, 65, 92, 145] d mX12_eachOrder (n + 1) 169 L st h Q = (match ld L 2 with | some (.inl x) => G sp sc [32, 65, 92, 145] d mX12_eachOrder n 170 L (.inl x :: st) h Q | _ => False)) ∧
  (∀ (n d : Nat) (L : List (Option iV)) (st : List iV) (h : iH) (Q : Option iV → iH → Prop), G sp sc [32, 65, 92, 145] d mX12_eachOrder (n + 1) 170 L st h Q = G sp sc [32, 65, 92, 145] d mX12_eachOrder n 171 L (.inl 1 :: st) h Q) ∧
  (∀ (n d : Nat) (L : List (Option iV)) (st : List iV) (h : iH) (Q : Option iV → iH → Prop), G sp sc [32, 65, 92, 145] d mX12_eachOrder (n + 1) 171 L st h Q = (match ld L 4 with | some (.inl x) => G sp sc [32, 65, 92, 145] d mX12_eachOrder n 173 L (.inl x :: st) h Q | _ => False)) ∧
  (∀ (n d : Nat) (L : List (Option iV)) (a : Int) (b : Int) (r : List iV) (h : iH) (Q : Option iV → iH → Prop), G sp sc [32, 65, 92, 145] d mX12_eachOrder (n + 1) 173 L (.inl b :: .inl a :: r) h Q = G sp sc [32, 65, 92, 145] d mX12_eachOrder n 174 L (.inl (bShl a b) :: r) h Q) ∧
  (∀ (n d : Nat) (L : List (Option iV)) (st : List iV) (h : iH) (Q : Option iV → iH → Prop), G sp sc [32, 65, 92, 145] d mX12_eachOrder (n + 1) 174 L st h Q = G sp sc [32, 65, 92, 145] d mX12_eachOrder n 175 L (.inl (-1) :: st) h Q) ∧
  (∀ (n d : Nat) (L : List (Option iV)) (a : Int) (b : Int) (r : List iV) (h : iH) (Q : Option iV → iH → Prop), G sp sc [32, 65, 92, 145] d mX12_eachOrder (n + 1) 175 L (.inl b :: .inl a :: r) h Q = G sp sc [32, 65, 92, 145] d mX12_eachOrder n 176 L (.inl (bXor a b) :: r) h Q) ∧
  (∀ (n d : Nat) (L : List (Option iV)) (a : Int) (b : Int) (r : List iV) (h : iH) (Q : Option iV → iH → Prop), G sp sc [32, 65, 92, 145] d mX12_eachOrder (n + 1) 176 L (.inl b :: .inl a :: r) h Q = G sp sc [32, 65, 92, 145] d mX12_eachOrder n 177 L (.inl (bAnd a b) :: r) h Q) ∧
  (∀ (n d : Nat) (L : List (Option iV)) (st : List iV) (h : iH) (Q : Option iV → iH → Prop), G sp sc [32, 65, 92, 145] d mX12_eachOrder (n + 1) 177 L st h Q = ((-128 ≤ (10 : Int) ∧ (10 : Int) < 128) ∧ G sp sc [32, 65, 92, 145] d mX12_eachOrder n 179 L (.inl 10 :: st) h Q)) ∧
  (∀ (n d : Nat) (L : List (Option iV)) (st : List iV) (h : iH) (Q : Option iV → iH → Prop), G sp sc [32, 65, 92, 145] d mX12_eachOrder (n + 1) 179 L st h Q = (match ld L 3 with | some (.inl x) => G sp sc [32, 65, 92, 145] d mX12_eachOrder n 180 L (.inl x :: st) h Q | _ => False)) ∧
  (∀ (n d : Nat) (L : List (Option iV)) (a : Int) (b : Int) (r : List iV) (h : iH) (Q : Option iV → iH → Prop), G sp sc [32, 65, 92, 145] d mX12_eachOrder (n + 1) 180 L (.inl b :: .inl a :: r) h Q = G sp sc [32, 65, 92, 145] d mX12_eachOrder n 181 L (.inl (a * b) :: r) h Q) ∧
  (∀ (n d : Nat) (L : List (Option iV)) (st : List iV) (h : iH) (Q : Option iV → iH → Prop), G sp sc [32, 65, 92, 145] d mX12_eachOrder (n + 1) 181 L st h Q = (match ld L 4 with | some (.inl x) => G sp sc [32, 65, 92, 145] d mX12_eachOrder n 183 L (.inl x :: st) h Q | _ => False)) ∧
  (∀ (n d : Nat) (L : List (Option iV)) (a : Int) (b : Int) (r : List iV) (h : iH) (Q : Option iV → iH → Prop), G sp sc [32, 65, 92, 145] d mX12_eachOrder (n + 1) 183 L (.inl b :: .inl a :: r) h Q = G sp sc [32, 65, 92, 145] d mX12_eachOrder n 184 L (.inl (a + b) :: r) h Q) ∧
  (∀ (n d : Nat) (L : List (Option iV)) (r : List iV) (m : Nat) (z0 : iV) (z1 : iV) (z2 : iV) (h : iH) (Q : Option iV → iH → Prop), G sp sc [32, 65, 92, 145] (d + 1) mX12_eachOrder (n + 1) 184 L (z2 :: z1 :: z0 :: .inr (.inr (m + 2)) :: r) h Q = (match h.1[m]? with | some (.inl (ci, _)) => (match lkC 12 228 ci with | some (y1, n1, kd) => (n1 = 3 ∧ (kd = 2 ∨ kd = 3 ∨ kd = 8) ∧ cs r ≤ 8) ∧ Call sp sc d y1 [.inr (.inr (m + 2)), z0, z1, z2] h (fun q h1 => GC sp sc [32, 65, 92, 145] (d + 1) mX12_eachOrder n 187 L q r h h1 Q) | none => False) | _ => False)) ∧
  (∀ (n d : Nat) (L : List (Option iV)) (st : List iV) (h : iH) (Q : Option iV → iH → Prop), G sp sc [32, 65, 92, 145] d mX12_eachOrder (n + 1) 187 L st h Q = (match ld L 4 with | some (.inl x) => (match st1 L 4 (.inl (x + 1)) with | some L' => G sp sc [32, 65, 92, 145] d mX12_eachOrder n 190 L' st h Q | none => False) | _ => False)) ∧
  (∀ (n d : Nat) (L : List (Option iV)) (st : List iV) (h : iH) (Q : Option iV → iH → Prop), G sp sc [32, 65, 92, 145] d mX12_eachOrder (n + 1) 190 L st h Q = Run sp sc d mX12_eachOrder 145 L st h Q) ∧
  (∀ (n d : Nat) (L : List (Option iV))  (h : iH) (Q : Option iV → iH → Prop), G sp sc [32, 65, 92, 145] d mX12_eachOrder (n + 1) 193 L [] h Q = Q none h) ∧
  lkC 12 149 12 = some (mX12_begins, 0, 2) ∧
  lkC 12 152 12 = some (mX12_goes, 1, 2) ∧
  lkC 12 219 12 = some (mX12_daysTillWed, 1, 2) ∧
  lkC 12 228 12 = some (mX12_eachOrder, 3, 2) ∧
  lkF 12 13 12 = some 1 ∧
  lkF 12 222 12 = some 16 ∧
  lkF 12 225 12 = some 17 ∧
  lkF 12 28 12 = some 7 ∧
  lkF 12 9 12 = some 0 ∧
  pOK 12 false 12 16 = true ∧
  pOK 12 false 12 17 = true := ⟨by intros; exact G_at (by decide +kernel : fetch mX12_eachOrder 0 = some (.iload_n 2)),
  by intros; exact G_at (by decide +kernel : fetch mX12_eachOrder 1 = some (.ifCond .ne 141)),
  by intros; exact G_at (by decide +kernel : fetch mX12_eachOrder 4 = some (.iload_n 3)),
  by intros; exact G_at (by decide +kernel : fetch mX12_eachOrder 5 = some (.istore 4)),
  by intros; exact G_at (by decide +kernel : fetch mX12_eachOrder 7 = some (.aload_n 0)),
  by intros; exact G_own (by decide +kernel : fetch mX12_eachOrder 8 = some (.getfield 9)) (by decide +kernel),
  by intros; exact G_at (by decide +kernel : fetch mX12_eachOrder 11 = some (.aload_n 0)),
  by intros; exact G_own (by decide +kernel : fetch mX12_eachOrder 12 = some (.getfield 13)) (by decide +kernel),
  by intros; exact G_callS (k := 2) (kd := 0) (by decide +kernel : fetch mX12_eachOrder 15 = some (.invokestatic 145)) (by decide +kernel) (by decide +kernel) (by decide +kernel) rfl (by decide),
  by intros; exact G_at (by decide +kernel : fetch mX12_eachOrder 18 = some (.aload_n 0)),
  by intros; exact G_callV (by decide +kernel : fetch mX12_eachOrder 19 = some (.invokevirtual 149)) (by decide +kernel) (by decide +kernel) rfl,
  by intros; exact G_at (by decide +kernel : fetch mX12_eachOrder 22 = some (.aload_n 0)),
  by intros; exact G_own (by decide +kernel : fetch mX12_eachOrder 23 = some (.getfield 9)) (by decide +kernel),
  by intros; exact G_at (by decide +kernel : fetch mX12_eachOrder 26 = some (.iconst 2)),
  by intros; exact G_at (by decide +kernel : fetch mX12_eachOrder 27 = some (.iaload)),
  by intros; exact G_at (by decide +kernel : fetch mX12_eachOrder 28 = some (.iconst 1)),
  by intros; exact G_at (by decide +kernel : fetch mX12_eachOrder 29 = some (.isub)),
  by intros; exact G_at (by decide +kernel : fetch mX12_eachOrder 30 = some (.istore 5)),
  by intros; exact G_at (by decide +kernel : fetch mX12_eachOrder 32 = some (.iload 5)),
  by intros; exact G_at (by decide +kernel : fetch mX12_eachOrder 34 = some (.ifCond .lt 28)),
  by intros; exact G_at (by decide +kernel : fetch mX12_eachOrder 37 = some (.aload_n 0)),
  by intros; exact G_own (by decide +kernel : fetch mX12_eachOrder 38 = some (.getfield 28)) (by decide +kernel),
  by intros; exact G_at (by decide +kernel : fetch mX12_eachOrder 41 = some (.iload 5)),
  by intros; exact G_at (by decide +kernel : fetch mX12_eachOrder 43 = some (.iload 4)),
  by intros; exact G_at (by decide +kernel : fetch mX12_eachOrder 45 = some (.bipush 10)),
  by intros; exact G_at (by decide +kernel : fetch mX12_eachOrder 47 = some (.irem)),
  by intros; exact G_at (by decide +kernel : fetch mX12_eachOrder 48 = some (.iastore)),
  by intros; exact G_at (by decide +kernel : fetch mX12_eachOrder 49 = some (.iload 4)),
  by intros; exact G_at (by decide +kernel : fetch mX12_eachOrder 51 = some (.bipush 10)),
  by intros; exact G_at (by decide +kernel : fetch mX12_eachOrder 53 = some (.idiv)),
  by intros; exact G_at (by decide +kernel : fetch mX12_eachOrder 54 = some (.istore 4)),
  by intros; exact G_at (by decide +kernel : fetch mX12_eachOrder 56 = some (.iinc 5 (-1))),
  by intros; exact G_at (by decide +kernel : fetch mX12_eachOrder 59 = some (.goto (-27))),
  by intros; exact G_at (by decide +kernel : fetch mX12_eachOrder 62 = some (.iconst 0)),
  by intros; exact G_at (by decide +kernel : fetch mX12_eachOrder 63 = some (.istore 5)),
  by intros; exact G_at (by decide +kernel : fetch mX12_eachOrder 65 = some (.iload 5)),
  by intros; exact G_at (by decide +kernel : fetch mX12_eachOrder 67 = some (.bipush 60)),
  by intros; exact G_at (by decide +kernel : fetch mX12_eachOrder 69 = some (.if_icmp .ge 17)),
  by intros; exact G_at (by decide +kernel : fetch mX12_eachOrder 72 = some (.aload_n 0)),
  by intros; exact G_at (by decide +kernel : fetch mX12_eachOrder 73 = some (.aload_n 0)),
  by intros; exact G_own (by decide +kernel : fetch mX12_eachOrder 74 = some (.getfield 13)) (by decide +kernel),
  by intros; exact G_callV (by decide +kernel : fetch mX12_eachOrder 77 = some (.invokevirtual 152)) (by decide +kernel) (by decide +kernel) rfl,
  by intros; exact G_at (by decide +kernel : fetch mX12_eachOrder 80 = some (.iinc 5 1)),
  by intros; exact G_at (by decide +kernel : fetch mX12_eachOrder 83 = some (.goto (-18))),
  by intros; exact G_at (by decide +kernel : fetch mX12_eachOrder 86 = some (.iconst 0)),
  by intros; exact G_at (by decide +kernel : fetch mX12_eachOrder 87 = some (.istore 5)),
  by intros; exact G_at (by decide +kernel : fetch mX12_eachOrder 89 = some (.iconst 0)),
  by intros; exact G_at (by decide +kernel : fetch mX12_eachOrder 90 = some (.istore 6)),
  by intros; exact G_at (by decide +kernel : fetch mX12_eachOrder 92 = some (.iload 6)),
  by intros; exact G_at (by decide +kernel : fetch mX12_eachOrder 94 = some (.aload_n 0)),
  by intros; exact G_own (by decide +kernel : fetch mX12_eachOrder 95 = some (.getfield 9)) (by decide +kernel),
  by intros; exact G_at (by decide +kernel : fetch mX12_eachOrder 98 = some (.iconst 2)),
  by intros; exact G_at (by decide +kernel : fetch mX12_eachOrder 99 = some (.iaload)),
  by intros; exact G_at (by decide +kernel : fetch mX12_eachOrder 100 = some (.if_icmp .ge 20)),
  by intros; exact G_at (by decide +kernel : fetch mX12_eachOrder 103 = some (.iload 5)),
  by intros; exact G_at (by decide +kernel : fetch mX12_eachOrder 105 = some (.aload_n 0)),
  by intros; exact G_at (by decide +kernel : fetch mX12_eachOrder 106 = some (.iload 6)),
  by intros; exact G_callV (by decide +kernel : fetch mX12_eachOrder 108 = some (.invokevirtual 219)) (by decide +kernel) (by decide +kernel) rfl,
  by intros; exact G_at (by decide +kernel : fetch mX12_eachOrder 111 = some (.iadd)),
  by intros; exact G_at (by decide +kernel : fetch mX12_eachOrder 112 = some (.istore 5)),
  by intros; exact G_at (by decide +kernel : fetch mX12_eachOrder 114 = some (.iinc 6 1)),
  by intros; exact G_at (by decide +kernel : fetch mX12_eachOrder 117 = some (.goto (-25))),
  by intros; exact G_at (by decide +kernel : fetch mX12_eachOrder 120 = some (.iload 5)),
  by intros; exact G_at (by decide +kernel : fetch mX12_eachOrder 122 = some (.aload_n 0)),
  by intros; exact G_own (by decide +kernel : fetch mX12_eachOrder 123 = some (.getfield 222)) (by decide +kernel),
  by intros; exact G_at (by decide +kernel : fetch mX12_eachOrder 126 = some (.if_icmp .lt 4)),
  by intros; exact G_retv (by decide +kernel : fetch mX12_eachOrder 129 = some (.return_)) (by decide +kernel),
  by intros; exact G_at (by decide +kernel : fetch mX12_eachOrder 130 = some (.aload_n 0)),
  by intros; exact G_at (by decide +kernel : fetch mX12_eachOrder 131 = some (.iload 5)),
  by intros; exact G_ownW (by decide +kernel : fetch mX12_eachOrder 133 = some (.putfield 222)) (by decide +kernel) (by decide +kernel),
  by intros; exact G_at (by decide +kernel : fetch mX12_eachOrder 136 = some (.aload_n 0)),
  by intros; exact G_at (by decide +kernel : fetch mX12_eachOrder 137 = some (.iload_n 3)),
  by intros; exact G_ownW (by decide +kernel : fetch mX12_eachOrder 138 = some (.putfield 225)) (by decide +kernel) (by decide +kernel),
  by intros; exact G_retv (by decide +kernel : fetch mX12_eachOrder 141 = some (.return_)) (by decide +kernel),
  by intros; exact G_at (by decide +kernel : fetch mX12_eachOrder 142 = some (.iconst 0)),
  by intros; exact G_at (by decide +kernel : fetch mX12_eachOrder 143 = some (.istore 4)),
  by intros; exact G_at (by decide +kernel : fetch mX12_eachOrder 145 = some (.iload 4)),
  by intros; exact G_at (by decide +kernel : fetch mX12_eachOrder 147 = some (.aload_n 0)),
  by intros; exact G_own (by decide +kernel : fetch mX12_eachOrder 148 = some (.getfield 9)) (by decide +kernel),
  by intros; exact G_at (by decide +kernel : fetch mX12_eachOrder 151 = some (.iconst 2)),
  by intros; exact G_at (by decide +kernel : fetch mX12_eachOrder 152 = some (.iaload)),
  by intros; exact G_at (by decide +kernel : fetch mX12_eachOrder 153 = some (.if_icmp .ge 40)),
  by intros; exact G_at (by decide +kernel : fetch mX12_eachOrder 156 = some (.iload_n 2)),
  by intros; exact G_at (by decide +kernel : fetch mX12_eachOrder 157 = some (.iload 4)),
  by intros; exact G_callS (k := 2) (kd := 0) (by decide +kernel : fetch mX12_eachOrder 159 = some (.invokestatic 131)) (by decide +kernel) (by decide +kernel) (by decide +kernel) rfl (by decide),
  by intros; exact G_at (by decide +kernel : fetch mX12_eachOrder 162 = some (.ifCond .eq 25)),
  by intros; exact G_at (by decide +kernel : fetch mX12_eachOrder 165 = some (.aload_n 0)),
  by intros; exact G_at (by decide +kernel : fetch mX12_eachOrder 166 = some (.iload_n 1)),
  by intros; exact G_at (by decide +kernel : fetch mX12_eachOrder 167 = some (.iconst 1)),
  by intros; exact G_at (by decide +kernel : fetch mX12_eachOrder 168 = some (.iadd)),
  by intros; exact G_at (by decide +kernel : fetch mX12_eachOrder 169 = some (.iload_n 2)),
  by intros; exact G_at (by decide +kernel : fetch mX12_eachOrder 170 = some (.iconst 1)),
  by intros; exact G_at (by decide +kernel : fetch mX12_eachOrder 171 = some (.iload 4)),
  by intros; exact G_at (by decide +kernel : fetch mX12_eachOrder 173 = some (.ishl)),
  by intros; exact G_at (by decide +kernel : fetch mX12_eachOrder 174 = some (.iconst (-1))),
  by intros; exact G_at (by decide +kernel : fetch mX12_eachOrder 175 = some (.ixor)),
  by intros; exact G_at (by decide +kernel : fetch mX12_eachOrder 176 = some (.iand)),
  by intros; exact G_at (by decide +kernel : fetch mX12_eachOrder 177 = some (.bipush 10)),
  by intros; exact G_at (by decide +kernel : fetch mX12_eachOrder 179 = some (.iload_n 3)),
  by intros; exact G_at (by decide +kernel : fetch mX12_eachOrder 180 = some (.imul)),
  by intros; exact G_at (by decide +kernel : fetch mX12_eachOrder 181 = some (.iload 4)),
  by intros; exact G_at (by decide +kernel : fetch mX12_eachOrder 183 = some (.iadd)),
  by intros; exact G_callV (by decide +kernel : fetch mX12_eachOrder 184 = some (.invokevirtual 228)) (by decide +kernel) (by decide +kernel) rfl,
  by intros; exact G_at (by decide +kernel : fetch mX12_eachOrder 187 = some (.iinc 4 1)),
  by intros; exact G_at (by decide +kernel : fetch mX12_eachOrder 190 = some (.goto (-45))),
  by intros; exact G_retv (by decide +kernel : fetch mX12_eachOrder 193 = some (.return_)) (by decide +kernel),
  by decide +kernel,
  by decide +kernel,
  by decide +kernel,
  by decide +kernel,
  by decide +kernel,
  by decide +kernel,
  by decide +kernel,
  by decide +kernel,
  by decide +kernel,
  by decide +kernel,
  by decide +kernel⟩
theorem gX12_orders : (∀ (n d : Nat) (L : List (Option iV)) (st : List iV) (h : iH) (Q : Option iV → iH → Prop), G sp sc [] d mX12_orders (n + 1) 0 L st h Q = (match ld L 1 with | some (.inl x) => G sp sc [] d mX12_orders n 1 L (.inl x :: st) h Q | _ => False)) ∧
  (∀ (n d : Nat) (L : List (Option iV)) (st : List iV) (h : iH) (Q : Option iV → iH → Prop), G sp sc [] d mX12_orders (n + 1) 1 L st h Q = G sp sc [] d mX12_orders n 2 L (.inl 0 :: st) h Q) ∧
  (∀ (n d : Nat) (L : List (Option iV)) (st : List iV) (h : iH) (Q : Option iV → iH → Prop), G sp sc [] d mX12_orders (n + 1) 2 L st h Q = G sp sc [] d mX12_orders n 3 L (.inl 1 :: st) h Q) ∧
  (∀ (n d : Nat) (L : List (Option iV)) (r : List iV) (z0 : iV) (z1 : iV) (z2 : iV) (h : iH) (Q : Option iV → iH → Prop), G sp sc [] (d + 1) mX12_orders (n + 1) 3 L (z2 :: z1 :: z0 :: r) h Q = (cs r ≤ 8 ∧ Call sp sc d mX12_isIn [z0, z1, z2] h (fun q h1 => GC sp sc [] (d + 1) mX12_orders n 6 L q r h h1 Q))) ∧
  (∀ (n d : Nat) (L : List (Option iV)) (a : Int) (r : List iV) (h : iH) (Q : Option iV → iH → Prop), G sp sc [] d mX12_orders (n + 1) 6 L (.inl a :: r) h Q = (inI a = true ∧ (¬ a = 0 → G sp sc [] d mX12_orders n 11 L r h Q) ∧ (¬ (¬ a = 0) → G sp sc [] d mX12_orders n 9 L r h Q))) ∧
  (∀ (n d : Nat) (L : List (Option iV)) (st : List iV) (h : iH) (Q : Option iV → iH → Prop), G sp sc [] d mX12_orders (n + 1) 9 L st h Q = G sp sc [] d mX12_orders n 10 L (.inl (-1) :: st) h Q) ∧
  (∀ (n d : Nat) (L : List (Option iV)) (a : Int) (h : iH) (Q : Option iV → iH → Prop), G sp sc [] d mX12_orders (n + 1) 10 L [.inl a] h Q = Q (some (.inl a)) h) ∧
  (∀ (n d : Nat) (L : List (Option iV)) (st : List iV) (h : iH) (Q : Option iV → iH → Prop), G sp sc [] d mX12_orders (n + 1) 11 L st h Q = (match ld L 0 with | some (.inr (.inr (r + 1))) => G sp sc [] d mX12_orders n 12 L (.inr (.inr (r + 1)) :: st) h Q | _ => False)) ∧
  (∀ (n d : Nat) (L : List (Option iV)) (r : List iV) (m : Nat) (h : iH) (Q : Option iV → iH → Prop), G sp sc [] d mX12_orders (n + 1) 12 L (.inr (.inr (m + 2)) :: r) h Q = (match h.1[m]? with | some (.inl (ci, fs)) => (match lkF 12 9 ci with | some k => (match fs[k]? with | some v => G sp sc [] d mX12_orders n 15 L (v :: r) h Q | none => False) | none => False) | _ => False)) ∧
  (∀ (n d : Nat) (L : List (Option iV)) (st : List iV) (h : iH) (Q : Option iV → iH → Prop), G sp sc [] d mX12_orders (n + 1) 15 L st h Q = G sp sc [] d mX12_orders n 16 L (.inl 2 :: st) h Q) ∧
  (∀ (n d : Nat) (L : List (Option iV)) (r : List iV) (j : Int) (m : Nat) (h : iH) (Q : Option iV → iH → Prop), G sp sc [] d mX12_orders (n + 1) 16 L (.inl j :: .inr (.inr (m + 2)) :: r) h Q = (match h.1[m]? with | some (.inr (.inl (0, xs))) => inA j xs.length = true ∧ G sp sc [] d mX12_orders n 17 L (.inl (xs.getD j.toNat 0) :: r) h Q | _ => False)) ∧
  (∀ (n d : Nat) (L : List (Option iV)) (a : Int) (r : List iV) (h : iH) (Q : Option iV → iH → Prop), G sp sc [] d mX12_orders (n + 1) 17 L (.inl a :: r) h Q = (inI a = true ∧ (¬ a = 0 → G sp sc [] d mX12_orders n 23 L r h Q) ∧ (¬ (¬ a = 0) → G sp sc [] d mX12_orders n 20 L r h Q))) ∧
  (∀ (n d : Nat) (L : List (Option iV)) (st : List iV) (h : iH) (Q : Option iV → iH → Prop), G sp sc [] d mX12_orders (n + 1) 20 L st h Q = ((-128 ≤ ((-3) : Int) ∧ ((-3) : Int) < 128) ∧ G sp sc [] d mX12_orders n 22 L (.inl (-3) :: st) h Q)) ∧
  (∀ (n d : Nat) (L : List (Option iV)) (a : Int) (h : iH) (Q : Option iV → iH → Prop), G sp sc [] d mX12_orders (n + 1) 22 L [.inl a] h Q = Q (some (.inl a)) h) ∧
  (∀ (n d : Nat) (L : List (Option iV)) (st : List iV) (h : iH) (Q : Option iV → iH → Prop), G sp sc [] d mX12_orders (n + 1) 23 L st h Q = (match ld L 0 with | some (.inr (.inr (r + 1))) => G sp sc [] d mX12_orders n 24 L (.inr (.inr (r + 1)) :: st) h Q | _ => False)) ∧
  (∀ (n d : Nat) (L : List (Option iV)) (st : List iV) (h : iH) (Q : Option iV → iH → Prop), G sp sc [] d mX12_orders (n + 1) 24 L st h Q = G sp sc [] d mX12_orders n 26 L (.inl (1000000000) :: st) h Q) ∧
  (∀ (n d : Nat) (L : List (Option iV)) (r : List iV) (v : iV) (m : Nat) (h : iH) (Q : Option iV → iH → Prop), G sp sc [] d mX12_orders (n + 1) 26 L (v :: .inr (.inr (m + 2)) :: r) h Q = (match h.1[m]? with | some (.inl (ci, fs)) => (match lkF 12 222 ci with | some k => (fitV (tyT ci k) v = true ∧ k < fs.length ∧ pOK 12 false ci k = true) ∧ G sp sc [] d mX12_orders n 29 L r (h.1.set m (.inl (ci, fs.set k v)), h.2) Q | none => False) | _ => False)) ∧
  (∀ (n d : Nat) (L : List (Option iV)) (st : List iV) (h : iH) (Q : Option iV → iH → Prop), G sp sc [] d mX12_orders (n + 1) 29 L st h Q = (match ld L 0 with | some (.inr (.inr (r + 1))) => G sp sc [] d mX12_orders n 30 L (.inr (.inr (r + 1)) :: st) h Q | _ => False)) ∧
  (∀ (n d : Nat) (L : List (Option iV)) (st : List iV) (h : iH) (Q : Option iV → iH → Prop), G sp sc [] d mX12_orders (n + 1) 30 L st h Q = G sp sc [] d mX12_orders n 31 L (.inl 0 :: st) h Q) ∧
  (∀ (n d : Nat) (L : List (Option iV)) (st : List iV) (h : iH) (Q : Option iV → iH → Prop), G sp sc [] d mX12_orders (n + 1) 31 L st h Q = G sp sc [] d mX12_orders n 32 L (.inl 1 :: st) h Q) ∧
  (∀ (n d : Nat) (L : List (Option iV)) (st : List iV) (h : iH) (Q : Option iV → iH → Prop), G sp sc [] d mX12_orders (n + 1) 32 L st h Q = (match ld L 0 with | some (.inr (.inr (r + 1))) => G sp sc [] d mX12_orders n 33 L (.inr (.inr (r + 1)) :: st) h Q | _ => False)) ∧
  (∀ (n d : Nat) (L : List (Option iV)) (r : List iV) (m : Nat) (h : iH) (Q : Option iV → iH → Prop), G sp sc [] d mX12_orders (n + 1) 33 L (.inr (.inr (m + 2)) :: r) h Q = (match h.1[m]? with | some (.inl (ci, fs)) => (match lkF 12 9 ci with | some k => (match fs[k]? with | some v => G sp sc [] d mX12_orders n 36 L (v :: r) h Q | none => False) | none => False) | _ => False)) ∧
  (∀ (n d : Nat) (L : List (Option iV)) (st : List iV) (h : iH) (Q : Option iV → iH → Prop), G sp sc [] d mX12_orders (n + 1) 36 L st h Q = G sp sc [] d mX12_orders n 37 L (.inl 2 :: st) h Q) ∧
  (∀ (n d : Nat) (L : List (Option iV)) (r : List iV) (j : Int) (m : Nat) (h : iH) (Q : Option iV → iH → Prop), G sp sc [] d mX12_orders (n + 1) 37 L (.inl j :: .inr (.inr (m + 2)) :: r) h Q = (match h.1[m]? with | some (.inr (.inl (0, xs))) => inA j xs.length = true ∧ G sp sc [] d mX12_orders n 38 L (.inl (xs.getD j.toNat 0) :: r) h Q | _ => False)) ∧
  (∀ (n d : Nat) (L : List (Option iV)) (a : Int) (b : Int) (r : List iV) (h : iH) (Q : Option iV → iH → Prop), G sp sc [] d mX12_orders (n + 1) 38 L (.inl b :: .inl a :: r) h Q = G sp sc [] d mX12_orders n 39 L (.inl (bShl a b) :: r) h Q) ∧
  (∀ (n d : Nat) (L : List (Option iV)) (st : List iV) (h : iH) (Q : Option iV → iH → Prop), G sp sc [] d mX12_orders (n + 1) 39 L st h Q = G sp sc [] d mX12_orders n 40 L (.inl 1 :: st) h Q) ∧
  (∀ (n d : Nat) (L : List (Option iV)) (a : Int) (b : Int) (r : List iV) (h : iH) (Q : Option iV → iH → Prop), G sp sc [] d mX12_orders (n + 1) 40 L (.inl b :: .inl a :: r) h Q = G sp sc [] d mX12_orders n 41 L (.inl (a - b) :: r) h Q) ∧
  (∀ (n d : Nat) (L : List (Option iV)) (st : List iV) (h : iH) (Q : Option iV → iH → Prop), G sp sc [] d mX12_orders (n + 1) 41 L st h Q = G sp sc [] d mX12_orders n 42 L (.inl 0 :: st) h Q) ∧
  (∀ (n d : Nat) (L : List (Option iV)) (r : List iV) (m : Nat) (z0 : iV) (z1 : iV) (z2 : iV) (h : iH) (Q : Option iV → iH → Prop), G sp sc [] (d + 1) mX12_orders (n + 1) 42 L (z2 :: z1 :: z0 :: .inr (.inr (m + 2)) :: r) h Q = (match h.1[m]? with | some (.inl (ci, _)) => (match lkC 12 228 ci with | some (y1, n1, kd) => (n1 = 3 ∧ (kd = 2 ∨ kd = 3 ∨ kd = 8) ∧ cs r ≤ 8) ∧ Call sp sc d y1 [.inr (.inr (m + 2)), z0, z1, z2] h (fun q h1 => GC sp sc [] (d + 1) mX12_orders n 45 L q r h h1 Q) | none => False) | _ => False)) ∧
  (∀ (n d : Nat) (L : List (Option iV)) (st : List iV) (h : iH) (Q : Option iV → iH → Prop), G sp sc [] d mX12_orders (n + 1) 45 L st h Q = (match ld L 1 with | some (.inl x) => G sp sc [] d mX12_orders n 46 L (.inl x :: st) h Q | _ => False)) ∧
  (∀ (n d : Nat) (L : List (Option iV)) (a : Int) (r : List iV) (h : iH) (Q : Option iV → iH → Prop), G sp sc [] d mX12_orders (n + 1) 46 L (.inl a :: r) h Q = (inI a = true ∧ (¬ a = 0 → G sp sc [] d mX12_orders n 56 L r h Q) ∧ (¬ (¬ a = 0) → G sp sc [] d mX12_orders n 49 L r h Q))) ∧
  (∀ (n d : Nat) (L : List (Option iV)) (st : List iV) (h : iH) (Q : Option iV → iH → Prop), G sp sc [] d mX12_orders (n + 1) 49 L st h Q = (match ld L 0 with | some (.inr (.inr (r + 1))) => G sp sc [] d mX12_orders n 50 L (.inr (.inr (r + 1)) :: st) h Q | _ => False)) ∧
  (∀ (n d : Nat) (L : List (Option iV)) (r : List iV) (m : Nat) (h : iH) (Q : Option iV → iH → Prop), G sp sc [] d mX12_orders (n + 1) 50 L (.inr (.inr (m + 2)) :: r) h Q = (match h.1[m]? with | some (.inl (ci, fs)) => (match lkF 12 225 ci with | some k => (match fs[k]? with | some v => G sp sc [] d mX12_orders n 53 L (v :: r) h Q | none => False) | none => False) | _ => False)) ∧
  (∀ (n d : Nat) (L : List (Option iV)) (st : List iV) (h : iH) (Q : Option iV → iH → Prop), G sp sc [] d mX12_orders (n + 1) 53 L st h Q = G sp sc [] d mX12_orders n 60 L st h Q) ∧
  (∀ (n d : Nat) (L : List (Option iV)) (st : List iV) (h : iH) (Q : Option iV → iH → Prop), G sp sc [] d mX12_orders (n + 1) 56 L st h Q = (match ld L 0 with | some (.inr (.inr (r + 1))) => G sp sc [] d mX12_orders n 57 L (.inr (.inr (r + 1)) :: st) h Q | _ => False)) ∧
  (∀ (n d : Nat) (L : List (Option iV)) (r : List iV) (m : Nat) (h : iH) (Q : Option iV → iH → Prop), G sp sc [] d mX12_orders (n + 1) 57 L (.inr (.inr (m + 2)) :: r) h Q = (match h.1[m]? with | some (.inl (ci, fs)) => (match lkF 12 222 ci with | some k => (match fs[k]? with | some v => G sp sc [] d mX12_orders n 60 L (v :: r) h Q | none => False) | none => False) | _ => False)) ∧
  (∀ (n d : Nat) (L : List (Option iV)) (a : Int) (h : iH) (Q : Option iV → iH → Prop), G sp sc [] d mX12_orders (n + 1) 60 L [.inl a] h Q = Q (some (.inl a)) h) ∧
  lkC 12 228 12 = some (mX12_eachOrder, 3, 2) ∧
  lkF 12 222 12 = some 16 ∧
  lkF 12 225 12 = some 17 ∧
  lkF 12 9 12 = some 0 ∧
  pOK 12 false 12 16 = true := ⟨by intros; exact G_at (by decide +kernel : fetch mX12_orders 0 = some (.iload_n 1)),
  by intros; exact G_at (by decide +kernel : fetch mX12_orders 1 = some (.iconst 0)),
  by intros; exact G_at (by decide +kernel : fetch mX12_orders 2 = some (.iconst 1)),
  by intros; exact G_callS (k := 3) (kd := 0) (by decide +kernel : fetch mX12_orders 3 = some (.invokestatic 67)) (by decide +kernel) (by decide +kernel) (by decide +kernel) rfl (by decide),
  by intros; exact G_at (by decide +kernel : fetch mX12_orders 6 = some (.ifCond .ne 5)),
  by intros; exact G_at (by decide +kernel : fetch mX12_orders 9 = some (.iconst (-1))),
  by intros; exact G_reti (by decide +kernel : fetch mX12_orders 10 = some (.ireturn)) (by decide +kernel),
  by intros; exact G_at (by decide +kernel : fetch mX12_orders 11 = some (.aload_n 0)),
  by intros; exact G_own (by decide +kernel : fetch mX12_orders 12 = some (.getfield 9)) (by decide +kernel),
  by intros; exact G_at (by decide +kernel : fetch mX12_orders 15 = some (.iconst 2)),
  by intros; exact G_at (by decide +kernel : fetch mX12_orders 16 = some (.iaload)),
  by intros; exact G_at (by decide +kernel : fetch mX12_orders 17 = some (.ifCond .ne 6)),
  by intros; exact G_at (by decide +kernel : fetch mX12_orders 20 = some (.bipush (-3))),
  by intros; exact G_reti (by decide +kernel : fetch mX12_orders 22 = some (.ireturn)) (by decide +kernel),
  by intros; exact G_at (by decide +kernel : fetch mX12_orders 23 = some (.aload_n 0)),
  by intros; exact G_ldc (by decide +kernel : fetch mX12_orders 24 = some (.ldc 232)) (by decide +kernel),
  by intros; exact G_ownW (by decide +kernel : fetch mX12_orders 26 = some (.putfield 222)) (by decide +kernel) (by decide +kernel),
  by intros; exact G_at (by decide +kernel : fetch mX12_orders 29 = some (.aload_n 0)),
  by intros; exact G_at (by decide +kernel : fetch mX12_orders 30 = some (.iconst 0)),
  by intros; exact G_at (by decide +kernel : fetch mX12_orders 31 = some (.iconst 1)),
  by intros; exact G_at (by decide +kernel : fetch mX12_orders 32 = some (.aload_n 0)),
  by intros; exact G_own (by decide +kernel : fetch mX12_orders 33 = some (.getfield 9)) (by decide +kernel),
  by intros; exact G_at (by decide +kernel : fetch mX12_orders 36 = some (.iconst 2)),
  by intros; exact G_at (by decide +kernel : fetch mX12_orders 37 = some (.iaload)),
  by intros; exact G_at (by decide +kernel : fetch mX12_orders 38 = some (.ishl)),
  by intros; exact G_at (by decide +kernel : fetch mX12_orders 39 = some (.iconst 1)),
  by intros; exact G_at (by decide +kernel : fetch mX12_orders 40 = some (.isub)),
  by intros; exact G_at (by decide +kernel : fetch mX12_orders 41 = some (.iconst 0)),
  by intros; exact G_callV (by decide +kernel : fetch mX12_orders 42 = some (.invokevirtual 228)) (by decide +kernel) (by decide +kernel) rfl,
  by intros; exact G_at (by decide +kernel : fetch mX12_orders 45 = some (.iload_n 1)),
  by intros; exact G_at (by decide +kernel : fetch mX12_orders 46 = some (.ifCond .ne 10)),
  by intros; exact G_at (by decide +kernel : fetch mX12_orders 49 = some (.aload_n 0)),
  by intros; exact G_own (by decide +kernel : fetch mX12_orders 50 = some (.getfield 225)) (by decide +kernel),
  by intros; exact G_at (by decide +kernel : fetch mX12_orders 53 = some (.goto 7)),
  by intros; exact G_at (by decide +kernel : fetch mX12_orders 56 = some (.aload_n 0)),
  by intros; exact G_own (by decide +kernel : fetch mX12_orders 57 = some (.getfield 222)) (by decide +kernel),
  by intros; exact G_reti (by decide +kernel : fetch mX12_orders 60 = some (.ireturn)) (by decide +kernel),
  by decide +kernel,
  by decide +kernel,
  by decide +kernel,
  by decide +kernel,
  by decide +kernel⟩
theorem gX12_deputies : (∀ (n d : Nat) (L : List (Option iV)) (st : List iV) (h : iH) (Q : Option iV → iH → Prop), G sp sc [94, 108] d mX12_deputies (n + 1) 0 L st h Q = (match ld L 0 with | some (.inr (.inr (r + 1))) => G sp sc [94, 108] d mX12_deputies n 1 L (.inr (.inr (r + 1)) :: st) h Q | _ => False)) ∧
  (∀ (n d : Nat) (L : List (Option iV)) (st : List iV) (h : iH) (Q : Option iV → iH → Prop), G sp sc [94, 108] d mX12_deputies (n + 1) 1 L st h Q = (match ld L 1 with | some (.inl x) => G sp sc [94, 108] d mX12_deputies n 2 L (.inl x :: st) h Q | _ => False)) ∧
  (∀ (n d : Nat) (L : List (Option iV)) (r : List iV) (m : Nat) (z0 : iV) (h : iH) (Q : Option iV → iH → Prop), G sp sc [94, 108] (d + 1) mX12_deputies (n + 1) 2 L (z0 :: .inr (.inr (m + 2)) :: r) h Q = (match h.1[m]? with | some (.inl (ci, _)) => (match lkC 12 208 ci with | some (y1, n1, kd) => (n1 = 1 ∧ (kd = 2 ∨ kd = 3 ∨ kd = 8) ∧ cs r ≤ 8) ∧ Call sp sc d y1 [.inr (.inr (m + 2)), z0] h (fun q h1 => GC sp sc [94, 108] (d + 1) mX12_deputies n 5 L q r h h1 Q) | none => False) | _ => False)) ∧
  (∀ (n d : Nat) (L : List (Option iV)) (a : Int) (r : List iV) (h : iH) (Q : Option iV → iH → Prop), G sp sc [94, 108] d mX12_deputies (n + 1) 5 L (.inl a :: r) h Q = (inI a = true ∧ (a = 0 → G sp sc [94, 108] d mX12_deputies n 17 L r h Q) ∧ (¬ (a = 0) → G sp sc [94, 108] d mX12_deputies n 8 L r h Q))) ∧
  (∀ (n d : Nat) (L : List (Option iV)) (st : List iV) (h : iH) (Q : Option iV → iH → Prop), G sp sc [94, 108] d mX12_deputies (n + 1) 8 L st h Q = (match ld L 2 with | some (.inl x) => G sp sc [94, 108] d mX12_deputies n 9 L (.inl x :: st) h Q | _ => False)) ∧
  (∀ (n d : Nat) (L : List (Option iV)) (st : List iV) (h : iH) (Q : Option iV → iH → Prop), G sp sc [94, 108] d mX12_deputies (n + 1) 9 L st h Q = G sp sc [94, 108] d mX12_deputies n 10 L (.inl 0 :: st) h Q) ∧
  (∀ (n d : Nat) (L : List (Option iV)) (st : List iV) (h : iH) (Q : Option iV → iH → Prop), G sp sc [94, 108] d mX12_deputies (n + 1) 10 L st h Q = G sp sc [94, 108] d mX12_deputies n 11 L (.inl 1 :: st) h Q) ∧
  (∀ (n d : Nat) (L : List (Option iV)) (r : List iV) (z0 : iV) (z1 : iV) (z2 : iV) (h : iH) (Q : Option iV → iH → Prop), G sp sc [94, 108] (d + 1) mX12_deputies (n + 1) 11 L (z2 :: z1 :: z0 :: r) h Q = (cs r ≤ 8 ∧ Call sp sc d mX12_isIn [z0, z1, z2] h (fun q h1 => GC sp sc [94, 108] (d + 1) mX12_deputies n 14 L q r h h1 Q))) ∧
  (∀ (n d : Nat) (L : List (Option iV)) (a : Int) (r : List iV) (h : iH) (Q : Option iV → iH → Prop), G sp sc [94, 108] d mX12_deputies (n + 1) 14 L (.inl a :: r) h Q = (inI a = true ∧ (¬ a = 0 → G sp sc [94, 108] d mX12_deputies n 19 L r h Q) ∧ (¬ (¬ a = 0) → G sp sc [94, 108] d mX12_deputies n 17 L r h Q))) ∧
  (∀ (n d : Nat) (L : List (Option iV)) (st : List iV) (h : iH) (Q : Option iV → iH → Prop), G sp sc [94, 108] d mX12_deputies (n + 1) 17 L st h Q = G sp sc [94, 108] d mX12_deputies n 18 L (.inl (-1) :: st) h Q) ∧
  (∀ (n d : Nat) (L : List (Option iV)) (a : Int) (h : iH) (Q : Option iV → iH → Prop), G sp sc [94, 108] d mX12_deputies (n + 1) 18 L [.inl a] h Q = Q (some (.inl a)) h) ∧
  (∀ (n d : Nat) (L : List (Option iV)) (st : List iV) (h : iH) (Q : Option iV → iH → Prop), G sp sc [94, 108] d mX12_deputies (n + 1) 19 L st h Q = (match ld L 0 with | some (.inr (.inr (r + 1))) => G sp sc [94, 108] d mX12_deputies n 20 L (.inr (.inr (r + 1)) :: st) h Q | _ => False)) ∧
  (∀ (n d : Nat) (L : List (Option iV)) (r : List iV) (m : Nat) (h : iH) (Q : Option iV → iH → Prop), G sp sc [94, 108] d mX12_deputies (n + 1) 20 L (.inr (.inr (m + 2)) :: r) h Q = (match h.1[m]? with | some (.inl (ci, fs)) => (match lkF 12 9 ci with | some k => (match fs[k]? with | some v => G sp sc [94, 108] d mX12_deputies n 23 L (v :: r) h Q | none => False) | none => False) | _ => False)) ∧
  (∀ (n d : Nat) (L : List (Option iV)) (st : List iV) (h : iH) (Q : Option iV → iH → Prop), G sp sc [94, 108] d mX12_deputies (n + 1) 23 L st h Q = (match ld L 1 with | some (.inl x) => G sp sc [94, 108] d mX12_deputies n 24 L (.inl x :: st) h Q | _ => False)) ∧
  (∀ (n d : Nat) (L : List (Option iV)) (r : List iV) (z0 : iV) (z1 : iV) (h : iH) (Q : Option iV → iH → Prop), G sp sc [94, 108] (d + 1) mX12_deputies (n + 1) 24 L (z1 :: z0 :: r) h Q = (cs r ≤ 8 ∧ Call sp sc d mX12_goesOn [z0, z1] h (fun q h1 => GC sp sc [94, 108] (d + 1) mX12_deputies n 27 L q r h h1 Q))) ∧
  (∀ (n d : Nat) (L : List (Option iV)) (a : Int) (r : List iV) (h : iH) (Q : Option iV → iH → Prop), G sp sc [94, 108] d mX12_deputies (n + 1) 27 L (.inl a :: r) h Q = (inI a = true ∧ (¬ a = 0 → G sp sc [94, 108] d mX12_deputies n 33 L r h Q) ∧ (¬ (¬ a = 0) → G sp sc [94, 108] d mX12_deputies n 30 L r h Q))) ∧
  (∀ (n d : Nat) (L : List (Option iV)) (st : List iV) (h : iH) (Q : Option iV → iH → Prop), G sp sc [94, 108] d mX12_deputies (n + 1) 30 L st h Q = ((-128 ≤ ((-4) : Int) ∧ ((-4) : Int) < 128) ∧ G sp sc [94, 108] d mX12_deputies n 32 L (.inl (-4) :: st) h Q)) ∧
  (∀ (n d : Nat) (L : List (Option iV)) (a : Int) (h : iH) (Q : Option iV → iH → Prop), G sp sc [94, 108] d mX12_deputies (n + 1) 32 L [.inl a] h Q = Q (some (.inl a)) h) ∧
  (∀ (n d : Nat) (L : List (Option iV)) (st : List iV) (h : iH) (Q : Option iV → iH → Prop), G sp sc [94, 108] d mX12_deputies (n + 1) 33 L st h Q = (match ld L 0 with | some (.inr (.inr (r + 1))) => G sp sc [94, 108] d mX12_deputies n 34 L (.inr (.inr (r + 1)) :: st) h Q | _ => False)) ∧
  (∀ (n d : Nat) (L : List (Option iV)) (r : List iV) (m : Nat) (h : iH) (Q : Option iV → iH → Prop), G sp sc [94, 108] d mX12_deputies (n + 1) 34 L (.inr (.inr (m + 2)) :: r) h Q = (match h.1[m]? with | some (.inl (ci, fs)) => (match lkF 12 9 ci with | some k => (match fs[k]? with | some v => G sp sc [94, 108] d mX12_deputies n 37 L (v :: r) h Q | none => False) | none => False) | _ => False)) ∧
  (∀ (n d : Nat) (L : List (Option iV)) (st : List iV) (h : iH) (Q : Option iV → iH → Prop), G sp sc [94, 108] d mX12_deputies (n + 1) 37 L st h Q = (match ld L 1 with | some (.inl x) => G sp sc [94, 108] d mX12_deputies n 38 L (.inl x :: st) h Q | _ => False)) ∧
  (∀ (n d : Nat) (L : List (Option iV)) (st : List iV) (h : iH) (Q : Option iV → iH → Prop), G sp sc [94, 108] d mX12_deputies (n + 1) 38 L st h Q = G sp sc [94, 108] d mX12_deputies n 39 L (.inl 0 :: st) h Q) ∧
  (∀ (n d : Nat) (L : List (Option iV)) (r : List iV) (z0 : iV) (z1 : iV) (h : iH) (Q : Option iV → iH → Prop), G sp sc [94, 108] (d + 1) mX12_deputies (n + 1) 39 L (z1 :: z0 :: r) h Q = (cs r ≤ 8 ∧ Call sp sc d mX12_atCouple [z0, z1] h (fun q h1 => GC sp sc [94, 108] (d + 1) mX12_deputies n 42 L q r h h1 Q))) ∧
  (∀ (n d : Nat) (L : List (Option iV)) (r : List iV) (j : Int) (m : Nat) (h : iH) (Q : Option iV → iH → Prop), G sp sc [94, 108] d mX12_deputies (n + 1) 42 L (.inl j :: .inr (.inr (m + 2)) :: r) h Q = (match h.1[m]? with | some (.inr (.inl (0, xs))) => inA j xs.length = true ∧ G sp sc [94, 108] d mX12_deputies n 43 L (.inl (xs.getD j.toNat 0) :: r) h Q | _ => False)) ∧
  (∀ (n d : Nat) (L : List (Option iV)) (r : List iV) (x : Int) (h : iH) (Q : Option iV → iH → Prop), G sp sc [94, 108] d mX12_deputies (n + 1) 43 L (.inl x :: r) h Q = (match st1 L 3 (.inl x) with | some L' => G sp sc [94, 108] d mX12_deputies n 44 L' r h Q | none => False)) ∧
  (∀ (n d : Nat) (L : List (Option iV)) (st : List iV) (h : iH) (Q : Option iV → iH → Prop), G sp sc [94, 108] d mX12_deputies (n + 1) 44 L st h Q = (match ld L 0 with | some (.inr (.inr (r + 1))) => G sp sc [94, 108] d mX12_deputies n 45 L (.inr (.inr (r + 1)) :: st) h Q | _ => False)) ∧
  (∀ (n d : Nat) (L : List (Option iV)) (r : List iV) (m : Nat) (h : iH) (Q : Option iV → iH → Prop), G sp sc [94, 108] d mX12_deputies (n + 1) 45 L (.inr (.inr (m + 2)) :: r) h Q = (match h.1[m]? with | some (.inl (ci, fs)) => (match lkF 12 9 ci with | some k => (match fs[k]? with | some v => G sp sc [94, 108] d mX12_deputies n 48 L (v :: r) h Q | none => False) | none => False) | _ => False)) ∧
  (∀ (n d : Nat) (L : List (Option iV)) (st : List iV) (h : iH) (Q : Option iV → iH → Prop), G sp sc [94, 108] d mX12_deputies (n + 1) 48 L st h Q = (match ld L 1 with | some (.inl x) => G sp sc [94, 108] d mX12_deputies n 49 L (.inl x :: st) h Q | _ => False)) ∧
  (∀ (n d : Nat) (L : List (Option iV)) (st : List iV) (h : iH) (Q : Option iV → iH → Prop), G sp sc [94, 108] d mX12_deputies (n + 1) 49 L st h Q = G sp sc [94, 108] d mX12_deputies n 50 L (.inl 1 :: st) h Q) ∧
  (∀ (n d : Nat) (L : List (Option iV)) (r : List iV) (z0 : iV) (z1 : iV) (h : iH) (Q : Option iV → iH → Prop), G sp sc [94, 108] (d + 1) mX12_deputies (n + 1) 50 L (z1 :: z0 :: r) h Q = (cs r ≤ 8 ∧ Call sp sc d mX12_atCouple [z0, z1] h (fun q h1 => GC sp sc [94, 108] (d + 1) mX12_deputies n 53 L q r h h1 Q))) ∧
  (∀ (n d : Nat) (L : List (Option iV)) (r : List iV) (j : Int) (m : Nat) (h : iH) (Q : Option iV → iH → Prop), G sp sc [94, 108] d mX12_deputies (n + 1) 53 L (.inl j :: .inr (.inr (m + 2)) :: r) h Q = (match h.1[m]? with | some (.inr (.inl (0, xs))) => inA j xs.length = true ∧ G sp sc [94, 108] d mX12_deputies n 54 L (.inl (xs.getD j.toNat 0) :: r) h Q | _ => False)) ∧
  (∀ (n d : Nat) (L : List (Option iV)) (r : List iV) (x : Int) (h : iH) (Q : Option iV → iH → Prop), G sp sc [94, 108] d mX12_deputies (n + 1) 54 L (.inl x :: r) h Q = (match st1 L 4 (.inl x) with | some L' => G sp sc [94, 108] d mX12_deputies n 56 L' r h Q | none => False)) ∧
  (∀ (n d : Nat) (L : List (Option iV)) (st : List iV) (h : iH) (Q : Option iV → iH → Prop), G sp sc [94, 108] d mX12_deputies (n + 1) 56 L st h Q = (match ld L 0 with | some (.inr (.inr (r + 1))) => G sp sc [94, 108] d mX12_deputies n 57 L (.inr (.inr (r + 1)) :: st) h Q | _ => False)) ∧
  (∀ (n d : Nat) (L : List (Option iV)) (r : List iV) (m : Nat) (h : iH) (Q : Option iV → iH → Prop), G sp sc [94, 108] d mX12_deputies (n + 1) 57 L (.inr (.inr (m + 2)) :: r) h Q = (match h.1[m]? with | some (.inl (ci, fs)) => (match lkF 12 9 ci with | some k => (match fs[k]? with | some v => G sp sc [94, 108] d mX12_deputies n 60 L (v :: r) h Q | none => False) | none => False) | _ => False)) ∧
  (∀ (n d : Nat) (L : List (Option iV)) (st : List iV) (h : iH) (Q : Option iV → iH → Prop), G sp sc [94, 108] d mX12_deputies (n + 1) 60 L st h Q = G sp sc [94, 108] d mX12_deputies n 61 L (.inl 0 :: st) h Q) ∧
  (∀ (n d : Nat) (L : List (Option iV)) (st : List iV) (h : iH) (Q : Option iV → iH → Prop), G sp sc [94, 108] d mX12_deputies (n + 1) 61 L st h Q = (match ld L 3 with | some (.inl x) => G sp sc [94, 108] d mX12_deputies n 62 L (.inl x :: st) h Q | _ => False)) ∧
  (∀ (n d : Nat) (L : List (Option iV)) (st : List iV) (h : iH) (Q : Option iV → iH → Prop), G sp sc [94, 108] d mX12_deputies (n + 1) 62 L st h Q = G sp sc [94, 108] d mX12_deputies n 63 L (.inl 2 :: st) h Q) ∧
  (∀ (n d : Nat) (L : List (Option iV)) (r : List iV) (z0 : iV) (z1 : iV) (z2 : iV) (h : iH) (Q : Option iV → iH → Prop), G sp sc [94, 108] (d + 1) mX12_deputies (n + 1) 63 L (z2 :: z1 :: z0 :: r) h Q = (cs r ≤ 8 ∧ Call sp sc d mX12_atOne [z0, z1, z2] h (fun q h1 => GC sp sc [94, 108] (d + 1) mX12_deputies n 66 L q r h h1 Q))) ∧
  (∀ (n d : Nat) (L : List (Option iV)) (r : List iV) (j : Int) (m : Nat) (h : iH) (Q : Option iV → iH → Prop), G sp sc [94, 108] d mX12_deputies (n + 1) 66 L (.inl j :: .inr (.inr (m + 2)) :: r) h Q = (match h.1[m]? with | some (.inr (.inl (0, xs))) => inA j xs.length = true ∧ G sp sc [94, 108] d mX12_deputies n 67 L (.inl (xs.getD j.toNat 0) :: r) h Q | _ => False)) ∧
  (∀ (n d : Nat) (L : List (Option iV)) (r : List iV) (x : Int) (h : iH) (Q : Option iV → iH → Prop), G sp sc [94, 108] d mX12_deputies (n + 1) 67 L (.inl x :: r) h Q = (match st1 L 5 (.inl x) with | some L' => G sp sc [94, 108] d mX12_deputies n 69 L' r h Q | none => False)) ∧
  (∀ (n d : Nat) (L : List (Option iV)) (st : List iV) (h : iH) (Q : Option iV → iH → Prop), G sp sc [94, 108] d mX12_deputies (n + 1) 69 L st h Q = (match ld L 0 with | some (.inr (.inr (r + 1))) => G sp sc [94, 108] d mX12_deputies n 70 L (.inr (.inr (r + 1)) :: st) h Q | _ => False)) ∧
  (∀ (n d : Nat) (L : List (Option iV)) (r : List iV) (m : Nat) (h : iH) (Q : Option iV → iH → Prop), G sp sc [94, 108] d mX12_deputies (n + 1) 70 L (.inr (.inr (m + 2)) :: r) h Q = (match h.1[m]? with | some (.inl (ci, fs)) => (match lkF 12 9 ci with | some k => (match fs[k]? with | some v => G sp sc [94, 108] d mX12_deputies n 73 L (v :: r) h Q | none => False) | none => False) | _ => False)) ∧
  (∀ (n d : Nat) (L : List (Option iV)) (st : List iV) (h : iH) (Q : Option iV → iH → Prop), G sp sc [94, 108] d mX12_deputies (n + 1) 73 L st h Q = G sp sc [94, 108] d mX12_deputies n 74 L (.inl 1 :: st) h Q) ∧
  (∀ (n d : Nat) (L : List (Option iV)) (st : List iV) (h : iH) (Q : Option iV → iH → Prop), G sp sc [94, 108] d mX12_deputies (n + 1) 74 L st h Q = (match ld L 4 with | some (.inl x) => G sp sc [94, 108] d mX12_deputies n 76 L (.inl x :: st) h Q | _ => False)) ∧
  (∀ (n d : Nat) (L : List (Option iV)) (st : List iV) (h : iH) (Q : Option iV → iH → Prop), G sp sc [94, 108] d mX12_deputies (n + 1) 76 L st h Q = G sp sc [94, 108] d mX12_deputies n 77 L (.inl 2 :: st) h Q) ∧
  (∀ (n d : Nat) (L : List (Option iV)) (r : List iV) (z0 : iV) (z1 : iV) (z2 : iV) (h : iH) (Q : Option iV → iH → Prop), G sp sc [94, 108] (d + 1) mX12_deputies (n + 1) 77 L (z2 :: z1 :: z0 :: r) h Q = (cs r ≤ 8 ∧ Call sp sc d mX12_atOne [z0, z1, z2] h (fun q h1 => GC sp sc [94, 108] (d + 1) mX12_deputies n 80 L q r h h1 Q))) ∧
  (∀ (n d : Nat) (L : List (Option iV)) (r : List iV) (j : Int) (m : Nat) (h : iH) (Q : Option iV → iH → Prop), G sp sc [94, 108] d mX12_deputies (n + 1) 80 L (.inl j :: .inr (.inr (m + 2)) :: r) h Q = (match h.1[m]? with | some (.inr (.inl (0, xs))) => inA j xs.length = true ∧ G sp sc [94, 108] d mX12_deputies n 81 L (.inl (xs.getD j.toNat 0) :: r) h Q | _ => False)) ∧
  (∀ (n d : Nat) (L : List (Option iV)) (r : List iV) (x : Int) (h : iH) (Q : Option iV → iH → Prop), G sp sc [94, 108] d mX12_deputies (n + 1) 81 L (.inl x :: r) h Q = (match st1 L 6 (.inl x) with | some L' => G sp sc [94, 108] d mX12_deputies n 83 L' r h Q | none => False)) ∧
  (∀ (n d : Nat) (L : List (Option iV)) (st : List iV) (h : iH) (Q : Option iV → iH → Prop), G sp sc [94, 108] d mX12_deputies (n + 1) 83 L st h Q = ((-128 ≤ ((-4) : Int) ∧ ((-4) : Int) < 128) ∧ G sp sc [94, 108] d mX12_deputies n 85 L (.inl (-4) :: st) h Q)) ∧
  (∀ (n d : Nat) (L : List (Option iV)) (r : List iV) (x : Int) (h : iH) (Q : Option iV → iH → Prop), G sp sc [94, 108] d mX12_deputies (n + 1) 85 L (.inl x :: r) h Q = (match st1 L 7 (.inl x) with | some L' => G sp sc [94, 108] d mX12_deputies n 87 L' r h Q | none => False)) ∧
  (∀ (n d : Nat) (L : List (Option iV)) (st : List iV) (h : iH) (Q : Option iV → iH → Prop), G sp sc [94, 108] d mX12_deputies (n + 1) 87 L st h Q = G sp sc [94, 108] d mX12_deputies n 89 L (.inl (1000000000) :: st) h Q) ∧
  (∀ (n d : Nat) (L : List (Option iV)) (r : List iV) (x : Int) (h : iH) (Q : Option iV → iH → Prop), G sp sc [94, 108] d mX12_deputies (n + 1) 89 L (.inl x :: r) h Q = (match st1 L 8 (.inl x) with | some L' => G sp sc [94, 108] d mX12_deputies n 91 L' r h Q | none => False)) ∧
  (∀ (n d : Nat) (L : List (Option iV)) (st : List iV) (h : iH) (Q : Option iV → iH → Prop), G sp sc [94, 108] d mX12_deputies (n + 1) 91 L st h Q = G sp sc [94, 108] d mX12_deputies n 92 L (.inl 0 :: st) h Q) ∧
  (∀ (n d : Nat) (L : List (Option iV)) (r : List iV) (x : Int) (h : iH) (Q : Option iV → iH → Prop), G sp sc [94, 108] d mX12_deputies (n + 1) 92 L (.inl x :: r) h Q = (match st1 L 9 (.inl x) with | some L' => Run sp sc d mX12_deputies 94 L' r h Q | none => False)) ∧
  (∀ (n d : Nat) (L : List (Option iV)) (st : List iV) (h : iH) (Q : Option iV → iH → Prop), G sp sc [94, 108] d mX12_deputies (n + 1) 94 L st h Q = (match ld L 9 with | some (.inl x) => G sp sc [94, 108] d mX12_deputies n 96 L (.inl x :: st) h Q | _ => False)) ∧
  (∀ (n d : Nat) (L : List (Option iV)) (st : List iV) (h : iH) (Q : Option iV → iH → Prop), G sp sc [94, 108] d mX12_deputies (n + 1) 96 L st h Q = (match ld L 0 with | some (.inr (.inr (r + 1))) => G sp sc [94, 108] d mX12_deputies n 97 L (.inr (.inr (r + 1)) :: st) h Q | _ => False)) ∧
  (∀ (n d : Nat) (L : List (Option iV)) (r : List iV) (m : Nat) (h : iH) (Q : Option iV → iH → Prop), G sp sc [94, 108] d mX12_deputies (n + 1) 97 L (.inr (.inr (m + 2)) :: r) h Q = (match h.1[m]? with | some (.inl (ci, fs)) => (match lkF 12 9 ci with | some k => (match fs[k]? with | some v => G sp sc [94, 108] d mX12_deputies n 100 L (v :: r) h Q | none => False) | none => False) | _ => False)) ∧
  (∀ (n d : Nat) (L : List (Option iV)) (st : List iV) (h : iH) (Q : Option iV → iH → Prop), G sp sc [94, 108] d mX12_deputies (n + 1) 100 L st h Q = G sp sc [94, 108] d mX12_deputies n 101 L (.inl 0 :: st) h Q) ∧
  (∀ (n d : Nat) (L : List (Option iV)) (r : List iV) (j : Int) (m : Nat) (h : iH) (Q : Option iV → iH → Prop), G sp sc [94, 108] d mX12_deputies (n + 1) 101 L (.inl j :: .inr (.inr (m + 2)) :: r) h Q = (match h.1[m]? with | some (.inr (.inl (0, xs))) => inA j xs.length = true ∧ G sp sc [94, 108] d mX12_deputies n 102 L (.inl (xs.getD j.toNat 0) :: r) h Q | _ => False)) ∧
  (∀ (n d : Nat) (L : List (Option iV)) (a : Int) (b : Int) (r : List iV) (h : iH) (Q : Option iV → iH → Prop), G sp sc [94, 108] d mX12_deputies (n + 1) 102 L (.inl b :: .inl a :: r) h Q = ((inI a = true ∧ inI b = true) ∧ (b < a → G sp sc [94, 108] d mX12_deputies n 234 L r h Q) ∧ (¬ (b < a) → G sp sc [94, 108] d mX12_deputies n 105 L r h Q))) ∧
  (∀ (n d : Nat) (L : List (Option iV)) (st : List iV) (h : iH) (Q : Option iV → iH → Prop), G sp sc [94, 108] d mX12_deputies (n + 1) 105 L st h Q = G sp sc [94, 108] d mX12_deputies n 106 L (.inl 0 :: st) h Q) ∧
  (∀ (n d : Nat) (L : List (Option iV)) (r : List iV) (x : Int) (h : iH) (Q : Option iV → iH → Prop), G sp sc [94, 108] d mX12_deputies (n + 1) 106 L (.inl x :: r) h Q = (match st1 L 10 (.inl x) with | some L' => Run sp sc d mX12_deputies 108 L' r h Q | none => False)) ∧
  (∀ (n d : Nat) (L : List (Option iV)) (st : List iV) (h : iH) (Q : Option iV → iH → Prop), G sp sc [94, 108] d mX12_deputies (n + 1) 108 L st h Q = (match ld L 10 with | some (.inl x) => G sp sc [94, 108] d mX12_deputies n 110 L (.inl x :: st) h Q | _ => False)) ∧
  (∀ (n d : Nat) (L : List (Option iV)) (st : List iV) (h : iH) (Q : Option iV → iH → Prop), G sp sc [94, 108] d mX12_deputies (n + 1) 110 L st h Q = (match ld L 0 with | some (.inr (.inr (r + 1))) => G sp sc [94, 108] d mX12_deputies n 111 L (.inr (.inr (r + 1)) :: st) h Q | _ => False)) ∧
  (∀ (n d : Nat) (L : List (Option iV)) (r : List iV) (m : Nat) (h : iH) (Q : Option iV → iH → Prop), G sp sc [94, 108] d mX12_deputies (n + 1) 111 L (.inr (.inr (m + 2)) :: r) h Q = (match h.1[m]? with | some (.inl (ci, fs)) => (match lkF 12 9 ci with | some k => (match fs[k]? with | some v => G sp sc [94, 108] d mX12_deputies n 114 L (v :: r) h Q | none => False) | none => False) | _ => False)) ∧
  (∀ (n d : Nat) (L : List (Option iV)) (st : List iV) (h : iH) (Q : Option iV → iH → Prop), G sp sc [94, 108] d mX12_deputies (n + 1) 114 L st h Q = G sp sc [94, 108] d mX12_deputies n 115 L (.inl 1 :: st) h Q) ∧
  (∀ (n d : Nat) (L : List (Option iV)) (r : List iV) (j : Int) (m : Nat) (h : iH) (Q : Option iV → iH → Prop), G sp sc [94, 108] d mX12_deputies (n + 1) 115 L (.inl j :: .inr (.inr (m + 2)) :: r) h Q = (match h.1[m]? with | some (.inr (.inl (0, xs))) => inA j xs.length = true ∧ G sp sc [94, 108] d mX12_deputies n 116 L (.inl (xs.getD j.toNat 0) :: r) h Q | _ => False)) ∧
  (∀ (n d : Nat) (L : List (Option iV)) (a : Int) (b : Int) (r : List iV) (h : iH) (Q : Option iV → iH → Prop), G sp sc [94, 108] d mX12_deputies (n + 1) 116 L (.inl b :: .inl a :: r) h Q = ((inI a = true ∧ inI b = true) ∧ (b < a → G sp sc [94, 108] d mX12_deputies n 228 L r h Q) ∧ (¬ (b < a) → G sp sc [94, 108] d mX12_deputies n 119 L r h Q))) ∧
  (∀ (n d : Nat) (L : List (Option iV)) (st : List iV) (h : iH) (Q : Option iV → iH → Prop), G sp sc [94, 108] d mX12_deputies (n + 1) 119 L st h Q = (match ld L 9 with | some (.inl x) => G sp sc [94, 108] d mX12_deputies n 121 L (.inl x :: st) h Q | _ => False)) ∧
  (∀ (n d : Nat) (L : List (Option iV)) (st : List iV) (h : iH) (Q : Option iV → iH → Prop), G sp sc [94, 108] d mX12_deputies (n + 1) 121 L st h Q = G sp sc [94, 108] d mX12_deputies n 122 L (.inl 1 :: st) h Q) ∧
  (∀ (n d : Nat) (L : List (Option iV)) (a : Int) (b : Int) (r : List iV) (h : iH) (Q : Option iV → iH → Prop), G sp sc [94, 108] d mX12_deputies (n + 1) 122 L (.inl b :: .inl a :: r) h Q = G sp sc [94, 108] d mX12_deputies n 123 L (.inl (a - b) :: r) h Q) ∧
  (∀ (n d : Nat) (L : List (Option iV)) (st : List iV) (h : iH) (Q : Option iV → iH → Prop), G sp sc [94, 108] d mX12_deputies (n + 1) 123 L st h Q = (match ld L 3 with | some (.inl x) => G sp sc [94, 108] d mX12_deputies n 124 L (.inl x :: st) h Q | _ => False)) ∧
  (∀ (n d : Nat) (L : List (Option iV)) (a : Int) (b : Int) (r : List iV) (h : iH) (Q : Option iV → iH → Prop), G sp sc [94, 108] d mX12_deputies (n + 1) 124 L (.inl b :: .inl a :: r) h Q = ((inI a = true ∧ inI b = true) ∧ (a = b → G sp sc [94, 108] d mX12_deputies n 222 L r h Q) ∧ (¬ (a = b) → G sp sc [94, 108] d mX12_deputies n 127 L r h Q))) ∧
  (∀ (n d : Nat) (L : List (Option iV)) (st : List iV) (h : iH) (Q : Option iV → iH → Prop), G sp sc [94, 108] d mX12_deputies (n + 1) 127 L st h Q = (match ld L 10 with | some (.inl x) => G sp sc [94, 108] d mX12_deputies n 129 L (.inl x :: st) h Q | _ => False)) ∧
  (∀ (n d : Nat) (L : List (Option iV)) (st : List iV) (h : iH) (Q : Option iV → iH → Prop), G sp sc [94, 108] d mX12_deputies (n + 1) 129 L st h Q = G sp sc [94, 108] d mX12_deputies n 130 L (.inl 1 :: st) h Q) ∧
  (∀ (n d : Nat) (L : List (Option iV)) (a : Int) (b : Int) (r : List iV) (h : iH) (Q : Option iV → iH → Prop), G sp sc [94, 108] d mX12_deputies (n + 1) 130 L (.inl b :: .inl a :: r) h Q = G sp sc [94, 108] d mX12_deputies n 131 L (.inl (a - b) :: r) h Q) ∧
  (∀ (n d : Nat) (L : List (Option iV)) (st : List iV) (h : iH) (Q : Option iV → iH → Prop), G sp sc [94, 108] d mX12_deputies (n + 1) 131 L st h Q = (match ld L 4 with | some (.inl x) => G sp sc [94, 108] d mX12_deputies n 133 L (.inl x :: st) h Q | _ => False)) ∧
  (∀ (n d : Nat) (L : List (Option iV)) (a : Int) (b : Int) (r : List iV) (h : iH) (Q : Option iV → iH → Prop), G sp sc [94, 108] d mX12_deputies (n + 1) 133 L (.inl b :: .inl a :: r) h Q = ((inI a = true ∧ inI b = true) ∧ (¬ a = b → G sp sc [94, 108] d mX12_deputies n 139 L r h Q) ∧ (¬ (¬ a = b) → G sp sc [94, 108] d mX12_deputies n 136 L r h Q))) ∧
  (∀ (n d : Nat) (L : List (Option iV)) (st : List iV) (h : iH) (Q : Option iV → iH → Prop), G sp sc [94, 108] d mX12_deputies (n + 1) 136 L st h Q = G sp sc [94, 108] d mX12_deputies n 222 L st h Q) ∧
  (∀ (n d : Nat) (L : List (Option iV)) (st : List iV) (h : iH) (Q : Option iV → iH → Prop), G sp sc [94, 108] d mX12_deputies (n + 1) 139 L st h Q = (match ld L 0 with | some (.inr (.inr (r + 1))) => G sp sc [94, 108] d mX12_deputies n 140 L (.inr (.inr (r + 1)) :: st) h Q | _ => False)) ∧
  (∀ (n d : Nat) (L : List (Option iV)) (r : List iV) (m : Nat) (h : iH) (Q : Option iV → iH → Prop), G sp sc [94, 108] d mX12_deputies (n + 1) 140 L (.inr (.inr (m + 2)) :: r) h Q = (match h.1[m]? with | some (.inl (ci, fs)) => (match lkF 12 9 ci with | some k => (match fs[k]? with | some v => G sp sc [94, 108] d mX12_deputies n 143 L (v :: r) h Q | none => False) | none => False) | _ => False)) ∧
  (∀ (n d : Nat) (L : List (Option iV)) (st : List iV) (h : iH) (Q : Option iV → iH → Prop), G sp sc [94, 108] d mX12_deputies (n + 1) 143 L st h Q = G sp sc [94, 108] d mX12_deputies n 144 L (.inl 0 :: st) h Q) ∧
  (∀ (n d : Nat) (L : List (Option iV)) (st : List iV) (h : iH) (Q : Option iV → iH → Prop), G sp sc [94, 108] d mX12_deputies (n + 1) 144 L st h Q = (match ld L 3 with | some (.inl x) => G sp sc [94, 108] d mX12_deputies n 145 L (.inl x :: st) h Q | _ => False)) ∧
  (∀ (n d : Nat) (L : List (Option iV)) (st : List iV) (h : iH) (Q : Option iV → iH → Prop), G sp sc [94, 108] d mX12_deputies (n + 1) 145 L st h Q = G sp sc [94, 108] d mX12_deputies n 146 L (.inl 2 :: st) h Q) ∧
  (∀ (n d : Nat) (L : List (Option iV)) (r : List iV) (z0 : iV) (z1 : iV) (z2 : iV) (h : iH) (Q : Option iV → iH → Prop), G sp sc [94, 108] (d + 1) mX12_deputies (n + 1) 146 L (z2 :: z1 :: z0 :: r) h Q = (cs r ≤ 8 ∧ Call sp sc d mX12_atOne [z0, z1, z2] h (fun q h1 => GC sp sc [94, 108] (d + 1) mX12_deputies n 149 L q r h h1 Q))) ∧
  (∀ (n d : Nat) (L : List (Option iV)) (st : List iV) (h : iH) (Q : Option iV → iH → Prop), G sp sc [94, 108] d mX12_deputies (n + 1) 149 L st h Q = (match ld L 9 with | some (.inl x) => G sp sc [94, 108] d mX12_deputies n 151 L (.inl x :: st) h Q | _ => False)) ∧
  (∀ (n d : Nat) (L : List (Option iV)) (st : List iV) (h : iH) (Q : Option iV → iH → Prop), G sp sc [94, 108] d mX12_deputies (n + 1) 151 L st h Q = G sp sc [94, 108] d mX12_deputies n 152 L (.inl 1 :: st) h Q) ∧
  (∀ (n d : Nat) (L : List (Option iV)) (a : Int) (b : Int) (r : List iV) (h : iH) (Q : Option iV → iH → Prop), G sp sc [94, 108] d mX12_deputies (n + 1) 152 L (.inl b :: .inl a :: r) h Q = G sp sc [94, 108] d mX12_deputies n 153 L (.inl (a - b) :: r) h Q) ∧
  (∀ (n d : Nat) (L : List (Option iV)) (r : List iV) (v : Int) (j : Int) (m : Nat) (h : iH) (Q : Option iV → iH → Prop), G sp sc [94, 108] d mX12_deputies (n + 1) 153 L (.inl v :: .inl j :: .inr (.inr (m + 2)) :: r) h Q = (match h.1[m]? with | some (.inr (.inl (0, xs))) => inA j xs.length = true ∧ G sp sc [94, 108] d mX12_deputies n 154 L r (h.1.set m (.inr (.inl (0, xs.set j.toNat v))), h.2) Q | _ => False)) ∧
  (∀ (n d : Nat) (L : List (Option iV)) (st : List iV) (h : iH) (Q : Option iV → iH → Prop), G sp sc [94, 108] d mX12_deputies (n + 1) 154 L st h Q = (match ld L 0 with | some (.inr (.inr (r + 1))) => G sp sc [94, 108] d mX12_deputies n 155 L (.inr (.inr (r + 1)) :: st) h Q | _ => False)) ∧
  (∀ (n d : Nat) (L : List (Option iV)) (r : List iV) (m : Nat) (h : iH) (Q : Option iV → iH → Prop), G sp sc [94, 108] d mX12_deputies (n + 1) 155 L (.inr (.inr (m + 2)) :: r) h Q = (match h.1[m]? with | some (.inl (ci, fs)) => (match lkF 12 9 ci with | some k => (match fs[k]? with | some v => G sp sc [94, 108] d mX12_deputies n 158 L (v :: r) h Q | none => False) | none => False) | _ => False)) ∧
  (∀ (n d : Nat) (L : List (Option iV)) (st : List iV) (h : iH) (Q : Option iV → iH → Prop), G sp sc [94, 108] d mX12_deputies (n + 1) 158 L st h Q = G sp sc [94, 108] d mX12_deputies n 159 L (.inl 1 :: st) h Q) ∧
  (∀ (n d : Nat) (L : List (Option iV)) (st : List iV) (h : iH) (Q : Option iV → iH → Prop), G sp sc [94, 108] d mX12_deputies (n + 1) 159 L st h Q = (match ld L 4 with | some (.inl x) => G sp sc [94, 108] d mX12_deputies n 161 L (.inl x :: st) h Q | _ => False)) ∧
  (∀ (n d : Nat) (L : List (Option iV)) (st : List iV) (h : iH) (Q : Option iV → iH → Prop), G sp sc [94, 108] d mX12_deputies (n + 1) 161 L st h Q = G sp sc [94, 108] d mX12_deputies n 162 L (.inl 2 :: st) h Q) ∧
  (∀ (n d : Nat) (L : List (Option iV)) (r : List iV) (z0 : iV) (z1 : iV) (z2 : iV) (h : iH) (Q : Option iV → iH → Prop), G sp sc [94, 108] (d + 1) mX12_deputies (n + 1) 162 L (z2 :: z1 :: z0 :: r) h Q = (cs r ≤ 8 ∧ Call sp sc d mX12_atOne [z0, z1, z2] h (fun q h1 => GC sp sc [94, 108] (d + 1) mX12_deputies n 165 L q r h h1 Q))) ∧
  (∀ (n d : Nat) (L : List (Option iV)) (st : List iV) (h : iH) (Q : Option iV → iH → Prop), G sp sc [94, 108] d mX12_deputies (n + 1) 165 L st h Q = (match ld L 10 with | some (.inl x) => G sp sc [94, 108] d mX12_deputies n 167 L (.inl x :: st) h Q | _ => False)) ∧
  (∀ (n d : Nat) (L : List (Option iV)) (st : List iV) (h : iH) (Q : Option iV → iH → Prop), G sp sc [94, 108] d mX12_deputies (n + 1) 167 L st h Q = G sp sc [94, 108] d mX12_deputies n 168 L (.inl 1 :: st) h Q) ∧
  (∀ (n d : Nat) (L : List (Option iV)) (a : Int) (b : Int) (r : List iV) (h : iH) (Q : Option iV → iH → Prop), G sp sc [94, 108] d mX12_deputies (n + 1) 168 L (.inl b :: .inl a :: r) h Q = G sp sc [94, 108] d mX12_deputies n 169 L (.inl (a - b) :: r) h Q) ∧
  (∀ (n d : Nat) (L : List (Option iV)) (r : List iV) (v : Int) (j : Int) (m : Nat) (h : iH) (Q : Option iV → iH → Prop), G sp sc [94, 108] d mX12_deputies (n + 1) 169 L (.inl v :: .inl j :: .inr (.inr (m + 2)) :: r) h Q = (match h.1[m]? with | some (.inr (.inl (0, xs))) => inA j xs.length = true ∧ G sp sc [94, 108] d mX12_deputies n 170 L r (h.1.set m (.inr (.inl (0, xs.set j.toNat v))), h.2) Q | _ => False)) ∧
  (∀ (n d : Nat) (L : List (Option iV)) (st : List iV) (h : iH) (Q : Option iV → iH → Prop), G sp sc [94, 108] d mX12_deputies (n + 1) 170 L st h Q = (match ld L 0 with | some (.inr (.inr (r + 1))) => G sp sc [94, 108] d mX12_deputies n 171 L (.inr (.inr (r + 1)) :: st) h Q | _ => False)) ∧
  (∀ (n d : Nat) (L : List (Option iV)) (st : List iV) (h : iH) (Q : Option iV → iH → Prop), G sp sc [94, 108] d mX12_deputies (n + 1) 171 L st h Q = ((-128 ≤ (60 : Int) ∧ (60 : Int) < 128) ∧ G sp sc [94, 108] d mX12_deputies n 173 L (.inl 60 :: st) h Q)) ∧
  (∀ (n d : Nat) (L : List (Option iV)) (r : List iV) (m : Nat) (z0 : iV) (h : iH) (Q : Option iV → iH → Prop), G sp sc [94, 108] (d + 1) mX12_deputies (n + 1) 173 L (z0 :: .inr (.inr (m + 2)) :: r) h Q = (match h.1[m]? with | some (.inl (ci, _)) => (match lkC 12 211 ci with | some (y1, n1, kd) => (n1 = 1 ∧ (kd = 2 ∨ kd = 3 ∨ kd = 8) ∧ cs r ≤ 8) ∧ Call sp sc d y1 [.inr (.inr (m + 2)), z0] h (fun q h1 => GC sp sc [94, 108] (d + 1) mX12_deputies n 176 L q r h h1 Q) | none => False) | _ => False)) ∧
  (∀ (n d : Nat) (L : List (Option iV)) (st : List iV) (h : iH) (Q : Option iV → iH → Prop), G sp sc [94, 108] d mX12_deputies (n + 1) 176 L st h Q = (match ld L 0 with | some (.inr (.inr (r + 1))) => G sp sc [94, 108] d mX12_deputies n 177 L (.inr (.inr (r + 1)) :: st) h Q | _ => False)) ∧
  (∀ (n d : Nat) (L : List (Option iV)) (r : List iV) (m : Nat) (h : iH) (Q : Option iV → iH → Prop), G sp sc [94, 108] d mX12_deputies (n + 1) 177 L (.inr (.inr (m + 2)) :: r) h Q = (match h.1[m]? with | some (.inl (ci, fs)) => (match lkF 12 13 ci with | some k => (match fs[k]? with | some v => G sp sc [94, 108] d mX12_deputies n 180 L (v :: r) h Q | none => False) | none => False) | _ => False)) ∧
  (∀ (n d : Nat) (L : List (Option iV)) (st : List iV) (h : iH) (Q : Option iV → iH → Prop), G sp sc [94, 108] d mX12_deputies (n + 1) 180 L st h Q = (match ld L 1 with | some (.inl x) => G sp sc [94, 108] d mX12_deputies n 181 L (.inl x :: st) h Q | _ => False)) ∧
  (∀ (n d : Nat) (L : List (Option iV)) (st : List iV) (h : iH) (Q : Option iV → iH → Prop), G sp sc [94, 108] d mX12_deputies (n + 1) 181 L st h Q = G sp sc [94, 108] d mX12_deputies n 182 L (.inl 2 :: st) h Q) ∧
  (∀ (n d : Nat) (L : List (Option iV)) (r : List iV) (z0 : iV) (z1 : iV) (h : iH) (Q : Option iV → iH → Prop), G sp sc [94, 108] (d + 1) mX12_deputies (n + 1) 182 L (z1 :: z0 :: r) h Q = (cs r ≤ 8 ∧ Call sp sc d mX12_atCouple [z0, z1] h (fun q h1 => GC sp sc [94, 108] (d + 1) mX12_deputies n 185 L q r h h1 Q))) ∧
  (∀ (n d : Nat) (L : List (Option iV)) (r : List iV) (j : Int) (m : Nat) (h : iH) (Q : Option iV → iH → Prop), G sp sc [94, 108] d mX12_deputies (n + 1) 185 L (.inl j :: .inr (.inr (m + 2)) :: r) h Q = (match h.1[m]? with | some (.inr (.inl (0, xs))) => inA j xs.length = true ∧ G sp sc [94, 108] d mX12_deputies n 186 L (.inl (xs.getD j.toNat 0) :: r) h Q | _ => False)) ∧
  (∀ (n d : Nat) (L : List (Option iV)) (st : List iV) (h : iH) (Q : Option iV → iH → Prop), G sp sc [94, 108] d mX12_deputies (n + 1) 186 L st h Q = G sp sc [94, 108] d mX12_deputies n 187 L (.inl 1 :: st) h Q) ∧
  (∀ (n d : Nat) (L : List (Option iV)) (a : Int) (b : Int) (r : List iV) (h : iH) (Q : Option iV → iH → Prop), G sp sc [94, 108] d mX12_deputies (n + 1) 187 L (.inl b :: .inl a :: r) h Q = ((inI a = true ∧ inI b = true) ∧ (¬ a = b → G sp sc [94, 108] d mX12_deputies n 222 L r h Q) ∧ (¬ (¬ a = b) → G sp sc [94, 108] d mX12_deputies n 190 L r h Q))) ∧
  (∀ (n d : Nat) (L : List (Option iV)) (st : List iV) (h : iH) (Q : Option iV → iH → Prop), G sp sc [94, 108] d mX12_deputies (n + 1) 190 L st h Q = (match ld L 0 with | some (.inr (.inr (r + 1))) => G sp sc [94, 108] d mX12_deputies n 191 L (.inr (.inr (r + 1)) :: st) h Q | _ => False)) ∧
  (∀ (n d : Nat) (L : List (Option iV)) (r : List iV) (m : Nat) (h : iH) (Q : Option iV → iH → Prop), G sp sc [94, 108] d mX12_deputies (n + 1) 191 L (.inr (.inr (m + 2)) :: r) h Q = (match h.1[m]? with | some (.inl (ci, fs)) => (match lkF 12 25 ci with | some k => (match fs[k]? with | some v => G sp sc [94, 108] d mX12_deputies n 194 L (v :: r) h Q | none => False) | none => False) | _ => False)) ∧
  (∀ (n d : Nat) (L : List (Option iV)) (st : List iV) (h : iH) (Q : Option iV → iH → Prop), G sp sc [94, 108] d mX12_deputies (n + 1) 194 L st h Q = (match ld L 1 with | some (.inl x) => G sp sc [94, 108] d mX12_deputies n 195 L (.inl x :: st) h Q | _ => False)) ∧
  (∀ (n d : Nat) (L : List (Option iV)) (r : List iV) (j : Int) (m : Nat) (h : iH) (Q : Option iV → iH → Prop), G sp sc [94, 108] d mX12_deputies (n + 1) 195 L (.inl j :: .inr (.inr (m + 2)) :: r) h Q = (match h.1[m]? with | some (.inr (.inl (0, xs))) => inA j xs.length = true ∧ G sp sc [94, 108] d mX12_deputies n 196 L (.inl (xs.getD j.toNat 0) :: r) h Q | _ => False)) ∧
  (∀ (n d : Nat) (L : List (Option iV)) (st : List iV) (h : iH) (Q : Option iV → iH → Prop), G sp sc [94, 108] d mX12_deputies (n + 1) 196 L st h Q = (match ld L 8 with | some (.inl x) => G sp sc [94, 108] d mX12_deputies n 198 L (.inl x :: st) h Q | _ => False)) ∧
  (∀ (n d : Nat) (L : List (Option iV)) (a : Int) (b : Int) (r : List iV) (h : iH) (Q : Option iV → iH → Prop), G sp sc [94, 108] d mX12_deputies (n + 1) 198 L (.inl b :: .inl a :: r) h Q = ((inI a = true ∧ inI b = true) ∧ (a < b → G sp sc [94, 108] d mX12_deputies n 204 L r h Q) ∧ (¬ (a < b) → G sp sc [94, 108] d mX12_deputies n 201 L r h Q))) ∧
  (∀ (n d : Nat) (L : List (Option iV)) (st : List iV) (h : iH) (Q : Option iV → iH → Prop), G sp sc [94, 108] d mX12_deputies (n + 1) 201 L st h Q = G sp sc [94, 108] d mX12_deputies n 222 L st h Q) ∧
  (∀ (n d : Nat) (L : List (Option iV)) (st : List iV) (h : iH) (Q : Option iV → iH → Prop), G sp sc [94, 108] d mX12_deputies (n + 1) 204 L st h Q = (match ld L 0 with | some (.inr (.inr (r + 1))) => G sp sc [94, 108] d mX12_deputies n 205 L (.inr (.inr (r + 1)) :: st) h Q | _ => False)) ∧
  (∀ (n d : Nat) (L : List (Option iV)) (r : List iV) (m : Nat) (h : iH) (Q : Option iV → iH → Prop), G sp sc [94, 108] d mX12_deputies (n + 1) 205 L (.inr (.inr (m + 2)) :: r) h Q = (match h.1[m]? with | some (.inl (ci, fs)) => (match lkF 12 25 ci with | some k => (match fs[k]? with | some v => G sp sc [94, 108] d mX12_deputies n 208 L (v :: r) h Q | none => False) | none => False) | _ => False)) ∧
  (∀ (n d : Nat) (L : List (Option iV)) (st : List iV) (h : iH) (Q : Option iV → iH → Prop), G sp sc [94, 108] d mX12_deputies (n + 1) 208 L st h Q = (match ld L 1 with | some (.inl x) => G sp sc [94, 108] d mX12_deputies n 209 L (.inl x :: st) h Q | _ => False)) ∧
  (∀ (n d : Nat) (L : List (Option iV)) (r : List iV) (j : Int) (m : Nat) (h : iH) (Q : Option iV → iH → Prop), G sp sc [94, 108] d mX12_deputies (n + 1) 209 L (.inl j :: .inr (.inr (m + 2)) :: r) h Q = (match h.1[m]? with | some (.inr (.inl (0, xs))) => inA j xs.length = true ∧ G sp sc [94, 108] d mX12_deputies n 210 L (.inl (xs.getD j.toNat 0) :: r) h Q | _ => False)) ∧
  (∀ (n d : Nat) (L : List (Option iV)) (r : List iV) (x : Int) (h : iH) (Q : Option iV → iH → Prop), G sp sc [94, 108] d mX12_deputies (n + 1) 210 L (.inl x :: r) h Q = (match st1 L 8 (.inl x) with | some L' => G sp sc [94, 108] d mX12_deputies n 212 L' r h Q | none => False)) ∧
  (∀ (n d : Nat) (L : List (Option iV)) (st : List iV) (h : iH) (Q : Option iV → iH → Prop), G sp sc [94, 108] d mX12_deputies (n + 1) 212 L st h Q = ((-128 ≤ (10 : Int) ∧ (10 : Int) < 128) ∧ G sp sc [94, 108] d mX12_deputies n 214 L (.inl 10 :: st) h Q)) ∧
  (∀ (n d : Nat) (L : List (Option iV)) (st : List iV) (h : iH) (Q : Option iV → iH → Prop), G sp sc [94, 108] d mX12_deputies (n + 1) 214 L st h Q = (match ld L 9 with | some (.inl x) => G sp sc [94, 108] d mX12_deputies n 216 L (.inl x :: st) h Q | _ => False)) ∧
  (∀ (n d : Nat) (L : List (Option iV)) (a : Int) (b : Int) (r : List iV) (h : iH) (Q : Option iV → iH → Prop), G sp sc [94, 108] d mX12_deputies (n + 1) 216 L (.inl b :: .inl a :: r) h Q = G sp sc [94, 108] d mX12_deputies n 217 L (.inl (a * b) :: r) h Q) ∧
  (∀ (n d : Nat) (L : List (Option iV)) (st : List iV) (h : iH) (Q : Option iV → iH → Prop), G sp sc [94, 108] d mX12_deputies (n + 1) 217 L st h Q = (match ld L 10 with | some (.inl x) => G sp sc [94, 108] d mX12_deputies n 219 L (.inl x :: st) h Q | _ => False)) ∧
  (∀ (n d : Nat) (L : List (Option iV)) (a : Int) (b : Int) (r : List iV) (h : iH) (Q : Option iV → iH → Prop), G sp sc [94, 108] d mX12_deputies (n + 1) 219 L (.inl b :: .inl a :: r) h Q = G sp sc [94, 108] d mX12_deputies n 220 L (.inl (a + b) :: r) h Q) ∧
  (∀ (n d : Nat) (L : List (Option iV)) (r : List iV) (x : Int) (h : iH) (Q : Option iV → iH → Prop), G sp sc [94, 108] d mX12_deputies (n + 1) 220 L (.inl x :: r) h Q = (match st1 L 7 (.inl x) with | some L' => G sp sc [94, 108] d mX12_deputies n 222 L' r h Q | none => False)) ∧
  (∀ (n d : Nat) (L : List (Option iV)) (st : List iV) (h : iH) (Q : Option iV → iH → Prop), G sp sc [94, 108] d mX12_deputies (n + 1) 222 L st h Q = (match ld L 10 with | some (.inl x) => (match st1 L 10 (.inl (x + 1)) with | some L' => G sp sc [94, 108] d mX12_deputies n 225 L' st h Q | none => False) | _ => False)) ∧
  (∀ (n d : Nat) (L : List (Option iV)) (st : List iV) (h : iH) (Q : Option iV → iH → Prop), G sp sc [94, 108] d mX12_deputies (n + 1) 225 L st h Q = Run sp sc d mX12_deputies 108 L st h Q) ∧
  (∀ (n d : Nat) (L : List (Option iV)) (st : List iV) (h : iH) (Q : Option iV → iH → Prop), G sp sc [94, 108] d mX12_deputies (n + 1) 228 L st h Q = (match ld L 9 with | some (.inl x) => (match st1 L 9 (.inl (x + 1)) with | some L' => G sp sc [94, 108] d mX12_deputies n 231 L' st h Q | none => False) | _ => False)) ∧
  (∀ (n d : Nat) (L : List (Option iV)) (st : List iV) (h : iH) (Q : Option iV → iH → Prop), G sp sc [94, 108] d mX12_deputies (n + 1) 231 L st h Q = Run sp sc d mX12_deputies 94 L st h Q) ∧
  (∀ (n d : Nat) (L : List (Option iV)) (st : List iV) (h : iH) (Q : Option iV → iH → Prop), G sp sc [94, 108] d mX12_deputies (n + 1) 234 L st h Q = (match ld L 0 with | some (.inr (.inr (r + 1))) => G sp sc [94, 108] d mX12_deputies n 235 L (.inr (.inr (r + 1)) :: st) h Q | _ => False)) ∧
  (∀ (n d : Nat) (L : List (Option iV)) (r : List iV) (m : Nat) (h : iH) (Q : Option iV → iH → Prop), G sp sc [94, 108] d mX12_deputies (n + 1) 235 L (.inr (.inr (m + 2)) :: r) h Q = (match h.1[m]? with | some (.inl (ci, fs)) => (match lkF 12 9 ci with | some k => (match fs[k]? with | some v => G sp sc [94, 108] d mX12_deputies n 238 L (v :: r) h Q | none => False) | none => False) | _ => False)) ∧
  (∀ (n d : Nat) (L : List (Option iV)) (st : List iV) (h : iH) (Q : Option iV → iH → Prop), G sp sc [94, 108] d mX12_deputies (n + 1) 238 L st h Q = G sp sc [94, 108] d mX12_deputies n 239 L (.inl 0 :: st) h Q) ∧
  (∀ (n d : Nat) (L : List (Option iV)) (st : List iV) (h : iH) (Q : Option iV → iH → Prop), G sp sc [94, 108] d mX12_deputies (n + 1) 239 L st h Q = (match ld L 3 with | some (.inl x) => G sp sc [94, 108] d mX12_deputies n 240 L (.inl x :: st) h Q | _ => False)) ∧
  (∀ (n d : Nat) (L : List (Option iV)) (st : List iV) (h : iH) (Q : Option iV → iH → Prop), G sp sc [94, 108] d mX12_deputies (n + 1) 240 L st h Q = G sp sc [94, 108] d mX12_deputies n 241 L (.inl 2 :: st) h Q) ∧
  (∀ (n d : Nat) (L : List (Option iV)) (r : List iV) (z0 : iV) (z1 : iV) (z2 : iV) (h : iH) (Q : Option iV → iH → Prop), G sp sc [94, 108] (d + 1) mX12_deputies (n + 1) 241 L (z2 :: z1 :: z0 :: r) h Q = (cs r ≤ 8 ∧ Call sp sc d mX12_atOne [z0, z1, z2] h (fun q h1 => GC sp sc [94, 108] (d + 1) mX12_deputies n 244 L q r h h1 Q))) ∧
  (∀ (n d : Nat) (L : List (Option iV)) (st : List iV) (h : iH) (Q : Option iV → iH → Prop), G sp sc [94, 108] d mX12_deputies (n + 1) 244 L st h Q = (match ld L 5 with | some (.inl x) => G sp sc [94, 108] d mX12_deputies n 246 L (.inl x :: st) h Q | _ => False)) ∧
  (∀ (n d : Nat) (L : List (Option iV)) (r : List iV) (v : Int) (j : Int) (m : Nat) (h : iH) (Q : Option iV → iH → Prop), G sp sc [94, 108] d mX12_deputies (n + 1) 246 L (.inl v :: .inl j :: .inr (.inr (m + 2)) :: r) h Q = (match h.1[m]? with | some (.inr (.inl (0, xs))) => inA j xs.length = true ∧ G sp sc [94, 108] d mX12_deputies n 247 L r (h.1.set m (.inr (.inl (0, xs.set j.toNat v))), h.2) Q | _ => False)) ∧
  (∀ (n d : Nat) (L : List (Option iV)) (st : List iV) (h : iH) (Q : Option iV → iH → Prop), G sp sc [94, 108] d mX12_deputies (n + 1) 247 L st h Q = (match ld L 0 with | some (.inr (.inr (r + 1))) => G sp sc [94, 108] d mX12_deputies n 248 L (.inr (.inr (r + 1)) :: st) h Q | _ => False)) ∧
  (∀ (n d : Nat) (L : List (Option iV)) (r : List iV) (m : Nat) (h : iH) (Q : Option iV → iH → Prop), G sp sc [94, 108] d mX12_deputies (n + 1) 248 L (.inr (.inr (m + 2)) :: r) h Q = (match h.1[m]? with | some (.inl (ci, fs)) => (match lkF 12 9 ci with | some k => (match fs[k]? with | some v => G sp sc [94, 108] d mX12_deputies n 251 L (v :: r) h Q | none => False) | none => False) | _ => False)) ∧
  (∀ (n d : Nat) (L : List (Option iV)) (st : List iV) (h : iH) (Q : Option iV → iH → Prop), G sp sc [94, 108] d mX12_deputies (n + 1) 251 L st h Q = G sp sc [94, 108] d mX12_deputies n 252 L (.inl 1 :: st) h Q) ∧
  (∀ (n d : Nat) (L : List (Option iV)) (st : List iV) (h : iH) (Q : Option iV → iH → Prop), G sp sc [94, 108] d mX12_deputies (n + 1) 252 L st h Q = (match ld L 4 with | some (.inl x) => G sp sc [94, 108] d mX12_deputies n 254 L (.inl x :: st) h Q | _ => False)) ∧
  (∀ (n d : Nat) (L : List (Option iV)) (st : List iV) (h : iH) (Q : Option iV → iH → Prop), G sp sc [94, 108] d mX12_deputies (n + 1) 254 L st h Q = G sp sc [94, 108] d mX12_deputies n 255 L (.inl 2 :: st) h Q) ∧
  (∀ (n d : Nat) (L : List (Option iV)) (r : List iV) (z0 : iV) (z1 : iV) (z2 : iV) (h : iH) (Q : Option iV → iH → Prop), G sp sc [94, 108] (d + 1) mX12_deputies (n + 1) 255 L (z2 :: z1 :: z0 :: r) h Q = (cs r ≤ 8 ∧ Call sp sc d mX12_atOne [z0, z1, z2] h (fun q h1 => GC sp sc [94, 108] (d + 1) mX12_deputies n 258 L q r h h1 Q))) ∧
  (∀ (n d : Nat) (L : List (Option iV)) (st : List iV) (h : iH) (Q : Option iV → iH → Prop), G sp sc [94, 108] d mX12_deputies (n + 1) 258 L st h Q = (match ld L 6 with | some (.inl x) => G sp sc [94, 108] d mX12_deputies n 260 L (.inl x :: st) h Q | _ => False)) ∧
  (∀ (n d : Nat) (L : List (Option iV)) (r : List iV) (v : Int) (j : Int) (m : Nat) (h : iH) (Q : Option iV → iH → Prop), G sp sc [94, 108] d mX12_deputies (n + 1) 260 L (.inl v :: .inl j :: .inr (.inr (m + 2)) :: r) h Q = (match h.1[m]? with | some (.inr (.inl (0, xs))) => inA j xs.length = true ∧ G sp sc [94, 108] d mX12_deputies n 261 L r (h.1.set m (.inr (.inl (0, xs.set j.toNat v))), h.2) Q | _ => False)) ∧
  (∀ (n d : Nat) (L : List (Option iV)) (st : List iV) (h : iH) (Q : Option iV → iH → Prop), G sp sc [94, 108] d mX12_deputies (n + 1) 261 L st h Q = (match ld L 7 with | some (.inl x) => G sp sc [94, 108] d mX12_deputies n 263 L (.inl x :: st) h Q | _ => False)) ∧
  (∀ (n d : Nat) (L : List (Option iV)) (a : Int) (r : List iV) (h : iH) (Q : Option iV → iH → Prop), G sp sc [94, 108] d mX12_deputies (n + 1) 263 L (.inl a :: r) h Q = (inI a = true ∧ (a < 0 → G sp sc [94, 108] d mX12_deputies n 270 L r h Q) ∧ (¬ (a < 0) → G sp sc [94, 108] d mX12_deputies n 266 L r h Q))) ∧
  (∀ (n d : Nat) (L : List (Option iV)) (st : List iV) (h : iH) (Q : Option iV → iH → Prop), G sp sc [94, 108] d mX12_deputies (n + 1) 266 L st h Q = (match ld L 2 with | some (.inl x) => G sp sc [94, 108] d mX12_deputies n 267 L (.inl x :: st) h Q | _ => False)) ∧
  (∀ (n d : Nat) (L : List (Option iV)) (a : Int) (r : List iV) (h : iH) (Q : Option iV → iH → Prop), G sp sc [94, 108] d mX12_deputies (n + 1) 267 L (.inl a :: r) h Q = (inI a = true ∧ (¬ a = 0 → G sp sc [94, 108] d mX12_deputies n 275 L r h Q) ∧ (¬ (¬ a = 0) → G sp sc [94, 108] d mX12_deputies n 270 L r h Q))) ∧
  (∀ (n d : Nat) (L : List (Option iV)) (st : List iV) (h : iH) (Q : Option iV → iH → Prop), G sp sc [94, 108] d mX12_deputies (n + 1) 270 L st h Q = (match ld L 7 with | some (.inl x) => G sp sc [94, 108] d mX12_deputies n 272 L (.inl x :: st) h Q | _ => False)) ∧
  (∀ (n d : Nat) (L : List (Option iV)) (st : List iV) (h : iH) (Q : Option iV → iH → Prop), G sp sc [94, 108] d mX12_deputies (n + 1) 272 L st h Q = G sp sc [94, 108] d mX12_deputies n 277 L st h Q) ∧
  (∀ (n d : Nat) (L : List (Option iV)) (st : List iV) (h : iH) (Q : Option iV → iH → Prop), G sp sc [94, 108] d mX12_deputies (n + 1) 275 L st h Q = (match ld L 8 with | some (.inl x) => G sp sc [94, 108] d mX12_deputies n 277 L (.inl x :: st) h Q | _ => False)) ∧
  (∀ (n d : Nat) (L : List (Option iV)) (a : Int) (h : iH) (Q : Option iV → iH → Prop), G sp sc [94, 108] d mX12_deputies (n + 1) 277 L [.inl a] h Q = Q (some (.inl a)) h) ∧
  lkC 12 208 12 = some (mX12_isCouple, 1, 2) ∧
  lkC 12 211 12 = some (mX12_inMind, 1, 2) ∧
  lkF 12 13 12 = some 1 ∧
  lkF 12 25 12 = some 6 ∧
  lkF 12 9 12 = some 0 := ⟨by intros; exact G_at (by decide +kernel : fetch mX12_deputies 0 = some (.aload_n 0)),
  by intros; exact G_at (by decide +kernel : fetch mX12_deputies 1 = some (.iload_n 1)),
  by intros; exact G_callV (by decide +kernel : fetch mX12_deputies 2 = some (.invokevirtual 208)) (by decide +kernel) (by decide +kernel) rfl,
  by intros; exact G_at (by decide +kernel : fetch mX12_deputies 5 = some (.ifCond .eq 12)),
  by intros; exact G_at (by decide +kernel : fetch mX12_deputies 8 = some (.iload_n 2)),
  by intros; exact G_at (by decide +kernel : fetch mX12_deputies 9 = some (.iconst 0)),
  by intros; exact G_at (by decide +kernel : fetch mX12_deputies 10 = some (.iconst 1)),
  by intros; exact G_callS (k := 3) (kd := 0) (by decide +kernel : fetch mX12_deputies 11 = some (.invokestatic 67)) (by decide +kernel) (by decide +kernel) (by decide +kernel) rfl (by decide),
  by intros; exact G_at (by decide +kernel : fetch mX12_deputies 14 = some (.ifCond .ne 5)),
  by intros; exact G_at (by decide +kernel : fetch mX12_deputies 17 = some (.iconst (-1))),
  by intros; exact G_reti (by decide +kernel : fetch mX12_deputies 18 = some (.ireturn)) (by decide +kernel),
  by intros; exact G_at (by decide +kernel : fetch mX12_deputies 19 = some (.aload_n 0)),
  by intros; exact G_own (by decide +kernel : fetch mX12_deputies 20 = some (.getfield 9)) (by decide +kernel),
  by intros; exact G_at (by decide +kernel : fetch mX12_deputies 23 = some (.iload_n 1)),
  by intros; exact G_callS (k := 2) (kd := 0) (by decide +kernel : fetch mX12_deputies 24 = some (.invokestatic 95)) (by decide +kernel) (by decide +kernel) (by decide +kernel) rfl (by decide),
  by intros; exact G_at (by decide +kernel : fetch mX12_deputies 27 = some (.ifCond .ne 6)),
  by intros; exact G_at (by decide +kernel : fetch mX12_deputies 30 = some (.bipush (-4))),
  by intros; exact G_reti (by decide +kernel : fetch mX12_deputies 32 = some (.ireturn)) (by decide +kernel),
  by intros; exact G_at (by decide +kernel : fetch mX12_deputies 33 = some (.aload_n 0)),
  by intros; exact G_own (by decide +kernel : fetch mX12_deputies 34 = some (.getfield 9)) (by decide +kernel),
  by intros; exact G_at (by decide +kernel : fetch mX12_deputies 37 = some (.iload_n 1)),
  by intros; exact G_at (by decide +kernel : fetch mX12_deputies 38 = some (.iconst 0)),
  by intros; exact G_callS (k := 2) (kd := 0) (by decide +kernel : fetch mX12_deputies 39 = some (.invokestatic 92)) (by decide +kernel) (by decide +kernel) (by decide +kernel) rfl (by decide),
  by intros; exact G_at (by decide +kernel : fetch mX12_deputies 42 = some (.iaload)),
  by intros; exact G_at (by decide +kernel : fetch mX12_deputies 43 = some (.istore_n 3)),
  by intros; exact G_at (by decide +kernel : fetch mX12_deputies 44 = some (.aload_n 0)),
  by intros; exact G_own (by decide +kernel : fetch mX12_deputies 45 = some (.getfield 9)) (by decide +kernel),
  by intros; exact G_at (by decide +kernel : fetch mX12_deputies 48 = some (.iload_n 1)),
  by intros; exact G_at (by decide +kernel : fetch mX12_deputies 49 = some (.iconst 1)),
  by intros; exact G_callS (k := 2) (kd := 0) (by decide +kernel : fetch mX12_deputies 50 = some (.invokestatic 92)) (by decide +kernel) (by decide +kernel) (by decide +kernel) rfl (by decide),
  by intros; exact G_at (by decide +kernel : fetch mX12_deputies 53 = some (.iaload)),
  by intros; exact G_at (by decide +kernel : fetch mX12_deputies 54 = some (.istore 4)),
  by intros; exact G_at (by decide +kernel : fetch mX12_deputies 56 = some (.aload_n 0)),
  by intros; exact G_own (by decide +kernel : fetch mX12_deputies 57 = some (.getfield 9)) (by decide +kernel),
  by intros; exact G_at (by decide +kernel : fetch mX12_deputies 60 = some (.iconst 0)),
  by intros; exact G_at (by decide +kernel : fetch mX12_deputies 61 = some (.iload_n 3)),
  by intros; exact G_at (by decide +kernel : fetch mX12_deputies 62 = some (.iconst 2)),
  by intros; exact G_callS (k := 3) (kd := 0) (by decide +kernel : fetch mX12_deputies 63 = some (.invokestatic 88)) (by decide +kernel) (by decide +kernel) (by decide +kernel) rfl (by decide),
  by intros; exact G_at (by decide +kernel : fetch mX12_deputies 66 = some (.iaload)),
  by intros; exact G_at (by decide +kernel : fetch mX12_deputies 67 = some (.istore 5)),
  by intros; exact G_at (by decide +kernel : fetch mX12_deputies 69 = some (.aload_n 0)),
  by intros; exact G_own (by decide +kernel : fetch mX12_deputies 70 = some (.getfield 9)) (by decide +kernel),
  by intros; exact G_at (by decide +kernel : fetch mX12_deputies 73 = some (.iconst 1)),
  by intros; exact G_at (by decide +kernel : fetch mX12_deputies 74 = some (.iload 4)),
  by intros; exact G_at (by decide +kernel : fetch mX12_deputies 76 = some (.iconst 2)),
  by intros; exact G_callS (k := 3) (kd := 0) (by decide +kernel : fetch mX12_deputies 77 = some (.invokestatic 88)) (by decide +kernel) (by decide +kernel) (by decide +kernel) rfl (by decide),
  by intros; exact G_at (by decide +kernel : fetch mX12_deputies 80 = some (.iaload)),
  by intros; exact G_at (by decide +kernel : fetch mX12_deputies 81 = some (.istore 6)),
  by intros; exact G_at (by decide +kernel : fetch mX12_deputies 83 = some (.bipush (-4))),
  by intros; exact G_at (by decide +kernel : fetch mX12_deputies 85 = some (.istore 7)),
  by intros; exact G_ldc (by decide +kernel : fetch mX12_deputies 87 = some (.ldc 232)) (by decide +kernel),
  by intros; exact G_at (by decide +kernel : fetch mX12_deputies 89 = some (.istore 8)),
  by intros; exact G_at (by decide +kernel : fetch mX12_deputies 91 = some (.iconst 0)),
  by intros; exact G_at (by decide +kernel : fetch mX12_deputies 92 = some (.istore 9)),
  by intros; exact G_at (by decide +kernel : fetch mX12_deputies 94 = some (.iload 9)),
  by intros; exact G_at (by decide +kernel : fetch mX12_deputies 96 = some (.aload_n 0)),
  by intros; exact G_own (by decide +kernel : fetch mX12_deputies 97 = some (.getfield 9)) (by decide +kernel),
  by intros; exact G_at (by decide +kernel : fetch mX12_deputies 100 = some (.iconst 0)),
  by intros; exact G_at (by decide +kernel : fetch mX12_deputies 101 = some (.iaload)),
  by intros; exact G_at (by decide +kernel : fetch mX12_deputies 102 = some (.if_icmp .gt 132)),
  by intros; exact G_at (by decide +kernel : fetch mX12_deputies 105 = some (.iconst 0)),
  by intros; exact G_at (by decide +kernel : fetch mX12_deputies 106 = some (.istore 10)),
  by intros; exact G_at (by decide +kernel : fetch mX12_deputies 108 = some (.iload 10)),
  by intros; exact G_at (by decide +kernel : fetch mX12_deputies 110 = some (.aload_n 0)),
  by intros; exact G_own (by decide +kernel : fetch mX12_deputies 111 = some (.getfield 9)) (by decide +kernel),
  by intros; exact G_at (by decide +kernel : fetch mX12_deputies 114 = some (.iconst 1)),
  by intros; exact G_at (by decide +kernel : fetch mX12_deputies 115 = some (.iaload)),
  by intros; exact G_at (by decide +kernel : fetch mX12_deputies 116 = some (.if_icmp .gt 112)),
  by intros; exact G_at (by decide +kernel : fetch mX12_deputies 119 = some (.iload 9)),
  by intros; exact G_at (by decide +kernel : fetch mX12_deputies 121 = some (.iconst 1)),
  by intros; exact G_at (by decide +kernel : fetch mX12_deputies 122 = some (.isub)),
  by intros; exact G_at (by decide +kernel : fetch mX12_deputies 123 = some (.iload_n 3)),
  by intros; exact G_at (by decide +kernel : fetch mX12_deputies 124 = some (.if_icmp .eq 98)),
  by intros; exact G_at (by decide +kernel : fetch mX12_deputies 127 = some (.iload 10)),
  by intros; exact G_at (by decide +kernel : fetch mX12_deputies 129 = some (.iconst 1)),
  by intros; exact G_at (by decide +kernel : fetch mX12_deputies 130 = some (.isub)),
  by intros; exact G_at (by decide +kernel : fetch mX12_deputies 131 = some (.iload 4)),
  by intros; exact G_at (by decide +kernel : fetch mX12_deputies 133 = some (.if_icmp .ne 6)),
  by intros; exact G_at (by decide +kernel : fetch mX12_deputies 136 = some (.goto 86)),
  by intros; exact G_at (by decide +kernel : fetch mX12_deputies 139 = some (.aload_n 0)),
  by intros; exact G_own (by decide +kernel : fetch mX12_deputies 140 = some (.getfield 9)) (by decide +kernel),
  by intros; exact G_at (by decide +kernel : fetch mX12_deputies 143 = some (.iconst 0)),
  by intros; exact G_at (by decide +kernel : fetch mX12_deputies 144 = some (.iload_n 3)),
  by intros; exact G_at (by decide +kernel : fetch mX12_deputies 145 = some (.iconst 2)),
  by intros; exact G_callS (k := 3) (kd := 0) (by decide +kernel : fetch mX12_deputies 146 = some (.invokestatic 88)) (by decide +kernel) (by decide +kernel) (by decide +kernel) rfl (by decide),
  by intros; exact G_at (by decide +kernel : fetch mX12_deputies 149 = some (.iload 9)),
  by intros; exact G_at (by decide +kernel : fetch mX12_deputies 151 = some (.iconst 1)),
  by intros; exact G_at (by decide +kernel : fetch mX12_deputies 152 = some (.isub)),
  by intros; exact G_at (by decide +kernel : fetch mX12_deputies 153 = some (.iastore)),
  by intros; exact G_at (by decide +kernel : fetch mX12_deputies 154 = some (.aload_n 0)),
  by intros; exact G_own (by decide +kernel : fetch mX12_deputies 155 = some (.getfield 9)) (by decide +kernel),
  by intros; exact G_at (by decide +kernel : fetch mX12_deputies 158 = some (.iconst 1)),
  by intros; exact G_at (by decide +kernel : fetch mX12_deputies 159 = some (.iload 4)),
  by intros; exact G_at (by decide +kernel : fetch mX12_deputies 161 = some (.iconst 2)),
  by intros; exact G_callS (k := 3) (kd := 0) (by decide +kernel : fetch mX12_deputies 162 = some (.invokestatic 88)) (by decide +kernel) (by decide +kernel) (by decide +kernel) rfl (by decide),
  by intros; exact G_at (by decide +kernel : fetch mX12_deputies 165 = some (.iload 10)),
  by intros; exact G_at (by decide +kernel : fetch mX12_deputies 167 = some (.iconst 1)),
  by intros; exact G_at (by decide +kernel : fetch mX12_deputies 168 = some (.isub)),
  by intros; exact G_at (by decide +kernel : fetch mX12_deputies 169 = some (.iastore)),
  by intros; exact G_at (by decide +kernel : fetch mX12_deputies 170 = some (.aload_n 0)),
  by intros; exact G_at (by decide +kernel : fetch mX12_deputies 171 = some (.bipush 60)),
  by intros; exact G_callV (by decide +kernel : fetch mX12_deputies 173 = some (.invokevirtual 211)) (by decide +kernel) (by decide +kernel) rfl,
  by intros; exact G_at (by decide +kernel : fetch mX12_deputies 176 = some (.aload_n 0)),
  by intros; exact G_own (by decide +kernel : fetch mX12_deputies 177 = some (.getfield 13)) (by decide +kernel),
  by intros; exact G_at (by decide +kernel : fetch mX12_deputies 180 = some (.iload_n 1)),
  by intros; exact G_at (by decide +kernel : fetch mX12_deputies 181 = some (.iconst 2)),
  by intros; exact G_callS (k := 2) (kd := 0) (by decide +kernel : fetch mX12_deputies 182 = some (.invokestatic 92)) (by decide +kernel) (by decide +kernel) (by decide +kernel) rfl (by decide),
  by intros; exact G_at (by decide +kernel : fetch mX12_deputies 185 = some (.iaload)),
  by intros; exact G_at (by decide +kernel : fetch mX12_deputies 186 = some (.iconst 1)),
  by intros; exact G_at (by decide +kernel : fetch mX12_deputies 187 = some (.if_icmp .ne 35)),
  by intros; exact G_at (by decide +kernel : fetch mX12_deputies 190 = some (.aload_n 0)),
  by intros; exact G_own (by decide +kernel : fetch mX12_deputies 191 = some (.getfield 25)) (by decide +kernel),
  by intros; exact G_at (by decide +kernel : fetch mX12_deputies 194 = some (.iload_n 1)),
  by intros; exact G_at (by decide +kernel : fetch mX12_deputies 195 = some (.iaload)),
  by intros; exact G_at (by decide +kernel : fetch mX12_deputies 196 = some (.iload 8)),
  by intros; exact G_at (by decide +kernel : fetch mX12_deputies 198 = some (.if_icmp .lt 6)),
  by intros; exact G_at (by decide +kernel : fetch mX12_deputies 201 = some (.goto 21)),
  by intros; exact G_at (by decide +kernel : fetch mX12_deputies 204 = some (.aload_n 0)),
  by intros; exact G_own (by decide +kernel : fetch mX12_deputies 205 = some (.getfield 25)) (by decide +kernel),
  by intros; exact G_at (by decide +kernel : fetch mX12_deputies 208 = some (.iload_n 1)),
  by intros; exact G_at (by decide +kernel : fetch mX12_deputies 209 = some (.iaload)),
  by intros; exact G_at (by decide +kernel : fetch mX12_deputies 210 = some (.istore 8)),
  by intros; exact G_at (by decide +kernel : fetch mX12_deputies 212 = some (.bipush 10)),
  by intros; exact G_at (by decide +kernel : fetch mX12_deputies 214 = some (.iload 9)),
  by intros; exact G_at (by decide +kernel : fetch mX12_deputies 216 = some (.imul)),
  by intros; exact G_at (by decide +kernel : fetch mX12_deputies 217 = some (.iload 10)),
  by intros; exact G_at (by decide +kernel : fetch mX12_deputies 219 = some (.iadd)),
  by intros; exact G_at (by decide +kernel : fetch mX12_deputies 220 = some (.istore 7)),
  by intros; exact G_at (by decide +kernel : fetch mX12_deputies 222 = some (.iinc 10 1)),
  by intros; exact G_at (by decide +kernel : fetch mX12_deputies 225 = some (.goto (-117))),
  by intros; exact G_at (by decide +kernel : fetch mX12_deputies 228 = some (.iinc 9 1)),
  by intros; exact G_at (by decide +kernel : fetch mX12_deputies 231 = some (.goto (-137))),
  by intros; exact G_at (by decide +kernel : fetch mX12_deputies 234 = some (.aload_n 0)),
  by intros; exact G_own (by decide +kernel : fetch mX12_deputies 235 = some (.getfield 9)) (by decide +kernel),
  by intros; exact G_at (by decide +kernel : fetch mX12_deputies 238 = some (.iconst 0)),
  by intros; exact G_at (by decide +kernel : fetch mX12_deputies 239 = some (.iload_n 3)),
  by intros; exact G_at (by decide +kernel : fetch mX12_deputies 240 = some (.iconst 2)),
  by intros; exact G_callS (k := 3) (kd := 0) (by decide +kernel : fetch mX12_deputies 241 = some (.invokestatic 88)) (by decide +kernel) (by decide +kernel) (by decide +kernel) rfl (by decide),
  by intros; exact G_at (by decide +kernel : fetch mX12_deputies 244 = some (.iload 5)),
  by intros; exact G_at (by decide +kernel : fetch mX12_deputies 246 = some (.iastore)),
  by intros; exact G_at (by decide +kernel : fetch mX12_deputies 247 = some (.aload_n 0)),
  by intros; exact G_own (by decide +kernel : fetch mX12_deputies 248 = some (.getfield 9)) (by decide +kernel),
  by intros; exact G_at (by decide +kernel : fetch mX12_deputies 251 = some (.iconst 1)),
  by intros; exact G_at (by decide +kernel : fetch mX12_deputies 252 = some (.iload 4)),
  by intros; exact G_at (by decide +kernel : fetch mX12_deputies 254 = some (.iconst 2)),
  by intros; exact G_callS (k := 3) (kd := 0) (by decide +kernel : fetch mX12_deputies 255 = some (.invokestatic 88)) (by decide +kernel) (by decide +kernel) (by decide +kernel) rfl (by decide),
  by intros; exact G_at (by decide +kernel : fetch mX12_deputies 258 = some (.iload 6)),
  by intros; exact G_at (by decide +kernel : fetch mX12_deputies 260 = some (.iastore)),
  by intros; exact G_at (by decide +kernel : fetch mX12_deputies 261 = some (.iload 7)),
  by intros; exact G_at (by decide +kernel : fetch mX12_deputies 263 = some (.ifCond .lt 7)),
  by intros; exact G_at (by decide +kernel : fetch mX12_deputies 266 = some (.iload_n 2)),
  by intros; exact G_at (by decide +kernel : fetch mX12_deputies 267 = some (.ifCond .ne 8)),
  by intros; exact G_at (by decide +kernel : fetch mX12_deputies 270 = some (.iload 7)),
  by intros; exact G_at (by decide +kernel : fetch mX12_deputies 272 = some (.goto 5)),
  by intros; exact G_at (by decide +kernel : fetch mX12_deputies 275 = some (.iload 8)),
  by intros; exact G_reti (by decide +kernel : fetch mX12_deputies 277 = some (.ireturn)) (by decide +kernel),
  by decide +kernel,
  by decide +kernel,
  by decide +kernel,
  by decide +kernel,
  by decide +kernel⟩
theorem gX12_bestWho : (∀ (n d : Nat) (L : List (Option iV)) (st : List iV) (h : iH) (Q : Option iV → iH → Prop), G sp sc [28] d mX12_bestWho (n + 1) 0 L st h Q = (match ld L 1 with | some (.inl x) => G sp sc [28] d mX12_bestWho n 1 L (.inl x :: st) h Q | _ => False)) ∧
  (∀ (n d : Nat) (L : List (Option iV)) (st : List iV) (h : iH) (Q : Option iV → iH → Prop), G sp sc [28] d mX12_bestWho (n + 1) 1 L st h Q = G sp sc [28] d mX12_bestWho n 2 L (.inl 0 :: st) h Q) ∧
  (∀ (n d : Nat) (L : List (Option iV)) (st : List iV) (h : iH) (Q : Option iV → iH → Prop), G sp sc [28] d mX12_bestWho (n + 1) 2 L st h Q = G sp sc [28] d mX12_bestWho n 3 L (.inl 5 :: st) h Q) ∧
  (∀ (n d : Nat) (L : List (Option iV)) (r : List iV) (z0 : iV) (z1 : iV) (z2 : iV) (h : iH) (Q : Option iV → iH → Prop), G sp sc [28] (d + 1) mX12_bestWho (n + 1) 3 L (z2 :: z1 :: z0 :: r) h Q = (cs r ≤ 8 ∧ Call sp sc d mX12_isIn [z0, z1, z2] h (fun q h1 => GC sp sc [28] (d + 1) mX12_bestWho n 6 L q r h h1 Q))) ∧
  (∀ (n d : Nat) (L : List (Option iV)) (a : Int) (r : List iV) (h : iH) (Q : Option iV → iH → Prop), G sp sc [28] d mX12_bestWho (n + 1) 6 L (.inl a :: r) h Q = (inI a = true ∧ (¬ a = 0 → G sp sc [28] d mX12_bestWho n 11 L r h Q) ∧ (¬ (¬ a = 0) → G sp sc [28] d mX12_bestWho n 9 L r h Q))) ∧
  (∀ (n d : Nat) (L : List (Option iV)) (st : List iV) (h : iH) (Q : Option iV → iH → Prop), G sp sc [28] d mX12_bestWho (n + 1) 9 L st h Q = G sp sc [28] d mX12_bestWho n 10 L (.inl (-1) :: st) h Q) ∧
  (∀ (n d : Nat) (L : List (Option iV)) (a : Int) (h : iH) (Q : Option iV → iH → Prop), G sp sc [28] d mX12_bestWho (n + 1) 10 L [.inl a] h Q = Q (some (.inl a)) h) ∧
  (∀ (n d : Nat) (L : List (Option iV)) (st : List iV) (h : iH) (Q : Option iV → iH → Prop), G sp sc [28] d mX12_bestWho (n + 1) 11 L st h Q = (match ld L 0 with | some (.inr (.inr (r + 1))) => G sp sc [28] d mX12_bestWho n 12 L (.inr (.inr (r + 1)) :: st) h Q | _ => False)) ∧
  (∀ (n d : Nat) (L : List (Option iV)) (r : List iV) (m : Nat) (h : iH) (Q : Option iV → iH → Prop), G sp sc [28] d mX12_bestWho (n + 1) 12 L (.inr (.inr (m + 2)) :: r) h Q = (match h.1[m]? with | some (.inl (ci, fs)) => (match lkF 12 9 ci with | some k => (match fs[k]? with | some v => G sp sc [28] d mX12_bestWho n 15 L (v :: r) h Q | none => False) | none => False) | _ => False)) ∧
  (∀ (n d : Nat) (L : List (Option iV)) (st : List iV) (h : iH) (Q : Option iV → iH → Prop), G sp sc [28] d mX12_bestWho (n + 1) 15 L st h Q = G sp sc [28] d mX12_bestWho n 16 L (.inl 5 :: st) h Q) ∧
  (∀ (n d : Nat) (L : List (Option iV)) (st : List iV) (h : iH) (Q : Option iV → iH → Prop), G sp sc [28] d mX12_bestWho (n + 1) 16 L st h Q = (match ld L 1 with | some (.inl x) => G sp sc [28] d mX12_bestWho n 17 L (.inl x :: st) h Q | _ => False)) ∧
  (∀ (n d : Nat) (L : List (Option iV)) (a : Int) (b : Int) (r : List iV) (h : iH) (Q : Option iV → iH → Prop), G sp sc [28] d mX12_bestWho (n + 1) 17 L (.inl b :: .inl a :: r) h Q = G sp sc [28] d mX12_bestWho n 18 L (.inl (a + b) :: r) h Q) ∧
  (∀ (n d : Nat) (L : List (Option iV)) (r : List iV) (j : Int) (m : Nat) (h : iH) (Q : Option iV → iH → Prop), G sp sc [28] d mX12_bestWho (n + 1) 18 L (.inl j :: .inr (.inr (m + 2)) :: r) h Q = (match h.1[m]? with | some (.inr (.inl (0, xs))) => inA j xs.length = true ∧ G sp sc [28] d mX12_bestWho n 19 L (.inl (xs.getD j.toNat 0) :: r) h Q | _ => False)) ∧
  (∀ (n d : Nat) (L : List (Option iV)) (r : List iV) (x : Int) (h : iH) (Q : Option iV → iH → Prop), G sp sc [28] d mX12_bestWho (n + 1) 19 L (.inl x :: r) h Q = (match st1 L 2 (.inl x) with | some L' => G sp sc [28] d mX12_bestWho n 20 L' r h Q | none => False)) ∧
  (∀ (n d : Nat) (L : List (Option iV)) (st : List iV) (h : iH) (Q : Option iV → iH → Prop), G sp sc [28] d mX12_bestWho (n + 1) 20 L st h Q = G sp sc [28] d mX12_bestWho n 21 L (.inl 0 :: st) h Q) ∧
  (∀ (n d : Nat) (L : List (Option iV)) (r : List iV) (x : Int) (h : iH) (Q : Option iV → iH → Prop), G sp sc [28] d mX12_bestWho (n + 1) 21 L (.inl x :: r) h Q = (match st1 L 3 (.inl x) with | some L' => G sp sc [28] d mX12_bestWho n 22 L' r h Q | none => False)) ∧
  (∀ (n d : Nat) (L : List (Option iV)) (st : List iV) (h : iH) (Q : Option iV → iH → Prop), G sp sc [28] d mX12_bestWho (n + 1) 22 L st h Q = G sp sc [28] d mX12_bestWho n 23 L (.inl (-1) :: st) h Q) ∧
  (∀ (n d : Nat) (L : List (Option iV)) (r : List iV) (x : Int) (h : iH) (Q : Option iV → iH → Prop), G sp sc [28] d mX12_bestWho (n + 1) 23 L (.inl x :: r) h Q = (match st1 L 4 (.inl x) with | some L' => G sp sc [28] d mX12_bestWho n 25 L' r h Q | none => False)) ∧
  (∀ (n d : Nat) (L : List (Option iV)) (st : List iV) (h : iH) (Q : Option iV → iH → Prop), G sp sc [28] d mX12_bestWho (n + 1) 25 L st h Q = G sp sc [28] d mX12_bestWho n 26 L (.inl 0 :: st) h Q) ∧
  (∀ (n d : Nat) (L : List (Option iV)) (r : List iV) (x : Int) (h : iH) (Q : Option iV → iH → Prop), G sp sc [28] d mX12_bestWho (n + 1) 26 L (.inl x :: r) h Q = (match st1 L 5 (.inl x) with | some L' => Run sp sc d mX12_bestWho 28 L' r h Q | none => False)) ∧
  (∀ (n d : Nat) (L : List (Option iV)) (st : List iV) (h : iH) (Q : Option iV → iH → Prop), G sp sc [28] d mX12_bestWho (n + 1) 28 L st h Q = (match ld L 5 with | some (.inl x) => G sp sc [28] d mX12_bestWho n 30 L (.inl x :: st) h Q | _ => False)) ∧
  (∀ (n d : Nat) (L : List (Option iV)) (st : List iV) (h : iH) (Q : Option iV → iH → Prop), G sp sc [28] d mX12_bestWho (n + 1) 30 L st h Q = G sp sc [28] d mX12_bestWho n 31 L (.inl 3 :: st) h Q) ∧
  (∀ (n d : Nat) (L : List (Option iV)) (a : Int) (b : Int) (r : List iV) (h : iH) (Q : Option iV → iH → Prop), G sp sc [28] d mX12_bestWho (n + 1) 31 L (.inl b :: .inl a :: r) h Q = ((inI a = true ∧ inI b = true) ∧ (b ≤ a → G sp sc [28] d mX12_bestWho n 85 L r h Q) ∧ (¬ (b ≤ a) → G sp sc [28] d mX12_bestWho n 34 L r h Q))) ∧
  (∀ (n d : Nat) (L : List (Option iV)) (st : List iV) (h : iH) (Q : Option iV → iH → Prop), G sp sc [28] d mX12_bestWho (n + 1) 34 L st h Q = (match ld L 0 with | some (.inr (.inr (r + 1))) => G sp sc [28] d mX12_bestWho n 35 L (.inr (.inr (r + 1)) :: st) h Q | _ => False)) ∧
  (∀ (n d : Nat) (L : List (Option iV)) (r : List iV) (m : Nat) (h : iH) (Q : Option iV → iH → Prop), G sp sc [28] d mX12_bestWho (n + 1) 35 L (.inr (.inr (m + 2)) :: r) h Q = (match h.1[m]? with | some (.inl (ci, fs)) => (match lkF 12 9 ci with | some k => (match fs[k]? with | some v => G sp sc [28] d mX12_bestWho n 38 L (v :: r) h Q | none => False) | none => False) | _ => False)) ∧
  (∀ (n d : Nat) (L : List (Option iV)) (st : List iV) (h : iH) (Q : Option iV → iH → Prop), G sp sc [28] d mX12_bestWho (n + 1) 38 L st h Q = G sp sc [28] d mX12_bestWho n 39 L (.inl 5 :: st) h Q) ∧
  (∀ (n d : Nat) (L : List (Option iV)) (st : List iV) (h : iH) (Q : Option iV → iH → Prop), G sp sc [28] d mX12_bestWho (n + 1) 39 L st h Q = (match ld L 1 with | some (.inl x) => G sp sc [28] d mX12_bestWho n 40 L (.inl x :: st) h Q | _ => False)) ∧
  (∀ (n d : Nat) (L : List (Option iV)) (a : Int) (b : Int) (r : List iV) (h : iH) (Q : Option iV → iH → Prop), G sp sc [28] d mX12_bestWho (n + 1) 40 L (.inl b :: .inl a :: r) h Q = G sp sc [28] d mX12_bestWho n 41 L (.inl (a + b) :: r) h Q) ∧
  (∀ (n d : Nat) (L : List (Option iV)) (st : List iV) (h : iH) (Q : Option iV → iH → Prop), G sp sc [28] d mX12_bestWho (n + 1) 41 L st h Q = (match ld L 5 with | some (.inl x) => G sp sc [28] d mX12_bestWho n 43 L (.inl x :: st) h Q | _ => False)) ∧
  (∀ (n d : Nat) (L : List (Option iV)) (r : List iV) (v : Int) (j : Int) (m : Nat) (h : iH) (Q : Option iV → iH → Prop), G sp sc [28] d mX12_bestWho (n + 1) 43 L (.inl v :: .inl j :: .inr (.inr (m + 2)) :: r) h Q = (match h.1[m]? with | some (.inr (.inl (0, xs))) => inA j xs.length = true ∧ G sp sc [28] d mX12_bestWho n 44 L r (h.1.set m (.inr (.inl (0, xs.set j.toNat v))), h.2) Q | _ => False)) ∧
  (∀ (n d : Nat) (L : List (Option iV)) (st : List iV) (h : iH) (Q : Option iV → iH → Prop), G sp sc [28] d mX12_bestWho (n + 1) 44 L st h Q = (match ld L 0 with | some (.inr (.inr (r + 1))) => G sp sc [28] d mX12_bestWho n 45 L (.inr (.inr (r + 1)) :: st) h Q | _ => False)) ∧
  (∀ (n d : Nat) (L : List (Option iV)) (st : List iV) (h : iH) (Q : Option iV → iH → Prop), G sp sc [28] d mX12_bestWho (n + 1) 45 L st h Q = ((-128 ≤ (60 : Int) ∧ (60 : Int) < 128) ∧ G sp sc [28] d mX12_bestWho n 47 L (.inl 60 :: st) h Q)) ∧
  (∀ (n d : Nat) (L : List (Option iV)) (r : List iV) (m : Nat) (z0 : iV) (h : iH) (Q : Option iV → iH → Prop), G sp sc [28] (d + 1) mX12_bestWho (n + 1) 47 L (z0 :: .inr (.inr (m + 2)) :: r) h Q = (match h.1[m]? with | some (.inl (ci, _)) => (match lkC 12 211 ci with | some (y1, n1, kd) => (n1 = 1 ∧ (kd = 2 ∨ kd = 3 ∨ kd = 8) ∧ cs r ≤ 8) ∧ Call sp sc d y1 [.inr (.inr (m + 2)), z0] h (fun q h1 => GC sp sc [28] (d + 1) mX12_bestWho n 50 L q r h h1 Q) | none => False) | _ => False)) ∧
  (∀ (n d : Nat) (L : List (Option iV)) (st : List iV) (h : iH) (Q : Option iV → iH → Prop), G sp sc [28] d mX12_bestWho (n + 1) 50 L st h Q = (match ld L 0 with | some (.inr (.inr (r + 1))) => G sp sc [28] d mX12_bestWho n 51 L (.inr (.inr (r + 1)) :: st) h Q | _ => False)) ∧
  (∀ (n d : Nat) (L : List (Option iV)) (r : List iV) (m : Nat) (h : iH) (Q : Option iV → iH → Prop), G sp sc [28] d mX12_bestWho (n + 1) 51 L (.inr (.inr (m + 2)) :: r) h Q = (match h.1[m]? with | some (.inl (ci, fs)) => (match lkF 12 13 ci with | some k => (match fs[k]? with | some v => G sp sc [28] d mX12_bestWho n 54 L (v :: r) h Q | none => False) | none => False) | _ => False)) ∧
  (∀ (n d : Nat) (L : List (Option iV)) (st : List iV) (h : iH) (Q : Option iV → iH → Prop), G sp sc [28] d mX12_bestWho (n + 1) 54 L st h Q = G sp sc [28] d mX12_bestWho n 55 L (.inl 1 :: st) h Q) ∧
  (∀ (n d : Nat) (L : List (Option iV)) (r : List iV) (z0 : iV) (z1 : iV) (h : iH) (Q : Option iV → iH → Prop), G sp sc [28] (d + 1) mX12_bestWho (n + 1) 55 L (z1 :: z0 :: r) h Q = (cs r ≤ 8 ∧ Call sp sc d mX12_manySuch [z0, z1] h (fun q h1 => GC sp sc [28] (d + 1) mX12_bestWho n 58 L q r h h1 Q))) ∧
  (∀ (n d : Nat) (L : List (Option iV)) (st : List iV) (h : iH) (Q : Option iV → iH → Prop), G sp sc [28] d mX12_bestWho (n + 1) 58 L st h Q = (match ld L 4 with | some (.inl x) => G sp sc [28] d mX12_bestWho n 60 L (.inl x :: st) h Q | _ => False)) ∧
  (∀ (n d : Nat) (L : List (Option iV)) (a : Int) (b : Int) (r : List iV) (h : iH) (Q : Option iV → iH → Prop), G sp sc [28] d mX12_bestWho (n + 1) 60 L (.inl b :: .inl a :: r) h Q = ((inI a = true ∧ inI b = true) ∧ (b < a → G sp sc [28] d mX12_bestWho n 66 L r h Q) ∧ (¬ (b < a) → G sp sc [28] d mX12_bestWho n 63 L r h Q))) ∧
  (∀ (n d : Nat) (L : List (Option iV)) (st : List iV) (h : iH) (Q : Option iV → iH → Prop), G sp sc [28] d mX12_bestWho (n + 1) 63 L st h Q = G sp sc [28] d mX12_bestWho n 79 L st h Q) ∧
  (∀ (n d : Nat) (L : List (Option iV)) (st : List iV) (h : iH) (Q : Option iV → iH → Prop), G sp sc [28] d mX12_bestWho (n + 1) 66 L st h Q = (match ld L 0 with | some (.inr (.inr (r + 1))) => G sp sc [28] d mX12_bestWho n 67 L (.inr (.inr (r + 1)) :: st) h Q | _ => False)) ∧
  (∀ (n d : Nat) (L : List (Option iV)) (r : List iV) (m : Nat) (h : iH) (Q : Option iV → iH → Prop), G sp sc [28] d mX12_bestWho (n + 1) 67 L (.inr (.inr (m + 2)) :: r) h Q = (match h.1[m]? with | some (.inl (ci, fs)) => (match lkF 12 13 ci with | some k => (match fs[k]? with | some v => G sp sc [28] d mX12_bestWho n 70 L (v :: r) h Q | none => False) | none => False) | _ => False)) ∧
  (∀ (n d : Nat) (L : List (Option iV)) (st : List iV) (h : iH) (Q : Option iV → iH → Prop), G sp sc [28] d mX12_bestWho (n + 1) 70 L st h Q = G sp sc [28] d mX12_bestWho n 71 L (.inl 1 :: st) h Q) ∧
  (∀ (n d : Nat) (L : List (Option iV)) (r : List iV) (z0 : iV) (z1 : iV) (h : iH) (Q : Option iV → iH → Prop), G sp sc [28] (d + 1) mX12_bestWho (n + 1) 71 L (z1 :: z0 :: r) h Q = (cs r ≤ 8 ∧ Call sp sc d mX12_manySuch [z0, z1] h (fun q h1 => GC sp sc [28] (d + 1) mX12_bestWho n 74 L q r h h1 Q))) ∧
  (∀ (n d : Nat) (L : List (Option iV)) (r : List iV) (x : Int) (h : iH) (Q : Option iV → iH → Prop), G sp sc [28] d mX12_bestWho (n + 1) 74 L (.inl x :: r) h Q = (match st1 L 4 (.inl x) with | some L' => G sp sc [28] d mX12_bestWho n 76 L' r h Q | none => False)) ∧
  (∀ (n d : Nat) (L : List (Option iV)) (st : List iV) (h : iH) (Q : Option iV → iH → Prop), G sp sc [28] d mX12_bestWho (n + 1) 76 L st h Q = (match ld L 5 with | some (.inl x) => G sp sc [28] d mX12_bestWho n 78 L (.inl x :: st) h Q | _ => False)) ∧
  (∀ (n d : Nat) (L : List (Option iV)) (r : List iV) (x : Int) (h : iH) (Q : Option iV → iH → Prop), G sp sc [28] d mX12_bestWho (n + 1) 78 L (.inl x :: r) h Q = (match st1 L 3 (.inl x) with | some L' => G sp sc [28] d mX12_bestWho n 79 L' r h Q | none => False)) ∧
  (∀ (n d : Nat) (L : List (Option iV)) (st : List iV) (h : iH) (Q : Option iV → iH → Prop), G sp sc [28] d mX12_bestWho (n + 1) 79 L st h Q = (match ld L 5 with | some (.inl x) => (match st1 L 5 (.inl (x + 1)) with | some L' => G sp sc [28] d mX12_bestWho n 82 L' st h Q | none => False) | _ => False)) ∧
  (∀ (n d : Nat) (L : List (Option iV)) (st : List iV) (h : iH) (Q : Option iV → iH → Prop), G sp sc [28] d mX12_bestWho (n + 1) 82 L st h Q = Run sp sc d mX12_bestWho 28 L st h Q) ∧
  (∀ (n d : Nat) (L : List (Option iV)) (st : List iV) (h : iH) (Q : Option iV → iH → Prop), G sp sc [28] d mX12_bestWho (n + 1) 85 L st h Q = (match ld L 0 with | some (.inr (.inr (r + 1))) => G sp sc [28] d mX12_bestWho n 86 L (.inr (.inr (r + 1)) :: st) h Q | _ => False)) ∧
  (∀ (n d : Nat) (L : List (Option iV)) (r : List iV) (m : Nat) (h : iH) (Q : Option iV → iH → Prop), G sp sc [28] d mX12_bestWho (n + 1) 86 L (.inr (.inr (m + 2)) :: r) h Q = (match h.1[m]? with | some (.inl (ci, fs)) => (match lkF 12 9 ci with | some k => (match fs[k]? with | some v => G sp sc [28] d mX12_bestWho n 89 L (v :: r) h Q | none => False) | none => False) | _ => False)) ∧
  (∀ (n d : Nat) (L : List (Option iV)) (st : List iV) (h : iH) (Q : Option iV → iH → Prop), G sp sc [28] d mX12_bestWho (n + 1) 89 L st h Q = G sp sc [28] d mX12_bestWho n 90 L (.inl 5 :: st) h Q) ∧
  (∀ (n d : Nat) (L : List (Option iV)) (st : List iV) (h : iH) (Q : Option iV → iH → Prop), G sp sc [28] d mX12_bestWho (n + 1) 90 L st h Q = (match ld L 1 with | some (.inl x) => G sp sc [28] d mX12_bestWho n 91 L (.inl x :: st) h Q | _ => False)) ∧
  (∀ (n d : Nat) (L : List (Option iV)) (a : Int) (b : Int) (r : List iV) (h : iH) (Q : Option iV → iH → Prop), G sp sc [28] d mX12_bestWho (n + 1) 91 L (.inl b :: .inl a :: r) h Q = G sp sc [28] d mX12_bestWho n 92 L (.inl (a + b) :: r) h Q) ∧
  (∀ (n d : Nat) (L : List (Option iV)) (st : List iV) (h : iH) (Q : Option iV → iH → Prop), G sp sc [28] d mX12_bestWho (n + 1) 92 L st h Q = (match ld L 2 with | some (.inl x) => G sp sc [28] d mX12_bestWho n 93 L (.inl x :: st) h Q | _ => False)) ∧
  (∀ (n d : Nat) (L : List (Option iV)) (r : List iV) (v : Int) (j : Int) (m : Nat) (h : iH) (Q : Option iV → iH → Prop), G sp sc [28] d mX12_bestWho (n + 1) 93 L (.inl v :: .inl j :: .inr (.inr (m + 2)) :: r) h Q = (match h.1[m]? with | some (.inr (.inl (0, xs))) => inA j xs.length = true ∧ G sp sc [28] d mX12_bestWho n 94 L r (h.1.set m (.inr (.inl (0, xs.set j.toNat v))), h.2) Q | _ => False)) ∧
  (∀ (n d : Nat) (L : List (Option iV)) (st : List iV) (h : iH) (Q : Option iV → iH → Prop), G sp sc [28] d mX12_bestWho (n + 1) 94 L st h Q = (match ld L 3 with | some (.inl x) => G sp sc [28] d mX12_bestWho n 95 L (.inl x :: st) h Q | _ => False)) ∧
  (∀ (n d : Nat) (L : List (Option iV)) (a : Int) (h : iH) (Q : Option iV → iH → Prop), G sp sc [28] d mX12_bestWho (n + 1) 95 L [.inl a] h Q = Q (some (.inl a)) h) ∧
  lkC 12 211 12 = some (mX12_inMind, 1, 2) ∧
  lkF 12 13 12 = some 1 ∧
  lkF 12 9 12 = some 0 := ⟨by intros; exact G_at (by decide +kernel : fetch mX12_bestWho 0 = some (.iload_n 1)),
  by intros; exact G_at (by decide +kernel : fetch mX12_bestWho 1 = some (.iconst 0)),
  by intros; exact G_at (by decide +kernel : fetch mX12_bestWho 2 = some (.iconst 5)),
  by intros; exact G_callS (k := 3) (kd := 0) (by decide +kernel : fetch mX12_bestWho 3 = some (.invokestatic 67)) (by decide +kernel) (by decide +kernel) (by decide +kernel) rfl (by decide),
  by intros; exact G_at (by decide +kernel : fetch mX12_bestWho 6 = some (.ifCond .ne 5)),
  by intros; exact G_at (by decide +kernel : fetch mX12_bestWho 9 = some (.iconst (-1))),
  by intros; exact G_reti (by decide +kernel : fetch mX12_bestWho 10 = some (.ireturn)) (by decide +kernel),
  by intros; exact G_at (by decide +kernel : fetch mX12_bestWho 11 = some (.aload_n 0)),
  by intros; exact G_own (by decide +kernel : fetch mX12_bestWho 12 = some (.getfield 9)) (by decide +kernel),
  by intros; exact G_at (by decide +kernel : fetch mX12_bestWho 15 = some (.iconst 5)),
  by intros; exact G_at (by decide +kernel : fetch mX12_bestWho 16 = some (.iload_n 1)),
  by intros; exact G_at (by decide +kernel : fetch mX12_bestWho 17 = some (.iadd)),
  by intros; exact G_at (by decide +kernel : fetch mX12_bestWho 18 = some (.iaload)),
  by intros; exact G_at (by decide +kernel : fetch mX12_bestWho 19 = some (.istore_n 2)),
  by intros; exact G_at (by decide +kernel : fetch mX12_bestWho 20 = some (.iconst 0)),
  by intros; exact G_at (by decide +kernel : fetch mX12_bestWho 21 = some (.istore_n 3)),
  by intros; exact G_at (by decide +kernel : fetch mX12_bestWho 22 = some (.iconst (-1))),
  by intros; exact G_at (by decide +kernel : fetch mX12_bestWho 23 = some (.istore 4)),
  by intros; exact G_at (by decide +kernel : fetch mX12_bestWho 25 = some (.iconst 0)),
  by intros; exact G_at (by decide +kernel : fetch mX12_bestWho 26 = some (.istore 5)),
  by intros; exact G_at (by decide +kernel : fetch mX12_bestWho 28 = some (.iload 5)),
  by intros; exact G_at (by decide +kernel : fetch mX12_bestWho 30 = some (.iconst 3)),
  by intros; exact G_at (by decide +kernel : fetch mX12_bestWho 31 = some (.if_icmp .ge 54)),
  by intros; exact G_at (by decide +kernel : fetch mX12_bestWho 34 = some (.aload_n 0)),
  by intros; exact G_own (by decide +kernel : fetch mX12_bestWho 35 = some (.getfield 9)) (by decide +kernel),
  by intros; exact G_at (by decide +kernel : fetch mX12_bestWho 38 = some (.iconst 5)),
  by intros; exact G_at (by decide +kernel : fetch mX12_bestWho 39 = some (.iload_n 1)),
  by intros; exact G_at (by decide +kernel : fetch mX12_bestWho 40 = some (.iadd)),
  by intros; exact G_at (by decide +kernel : fetch mX12_bestWho 41 = some (.iload 5)),
  by intros; exact G_at (by decide +kernel : fetch mX12_bestWho 43 = some (.iastore)),
  by intros; exact G_at (by decide +kernel : fetch mX12_bestWho 44 = some (.aload_n 0)),
  by intros; exact G_at (by decide +kernel : fetch mX12_bestWho 45 = some (.bipush 60)),
  by intros; exact G_callV (by decide +kernel : fetch mX12_bestWho 47 = some (.invokevirtual 211)) (by decide +kernel) (by decide +kernel) rfl,
  by intros; exact G_at (by decide +kernel : fetch mX12_bestWho 50 = some (.aload_n 0)),
  by intros; exact G_own (by decide +kernel : fetch mX12_bestWho 51 = some (.getfield 13)) (by decide +kernel),
  by intros; exact G_at (by decide +kernel : fetch mX12_bestWho 54 = some (.iconst 1)),
  by intros; exact G_callS (k := 2) (kd := 0) (by decide +kernel : fetch mX12_bestWho 55 = some (.invokestatic 215)) (by decide +kernel) (by decide +kernel) (by decide +kernel) rfl (by decide),
  by intros; exact G_at (by decide +kernel : fetch mX12_bestWho 58 = some (.iload 4)),
  by intros; exact G_at (by decide +kernel : fetch mX12_bestWho 60 = some (.if_icmp .gt 6)),
  by intros; exact G_at (by decide +kernel : fetch mX12_bestWho 63 = some (.goto 16)),
  by intros; exact G_at (by decide +kernel : fetch mX12_bestWho 66 = some (.aload_n 0)),
  by intros; exact G_own (by decide +kernel : fetch mX12_bestWho 67 = some (.getfield 13)) (by decide +kernel),
  by intros; exact G_at (by decide +kernel : fetch mX12_bestWho 70 = some (.iconst 1)),
  by intros; exact G_callS (k := 2) (kd := 0) (by decide +kernel : fetch mX12_bestWho 71 = some (.invokestatic 215)) (by decide +kernel) (by decide +kernel) (by decide +kernel) rfl (by decide),
  by intros; exact G_at (by decide +kernel : fetch mX12_bestWho 74 = some (.istore 4)),
  by intros; exact G_at (by decide +kernel : fetch mX12_bestWho 76 = some (.iload 5)),
  by intros; exact G_at (by decide +kernel : fetch mX12_bestWho 78 = some (.istore_n 3)),
  by intros; exact G_at (by decide +kernel : fetch mX12_bestWho 79 = some (.iinc 5 1)),
  by intros; exact G_at (by decide +kernel : fetch mX12_bestWho 82 = some (.goto (-54))),
  by intros; exact G_at (by decide +kernel : fetch mX12_bestWho 85 = some (.aload_n 0)),
  by intros; exact G_own (by decide +kernel : fetch mX12_bestWho 86 = some (.getfield 9)) (by decide +kernel),
  by intros; exact G_at (by decide +kernel : fetch mX12_bestWho 89 = some (.iconst 5)),
  by intros; exact G_at (by decide +kernel : fetch mX12_bestWho 90 = some (.iload_n 1)),
  by intros; exact G_at (by decide +kernel : fetch mX12_bestWho 91 = some (.iadd)),
  by intros; exact G_at (by decide +kernel : fetch mX12_bestWho 92 = some (.iload_n 2)),
  by intros; exact G_at (by decide +kernel : fetch mX12_bestWho 93 = some (.iastore)),
  by intros; exact G_at (by decide +kernel : fetch mX12_bestWho 94 = some (.iload_n 3)),
  by intros; exact G_reti (by decide +kernel : fetch mX12_bestWho 95 = some (.ireturn)) (by decide +kernel),
  by decide +kernel,
  by decide +kernel,
  by decide +kernel⟩
theorem gX12_manOf : (∀ (n d : Nat) (L : List (Option iV)) (st : List iV) (h : iH) (Q : Option iV → iH → Prop), G sp sc [2] d mX12_manOf (n + 1) 0 L st h Q = G sp sc [2] d mX12_manOf n 1 L (.inl 0 :: st) h Q) ∧
  (∀ (n d : Nat) (L : List (Option iV)) (r : List iV) (x : Int) (h : iH) (Q : Option iV → iH → Prop), G sp sc [2] d mX12_manOf (n + 1) 1 L (.inl x :: r) h Q = (match st1 L 2 (.inl x) with | some L' => Run sp sc d mX12_manOf 2 L' r h Q | none => False)) ∧
  (∀ (n d : Nat) (L : List (Option iV)) (st : List iV) (h : iH) (Q : Option iV → iH → Prop), G sp sc [2] d mX12_manOf (n + 1) 2 L st h Q = (match ld L 2 with | some (.inl x) => G sp sc [2] d mX12_manOf n 3 L (.inl x :: st) h Q | _ => False)) ∧
  (∀ (n d : Nat) (L : List (Option iV)) (st : List iV) (h : iH) (Q : Option iV → iH → Prop), G sp sc [2] d mX12_manOf (n + 1) 3 L st h Q = (match ld L 0 with | some (.inr (.inr (r + 1))) => G sp sc [2] d mX12_manOf n 4 L (.inr (.inr (r + 1)) :: st) h Q | _ => False)) ∧
  (∀ (n d : Nat) (L : List (Option iV)) (r : List iV) (m : Nat) (h : iH) (Q : Option iV → iH → Prop), G sp sc [2] d mX12_manOf (n + 1) 4 L (.inr (.inr (m + 2)) :: r) h Q = (match h.1[m]? with | some (.inl (ci, fs)) => (match lkF 12 9 ci with | some k => (match fs[k]? with | some v => G sp sc [2] d mX12_manOf n 7 L (v :: r) h Q | none => False) | none => False) | _ => False)) ∧
  (∀ (n d : Nat) (L : List (Option iV)) (st : List iV) (h : iH) (Q : Option iV → iH → Prop), G sp sc [2] d mX12_manOf (n + 1) 7 L st h Q = G sp sc [2] d mX12_manOf n 8 L (.inl 0 :: st) h Q) ∧
  (∀ (n d : Nat) (L : List (Option iV)) (r : List iV) (j : Int) (m : Nat) (h : iH) (Q : Option iV → iH → Prop), G sp sc [2] d mX12_manOf (n + 1) 8 L (.inl j :: .inr (.inr (m + 2)) :: r) h Q = (match h.1[m]? with | some (.inr (.inl (0, xs))) => inA j xs.length = true ∧ G sp sc [2] d mX12_manOf n 9 L (.inl (xs.getD j.toNat 0) :: r) h Q | _ => False)) ∧
  (∀ (n d : Nat) (L : List (Option iV)) (a : Int) (b : Int) (r : List iV) (h : iH) (Q : Option iV → iH → Prop), G sp sc [2] d mX12_manOf (n + 1) 9 L (.inl b :: .inl a :: r) h Q = ((inI a = true ∧ inI b = true) ∧ (b ≤ a → G sp sc [2] d mX12_manOf n 30 L r h Q) ∧ (¬ (b ≤ a) → G sp sc [2] d mX12_manOf n 12 L r h Q))) ∧
  (∀ (n d : Nat) (L : List (Option iV)) (st : List iV) (h : iH) (Q : Option iV → iH → Prop), G sp sc [2] d mX12_manOf (n + 1) 12 L st h Q = (match ld L 0 with | some (.inr (.inr (r + 1))) => G sp sc [2] d mX12_manOf n 13 L (.inr (.inr (r + 1)) :: st) h Q | _ => False)) ∧
  (∀ (n d : Nat) (L : List (Option iV)) (r : List iV) (m : Nat) (h : iH) (Q : Option iV → iH → Prop), G sp sc [2] d mX12_manOf (n + 1) 13 L (.inr (.inr (m + 2)) :: r) h Q = (match h.1[m]? with | some (.inl (ci, fs)) => (match lkF 12 34 ci with | some k => (match fs[k]? with | some v => G sp sc [2] d mX12_manOf n 16 L (v :: r) h Q | none => False) | none => False) | _ => False)) ∧
  (∀ (n d : Nat) (L : List (Option iV)) (st : List iV) (h : iH) (Q : Option iV → iH → Prop), G sp sc [2] d mX12_manOf (n + 1) 16 L st h Q = (match ld L 2 with | some (.inl x) => G sp sc [2] d mX12_manOf n 17 L (.inl x :: st) h Q | _ => False)) ∧
  (∀ (n d : Nat) (L : List (Option iV)) (r : List iV) (j : Int) (m : Nat) (h : iH) (Q : Option iV → iH → Prop), G sp sc [2] d mX12_manOf (n + 1) 17 L (.inl j :: .inr (.inr (m + 2)) :: r) h Q = (match h.1[m]? with | some (.inr (.inl (0, xs))) => inA j xs.length = true ∧ G sp sc [2] d mX12_manOf n 18 L (.inl (xs.getD j.toNat 0) :: r) h Q | _ => False)) ∧
  (∀ (n d : Nat) (L : List (Option iV)) (st : List iV) (h : iH) (Q : Option iV → iH → Prop), G sp sc [2] d mX12_manOf (n + 1) 18 L st h Q = (match ld L 1 with | some (.inl x) => G sp sc [2] d mX12_manOf n 19 L (.inl x :: st) h Q | _ => False)) ∧
  (∀ (n d : Nat) (L : List (Option iV)) (a : Int) (b : Int) (r : List iV) (h : iH) (Q : Option iV → iH → Prop), G sp sc [2] d mX12_manOf (n + 1) 19 L (.inl b :: .inl a :: r) h Q = ((inI a = true ∧ inI b = true) ∧ (¬ a = b → G sp sc [2] d mX12_manOf n 24 L r h Q) ∧ (¬ (¬ a = b) → G sp sc [2] d mX12_manOf n 22 L r h Q))) ∧
  (∀ (n d : Nat) (L : List (Option iV)) (st : List iV) (h : iH) (Q : Option iV → iH → Prop), G sp sc [2] d mX12_manOf (n + 1) 22 L st h Q = (match ld L 2 with | some (.inl x) => G sp sc [2] d mX12_manOf n 23 L (.inl x :: st) h Q | _ => False)) ∧
  (∀ (n d : Nat) (L : List (Option iV)) (a : Int) (h : iH) (Q : Option iV → iH → Prop), G sp sc [2] d mX12_manOf (n + 1) 23 L [.inl a] h Q = Q (some (.inl a)) h) ∧
  (∀ (n d : Nat) (L : List (Option iV)) (st : List iV) (h : iH) (Q : Option iV → iH → Prop), G sp sc [2] d mX12_manOf (n + 1) 24 L st h Q = (match ld L 2 with | some (.inl x) => (match st1 L 2 (.inl (x + 1)) with | some L' => G sp sc [2] d mX12_manOf n 27 L' st h Q | none => False) | _ => False)) ∧
  (∀ (n d : Nat) (L : List (Option iV)) (st : List iV) (h : iH) (Q : Option iV → iH → Prop), G sp sc [2] d mX12_manOf (n + 1) 27 L st h Q = Run sp sc d mX12_manOf 2 L st h Q) ∧
  (∀ (n d : Nat) (L : List (Option iV)) (st : List iV) (h : iH) (Q : Option iV → iH → Prop), G sp sc [2] d mX12_manOf (n + 1) 30 L st h Q = ((-128 ≤ ((-4) : Int) ∧ ((-4) : Int) < 128) ∧ G sp sc [2] d mX12_manOf n 32 L (.inl (-4) :: st) h Q)) ∧
  (∀ (n d : Nat) (L : List (Option iV)) (a : Int) (h : iH) (Q : Option iV → iH → Prop), G sp sc [2] d mX12_manOf (n + 1) 32 L [.inl a] h Q = Q (some (.inl a)) h) ∧
  lkF 12 34 12 = some 18 ∧
  lkF 12 9 12 = some 0 := ⟨by intros; exact G_at (by decide +kernel : fetch mX12_manOf 0 = some (.iconst 0)),
  by intros; exact G_at (by decide +kernel : fetch mX12_manOf 1 = some (.istore_n 2)),
  by intros; exact G_at (by decide +kernel : fetch mX12_manOf 2 = some (.iload_n 2)),
  by intros; exact G_at (by decide +kernel : fetch mX12_manOf 3 = some (.aload_n 0)),
  by intros; exact G_own (by decide +kernel : fetch mX12_manOf 4 = some (.getfield 9)) (by decide +kernel),
  by intros; exact G_at (by decide +kernel : fetch mX12_manOf 7 = some (.iconst 0)),
  by intros; exact G_at (by decide +kernel : fetch mX12_manOf 8 = some (.iaload)),
  by intros; exact G_at (by decide +kernel : fetch mX12_manOf 9 = some (.if_icmp .ge 21)),
  by intros; exact G_at (by decide +kernel : fetch mX12_manOf 12 = some (.aload_n 0)),
  by intros; exact G_own (by decide +kernel : fetch mX12_manOf 13 = some (.getfield 34)) (by decide +kernel),
  by intros; exact G_at (by decide +kernel : fetch mX12_manOf 16 = some (.iload_n 2)),
  by intros; exact G_at (by decide +kernel : fetch mX12_manOf 17 = some (.iaload)),
  by intros; exact G_at (by decide +kernel : fetch mX12_manOf 18 = some (.iload_n 1)),
  by intros; exact G_at (by decide +kernel : fetch mX12_manOf 19 = some (.if_icmp .ne 5)),
  by intros; exact G_at (by decide +kernel : fetch mX12_manOf 22 = some (.iload_n 2)),
  by intros; exact G_reti (by decide +kernel : fetch mX12_manOf 23 = some (.ireturn)) (by decide +kernel),
  by intros; exact G_at (by decide +kernel : fetch mX12_manOf 24 = some (.iinc 2 1)),
  by intros; exact G_at (by decide +kernel : fetch mX12_manOf 27 = some (.goto (-25))),
  by intros; exact G_at (by decide +kernel : fetch mX12_manOf 30 = some (.bipush (-4))),
  by intros; exact G_reti (by decide +kernel : fetch mX12_manOf 32 = some (.ireturn)) (by decide +kernel),
  by decide +kernel,
  by decide +kernel⟩
theorem gX12_leaving : (∀ (n d : Nat) (L : List (Option iV)) (st : List iV) (h : iH) (Q : Option iV → iH → Prop), G sp sc [2, 14] d mX12_leaving (n + 1) 0 L st h Q = G sp sc [2, 14] d mX12_leaving n 1 L (.inl 0 :: st) h Q) ∧
  (∀ (n d : Nat) (L : List (Option iV)) (r : List iV) (x : Int) (h : iH) (Q : Option iV → iH → Prop), G sp sc [2, 14] d mX12_leaving (n + 1) 1 L (.inl x :: r) h Q = (match st1 L 1 (.inl x) with | some L' => Run sp sc d mX12_leaving 2 L' r h Q | none => False)) ∧
  (∀ (n d : Nat) (L : List (Option iV)) (st : List iV) (h : iH) (Q : Option iV → iH → Prop), G sp sc [2, 14] d mX12_leaving (n + 1) 2 L st h Q = (match ld L 1 with | some (.inl x) => G sp sc [2, 14] d mX12_leaving n 3 L (.inl x :: st) h Q | _ => False)) ∧
  (∀ (n d : Nat) (L : List (Option iV)) (st : List iV) (h : iH) (Q : Option iV → iH → Prop), G sp sc [2, 14] d mX12_leaving (n + 1) 3 L st h Q = (match ld L 0 with | some (.inr (.inr (r + 1))) => G sp sc [2, 14] d mX12_leaving n 4 L (.inr (.inr (r + 1)) :: st) h Q | _ => False)) ∧
  (∀ (n d : Nat) (L : List (Option iV)) (r : List iV) (m : Nat) (h : iH) (Q : Option iV → iH → Prop), G sp sc [2, 14] d mX12_leaving (n + 1) 4 L (.inr (.inr (m + 2)) :: r) h Q = (match h.1[m]? with | some (.inl (ci, fs)) => (match lkF 12 9 ci with | some k => (match fs[k]? with | some v => G sp sc [2, 14] d mX12_leaving n 7 L (v :: r) h Q | none => False) | none => False) | _ => False)) ∧
  (∀ (n d : Nat) (L : List (Option iV)) (st : List iV) (h : iH) (Q : Option iV → iH → Prop), G sp sc [2, 14] d mX12_leaving (n + 1) 7 L st h Q = G sp sc [2, 14] d mX12_leaving n 8 L (.inl 0 :: st) h Q) ∧
  (∀ (n d : Nat) (L : List (Option iV)) (r : List iV) (j : Int) (m : Nat) (h : iH) (Q : Option iV → iH → Prop), G sp sc [2, 14] d mX12_leaving (n + 1) 8 L (.inl j :: .inr (.inr (m + 2)) :: r) h Q = (match h.1[m]? with | some (.inr (.inl (0, xs))) => inA j xs.length = true ∧ G sp sc [2, 14] d mX12_leaving n 9 L (.inl (xs.getD j.toNat 0) :: r) h Q | _ => False)) ∧
  (∀ (n d : Nat) (L : List (Option iV)) (a : Int) (b : Int) (r : List iV) (h : iH) (Q : Option iV → iH → Prop), G sp sc [2, 14] d mX12_leaving (n + 1) 9 L (.inl b :: .inl a :: r) h Q = ((inI a = true ∧ inI b = true) ∧ (b ≤ a → G sp sc [2, 14] d mX12_leaving n 147 L r h Q) ∧ (¬ (b ≤ a) → G sp sc [2, 14] d mX12_leaving n 12 L r h Q))) ∧
  (∀ (n d : Nat) (L : List (Option iV)) (st : List iV) (h : iH) (Q : Option iV → iH → Prop), G sp sc [2, 14] d mX12_leaving (n + 1) 12 L st h Q = G sp sc [2, 14] d mX12_leaving n 13 L (.inl 0 :: st) h Q) ∧
  (∀ (n d : Nat) (L : List (Option iV)) (r : List iV) (x : Int) (h : iH) (Q : Option iV → iH → Prop), G sp sc [2, 14] d mX12_leaving (n + 1) 13 L (.inl x :: r) h Q = (match st1 L 2 (.inl x) with | some L' => Run sp sc d mX12_leaving 14 L' r h Q | none => False)) ∧
  (∀ (n d : Nat) (L : List (Option iV)) (st : List iV) (h : iH) (Q : Option iV → iH → Prop), G sp sc [2, 14] d mX12_leaving (n + 1) 14 L st h Q = (match ld L 2 with | some (.inl x) => G sp sc [2, 14] d mX12_leaving n 15 L (.inl x :: st) h Q | _ => False)) ∧
  (∀ (n d : Nat) (L : List (Option iV)) (st : List iV) (h : iH) (Q : Option iV → iH → Prop), G sp sc [2, 14] d mX12_leaving (n + 1) 15 L st h Q = (match ld L 0 with | some (.inr (.inr (r + 1))) => G sp sc [2, 14] d mX12_leaving n 16 L (.inr (.inr (r + 1)) :: st) h Q | _ => False)) ∧
  (∀ (n d : Nat) (L : List (Option iV)) (r : List iV) (m : Nat) (h : iH) (Q : Option iV → iH → Prop), G sp sc [2, 14] d mX12_leaving (n + 1) 16 L (.inr (.inr (m + 2)) :: r) h Q = (match h.1[m]? with | some (.inl (ci, fs)) => (match lkF 12 9 ci with | some k => (match fs[k]? with | some v => G sp sc [2, 14] d mX12_leaving n 19 L (v :: r) h Q | none => False) | none => False) | _ => False)) ∧
  (∀ (n d : Nat) (L : List (Option iV)) (st : List iV) (h : iH) (Q : Option iV → iH → Prop), G sp sc [2, 14] d mX12_leaving (n + 1) 19 L st h Q = G sp sc [2, 14] d mX12_leaving n 20 L (.inl 1 :: st) h Q) ∧
  (∀ (n d : Nat) (L : List (Option iV)) (r : List iV) (j : Int) (m : Nat) (h : iH) (Q : Option iV → iH → Prop), G sp sc [2, 14] d mX12_leaving (n + 1) 20 L (.inl j :: .inr (.inr (m + 2)) :: r) h Q = (match h.1[m]? with | some (.inr (.inl (0, xs))) => inA j xs.length = true ∧ G sp sc [2, 14] d mX12_leaving n 21 L (.inl (xs.getD j.toNat 0) :: r) h Q | _ => False)) ∧
  (∀ (n d : Nat) (L : List (Option iV)) (a : Int) (b : Int) (r : List iV) (h : iH) (Q : Option iV → iH → Prop), G sp sc [2, 14] d mX12_leaving (n + 1) 21 L (.inl b :: .inl a :: r) h Q = ((inI a = true ∧ inI b = true) ∧ (b ≤ a → G sp sc [2, 14] d mX12_leaving n 141 L r h Q) ∧ (¬ (b ≤ a) → G sp sc [2, 14] d mX12_leaving n 24 L r h Q))) ∧
  (∀ (n d : Nat) (L : List (Option iV)) (st : List iV) (h : iH) (Q : Option iV → iH → Prop), G sp sc [2, 14] d mX12_leaving (n + 1) 24 L st h Q = (match ld L 0 with | some (.inr (.inr (r + 1))) => G sp sc [2, 14] d mX12_leaving n 25 L (.inr (.inr (r + 1)) :: st) h Q | _ => False)) ∧
  (∀ (n d : Nat) (L : List (Option iV)) (r : List iV) (m : Nat) (h : iH) (Q : Option iV → iH → Prop), G sp sc [2, 14] d mX12_leaving (n + 1) 25 L (.inr (.inr (m + 2)) :: r) h Q = (match h.1[m]? with | some (.inl (ci, fs)) => (match lkF 12 34 ci with | some k => (match fs[k]? with | some v => G sp sc [2, 14] d mX12_leaving n 28 L (v :: r) h Q | none => False) | none => False) | _ => False)) ∧
  (∀ (n d : Nat) (L : List (Option iV)) (st : List iV) (h : iH) (Q : Option iV → iH → Prop), G sp sc [2, 14] d mX12_leaving (n + 1) 28 L st h Q = (match ld L 1 with | some (.inl x) => G sp sc [2, 14] d mX12_leaving n 29 L (.inl x :: st) h Q | _ => False)) ∧
  (∀ (n d : Nat) (L : List (Option iV)) (r : List iV) (j : Int) (m : Nat) (h : iH) (Q : Option iV → iH → Prop), G sp sc [2, 14] d mX12_leaving (n + 1) 29 L (.inl j :: .inr (.inr (m + 2)) :: r) h Q = (match h.1[m]? with | some (.inr (.inl (0, xs))) => inA j xs.length = true ∧ G sp sc [2, 14] d mX12_leaving n 30 L (.inl (xs.getD j.toNat 0) :: r) h Q | _ => False)) ∧
  (∀ (n d : Nat) (L : List (Option iV)) (st : List iV) (h : iH) (Q : Option iV → iH → Prop), G sp sc [2, 14] d mX12_leaving (n + 1) 30 L st h Q = (match ld L 2 with | some (.inl x) => G sp sc [2, 14] d mX12_leaving n 31 L (.inl x :: st) h Q | _ => False)) ∧
  (∀ (n d : Nat) (L : List (Option iV)) (a : Int) (b : Int) (r : List iV) (h : iH) (Q : Option iV → iH → Prop), G sp sc [2, 14] d mX12_leaving (n + 1) 31 L (.inl b :: .inl a :: r) h Q = ((inI a = true ∧ inI b = true) ∧ (¬ a = b → G sp sc [2, 14] d mX12_leaving n 37 L r h Q) ∧ (¬ (¬ a = b) → G sp sc [2, 14] d mX12_leaving n 34 L r h Q))) ∧
  (∀ (n d : Nat) (L : List (Option iV)) (st : List iV) (h : iH) (Q : Option iV → iH → Prop), G sp sc [2, 14] d mX12_leaving (n + 1) 34 L st h Q = G sp sc [2, 14] d mX12_leaving n 135 L st h Q) ∧
  (∀ (n d : Nat) (L : List (Option iV)) (st : List iV) (h : iH) (Q : Option iV → iH → Prop), G sp sc [2, 14] d mX12_leaving (n + 1) 37 L st h Q = (match ld L 0 with | some (.inr (.inr (r + 1))) => G sp sc [2, 14] d mX12_leaving n 38 L (.inr (.inr (r + 1)) :: st) h Q | _ => False)) ∧
  (∀ (n d : Nat) (L : List (Option iV)) (r : List iV) (m : Nat) (h : iH) (Q : Option iV → iH → Prop), G sp sc [2, 14] d mX12_leaving (n + 1) 38 L (.inr (.inr (m + 2)) :: r) h Q = (match h.1[m]? with | some (.inl (ci, fs)) => (match lkF 12 34 ci with | some k => (match fs[k]? with | some v => G sp sc [2, 14] d mX12_leaving n 41 L (v :: r) h Q | none => False) | none => False) | _ => False)) ∧
  (∀ (n d : Nat) (L : List (Option iV)) (st : List iV) (h : iH) (Q : Option iV → iH → Prop), G sp sc [2, 14] d mX12_leaving (n + 1) 41 L st h Q = (match ld L 1 with | some (.inl x) => G sp sc [2, 14] d mX12_leaving n 42 L (.inl x :: st) h Q | _ => False)) ∧
  (∀ (n d : Nat) (L : List (Option iV)) (r : List iV) (j : Int) (m : Nat) (h : iH) (Q : Option iV → iH → Prop), G sp sc [2, 14] d mX12_leaving (n + 1) 42 L (.inl j :: .inr (.inr (m + 2)) :: r) h Q = (match h.1[m]? with | some (.inr (.inl (0, xs))) => inA j xs.length = true ∧ G sp sc [2, 14] d mX12_leaving n 43 L (.inl (xs.getD j.toNat 0) :: r) h Q | _ => False)) ∧
  (∀ (n d : Nat) (L : List (Option iV)) (a : Int) (r : List iV) (h : iH) (Q : Option iV → iH → Prop), G sp sc [2, 14] d mX12_leaving (n + 1) 43 L (.inl a :: r) h Q = (inI a = true ∧ (0 ≤ a → G sp sc [2, 14] d mX12_leaving n 50 L r h Q) ∧ (¬ (0 ≤ a) → G sp sc [2, 14] d mX12_leaving n 46 L r h Q))) ∧
  (∀ (n d : Nat) (L : List (Option iV)) (st : List iV) (h : iH) (Q : Option iV → iH → Prop), G sp sc [2, 14] d mX12_leaving (n + 1) 46 L st h Q = G sp sc [2, 14] d mX12_leaving n 47 L (.inl (-1) :: st) h Q) ∧
  (∀ (n d : Nat) (L : List (Option iV)) (st : List iV) (h : iH) (Q : Option iV → iH → Prop), G sp sc [2, 14] d mX12_leaving (n + 1) 47 L st h Q = G sp sc [2, 14] d mX12_leaving n 66 L st h Q) ∧
  (∀ (n d : Nat) (L : List (Option iV)) (st : List iV) (h : iH) (Q : Option iV → iH → Prop), G sp sc [2, 14] d mX12_leaving (n + 1) 50 L st h Q = (match ld L 0 with | some (.inr (.inr (r + 1))) => G sp sc [2, 14] d mX12_leaving n 51 L (.inr (.inr (r + 1)) :: st) h Q | _ => False)) ∧
  (∀ (n d : Nat) (L : List (Option iV)) (r : List iV) (m : Nat) (h : iH) (Q : Option iV → iH → Prop), G sp sc [2, 14] d mX12_leaving (n + 1) 51 L (.inr (.inr (m + 2)) :: r) h Q = (match h.1[m]? with | some (.inl (ci, fs)) => (match lkF 12 9 ci with | some k => (match fs[k]? with | some v => G sp sc [2, 14] d mX12_leaving n 54 L (v :: r) h Q | none => False) | none => False) | _ => False)) ∧
  (∀ (n d : Nat) (L : List (Option iV)) (st : List iV) (h : iH) (Q : Option iV → iH → Prop), G sp sc [2, 14] d mX12_leaving (n + 1) 54 L st h Q = G sp sc [2, 14] d mX12_leaving n 55 L (.inl 0 :: st) h Q) ∧
  (∀ (n d : Nat) (L : List (Option iV)) (st : List iV) (h : iH) (Q : Option iV → iH → Prop), G sp sc [2, 14] d mX12_leaving (n + 1) 55 L st h Q = (match ld L 1 with | some (.inl x) => G sp sc [2, 14] d mX12_leaving n 56 L (.inl x :: st) h Q | _ => False)) ∧
  (∀ (n d : Nat) (L : List (Option iV)) (st : List iV) (h : iH) (Q : Option iV → iH → Prop), G sp sc [2, 14] d mX12_leaving (n + 1) 56 L st h Q = (match ld L 0 with | some (.inr (.inr (r + 1))) => G sp sc [2, 14] d mX12_leaving n 57 L (.inr (.inr (r + 1)) :: st) h Q | _ => False)) ∧
  (∀ (n d : Nat) (L : List (Option iV)) (r : List iV) (m : Nat) (h : iH) (Q : Option iV → iH → Prop), G sp sc [2, 14] d mX12_leaving (n + 1) 57 L (.inr (.inr (m + 2)) :: r) h Q = (match h.1[m]? with | some (.inl (ci, fs)) => (match lkF 12 34 ci with | some k => (match fs[k]? with | some v => G sp sc [2, 14] d mX12_leaving n 60 L (v :: r) h Q | none => False) | none => False) | _ => False)) ∧
  (∀ (n d : Nat) (L : List (Option iV)) (st : List iV) (h : iH) (Q : Option iV → iH → Prop), G sp sc [2, 14] d mX12_leaving (n + 1) 60 L st h Q = (match ld L 1 with | some (.inl x) => G sp sc [2, 14] d mX12_leaving n 61 L (.inl x :: st) h Q | _ => False)) ∧
  (∀ (n d : Nat) (L : List (Option iV)) (r : List iV) (j : Int) (m : Nat) (h : iH) (Q : Option iV → iH → Prop), G sp sc [2, 14] d mX12_leaving (n + 1) 61 L (.inl j :: .inr (.inr (m + 2)) :: r) h Q = (match h.1[m]? with | some (.inr (.inl (0, xs))) => inA j xs.length = true ∧ G sp sc [2, 14] d mX12_leaving n 62 L (.inl (xs.getD j.toNat 0) :: r) h Q | _ => False)) ∧
  (∀ (n d : Nat) (L : List (Option iV)) (r : List iV) (z0 : iV) (z1 : iV) (z2 : iV) (h : iH) (Q : Option iV → iH → Prop), G sp sc [2, 14] (d + 1) mX12_leaving (n + 1) 62 L (z2 :: z1 :: z0 :: r) h Q = (cs r ≤ 8 ∧ Call sp sc d mX12_atLike [z0, z1, z2] h (fun q h1 => GC sp sc [2, 14] (d + 1) mX12_leaving n 65 L q r h h1 Q))) ∧
  (∀ (n d : Nat) (L : List (Option iV)) (r : List iV) (j : Int) (m : Nat) (h : iH) (Q : Option iV → iH → Prop), G sp sc [2, 14] d mX12_leaving (n + 1) 65 L (.inl j :: .inr (.inr (m + 2)) :: r) h Q = (match h.1[m]? with | some (.inr (.inl (0, xs))) => inA j xs.length = true ∧ G sp sc [2, 14] d mX12_leaving n 66 L (.inl (xs.getD j.toNat 0) :: r) h Q | _ => False)) ∧
  (∀ (n d : Nat) (L : List (Option iV)) (r : List iV) (x : Int) (h : iH) (Q : Option iV → iH → Prop), G sp sc [2, 14] d mX12_leaving (n + 1) 66 L (.inl x :: r) h Q = (match st1 L 3 (.inl x) with | some L' => G sp sc [2, 14] d mX12_leaving n 67 L' r h Q | none => False)) ∧
  (∀ (n d : Nat) (L : List (Option iV)) (st : List iV) (h : iH) (Q : Option iV → iH → Prop), G sp sc [2, 14] d mX12_leaving (n + 1) 67 L st h Q = (match ld L 0 with | some (.inr (.inr (r + 1))) => G sp sc [2, 14] d mX12_leaving n 68 L (.inr (.inr (r + 1)) :: st) h Q | _ => False)) ∧
  (∀ (n d : Nat) (L : List (Option iV)) (st : List iV) (h : iH) (Q : Option iV → iH → Prop), G sp sc [2, 14] d mX12_leaving (n + 1) 68 L st h Q = (match ld L 2 with | some (.inl x) => G sp sc [2, 14] d mX12_leaving n 69 L (.inl x :: st) h Q | _ => False)) ∧
  (∀ (n d : Nat) (L : List (Option iV)) (r : List iV) (m : Nat) (z0 : iV) (h : iH) (Q : Option iV → iH → Prop), G sp sc [2, 14] (d + 1) mX12_leaving (n + 1) 69 L (z0 :: .inr (.inr (m + 2)) :: r) h Q = (match h.1[m]? with | some (.inl (ci, _)) => (match lkC 12 233 ci with | some (y1, n1, kd) => (n1 = 1 ∧ (kd = 2 ∨ kd = 3 ∨ kd = 8) ∧ cs r ≤ 8) ∧ Call sp sc d y1 [.inr (.inr (m + 2)), z0] h (fun q h1 => GC sp sc [2, 14] (d + 1) mX12_leaving n 72 L q r h h1 Q) | none => False) | _ => False)) ∧
  (∀ (n d : Nat) (L : List (Option iV)) (r : List iV) (x : Int) (h : iH) (Q : Option iV → iH → Prop), G sp sc [2, 14] d mX12_leaving (n + 1) 72 L (.inl x :: r) h Q = (match st1 L 4 (.inl x) with | some L' => G sp sc [2, 14] d mX12_leaving n 74 L' r h Q | none => False)) ∧
  (∀ (n d : Nat) (L : List (Option iV)) (st : List iV) (h : iH) (Q : Option iV → iH → Prop), G sp sc [2, 14] d mX12_leaving (n + 1) 74 L st h Q = (match ld L 4 with | some (.inl x) => G sp sc [2, 14] d mX12_leaving n 76 L (.inl x :: st) h Q | _ => False)) ∧
  (∀ (n d : Nat) (L : List (Option iV)) (a : Int) (r : List iV) (h : iH) (Q : Option iV → iH → Prop), G sp sc [2, 14] d mX12_leaving (n + 1) 76 L (.inl a :: r) h Q = (inI a = true ∧ (0 ≤ a → G sp sc [2, 14] d mX12_leaving n 83 L r h Q) ∧ (¬ (0 ≤ a) → G sp sc [2, 14] d mX12_leaving n 79 L r h Q))) ∧
  (∀ (n d : Nat) (L : List (Option iV)) (st : List iV) (h : iH) (Q : Option iV → iH → Prop), G sp sc [2, 14] d mX12_leaving (n + 1) 79 L st h Q = G sp sc [2, 14] d mX12_leaving n 80 L (.inl (-1) :: st) h Q) ∧
  (∀ (n d : Nat) (L : List (Option iV)) (st : List iV) (h : iH) (Q : Option iV → iH → Prop), G sp sc [2, 14] d mX12_leaving (n + 1) 80 L st h Q = G sp sc [2, 14] d mX12_leaving n 95 L st h Q) ∧
  (∀ (n d : Nat) (L : List (Option iV)) (st : List iV) (h : iH) (Q : Option iV → iH → Prop), G sp sc [2, 14] d mX12_leaving (n + 1) 83 L st h Q = (match ld L 0 with | some (.inr (.inr (r + 1))) => G sp sc [2, 14] d mX12_leaving n 84 L (.inr (.inr (r + 1)) :: st) h Q | _ => False)) ∧
  (∀ (n d : Nat) (L : List (Option iV)) (r : List iV) (m : Nat) (h : iH) (Q : Option iV → iH → Prop), G sp sc [2, 14] d mX12_leaving (n + 1) 84 L (.inr (.inr (m + 2)) :: r) h Q = (match h.1[m]? with | some (.inl (ci, fs)) => (match lkF 12 9 ci with | some k => (match fs[k]? with | some v => G sp sc [2, 14] d mX12_leaving n 87 L (v :: r) h Q | none => False) | none => False) | _ => False)) ∧
  (∀ (n d : Nat) (L : List (Option iV)) (st : List iV) (h : iH) (Q : Option iV → iH → Prop), G sp sc [2, 14] d mX12_leaving (n + 1) 87 L st h Q = G sp sc [2, 14] d mX12_leaving n 88 L (.inl 1 :: st) h Q) ∧
  (∀ (n d : Nat) (L : List (Option iV)) (st : List iV) (h : iH) (Q : Option iV → iH → Prop), G sp sc [2, 14] d mX12_leaving (n + 1) 88 L st h Q = (match ld L 2 with | some (.inl x) => G sp sc [2, 14] d mX12_leaving n 89 L (.inl x :: st) h Q | _ => False)) ∧
  (∀ (n d : Nat) (L : List (Option iV)) (st : List iV) (h : iH) (Q : Option iV → iH → Prop), G sp sc [2, 14] d mX12_leaving (n + 1) 89 L st h Q = (match ld L 4 with | some (.inl x) => G sp sc [2, 14] d mX12_leaving n 91 L (.inl x :: st) h Q | _ => False)) ∧
  (∀ (n d : Nat) (L : List (Option iV)) (r : List iV) (z0 : iV) (z1 : iV) (z2 : iV) (h : iH) (Q : Option iV → iH → Prop), G sp sc [2, 14] (d + 1) mX12_leaving (n + 1) 91 L (z2 :: z1 :: z0 :: r) h Q = (cs r ≤ 8 ∧ Call sp sc d mX12_atLike [z0, z1, z2] h (fun q h1 => GC sp sc [2, 14] (d + 1) mX12_leaving n 94 L q r h h1 Q))) ∧
  (∀ (n d : Nat) (L : List (Option iV)) (r : List iV) (j : Int) (m : Nat) (h : iH) (Q : Option iV → iH → Prop), G sp sc [2, 14] d mX12_leaving (n + 1) 94 L (.inl j :: .inr (.inr (m + 2)) :: r) h Q = (match h.1[m]? with | some (.inr (.inl (0, xs))) => inA j xs.length = true ∧ G sp sc [2, 14] d mX12_leaving n 95 L (.inl (xs.getD j.toNat 0) :: r) h Q | _ => False)) ∧
  (∀ (n d : Nat) (L : List (Option iV)) (r : List iV) (x : Int) (h : iH) (Q : Option iV → iH → Prop), G sp sc [2, 14] d mX12_leaving (n + 1) 95 L (.inl x :: r) h Q = (match st1 L 5 (.inl x) with | some L' => G sp sc [2, 14] d mX12_leaving n 97 L' r h Q | none => False)) ∧
  (∀ (n d : Nat) (L : List (Option iV)) (st : List iV) (h : iH) (Q : Option iV → iH → Prop), G sp sc [2, 14] d mX12_leaving (n + 1) 97 L st h Q = (match ld L 0 with | some (.inr (.inr (r + 1))) => G sp sc [2, 14] d mX12_leaving n 98 L (.inr (.inr (r + 1)) :: st) h Q | _ => False)) ∧
  (∀ (n d : Nat) (L : List (Option iV)) (r : List iV) (m : Nat) (h : iH) (Q : Option iV → iH → Prop), G sp sc [2, 14] d mX12_leaving (n + 1) 98 L (.inr (.inr (m + 2)) :: r) h Q = (match h.1[m]? with | some (.inl (ci, fs)) => (match lkF 12 9 ci with | some k => (match fs[k]? with | some v => G sp sc [2, 14] d mX12_leaving n 101 L (v :: r) h Q | none => False) | none => False) | _ => False)) ∧
  (∀ (n d : Nat) (L : List (Option iV)) (st : List iV) (h : iH) (Q : Option iV → iH → Prop), G sp sc [2, 14] d mX12_leaving (n + 1) 101 L st h Q = G sp sc [2, 14] d mX12_leaving n 102 L (.inl 0 :: st) h Q) ∧
  (∀ (n d : Nat) (L : List (Option iV)) (st : List iV) (h : iH) (Q : Option iV → iH → Prop), G sp sc [2, 14] d mX12_leaving (n + 1) 102 L st h Q = (match ld L 1 with | some (.inl x) => G sp sc [2, 14] d mX12_leaving n 103 L (.inl x :: st) h Q | _ => False)) ∧
  (∀ (n d : Nat) (L : List (Option iV)) (st : List iV) (h : iH) (Q : Option iV → iH → Prop), G sp sc [2, 14] d mX12_leaving (n + 1) 103 L st h Q = (match ld L 2 with | some (.inl x) => G sp sc [2, 14] d mX12_leaving n 104 L (.inl x :: st) h Q | _ => False)) ∧
  (∀ (n d : Nat) (L : List (Option iV)) (r : List iV) (z0 : iV) (z1 : iV) (z2 : iV) (h : iH) (Q : Option iV → iH → Prop), G sp sc [2, 14] (d + 1) mX12_leaving (n + 1) 104 L (z2 :: z1 :: z0 :: r) h Q = (cs r ≤ 8 ∧ Call sp sc d mX12_atLike [z0, z1, z2] h (fun q h1 => GC sp sc [2, 14] (d + 1) mX12_leaving n 107 L q r h h1 Q))) ∧
  (∀ (n d : Nat) (L : List (Option iV)) (r : List iV) (j : Int) (m : Nat) (h : iH) (Q : Option iV → iH → Prop), G sp sc [2, 14] d mX12_leaving (n + 1) 107 L (.inl j :: .inr (.inr (m + 2)) :: r) h Q = (match h.1[m]? with | some (.inr (.inl (0, xs))) => inA j xs.length = true ∧ G sp sc [2, 14] d mX12_leaving n 108 L (.inl (xs.getD j.toNat 0) :: r) h Q | _ => False)) ∧
  (∀ (n d : Nat) (L : List (Option iV)) (st : List iV) (h : iH) (Q : Option iV → iH → Prop), G sp sc [2, 14] d mX12_leaving (n + 1) 108 L st h Q = (match ld L 3 with | some (.inl x) => G sp sc [2, 14] d mX12_leaving n 109 L (.inl x :: st) h Q | _ => False)) ∧
  (∀ (n d : Nat) (L : List (Option iV)) (a : Int) (b : Int) (r : List iV) (h : iH) (Q : Option iV → iH → Prop), G sp sc [2, 14] d mX12_leaving (n + 1) 109 L (.inl b :: .inl a :: r) h Q = ((inI a = true ∧ inI b = true) ∧ (a ≤ b → G sp sc [2, 14] d mX12_leaving n 135 L r h Q) ∧ (¬ (a ≤ b) → G sp sc [2, 14] d mX12_leaving n 112 L r h Q))) ∧
  (∀ (n d : Nat) (L : List (Option iV)) (st : List iV) (h : iH) (Q : Option iV → iH → Prop), G sp sc [2, 14] d mX12_leaving (n + 1) 112 L st h Q = (match ld L 0 with | some (.inr (.inr (r + 1))) => G sp sc [2, 14] d mX12_leaving n 113 L (.inr (.inr (r + 1)) :: st) h Q | _ => False)) ∧
  (∀ (n d : Nat) (L : List (Option iV)) (r : List iV) (m : Nat) (h : iH) (Q : Option iV → iH → Prop), G sp sc [2, 14] d mX12_leaving (n + 1) 113 L (.inr (.inr (m + 2)) :: r) h Q = (match h.1[m]? with | some (.inl (ci, fs)) => (match lkF 12 9 ci with | some k => (match fs[k]? with | some v => G sp sc [2, 14] d mX12_leaving n 116 L (v :: r) h Q | none => False) | none => False) | _ => False)) ∧
  (∀ (n d : Nat) (L : List (Option iV)) (st : List iV) (h : iH) (Q : Option iV → iH → Prop), G sp sc [2, 14] d mX12_leaving (n + 1) 116 L st h Q = G sp sc [2, 14] d mX12_leaving n 117 L (.inl 1 :: st) h Q) ∧
  (∀ (n d : Nat) (L : List (Option iV)) (st : List iV) (h : iH) (Q : Option iV → iH → Prop), G sp sc [2, 14] d mX12_leaving (n + 1) 117 L st h Q = (match ld L 2 with | some (.inl x) => G sp sc [2, 14] d mX12_leaving n 118 L (.inl x :: st) h Q | _ => False)) ∧
  (∀ (n d : Nat) (L : List (Option iV)) (st : List iV) (h : iH) (Q : Option iV → iH → Prop), G sp sc [2, 14] d mX12_leaving (n + 1) 118 L st h Q = (match ld L 1 with | some (.inl x) => G sp sc [2, 14] d mX12_leaving n 119 L (.inl x :: st) h Q | _ => False)) ∧
  (∀ (n d : Nat) (L : List (Option iV)) (r : List iV) (z0 : iV) (z1 : iV) (z2 : iV) (h : iH) (Q : Option iV → iH → Prop), G sp sc [2, 14] (d + 1) mX12_leaving (n + 1) 119 L (z2 :: z1 :: z0 :: r) h Q = (cs r ≤ 8 ∧ Call sp sc d mX12_atLike [z0, z1, z2] h (fun q h1 => GC sp sc [2, 14] (d + 1) mX12_leaving n 122 L q r h h1 Q))) ∧
  (∀ (n d : Nat) (L : List (Option iV)) (r : List iV) (j : Int) (m : Nat) (h : iH) (Q : Option iV → iH → Prop), G sp sc [2, 14] d mX12_leaving (n + 1) 122 L (.inl j :: .inr (.inr (m + 2)) :: r) h Q = (match h.1[m]? with | some (.inr (.inl (0, xs))) => inA j xs.length = true ∧ G sp sc [2, 14] d mX12_leaving n 123 L (.inl (xs.getD j.toNat 0) :: r) h Q | _ => False)) ∧
  (∀ (n d : Nat) (L : List (Option iV)) (st : List iV) (h : iH) (Q : Option iV → iH → Prop), G sp sc [2, 14] d mX12_leaving (n + 1) 123 L st h Q = (match ld L 5 with | some (.inl x) => G sp sc [2, 14] d mX12_leaving n 125 L (.inl x :: st) h Q | _ => False)) ∧
  (∀ (n d : Nat) (L : List (Option iV)) (a : Int) (b : Int) (r : List iV) (h : iH) (Q : Option iV → iH → Prop), G sp sc [2, 14] d mX12_leaving (n + 1) 125 L (.inl b :: .inl a :: r) h Q = ((inI a = true ∧ inI b = true) ∧ (a ≤ b → G sp sc [2, 14] d mX12_leaving n 135 L r h Q) ∧ (¬ (a ≤ b) → G sp sc [2, 14] d mX12_leaving n 128 L r h Q))) ∧
  (∀ (n d : Nat) (L : List (Option iV)) (st : List iV) (h : iH) (Q : Option iV → iH → Prop), G sp sc [2, 14] d mX12_leaving (n + 1) 128 L st h Q = ((-128 ≤ (10 : Int) ∧ (10 : Int) < 128) ∧ G sp sc [2, 14] d mX12_leaving n 130 L (.inl 10 :: st) h Q)) ∧
  (∀ (n d : Nat) (L : List (Option iV)) (st : List iV) (h : iH) (Q : Option iV → iH → Prop), G sp sc [2, 14] d mX12_leaving (n + 1) 130 L st h Q = (match ld L 1 with | some (.inl x) => G sp sc [2, 14] d mX12_leaving n 131 L (.inl x :: st) h Q | _ => False)) ∧
  (∀ (n d : Nat) (L : List (Option iV)) (a : Int) (b : Int) (r : List iV) (h : iH) (Q : Option iV → iH → Prop), G sp sc [2, 14] d mX12_leaving (n + 1) 131 L (.inl b :: .inl a :: r) h Q = G sp sc [2, 14] d mX12_leaving n 132 L (.inl (a * b) :: r) h Q) ∧
  (∀ (n d : Nat) (L : List (Option iV)) (st : List iV) (h : iH) (Q : Option iV → iH → Prop), G sp sc [2, 14] d mX12_leaving (n + 1) 132 L st h Q = (match ld L 2 with | some (.inl x) => G sp sc [2, 14] d mX12_leaving n 133 L (.inl x :: st) h Q | _ => False)) ∧
  (∀ (n d : Nat) (L : List (Option iV)) (a : Int) (b : Int) (r : List iV) (h : iH) (Q : Option iV → iH → Prop), G sp sc [2, 14] d mX12_leaving (n + 1) 133 L (.inl b :: .inl a :: r) h Q = G sp sc [2, 14] d mX12_leaving n 134 L (.inl (a + b) :: r) h Q) ∧
  (∀ (n d : Nat) (L : List (Option iV)) (a : Int) (h : iH) (Q : Option iV → iH → Prop), G sp sc [2, 14] d mX12_leaving (n + 1) 134 L [.inl a] h Q = Q (some (.inl a)) h) ∧
  (∀ (n d : Nat) (L : List (Option iV)) (st : List iV) (h : iH) (Q : Option iV → iH → Prop), G sp sc [2, 14] d mX12_leaving (n + 1) 135 L st h Q = (match ld L 2 with | some (.inl x) => (match st1 L 2 (.inl (x + 1)) with | some L' => G sp sc [2, 14] d mX12_leaving n 138 L' st h Q | none => False) | _ => False)) ∧
  (∀ (n d : Nat) (L : List (Option iV)) (st : List iV) (h : iH) (Q : Option iV → iH → Prop), G sp sc [2, 14] d mX12_leaving (n + 1) 138 L st h Q = Run sp sc d mX12_leaving 14 L st h Q) ∧
  (∀ (n d : Nat) (L : List (Option iV)) (st : List iV) (h : iH) (Q : Option iV → iH → Prop), G sp sc [2, 14] d mX12_leaving (n + 1) 141 L st h Q = (match ld L 1 with | some (.inl x) => (match st1 L 1 (.inl (x + 1)) with | some L' => G sp sc [2, 14] d mX12_leaving n 144 L' st h Q | none => False) | _ => False)) ∧
  (∀ (n d : Nat) (L : List (Option iV)) (st : List iV) (h : iH) (Q : Option iV → iH → Prop), G sp sc [2, 14] d mX12_leaving (n + 1) 144 L st h Q = Run sp sc d mX12_leaving 2 L st h Q) ∧
  (∀ (n d : Nat) (L : List (Option iV)) (st : List iV) (h : iH) (Q : Option iV → iH → Prop), G sp sc [2, 14] d mX12_leaving (n + 1) 147 L st h Q = ((-128 ≤ ((-4) : Int) ∧ ((-4) : Int) < 128) ∧ G sp sc [2, 14] d mX12_leaving n 149 L (.inl (-4) :: st) h Q)) ∧
  (∀ (n d : Nat) (L : List (Option iV)) (a : Int) (h : iH) (Q : Option iV → iH → Prop), G sp sc [2, 14] d mX12_leaving (n + 1) 149 L [.inl a] h Q = Q (some (.inl a)) h) ∧
  lkC 12 233 12 = some (mX12_manOf, 1, 2) ∧
  lkF 12 34 12 = some 18 ∧
  lkF 12 9 12 = some 0 := ⟨by intros; exact G_at (by decide +kernel : fetch mX12_leaving 0 = some (.iconst 0)),
  by intros; exact G_at (by decide +kernel : fetch mX12_leaving 1 = some (.istore_n 1)),
  by intros; exact G_at (by decide +kernel : fetch mX12_leaving 2 = some (.iload_n 1)),
  by intros; exact G_at (by decide +kernel : fetch mX12_leaving 3 = some (.aload_n 0)),
  by intros; exact G_own (by decide +kernel : fetch mX12_leaving 4 = some (.getfield 9)) (by decide +kernel),
  by intros; exact G_at (by decide +kernel : fetch mX12_leaving 7 = some (.iconst 0)),
  by intros; exact G_at (by decide +kernel : fetch mX12_leaving 8 = some (.iaload)),
  by intros; exact G_at (by decide +kernel : fetch mX12_leaving 9 = some (.if_icmp .ge 138)),
  by intros; exact G_at (by decide +kernel : fetch mX12_leaving 12 = some (.iconst 0)),
  by intros; exact G_at (by decide +kernel : fetch mX12_leaving 13 = some (.istore_n 2)),
  by intros; exact G_at (by decide +kernel : fetch mX12_leaving 14 = some (.iload_n 2)),
  by intros; exact G_at (by decide +kernel : fetch mX12_leaving 15 = some (.aload_n 0)),
  by intros; exact G_own (by decide +kernel : fetch mX12_leaving 16 = some (.getfield 9)) (by decide +kernel),
  by intros; exact G_at (by decide +kernel : fetch mX12_leaving 19 = some (.iconst 1)),
  by intros; exact G_at (by decide +kernel : fetch mX12_leaving 20 = some (.iaload)),
  by intros; exact G_at (by decide +kernel : fetch mX12_leaving 21 = some (.if_icmp .ge 120)),
  by intros; exact G_at (by decide +kernel : fetch mX12_leaving 24 = some (.aload_n 0)),
  by intros; exact G_own (by decide +kernel : fetch mX12_leaving 25 = some (.getfield 34)) (by decide +kernel),
  by intros; exact G_at (by decide +kernel : fetch mX12_leaving 28 = some (.iload_n 1)),
  by intros; exact G_at (by decide +kernel : fetch mX12_leaving 29 = some (.iaload)),
  by intros; exact G_at (by decide +kernel : fetch mX12_leaving 30 = some (.iload_n 2)),
  by intros; exact G_at (by decide +kernel : fetch mX12_leaving 31 = some (.if_icmp .ne 6)),
  by intros; exact G_at (by decide +kernel : fetch mX12_leaving 34 = some (.goto 101)),
  by intros; exact G_at (by decide +kernel : fetch mX12_leaving 37 = some (.aload_n 0)),
  by intros; exact G_own (by decide +kernel : fetch mX12_leaving 38 = some (.getfield 34)) (by decide +kernel),
  by intros; exact G_at (by decide +kernel : fetch mX12_leaving 41 = some (.iload_n 1)),
  by intros; exact G_at (by decide +kernel : fetch mX12_leaving 42 = some (.iaload)),
  by intros; exact G_at (by decide +kernel : fetch mX12_leaving 43 = some (.ifCond .ge 7)),
  by intros; exact G_at (by decide +kernel : fetch mX12_leaving 46 = some (.iconst (-1))),
  by intros; exact G_at (by decide +kernel : fetch mX12_leaving 47 = some (.goto 19)),
  by intros; exact G_at (by decide +kernel : fetch mX12_leaving 50 = some (.aload_n 0)),
  by intros; exact G_own (by decide +kernel : fetch mX12_leaving 51 = some (.getfield 9)) (by decide +kernel),
  by intros; exact G_at (by decide +kernel : fetch mX12_leaving 54 = some (.iconst 0)),
  by intros; exact G_at (by decide +kernel : fetch mX12_leaving 55 = some (.iload_n 1)),
  by intros; exact G_at (by decide +kernel : fetch mX12_leaving 56 = some (.aload_n 0)),
  by intros; exact G_own (by decide +kernel : fetch mX12_leaving 57 = some (.getfield 34)) (by decide +kernel),
  by intros; exact G_at (by decide +kernel : fetch mX12_leaving 60 = some (.iload_n 1)),
  by intros; exact G_at (by decide +kernel : fetch mX12_leaving 61 = some (.iaload)),
  by intros; exact G_callS (k := 3) (kd := 0) (by decide +kernel : fetch mX12_leaving 62 = some (.invokestatic 109)) (by decide +kernel) (by decide +kernel) (by decide +kernel) rfl (by decide),
  by intros; exact G_at (by decide +kernel : fetch mX12_leaving 65 = some (.iaload)),
  by intros; exact G_at (by decide +kernel : fetch mX12_leaving 66 = some (.istore_n 3)),
  by intros; exact G_at (by decide +kernel : fetch mX12_leaving 67 = some (.aload_n 0)),
  by intros; exact G_at (by decide +kernel : fetch mX12_leaving 68 = some (.iload_n 2)),
  by intros; exact G_callV (by decide +kernel : fetch mX12_leaving 69 = some (.invokevirtual 233)) (by decide +kernel) (by decide +kernel) rfl,
  by intros; exact G_at (by decide +kernel : fetch mX12_leaving 72 = some (.istore 4)),
  by intros; exact G_at (by decide +kernel : fetch mX12_leaving 74 = some (.iload 4)),
  by intros; exact G_at (by decide +kernel : fetch mX12_leaving 76 = some (.ifCond .ge 7)),
  by intros; exact G_at (by decide +kernel : fetch mX12_leaving 79 = some (.iconst (-1))),
  by intros; exact G_at (by decide +kernel : fetch mX12_leaving 80 = some (.goto 15)),
  by intros; exact G_at (by decide +kernel : fetch mX12_leaving 83 = some (.aload_n 0)),
  by intros; exact G_own (by decide +kernel : fetch mX12_leaving 84 = some (.getfield 9)) (by decide +kernel),
  by intros; exact G_at (by decide +kernel : fetch mX12_leaving 87 = some (.iconst 1)),
  by intros; exact G_at (by decide +kernel : fetch mX12_leaving 88 = some (.iload_n 2)),
  by intros; exact G_at (by decide +kernel : fetch mX12_leaving 89 = some (.iload 4)),
  by intros; exact G_callS (k := 3) (kd := 0) (by decide +kernel : fetch mX12_leaving 91 = some (.invokestatic 109)) (by decide +kernel) (by decide +kernel) (by decide +kernel) rfl (by decide),
  by intros; exact G_at (by decide +kernel : fetch mX12_leaving 94 = some (.iaload)),
  by intros; exact G_at (by decide +kernel : fetch mX12_leaving 95 = some (.istore 5)),
  by intros; exact G_at (by decide +kernel : fetch mX12_leaving 97 = some (.aload_n 0)),
  by intros; exact G_own (by decide +kernel : fetch mX12_leaving 98 = some (.getfield 9)) (by decide +kernel),
  by intros; exact G_at (by decide +kernel : fetch mX12_leaving 101 = some (.iconst 0)),
  by intros; exact G_at (by decide +kernel : fetch mX12_leaving 102 = some (.iload_n 1)),
  by intros; exact G_at (by decide +kernel : fetch mX12_leaving 103 = some (.iload_n 2)),
  by intros; exact G_callS (k := 3) (kd := 0) (by decide +kernel : fetch mX12_leaving 104 = some (.invokestatic 109)) (by decide +kernel) (by decide +kernel) (by decide +kernel) rfl (by decide),
  by intros; exact G_at (by decide +kernel : fetch mX12_leaving 107 = some (.iaload)),
  by intros; exact G_at (by decide +kernel : fetch mX12_leaving 108 = some (.iload_n 3)),
  by intros; exact G_at (by decide +kernel : fetch mX12_leaving 109 = some (.if_icmp .le 26)),
  by intros; exact G_at (by decide +kernel : fetch mX12_leaving 112 = some (.aload_n 0)),
  by intros; exact G_own (by decide +kernel : fetch mX12_leaving 113 = some (.getfield 9)) (by decide +kernel),
  by intros; exact G_at (by decide +kernel : fetch mX12_leaving 116 = some (.iconst 1)),
  by intros; exact G_at (by decide +kernel : fetch mX12_leaving 117 = some (.iload_n 2)),
  by intros; exact G_at (by decide +kernel : fetch mX12_leaving 118 = some (.iload_n 1)),
  by intros; exact G_callS (k := 3) (kd := 0) (by decide +kernel : fetch mX12_leaving 119 = some (.invokestatic 109)) (by decide +kernel) (by decide +kernel) (by decide +kernel) rfl (by decide),
  by intros; exact G_at (by decide +kernel : fetch mX12_leaving 122 = some (.iaload)),
  by intros; exact G_at (by decide +kernel : fetch mX12_leaving 123 = some (.iload 5)),
  by intros; exact G_at (by decide +kernel : fetch mX12_leaving 125 = some (.if_icmp .le 10)),
  by intros; exact G_at (by decide +kernel : fetch mX12_leaving 128 = some (.bipush 10)),
  by intros; exact G_at (by decide +kernel : fetch mX12_leaving 130 = some (.iload_n 1)),
  by intros; exact G_at (by decide +kernel : fetch mX12_leaving 131 = some (.imul)),
  by intros; exact G_at (by decide +kernel : fetch mX12_leaving 132 = some (.iload_n 2)),
  by intros; exact G_at (by decide +kernel : fetch mX12_leaving 133 = some (.iadd)),
  by intros; exact G_reti (by decide +kernel : fetch mX12_leaving 134 = some (.ireturn)) (by decide +kernel),
  by intros; exact G_at (by decide +kernel : fetch mX12_leaving 135 = some (.iinc 2 1)),
  by intros; exact G_at (by decide +kernel : fetch mX12_leaving 138 = some (.goto (-124))),
  by intros; exact G_at (by decide +kernel : fetch mX12_leaving 141 = some (.iinc 1 1)),
  by intros; exact G_at (by decide +kernel : fetch mX12_leaving 144 = some (.goto (-142))),
  by intros; exact G_at (by decide +kernel : fetch mX12_leaving 147 = some (.bipush (-4))),
  by intros; exact G_reti (by decide +kernel : fetch mX12_leaving 149 = some (.ireturn)) (by decide +kernel),
  by decide +kernel,
  by decide +kernel,
  by decide +kernel⟩
theorem gX12_leave : (∀ (n d : Nat) (L : List (Option iV)) (st : List iV) (h : iH) (Q : Option iV → iH → Prop), G sp sc [36] d mX12_leave (n + 1) 0 L st h Q = (match ld L 0 with | some (.inr (.inr (r + 1))) => G sp sc [36] d mX12_leave n 1 L (.inr (.inr (r + 1)) :: st) h Q | _ => False)) ∧
  (∀ (n d : Nat) (L : List (Option iV)) (st : List iV) (h : iH) (Q : Option iV → iH → Prop), G sp sc [36] d mX12_leave (n + 1) 1 L st h Q = (match ld L 1 with | some (.inl x) => G sp sc [36] d mX12_leave n 2 L (.inl x :: st) h Q | _ => False)) ∧
  (∀ (n d : Nat) (L : List (Option iV)) (st : List iV) (h : iH) (Q : Option iV → iH → Prop), G sp sc [36] d mX12_leave (n + 1) 2 L st h Q = G sp sc [36] d mX12_leave n 3 L (.inl (-1) :: st) h Q) ∧
  (∀ (n d : Nat) (L : List (Option iV)) (r : List iV) (m : Nat) (z0 : iV) (z1 : iV) (h : iH) (Q : Option iV → iH → Prop), G sp sc [36] (d + 1) mX12_leave (n + 1) 3 L (z1 :: z0 :: .inr (.inr (m + 2)) :: r) h Q = (match h.1[m]? with | some (.inl (ci, _)) => (match lkC 12 184 ci with | some (y1, n1, kd) => (n1 = 2 ∧ (kd = 2 ∨ kd = 3 ∨ kd = 8) ∧ cs r ≤ 8) ∧ Call sp sc d y1 [.inr (.inr (m + 2)), z0, z1] h (fun q h1 => GC sp sc [36] (d + 1) mX12_leave n 6 L q r h h1 Q) | none => False) | _ => False)) ∧
  (∀ (n d : Nat) (L : List (Option iV)) (r : List iV) (x : Int) (h : iH) (Q : Option iV → iH → Prop), G sp sc [36] d mX12_leave (n + 1) 6 L (.inl x :: r) h Q = (match st1 L 2 (.inl x) with | some L' => G sp sc [36] d mX12_leave n 7 L' r h Q | none => False)) ∧
  (∀ (n d : Nat) (L : List (Option iV)) (st : List iV) (h : iH) (Q : Option iV → iH → Prop), G sp sc [36] d mX12_leave (n + 1) 7 L st h Q = (match ld L 2 with | some (.inl x) => G sp sc [36] d mX12_leave n 8 L (.inl x :: st) h Q | _ => False)) ∧
  (∀ (n d : Nat) (L : List (Option iV)) (a : Int) (r : List iV) (h : iH) (Q : Option iV → iH → Prop), G sp sc [36] d mX12_leave (n + 1) 8 L (.inl a :: r) h Q = (inI a = true ∧ (a = 0 → G sp sc [36] d mX12_leave n 13 L r h Q) ∧ (¬ (a = 0) → G sp sc [36] d mX12_leave n 11 L r h Q))) ∧
  (∀ (n d : Nat) (L : List (Option iV)) (st : List iV) (h : iH) (Q : Option iV → iH → Prop), G sp sc [36] d mX12_leave (n + 1) 11 L st h Q = (match ld L 2 with | some (.inl x) => G sp sc [36] d mX12_leave n 12 L (.inl x :: st) h Q | _ => False)) ∧
  (∀ (n d : Nat) (L : List (Option iV)) (a : Int) (h : iH) (Q : Option iV → iH → Prop), G sp sc [36] d mX12_leave (n + 1) 12 L [.inl a] h Q = Q (some (.inl a)) h) ∧
  (∀ (n d : Nat) (L : List (Option iV)) (st : List iV) (h : iH) (Q : Option iV → iH → Prop), G sp sc [36] d mX12_leave (n + 1) 13 L st h Q = (match ld L 0 with | some (.inr (.inr (r + 1))) => G sp sc [36] d mX12_leave n 14 L (.inr (.inr (r + 1)) :: st) h Q | _ => False)) ∧
  (∀ (n d : Nat) (L : List (Option iV)) (r : List iV) (m : Nat) (h : iH) (Q : Option iV → iH → Prop), G sp sc [36] d mX12_leave (n + 1) 14 L (.inr (.inr (m + 2)) :: r) h Q = (match h.1[m]? with | some (.inl (ci, fs)) => (match lkF 12 61 ci with | some k => (match fs[k]? with | some v => G sp sc [36] d mX12_leave n 17 L (v :: r) h Q | none => False) | none => False) | _ => False)) ∧
  (∀ (n d : Nat) (L : List (Option iV)) (st : List iV) (h : iH) (Q : Option iV → iH → Prop), G sp sc [36] d mX12_leave (n + 1) 17 L st h Q = (match ld L 1 with | some (.inl x) => G sp sc [36] d mX12_leave n 18 L (.inl x :: st) h Q | _ => False)) ∧
  (∀ (n d : Nat) (L : List (Option iV)) (r : List iV) (j : Int) (m : Nat) (h : iH) (Q : Option iV → iH → Prop), G sp sc [36] d mX12_leave (n + 1) 18 L (.inl j :: .inr (.inr (m + 2)) :: r) h Q = (match h.1[m]? with | some (.inr (.inl (0, xs))) => inA j xs.length = true ∧ G sp sc [36] d mX12_leave n 19 L (.inl (xs.getD j.toNat 0) :: r) h Q | _ => False)) ∧
  (∀ (n d : Nat) (L : List (Option iV)) (st : List iV) (h : iH) (Q : Option iV → iH → Prop), G sp sc [36] d mX12_leave (n + 1) 19 L st h Q = (match ld L 0 with | some (.inr (.inr (r + 1))) => G sp sc [36] d mX12_leave n 20 L (.inr (.inr (r + 1)) :: st) h Q | _ => False)) ∧
  (∀ (n d : Nat) (L : List (Option iV)) (r : List iV) (m : Nat) (h : iH) (Q : Option iV → iH → Prop), G sp sc [36] d mX12_leave (n + 1) 20 L (.inr (.inr (m + 2)) :: r) h Q = (match h.1[m]? with | some (.inl (ci, fs)) => (match lkF 12 9 ci with | some k => (match fs[k]? with | some v => G sp sc [36] d mX12_leave n 23 L (v :: r) h Q | none => False) | none => False) | _ => False)) ∧
  (∀ (n d : Nat) (L : List (Option iV)) (st : List iV) (h : iH) (Q : Option iV → iH → Prop), G sp sc [36] d mX12_leave (n + 1) 23 L st h Q = G sp sc [36] d mX12_leave n 24 L (.inl 0 :: st) h Q) ∧
  (∀ (n d : Nat) (L : List (Option iV)) (r : List iV) (j : Int) (m : Nat) (h : iH) (Q : Option iV → iH → Prop), G sp sc [36] d mX12_leave (n + 1) 24 L (.inl j :: .inr (.inr (m + 2)) :: r) h Q = (match h.1[m]? with | some (.inr (.inl (0, xs))) => inA j xs.length = true ∧ G sp sc [36] d mX12_leave n 25 L (.inl (xs.getD j.toNat 0) :: r) h Q | _ => False)) ∧
  (∀ (n d : Nat) (L : List (Option iV)) (a : Int) (b : Int) (r : List iV) (h : iH) (Q : Option iV → iH → Prop), G sp sc [36] d mX12_leave (n + 1) 25 L (.inl b :: .inl a :: r) h Q = ((inI a = true ∧ inI b = true) ∧ (a = b → G sp sc [36] d mX12_leave n 31 L r h Q) ∧ (¬ (a = b) → G sp sc [36] d mX12_leave n 28 L r h Q))) ∧
  (∀ (n d : Nat) (L : List (Option iV)) (st : List iV) (h : iH) (Q : Option iV → iH → Prop), G sp sc [36] d mX12_leave (n + 1) 28 L st h Q = ((-128 ≤ ((-13) : Int) ∧ ((-13) : Int) < 128) ∧ G sp sc [36] d mX12_leave n 30 L (.inl (-13) :: st) h Q)) ∧
  (∀ (n d : Nat) (L : List (Option iV)) (a : Int) (h : iH) (Q : Option iV → iH → Prop), G sp sc [36] d mX12_leave (n + 1) 30 L [.inl a] h Q = Q (some (.inl a)) h) ∧
  (∀ (n d : Nat) (L : List (Option iV)) (st : List iV) (h : iH) (Q : Option iV → iH → Prop), G sp sc [36] d mX12_leave (n + 1) 31 L st h Q = G sp sc [36] d mX12_leave n 32 L (.inl 0 :: st) h Q) ∧
  (∀ (n d : Nat) (L : List (Option iV)) (r : List iV) (x : Int) (h : iH) (Q : Option iV → iH → Prop), G sp sc [36] d mX12_leave (n + 1) 32 L (.inl x :: r) h Q = (match st1 L 3 (.inl x) with | some L' => G sp sc [36] d mX12_leave n 33 L' r h Q | none => False)) ∧
  (∀ (n d : Nat) (L : List (Option iV)) (st : List iV) (h : iH) (Q : Option iV → iH → Prop), G sp sc [36] d mX12_leave (n + 1) 33 L st h Q = G sp sc [36] d mX12_leave n 34 L (.inl 0 :: st) h Q) ∧
  (∀ (n d : Nat) (L : List (Option iV)) (r : List iV) (x : Int) (h : iH) (Q : Option iV → iH → Prop), G sp sc [36] d mX12_leave (n + 1) 34 L (.inl x :: r) h Q = (match st1 L 4 (.inl x) with | some L' => Run sp sc d mX12_leave 36 L' r h Q | none => False)) ∧
  (∀ (n d : Nat) (L : List (Option iV)) (st : List iV) (h : iH) (Q : Option iV → iH → Prop), G sp sc [36] d mX12_leave (n + 1) 36 L st h Q = (match ld L 4 with | some (.inl x) => G sp sc [36] d mX12_leave n 38 L (.inl x :: st) h Q | _ => False)) ∧
  (∀ (n d : Nat) (L : List (Option iV)) (st : List iV) (h : iH) (Q : Option iV → iH → Prop), G sp sc [36] d mX12_leave (n + 1) 38 L st h Q = (match ld L 0 with | some (.inr (.inr (r + 1))) => G sp sc [36] d mX12_leave n 39 L (.inr (.inr (r + 1)) :: st) h Q | _ => False)) ∧
  (∀ (n d : Nat) (L : List (Option iV)) (r : List iV) (m : Nat) (h : iH) (Q : Option iV → iH → Prop), G sp sc [36] d mX12_leave (n + 1) 39 L (.inr (.inr (m + 2)) :: r) h Q = (match h.1[m]? with | some (.inl (ci, fs)) => (match lkF 12 61 ci with | some k => (match fs[k]? with | some v => G sp sc [36] d mX12_leave n 42 L (v :: r) h Q | none => False) | none => False) | _ => False)) ∧
  (∀ (n d : Nat) (L : List (Option iV)) (st : List iV) (h : iH) (Q : Option iV → iH → Prop), G sp sc [36] d mX12_leave (n + 1) 42 L st h Q = (match ld L 1 with | some (.inl x) => G sp sc [36] d mX12_leave n 43 L (.inl x :: st) h Q | _ => False)) ∧
  (∀ (n d : Nat) (L : List (Option iV)) (r : List iV) (j : Int) (m : Nat) (h : iH) (Q : Option iV → iH → Prop), G sp sc [36] d mX12_leave (n + 1) 43 L (.inl j :: .inr (.inr (m + 2)) :: r) h Q = (match h.1[m]? with | some (.inr (.inl (0, xs))) => inA j xs.length = true ∧ G sp sc [36] d mX12_leave n 44 L (.inl (xs.getD j.toNat 0) :: r) h Q | _ => False)) ∧
  (∀ (n d : Nat) (L : List (Option iV)) (a : Int) (b : Int) (r : List iV) (h : iH) (Q : Option iV → iH → Prop), G sp sc [36] d mX12_leave (n + 1) 44 L (.inl b :: .inl a :: r) h Q = ((inI a = true ∧ inI b = true) ∧ (b ≤ a → G sp sc [36] d mX12_leave n 132 L r h Q) ∧ (¬ (b ≤ a) → G sp sc [36] d mX12_leave n 47 L r h Q))) ∧
  (∀ (n d : Nat) (L : List (Option iV)) (st : List iV) (h : iH) (Q : Option iV → iH → Prop), G sp sc [36] d mX12_leave (n + 1) 47 L st h Q = (match ld L 0 with | some (.inr (.inr (r + 1))) => G sp sc [36] d mX12_leave n 48 L (.inr (.inr (r + 1)) :: st) h Q | _ => False)) ∧
  (∀ (n d : Nat) (L : List (Option iV)) (r : List iV) (m : Nat) (h : iH) (Q : Option iV → iH → Prop), G sp sc [36] d mX12_leave (n + 1) 48 L (.inr (.inr (m + 2)) :: r) h Q = (match h.1[m]? with | some (.inl (ci, fs)) => (match lkF 12 64 ci with | some k => (match fs[k]? with | some v => G sp sc [36] d mX12_leave n 51 L (v :: r) h Q | none => False) | none => False) | _ => False)) ∧
  (∀ (n d : Nat) (L : List (Option iV)) (st : List iV) (h : iH) (Q : Option iV → iH → Prop), G sp sc [36] d mX12_leave (n + 1) 51 L st h Q = ((-128 ≤ (100 : Int) ∧ (100 : Int) < 128) ∧ G sp sc [36] d mX12_leave n 53 L (.inl 100 :: st) h Q)) ∧
  (∀ (n d : Nat) (L : List (Option iV)) (st : List iV) (h : iH) (Q : Option iV → iH → Prop), G sp sc [36] d mX12_leave (n + 1) 53 L st h Q = (match ld L 1 with | some (.inl x) => G sp sc [36] d mX12_leave n 54 L (.inl x :: st) h Q | _ => False)) ∧
  (∀ (n d : Nat) (L : List (Option iV)) (a : Int) (b : Int) (r : List iV) (h : iH) (Q : Option iV → iH → Prop), G sp sc [36] d mX12_leave (n + 1) 54 L (.inl b :: .inl a :: r) h Q = G sp sc [36] d mX12_leave n 55 L (.inl (a * b) :: r) h Q) ∧
  (∀ (n d : Nat) (L : List (Option iV)) (st : List iV) (h : iH) (Q : Option iV → iH → Prop), G sp sc [36] d mX12_leave (n + 1) 55 L st h Q = (match ld L 4 with | some (.inl x) => G sp sc [36] d mX12_leave n 57 L (.inl x :: st) h Q | _ => False)) ∧
  (∀ (n d : Nat) (L : List (Option iV)) (a : Int) (b : Int) (r : List iV) (h : iH) (Q : Option iV → iH → Prop), G sp sc [36] d mX12_leave (n + 1) 57 L (.inl b :: .inl a :: r) h Q = G sp sc [36] d mX12_leave n 58 L (.inl (a + b) :: r) h Q) ∧
  (∀ (n d : Nat) (L : List (Option iV)) (r : List iV) (j : Int) (m : Nat) (h : iH) (Q : Option iV → iH → Prop), G sp sc [36] d mX12_leave (n + 1) 58 L (.inl j :: .inr (.inr (m + 2)) :: r) h Q = (match h.1[m]? with | some (.inr (.inl (0, xs))) => inA j xs.length = true ∧ G sp sc [36] d mX12_leave n 59 L (.inl (xs.getD j.toNat 0) :: r) h Q | _ => False)) ∧
  (∀ (n d : Nat) (L : List (Option iV)) (r : List iV) (x : Int) (h : iH) (Q : Option iV → iH → Prop), G sp sc [36] d mX12_leave (n + 1) 59 L (.inl x :: r) h Q = (match st1 L 5 (.inl x) with | some L' => G sp sc [36] d mX12_leave n 61 L' r h Q | none => False)) ∧
  (∀ (n d : Nat) (L : List (Option iV)) (st : List iV) (h : iH) (Q : Option iV → iH → Prop), G sp sc [36] d mX12_leave (n + 1) 61 L st h Q = (match ld L 5 with | some (.inl x) => G sp sc [36] d mX12_leave n 63 L (.inl x :: st) h Q | _ => False)) ∧
  (∀ (n d : Nat) (L : List (Option iV)) (st : List iV) (h : iH) (Q : Option iV → iH → Prop), G sp sc [36] d mX12_leave (n + 1) 63 L st h Q = G sp sc [36] d mX12_leave n 64 L (.inl (-1) :: st) h Q) ∧
  (∀ (n d : Nat) (L : List (Option iV)) (st : List iV) (h : iH) (Q : Option iV → iH → Prop), G sp sc [36] d mX12_leave (n + 1) 64 L st h Q = (match ld L 0 with | some (.inr (.inr (r + 1))) => G sp sc [36] d mX12_leave n 65 L (.inr (.inr (r + 1)) :: st) h Q | _ => False)) ∧
  (∀ (n d : Nat) (L : List (Option iV)) (r : List iV) (m : Nat) (h : iH) (Q : Option iV → iH → Prop), G sp sc [36] d mX12_leave (n + 1) 65 L (.inr (.inr (m + 2)) :: r) h Q = (match h.1[m]? with | some (.inl (ci, fs)) => (match lkF 12 9 ci with | some k => (match fs[k]? with | some v => G sp sc [36] d mX12_leave n 68 L (v :: r) h Q | none => False) | none => False) | _ => False)) ∧
  (∀ (n d : Nat) (L : List (Option iV)) (st : List iV) (h : iH) (Q : Option iV → iH → Prop), G sp sc [36] d mX12_leave (n + 1) 68 L st h Q = G sp sc [36] d mX12_leave n 69 L (.inl 1 :: st) h Q) ∧
  (∀ (n d : Nat) (L : List (Option iV)) (r : List iV) (j : Int) (m : Nat) (h : iH) (Q : Option iV → iH → Prop), G sp sc [36] d mX12_leave (n + 1) 69 L (.inl j :: .inr (.inr (m + 2)) :: r) h Q = (match h.1[m]? with | some (.inr (.inl (0, xs))) => inA j xs.length = true ∧ G sp sc [36] d mX12_leave n 70 L (.inl (xs.getD j.toNat 0) :: r) h Q | _ => False)) ∧
  (∀ (n d : Nat) (L : List (Option iV)) (st : List iV) (h : iH) (Q : Option iV → iH → Prop), G sp sc [36] d mX12_leave (n + 1) 70 L st h Q = G sp sc [36] d mX12_leave n 71 L (.inl 1 :: st) h Q) ∧
  (∀ (n d : Nat) (L : List (Option iV)) (a : Int) (b : Int) (r : List iV) (h : iH) (Q : Option iV → iH → Prop), G sp sc [36] d mX12_leave (n + 1) 71 L (.inl b :: .inl a :: r) h Q = G sp sc [36] d mX12_leave n 72 L (.inl (a - b) :: r) h Q) ∧
  (∀ (n d : Nat) (L : List (Option iV)) (r : List iV) (z0 : iV) (z1 : iV) (z2 : iV) (h : iH) (Q : Option iV → iH → Prop), G sp sc [36] (d + 1) mX12_leave (n + 1) 72 L (z2 :: z1 :: z0 :: r) h Q = (cs r ≤ 8 ∧ Call sp sc d mX12_isIn [z0, z1, z2] h (fun q h1 => GC sp sc [36] (d + 1) mX12_leave n 75 L q r h h1 Q))) ∧
  (∀ (n d : Nat) (L : List (Option iV)) (a : Int) (r : List iV) (h : iH) (Q : Option iV → iH → Prop), G sp sc [36] d mX12_leave (n + 1) 75 L (.inl a :: r) h Q = (inI a = true ∧ (a = 0 → G sp sc [36] d mX12_leave n 92 L r h Q) ∧ (¬ (a = 0) → G sp sc [36] d mX12_leave n 78 L r h Q))) ∧
  (∀ (n d : Nat) (L : List (Option iV)) (st : List iV) (h : iH) (Q : Option iV → iH → Prop), G sp sc [36] d mX12_leave (n + 1) 78 L st h Q = (match ld L 5 with | some (.inl x) => G sp sc [36] d mX12_leave n 80 L (.inl x :: st) h Q | _ => False)) ∧
  (∀ (n d : Nat) (L : List (Option iV)) (a : Int) (r : List iV) (h : iH) (Q : Option iV → iH → Prop), G sp sc [36] d mX12_leave (n + 1) 80 L (.inl a :: r) h Q = (inI a = true ∧ (a < 0 → G sp sc [36] d mX12_leave n 95 L r h Q) ∧ (¬ (a < 0) → G sp sc [36] d mX12_leave n 83 L r h Q))) ∧
  (∀ (n d : Nat) (L : List (Option iV)) (st : List iV) (h : iH) (Q : Option iV → iH → Prop), G sp sc [36] d mX12_leave (n + 1) 83 L st h Q = (match ld L 3 with | some (.inl x) => G sp sc [36] d mX12_leave n 84 L (.inl x :: st) h Q | _ => False)) ∧
  (∀ (n d : Nat) (L : List (Option iV)) (st : List iV) (h : iH) (Q : Option iV → iH → Prop), G sp sc [36] d mX12_leave (n + 1) 84 L st h Q = (match ld L 5 with | some (.inl x) => G sp sc [36] d mX12_leave n 86 L (.inl x :: st) h Q | _ => False)) ∧
  (∀ (n d : Nat) (L : List (Option iV)) (r : List iV) (z0 : iV) (z1 : iV) (h : iH) (Q : Option iV → iH → Prop), G sp sc [36] (d + 1) mX12_leave (n + 1) 86 L (z1 :: z0 :: r) h Q = (cs r ≤ 8 ∧ Call sp sc d mX12_has [z0, z1] h (fun q h1 => GC sp sc [36] (d + 1) mX12_leave n 89 L q r h h1 Q))) ∧
  (∀ (n d : Nat) (L : List (Option iV)) (a : Int) (r : List iV) (h : iH) (Q : Option iV → iH → Prop), G sp sc [36] d mX12_leave (n + 1) 89 L (.inl a :: r) h Q = (inI a = true ∧ (a = 0 → G sp sc [36] d mX12_leave n 95 L r h Q) ∧ (¬ (a = 0) → G sp sc [36] d mX12_leave n 92 L r h Q))) ∧
  (∀ (n d : Nat) (L : List (Option iV)) (st : List iV) (h : iH) (Q : Option iV → iH → Prop), G sp sc [36] d mX12_leave (n + 1) 92 L st h Q = ((-128 ≤ ((-13) : Int) ∧ ((-13) : Int) < 128) ∧ G sp sc [36] d mX12_leave n 94 L (.inl (-13) :: st) h Q)) ∧
  (∀ (n d : Nat) (L : List (Option iV)) (a : Int) (h : iH) (Q : Option iV → iH → Prop), G sp sc [36] d mX12_leave (n + 1) 94 L [.inl a] h Q = Q (some (.inl a)) h) ∧
  (∀ (n d : Nat) (L : List (Option iV)) (st : List iV) (h : iH) (Q : Option iV → iH → Prop), G sp sc [36] d mX12_leave (n + 1) 95 L st h Q = (match ld L 5 with | some (.inl x) => G sp sc [36] d mX12_leave n 97 L (.inl x :: st) h Q | _ => False)) ∧
  (∀ (n d : Nat) (L : List (Option iV)) (a : Int) (r : List iV) (h : iH) (Q : Option iV → iH → Prop), G sp sc [36] d mX12_leave (n + 1) 97 L (.inl a :: r) h Q = (inI a = true ∧ (a < 0 → G sp sc [36] d mX12_leave n 107 L r h Q) ∧ (¬ (a < 0) → G sp sc [36] d mX12_leave n 100 L r h Q))) ∧
  (∀ (n d : Nat) (L : List (Option iV)) (st : List iV) (h : iH) (Q : Option iV → iH → Prop), G sp sc [36] d mX12_leave (n + 1) 100 L st h Q = (match ld L 3 with | some (.inl x) => G sp sc [36] d mX12_leave n 101 L (.inl x :: st) h Q | _ => False)) ∧
  (∀ (n d : Nat) (L : List (Option iV)) (st : List iV) (h : iH) (Q : Option iV → iH → Prop), G sp sc [36] d mX12_leave (n + 1) 101 L st h Q = G sp sc [36] d mX12_leave n 102 L (.inl 1 :: st) h Q) ∧
  (∀ (n d : Nat) (L : List (Option iV)) (st : List iV) (h : iH) (Q : Option iV → iH → Prop), G sp sc [36] d mX12_leave (n + 1) 102 L st h Q = (match ld L 5 with | some (.inl x) => G sp sc [36] d mX12_leave n 104 L (.inl x :: st) h Q | _ => False)) ∧
  (∀ (n d : Nat) (L : List (Option iV)) (a : Int) (b : Int) (r : List iV) (h : iH) (Q : Option iV → iH → Prop), G sp sc [36] d mX12_leave (n + 1) 104 L (.inl b :: .inl a :: r) h Q = G sp sc [36] d mX12_leave n 105 L (.inl (bShl a b) :: r) h Q) ∧
  (∀ (n d : Nat) (L : List (Option iV)) (a : Int) (b : Int) (r : List iV) (h : iH) (Q : Option iV → iH → Prop), G sp sc [36] d mX12_leave (n + 1) 105 L (.inl b :: .inl a :: r) h Q = G sp sc [36] d mX12_leave n 106 L (.inl (bOr a b) :: r) h Q) ∧
  (∀ (n d : Nat) (L : List (Option iV)) (r : List iV) (x : Int) (h : iH) (Q : Option iV → iH → Prop), G sp sc [36] d mX12_leave (n + 1) 106 L (.inl x :: r) h Q = (match st1 L 3 (.inl x) with | some L' => G sp sc [36] d mX12_leave n 107 L' r h Q | none => False)) ∧
  (∀ (n d : Nat) (L : List (Option iV)) (st : List iV) (h : iH) (Q : Option iV → iH → Prop), G sp sc [36] d mX12_leave (n + 1) 107 L st h Q = (match ld L 0 with | some (.inr (.inr (r + 1))) => G sp sc [36] d mX12_leave n 108 L (.inr (.inr (r + 1)) :: st) h Q | _ => False)) ∧
  (∀ (n d : Nat) (L : List (Option iV)) (r : List iV) (m : Nat) (h : iH) (Q : Option iV → iH → Prop), G sp sc [36] d mX12_leave (n + 1) 108 L (.inr (.inr (m + 2)) :: r) h Q = (match h.1[m]? with | some (.inl (ci, fs)) => (match lkF 12 34 ci with | some k => (match fs[k]? with | some v => G sp sc [36] d mX12_leave n 111 L (v :: r) h Q | none => False) | none => False) | _ => False)) ∧
  (∀ (n d : Nat) (L : List (Option iV)) (st : List iV) (h : iH) (Q : Option iV → iH → Prop), G sp sc [36] d mX12_leave (n + 1) 111 L st h Q = (match ld L 4 with | some (.inl x) => G sp sc [36] d mX12_leave n 113 L (.inl x :: st) h Q | _ => False)) ∧
  (∀ (n d : Nat) (L : List (Option iV)) (st : List iV) (h : iH) (Q : Option iV → iH → Prop), G sp sc [36] d mX12_leave (n + 1) 113 L st h Q = (match ld L 5 with | some (.inl x) => G sp sc [36] d mX12_leave n 115 L (.inl x :: st) h Q | _ => False)) ∧
  (∀ (n d : Nat) (L : List (Option iV)) (a : Int) (r : List iV) (h : iH) (Q : Option iV → iH → Prop), G sp sc [36] d mX12_leave (n + 1) 115 L (.inl a :: r) h Q = (inI a = true ∧ (0 ≤ a → G sp sc [36] d mX12_leave n 123 L r h Q) ∧ (¬ (0 ≤ a) → G sp sc [36] d mX12_leave n 118 L r h Q))) ∧
  (∀ (n d : Nat) (L : List (Option iV)) (st : List iV) (h : iH) (Q : Option iV → iH → Prop), G sp sc [36] d mX12_leave (n + 1) 118 L st h Q = ((-128 ≤ ((-4) : Int) ∧ ((-4) : Int) < 128) ∧ G sp sc [36] d mX12_leave n 120 L (.inl (-4) :: st) h Q)) ∧
  (∀ (n d : Nat) (L : List (Option iV)) (st : List iV) (h : iH) (Q : Option iV → iH → Prop), G sp sc [36] d mX12_leave (n + 1) 120 L st h Q = G sp sc [36] d mX12_leave n 125 L st h Q) ∧
  (∀ (n d : Nat) (L : List (Option iV)) (st : List iV) (h : iH) (Q : Option iV → iH → Prop), G sp sc [36] d mX12_leave (n + 1) 123 L st h Q = (match ld L 5 with | some (.inl x) => G sp sc [36] d mX12_leave n 125 L (.inl x :: st) h Q | _ => False)) ∧
  (∀ (n d : Nat) (L : List (Option iV)) (r : List iV) (v : Int) (j : Int) (m : Nat) (h : iH) (Q : Option iV → iH → Prop), G sp sc [36] d mX12_leave (n + 1) 125 L (.inl v :: .inl j :: .inr (.inr (m + 2)) :: r) h Q = (match h.1[m]? with | some (.inr (.inl (0, xs))) => inA j xs.length = true ∧ G sp sc [36] d mX12_leave n 126 L r (h.1.set m (.inr (.inl (0, xs.set j.toNat v))), h.2) Q | _ => False)) ∧
  (∀ (n d : Nat) (L : List (Option iV)) (st : List iV) (h : iH) (Q : Option iV → iH → Prop), G sp sc [36] d mX12_leave (n + 1) 126 L st h Q = (match ld L 4 with | some (.inl x) => (match st1 L 4 (.inl (x + 1)) with | some L' => G sp sc [36] d mX12_leave n 129 L' st h Q | none => False) | _ => False)) ∧
  (∀ (n d : Nat) (L : List (Option iV)) (st : List iV) (h : iH) (Q : Option iV → iH → Prop), G sp sc [36] d mX12_leave (n + 1) 129 L st h Q = Run sp sc d mX12_leave 36 L st h Q) ∧
  (∀ (n d : Nat) (L : List (Option iV)) (st : List iV) (h : iH) (Q : Option iV → iH → Prop), G sp sc [36] d mX12_leave (n + 1) 132 L st h Q = (match ld L 0 with | some (.inr (.inr (r + 1))) => G sp sc [36] d mX12_leave n 133 L (.inr (.inr (r + 1)) :: st) h Q | _ => False)) ∧
  (∀ (n d : Nat) (L : List (Option iV)) (r : List iV) (m : Nat) (h : iH) (Q : Option iV → iH → Prop), G sp sc [36] (d + 1) mX12_leave (n + 1) 133 L (.inr (.inr (m + 2)) :: r) h Q = (match h.1[m]? with | some (.inl (ci, _)) => (match lkC 12 236 ci with | some (y1, n1, kd) => (n1 = 0 ∧ (kd = 2 ∨ kd = 3 ∨ kd = 8) ∧ cs r ≤ 8) ∧ Call sp sc d y1 [.inr (.inr (m + 2))] h (fun q h1 => GC sp sc [36] (d + 1) mX12_leave n 136 L q r h h1 Q) | none => False) | _ => False)) ∧
  (∀ (n d : Nat) (L : List (Option iV)) (a : Int) (h : iH) (Q : Option iV → iH → Prop), G sp sc [36] d mX12_leave (n + 1) 136 L [.inl a] h Q = Q (some (.inl a)) h) ∧
  lkC 12 184 12 = some (mX12_wrongRow, 2, 2) ∧
  lkC 12 236 12 = some (mX12_leaving, 0, 2) ∧
  lkF 12 34 12 = some 18 ∧
  lkF 12 61 12 = some 30 ∧
  lkF 12 64 12 = some 31 ∧
  lkF 12 9 12 = some 0 := ⟨by intros; exact G_at (by decide +kernel : fetch mX12_leave 0 = some (.aload_n 0)),
  by intros; exact G_at (by decide +kernel : fetch mX12_leave 1 = some (.iload_n 1)),
  by intros; exact G_at (by decide +kernel : fetch mX12_leave 2 = some (.iconst (-1))),
  by intros; exact G_callV (by decide +kernel : fetch mX12_leave 3 = some (.invokevirtual 184)) (by decide +kernel) (by decide +kernel) rfl,
  by intros; exact G_at (by decide +kernel : fetch mX12_leave 6 = some (.istore_n 2)),
  by intros; exact G_at (by decide +kernel : fetch mX12_leave 7 = some (.iload_n 2)),
  by intros; exact G_at (by decide +kernel : fetch mX12_leave 8 = some (.ifCond .eq 5)),
  by intros; exact G_at (by decide +kernel : fetch mX12_leave 11 = some (.iload_n 2)),
  by intros; exact G_reti (by decide +kernel : fetch mX12_leave 12 = some (.ireturn)) (by decide +kernel),
  by intros; exact G_at (by decide +kernel : fetch mX12_leave 13 = some (.aload_n 0)),
  by intros; exact G_own (by decide +kernel : fetch mX12_leave 14 = some (.getfield 61)) (by decide +kernel),
  by intros; exact G_at (by decide +kernel : fetch mX12_leave 17 = some (.iload_n 1)),
  by intros; exact G_at (by decide +kernel : fetch mX12_leave 18 = some (.iaload)),
  by intros; exact G_at (by decide +kernel : fetch mX12_leave 19 = some (.aload_n 0)),
  by intros; exact G_own (by decide +kernel : fetch mX12_leave 20 = some (.getfield 9)) (by decide +kernel),
  by intros; exact G_at (by decide +kernel : fetch mX12_leave 23 = some (.iconst 0)),
  by intros; exact G_at (by decide +kernel : fetch mX12_leave 24 = some (.iaload)),
  by intros; exact G_at (by decide +kernel : fetch mX12_leave 25 = some (.if_icmp .eq 6)),
  by intros; exact G_at (by decide +kernel : fetch mX12_leave 28 = some (.bipush (-13))),
  by intros; exact G_reti (by decide +kernel : fetch mX12_leave 30 = some (.ireturn)) (by decide +kernel),
  by intros; exact G_at (by decide +kernel : fetch mX12_leave 31 = some (.iconst 0)),
  by intros; exact G_at (by decide +kernel : fetch mX12_leave 32 = some (.istore_n 3)),
  by intros; exact G_at (by decide +kernel : fetch mX12_leave 33 = some (.iconst 0)),
  by intros; exact G_at (by decide +kernel : fetch mX12_leave 34 = some (.istore 4)),
  by intros; exact G_at (by decide +kernel : fetch mX12_leave 36 = some (.iload 4)),
  by intros; exact G_at (by decide +kernel : fetch mX12_leave 38 = some (.aload_n 0)),
  by intros; exact G_own (by decide +kernel : fetch mX12_leave 39 = some (.getfield 61)) (by decide +kernel),
  by intros; exact G_at (by decide +kernel : fetch mX12_leave 42 = some (.iload_n 1)),
  by intros; exact G_at (by decide +kernel : fetch mX12_leave 43 = some (.iaload)),
  by intros; exact G_at (by decide +kernel : fetch mX12_leave 44 = some (.if_icmp .ge 88)),
  by intros; exact G_at (by decide +kernel : fetch mX12_leave 47 = some (.aload_n 0)),
  by intros; exact G_own (by decide +kernel : fetch mX12_leave 48 = some (.getfield 64)) (by decide +kernel),
  by intros; exact G_at (by decide +kernel : fetch mX12_leave 51 = some (.bipush 100)),
  by intros; exact G_at (by decide +kernel : fetch mX12_leave 53 = some (.iload_n 1)),
  by intros; exact G_at (by decide +kernel : fetch mX12_leave 54 = some (.imul)),
  by intros; exact G_at (by decide +kernel : fetch mX12_leave 55 = some (.iload 4)),
  by intros; exact G_at (by decide +kernel : fetch mX12_leave 57 = some (.iadd)),
  by intros; exact G_at (by decide +kernel : fetch mX12_leave 58 = some (.iaload)),
  by intros; exact G_at (by decide +kernel : fetch mX12_leave 59 = some (.istore 5)),
  by intros; exact G_at (by decide +kernel : fetch mX12_leave 61 = some (.iload 5)),
  by intros; exact G_at (by decide +kernel : fetch mX12_leave 63 = some (.iconst (-1))),
  by intros; exact G_at (by decide +kernel : fetch mX12_leave 64 = some (.aload_n 0)),
  by intros; exact G_own (by decide +kernel : fetch mX12_leave 65 = some (.getfield 9)) (by decide +kernel),
  by intros; exact G_at (by decide +kernel : fetch mX12_leave 68 = some (.iconst 1)),
  by intros; exact G_at (by decide +kernel : fetch mX12_leave 69 = some (.iaload)),
  by intros; exact G_at (by decide +kernel : fetch mX12_leave 70 = some (.iconst 1)),
  by intros; exact G_at (by decide +kernel : fetch mX12_leave 71 = some (.isub)),
  by intros; exact G_callS (k := 3) (kd := 0) (by decide +kernel : fetch mX12_leave 72 = some (.invokestatic 67)) (by decide +kernel) (by decide +kernel) (by decide +kernel) rfl (by decide),
  by intros; exact G_at (by decide +kernel : fetch mX12_leave 75 = some (.ifCond .eq 17)),
  by intros; exact G_at (by decide +kernel : fetch mX12_leave 78 = some (.iload 5)),
  by intros; exact G_at (by decide +kernel : fetch mX12_leave 80 = some (.ifCond .lt 15)),
  by intros; exact G_at (by decide +kernel : fetch mX12_leave 83 = some (.iload_n 3)),
  by intros; exact G_at (by decide +kernel : fetch mX12_leave 84 = some (.iload 5)),
  by intros; exact G_callS (k := 2) (kd := 0) (by decide +kernel : fetch mX12_leave 86 = some (.invokestatic 131)) (by decide +kernel) (by decide +kernel) (by decide +kernel) rfl (by decide),
  by intros; exact G_at (by decide +kernel : fetch mX12_leave 89 = some (.ifCond .eq 6)),
  by intros; exact G_at (by decide +kernel : fetch mX12_leave 92 = some (.bipush (-13))),
  by intros; exact G_reti (by decide +kernel : fetch mX12_leave 94 = some (.ireturn)) (by decide +kernel),
  by intros; exact G_at (by decide +kernel : fetch mX12_leave 95 = some (.iload 5)),
  by intros; exact G_at (by decide +kernel : fetch mX12_leave 97 = some (.ifCond .lt 10)),
  by intros; exact G_at (by decide +kernel : fetch mX12_leave 100 = some (.iload_n 3)),
  by intros; exact G_at (by decide +kernel : fetch mX12_leave 101 = some (.iconst 1)),
  by intros; exact G_at (by decide +kernel : fetch mX12_leave 102 = some (.iload 5)),
  by intros; exact G_at (by decide +kernel : fetch mX12_leave 104 = some (.ishl)),
  by intros; exact G_at (by decide +kernel : fetch mX12_leave 105 = some (.ior)),
  by intros; exact G_at (by decide +kernel : fetch mX12_leave 106 = some (.istore_n 3)),
  by intros; exact G_at (by decide +kernel : fetch mX12_leave 107 = some (.aload_n 0)),
  by intros; exact G_own (by decide +kernel : fetch mX12_leave 108 = some (.getfield 34)) (by decide +kernel),
  by intros; exact G_at (by decide +kernel : fetch mX12_leave 111 = some (.iload 4)),
  by intros; exact G_at (by decide +kernel : fetch mX12_leave 113 = some (.iload 5)),
  by intros; exact G_at (by decide +kernel : fetch mX12_leave 115 = some (.ifCond .ge 8)),
  by intros; exact G_at (by decide +kernel : fetch mX12_leave 118 = some (.bipush (-4))),
  by intros; exact G_at (by decide +kernel : fetch mX12_leave 120 = some (.goto 5)),
  by intros; exact G_at (by decide +kernel : fetch mX12_leave 123 = some (.iload 5)),
  by intros; exact G_at (by decide +kernel : fetch mX12_leave 125 = some (.iastore)),
  by intros; exact G_at (by decide +kernel : fetch mX12_leave 126 = some (.iinc 4 1)),
  by intros; exact G_at (by decide +kernel : fetch mX12_leave 129 = some (.goto (-93))),
  by intros; exact G_at (by decide +kernel : fetch mX12_leave 132 = some (.aload_n 0)),
  by intros; exact G_callV (by decide +kernel : fetch mX12_leave 133 = some (.invokevirtual 236)) (by decide +kernel) (by decide +kernel) rfl,
  by intros; exact G_reti (by decide +kernel : fetch mX12_leave 136 = some (.ireturn)) (by decide +kernel),
  by decide +kernel,
  by decide +kernel,
  by decide +kernel,
  by decide +kernel,
  by decide +kernel,
  by decide +kernel⟩
theorem gX12_nextOf : (∀ (n d : Nat) (L : List (Option iV)) (st : List iV) (h : iH) (Q : Option iV → iH → Prop), G sp sc [6] d mX12_nextOf (n + 1) 0 L st h Q = ((-128 ≤ ((-4) : Int) ∧ ((-4) : Int) < 128) ∧ G sp sc [6] d mX12_nextOf n 2 L (.inl (-4) :: st) h Q)) ∧
  (∀ (n d : Nat) (L : List (Option iV)) (r : List iV) (x : Int) (h : iH) (Q : Option iV → iH → Prop), G sp sc [6] d mX12_nextOf (n + 1) 2 L (.inl x :: r) h Q = (match st1 L 3 (.inl x) with | some L' => G sp sc [6] d mX12_nextOf n 3 L' r h Q | none => False)) ∧
  (∀ (n d : Nat) (L : List (Option iV)) (st : List iV) (h : iH) (Q : Option iV → iH → Prop), G sp sc [6] d mX12_nextOf (n + 1) 3 L st h Q = G sp sc [6] d mX12_nextOf n 4 L (.inl 0 :: st) h Q) ∧
  (∀ (n d : Nat) (L : List (Option iV)) (r : List iV) (x : Int) (h : iH) (Q : Option iV → iH → Prop), G sp sc [6] d mX12_nextOf (n + 1) 4 L (.inl x :: r) h Q = (match st1 L 4 (.inl x) with | some L' => Run sp sc d mX12_nextOf 6 L' r h Q | none => False)) ∧
  (∀ (n d : Nat) (L : List (Option iV)) (st : List iV) (h : iH) (Q : Option iV → iH → Prop), G sp sc [6] d mX12_nextOf (n + 1) 6 L st h Q = (match ld L 4 with | some (.inl x) => G sp sc [6] d mX12_nextOf n 8 L (.inl x :: st) h Q | _ => False)) ∧
  (∀ (n d : Nat) (L : List (Option iV)) (st : List iV) (h : iH) (Q : Option iV → iH → Prop), G sp sc [6] d mX12_nextOf (n + 1) 8 L st h Q = (match ld L 0 with | some (.inr (.inr (r + 1))) => G sp sc [6] d mX12_nextOf n 9 L (.inr (.inr (r + 1)) :: st) h Q | _ => False)) ∧
  (∀ (n d : Nat) (L : List (Option iV)) (r : List iV) (m : Nat) (h : iH) (Q : Option iV → iH → Prop), G sp sc [6] d mX12_nextOf (n + 1) 9 L (.inr (.inr (m + 2)) :: r) h Q = (match h.1[m]? with | some (.inl (ci, fs)) => (match lkF 12 9 ci with | some k => (match fs[k]? with | some v => G sp sc [6] d mX12_nextOf n 12 L (v :: r) h Q | none => False) | none => False) | _ => False)) ∧
  (∀ (n d : Nat) (L : List (Option iV)) (st : List iV) (h : iH) (Q : Option iV → iH → Prop), G sp sc [6] d mX12_nextOf (n + 1) 12 L st h Q = G sp sc [6] d mX12_nextOf n 13 L (.inl 1 :: st) h Q) ∧
  (∀ (n d : Nat) (L : List (Option iV)) (r : List iV) (j : Int) (m : Nat) (h : iH) (Q : Option iV → iH → Prop), G sp sc [6] d mX12_nextOf (n + 1) 13 L (.inl j :: .inr (.inr (m + 2)) :: r) h Q = (match h.1[m]? with | some (.inr (.inl (0, xs))) => inA j xs.length = true ∧ G sp sc [6] d mX12_nextOf n 14 L (.inl (xs.getD j.toNat 0) :: r) h Q | _ => False)) ∧
  (∀ (n d : Nat) (L : List (Option iV)) (a : Int) (b : Int) (r : List iV) (h : iH) (Q : Option iV → iH → Prop), G sp sc [6] d mX12_nextOf (n + 1) 14 L (.inl b :: .inl a :: r) h Q = ((inI a = true ∧ inI b = true) ∧ (b ≤ a → G sp sc [6] d mX12_nextOf n 65 L r h Q) ∧ (¬ (b ≤ a) → G sp sc [6] d mX12_nextOf n 17 L r h Q))) ∧
  (∀ (n d : Nat) (L : List (Option iV)) (st : List iV) (h : iH) (Q : Option iV → iH → Prop), G sp sc [6] d mX12_nextOf (n + 1) 17 L st h Q = (match ld L 2 with | some (.inl x) => G sp sc [6] d mX12_nextOf n 18 L (.inl x :: st) h Q | _ => False)) ∧
  (∀ (n d : Nat) (L : List (Option iV)) (st : List iV) (h : iH) (Q : Option iV → iH → Prop), G sp sc [6] d mX12_nextOf (n + 1) 18 L st h Q = (match ld L 4 with | some (.inl x) => G sp sc [6] d mX12_nextOf n 20 L (.inl x :: st) h Q | _ => False)) ∧
  (∀ (n d : Nat) (L : List (Option iV)) (r : List iV) (z0 : iV) (z1 : iV) (h : iH) (Q : Option iV → iH → Prop), G sp sc [6] (d + 1) mX12_nextOf (n + 1) 20 L (z1 :: z0 :: r) h Q = (cs r ≤ 8 ∧ Call sp sc d mX12_has [z0, z1] h (fun q h1 => GC sp sc [6] (d + 1) mX12_nextOf n 23 L q r h h1 Q))) ∧
  (∀ (n d : Nat) (L : List (Option iV)) (a : Int) (r : List iV) (h : iH) (Q : Option iV → iH → Prop), G sp sc [6] d mX12_nextOf (n + 1) 23 L (.inl a :: r) h Q = (inI a = true ∧ (¬ a = 0 → G sp sc [6] d mX12_nextOf n 59 L r h Q) ∧ (¬ (¬ a = 0) → G sp sc [6] d mX12_nextOf n 26 L r h Q))) ∧
  (∀ (n d : Nat) (L : List (Option iV)) (st : List iV) (h : iH) (Q : Option iV → iH → Prop), G sp sc [6] d mX12_nextOf (n + 1) 26 L st h Q = (match ld L 3 with | some (.inl x) => G sp sc [6] d mX12_nextOf n 27 L (.inl x :: st) h Q | _ => False)) ∧
  (∀ (n d : Nat) (L : List (Option iV)) (a : Int) (r : List iV) (h : iH) (Q : Option iV → iH → Prop), G sp sc [6] d mX12_nextOf (n + 1) 27 L (.inl a :: r) h Q = (inI a = true ∧ (a < 0 → G sp sc [6] d mX12_nextOf n 56 L r h Q) ∧ (¬ (a < 0) → G sp sc [6] d mX12_nextOf n 30 L r h Q))) ∧
  (∀ (n d : Nat) (L : List (Option iV)) (st : List iV) (h : iH) (Q : Option iV → iH → Prop), G sp sc [6] d mX12_nextOf (n + 1) 30 L st h Q = (match ld L 0 with | some (.inr (.inr (r + 1))) => G sp sc [6] d mX12_nextOf n 31 L (.inr (.inr (r + 1)) :: st) h Q | _ => False)) ∧
  (∀ (n d : Nat) (L : List (Option iV)) (r : List iV) (m : Nat) (h : iH) (Q : Option iV → iH → Prop), G sp sc [6] d mX12_nextOf (n + 1) 31 L (.inr (.inr (m + 2)) :: r) h Q = (match h.1[m]? with | some (.inl (ci, fs)) => (match lkF 12 9 ci with | some k => (match fs[k]? with | some v => G sp sc [6] d mX12_nextOf n 34 L (v :: r) h Q | none => False) | none => False) | _ => False)) ∧
  (∀ (n d : Nat) (L : List (Option iV)) (st : List iV) (h : iH) (Q : Option iV → iH → Prop), G sp sc [6] d mX12_nextOf (n + 1) 34 L st h Q = G sp sc [6] d mX12_nextOf n 35 L (.inl 0 :: st) h Q) ∧
  (∀ (n d : Nat) (L : List (Option iV)) (st : List iV) (h : iH) (Q : Option iV → iH → Prop), G sp sc [6] d mX12_nextOf (n + 1) 35 L st h Q = (match ld L 1 with | some (.inl x) => G sp sc [6] d mX12_nextOf n 36 L (.inl x :: st) h Q | _ => False)) ∧
  (∀ (n d : Nat) (L : List (Option iV)) (st : List iV) (h : iH) (Q : Option iV → iH → Prop), G sp sc [6] d mX12_nextOf (n + 1) 36 L st h Q = (match ld L 4 with | some (.inl x) => G sp sc [6] d mX12_nextOf n 38 L (.inl x :: st) h Q | _ => False)) ∧
  (∀ (n d : Nat) (L : List (Option iV)) (r : List iV) (z0 : iV) (z1 : iV) (z2 : iV) (h : iH) (Q : Option iV → iH → Prop), G sp sc [6] (d + 1) mX12_nextOf (n + 1) 38 L (z2 :: z1 :: z0 :: r) h Q = (cs r ≤ 8 ∧ Call sp sc d mX12_atLike [z0, z1, z2] h (fun q h1 => GC sp sc [6] (d + 1) mX12_nextOf n 41 L q r h h1 Q))) ∧
  (∀ (n d : Nat) (L : List (Option iV)) (r : List iV) (j : Int) (m : Nat) (h : iH) (Q : Option iV → iH → Prop), G sp sc [6] d mX12_nextOf (n + 1) 41 L (.inl j :: .inr (.inr (m + 2)) :: r) h Q = (match h.1[m]? with | some (.inr (.inl (0, xs))) => inA j xs.length = true ∧ G sp sc [6] d mX12_nextOf n 42 L (.inl (xs.getD j.toNat 0) :: r) h Q | _ => False)) ∧
  (∀ (n d : Nat) (L : List (Option iV)) (st : List iV) (h : iH) (Q : Option iV → iH → Prop), G sp sc [6] d mX12_nextOf (n + 1) 42 L st h Q = (match ld L 0 with | some (.inr (.inr (r + 1))) => G sp sc [6] d mX12_nextOf n 43 L (.inr (.inr (r + 1)) :: st) h Q | _ => False)) ∧
  (∀ (n d : Nat) (L : List (Option iV)) (r : List iV) (m : Nat) (h : iH) (Q : Option iV → iH → Prop), G sp sc [6] d mX12_nextOf (n + 1) 43 L (.inr (.inr (m + 2)) :: r) h Q = (match h.1[m]? with | some (.inl (ci, fs)) => (match lkF 12 9 ci with | some k => (match fs[k]? with | some v => G sp sc [6] d mX12_nextOf n 46 L (v :: r) h Q | none => False) | none => False) | _ => False)) ∧
  (∀ (n d : Nat) (L : List (Option iV)) (st : List iV) (h : iH) (Q : Option iV → iH → Prop), G sp sc [6] d mX12_nextOf (n + 1) 46 L st h Q = G sp sc [6] d mX12_nextOf n 47 L (.inl 0 :: st) h Q) ∧
  (∀ (n d : Nat) (L : List (Option iV)) (st : List iV) (h : iH) (Q : Option iV → iH → Prop), G sp sc [6] d mX12_nextOf (n + 1) 47 L st h Q = (match ld L 1 with | some (.inl x) => G sp sc [6] d mX12_nextOf n 48 L (.inl x :: st) h Q | _ => False)) ∧
  (∀ (n d : Nat) (L : List (Option iV)) (st : List iV) (h : iH) (Q : Option iV → iH → Prop), G sp sc [6] d mX12_nextOf (n + 1) 48 L st h Q = (match ld L 3 with | some (.inl x) => G sp sc [6] d mX12_nextOf n 49 L (.inl x :: st) h Q | _ => False)) ∧
  (∀ (n d : Nat) (L : List (Option iV)) (r : List iV) (z0 : iV) (z1 : iV) (z2 : iV) (h : iH) (Q : Option iV → iH → Prop), G sp sc [6] (d + 1) mX12_nextOf (n + 1) 49 L (z2 :: z1 :: z0 :: r) h Q = (cs r ≤ 8 ∧ Call sp sc d mX12_atLike [z0, z1, z2] h (fun q h1 => GC sp sc [6] (d + 1) mX12_nextOf n 52 L q r h h1 Q))) ∧
  (∀ (n d : Nat) (L : List (Option iV)) (r : List iV) (j : Int) (m : Nat) (h : iH) (Q : Option iV → iH → Prop), G sp sc [6] d mX12_nextOf (n + 1) 52 L (.inl j :: .inr (.inr (m + 2)) :: r) h Q = (match h.1[m]? with | some (.inr (.inl (0, xs))) => inA j xs.length = true ∧ G sp sc [6] d mX12_nextOf n 53 L (.inl (xs.getD j.toNat 0) :: r) h Q | _ => False)) ∧
  (∀ (n d : Nat) (L : List (Option iV)) (a : Int) (b : Int) (r : List iV) (h : iH) (Q : Option iV → iH → Prop), G sp sc [6] d mX12_nextOf (n + 1) 53 L (.inl b :: .inl a :: r) h Q = ((inI a = true ∧ inI b = true) ∧ (a ≤ b → G sp sc [6] d mX12_nextOf n 59 L r h Q) ∧ (¬ (a ≤ b) → G sp sc [6] d mX12_nextOf n 56 L r h Q))) ∧
  (∀ (n d : Nat) (L : List (Option iV)) (st : List iV) (h : iH) (Q : Option iV → iH → Prop), G sp sc [6] d mX12_nextOf (n + 1) 56 L st h Q = (match ld L 4 with | some (.inl x) => G sp sc [6] d mX12_nextOf n 58 L (.inl x :: st) h Q | _ => False)) ∧
  (∀ (n d : Nat) (L : List (Option iV)) (r : List iV) (x : Int) (h : iH) (Q : Option iV → iH → Prop), G sp sc [6] d mX12_nextOf (n + 1) 58 L (.inl x :: r) h Q = (match st1 L 3 (.inl x) with | some L' => G sp sc [6] d mX12_nextOf n 59 L' r h Q | none => False)) ∧
  (∀ (n d : Nat) (L : List (Option iV)) (st : List iV) (h : iH) (Q : Option iV → iH → Prop), G sp sc [6] d mX12_nextOf (n + 1) 59 L st h Q = (match ld L 4 with | some (.inl x) => (match st1 L 4 (.inl (x + 1)) with | some L' => G sp sc [6] d mX12_nextOf n 62 L' st h Q | none => False) | _ => False)) ∧
  (∀ (n d : Nat) (L : List (Option iV)) (st : List iV) (h : iH) (Q : Option iV → iH → Prop), G sp sc [6] d mX12_nextOf (n + 1) 62 L st h Q = Run sp sc d mX12_nextOf 6 L st h Q) ∧
  (∀ (n d : Nat) (L : List (Option iV)) (st : List iV) (h : iH) (Q : Option iV → iH → Prop), G sp sc [6] d mX12_nextOf (n + 1) 65 L st h Q = (match ld L 3 with | some (.inl x) => G sp sc [6] d mX12_nextOf n 66 L (.inl x :: st) h Q | _ => False)) ∧
  (∀ (n d : Nat) (L : List (Option iV)) (a : Int) (h : iH) (Q : Option iV → iH → Prop), G sp sc [6] d mX12_nextOf (n + 1) 66 L [.inl a] h Q = Q (some (.inl a)) h) ∧
  lkF 12 9 12 = some 0 := ⟨by intros; exact G_at (by decide +kernel : fetch mX12_nextOf 0 = some (.bipush (-4))),
  by intros; exact G_at (by decide +kernel : fetch mX12_nextOf 2 = some (.istore_n 3)),
  by intros; exact G_at (by decide +kernel : fetch mX12_nextOf 3 = some (.iconst 0)),
  by intros; exact G_at (by decide +kernel : fetch mX12_nextOf 4 = some (.istore 4)),
  by intros; exact G_at (by decide +kernel : fetch mX12_nextOf 6 = some (.iload 4)),
  by intros; exact G_at (by decide +kernel : fetch mX12_nextOf 8 = some (.aload_n 0)),
  by intros; exact G_own (by decide +kernel : fetch mX12_nextOf 9 = some (.getfield 9)) (by decide +kernel),
  by intros; exact G_at (by decide +kernel : fetch mX12_nextOf 12 = some (.iconst 1)),
  by intros; exact G_at (by decide +kernel : fetch mX12_nextOf 13 = some (.iaload)),
  by intros; exact G_at (by decide +kernel : fetch mX12_nextOf 14 = some (.if_icmp .ge 51)),
  by intros; exact G_at (by decide +kernel : fetch mX12_nextOf 17 = some (.iload_n 2)),
  by intros; exact G_at (by decide +kernel : fetch mX12_nextOf 18 = some (.iload 4)),
  by intros; exact G_callS (k := 2) (kd := 0) (by decide +kernel : fetch mX12_nextOf 20 = some (.invokestatic 131)) (by decide +kernel) (by decide +kernel) (by decide +kernel) rfl (by decide),
  by intros; exact G_at (by decide +kernel : fetch mX12_nextOf 23 = some (.ifCond .ne 36)),
  by intros; exact G_at (by decide +kernel : fetch mX12_nextOf 26 = some (.iload_n 3)),
  by intros; exact G_at (by decide +kernel : fetch mX12_nextOf 27 = some (.ifCond .lt 29)),
  by intros; exact G_at (by decide +kernel : fetch mX12_nextOf 30 = some (.aload_n 0)),
  by intros; exact G_own (by decide +kernel : fetch mX12_nextOf 31 = some (.getfield 9)) (by decide +kernel),
  by intros; exact G_at (by decide +kernel : fetch mX12_nextOf 34 = some (.iconst 0)),
  by intros; exact G_at (by decide +kernel : fetch mX12_nextOf 35 = some (.iload_n 1)),
  by intros; exact G_at (by decide +kernel : fetch mX12_nextOf 36 = some (.iload 4)),
  by intros; exact G_callS (k := 3) (kd := 0) (by decide +kernel : fetch mX12_nextOf 38 = some (.invokestatic 109)) (by decide +kernel) (by decide +kernel) (by decide +kernel) rfl (by decide),
  by intros; exact G_at (by decide +kernel : fetch mX12_nextOf 41 = some (.iaload)),
  by intros; exact G_at (by decide +kernel : fetch mX12_nextOf 42 = some (.aload_n 0)),
  by intros; exact G_own (by decide +kernel : fetch mX12_nextOf 43 = some (.getfield 9)) (by decide +kernel),
  by intros; exact G_at (by decide +kernel : fetch mX12_nextOf 46 = some (.iconst 0)),
  by intros; exact G_at (by decide +kernel : fetch mX12_nextOf 47 = some (.iload_n 1)),
  by intros; exact G_at (by decide +kernel : fetch mX12_nextOf 48 = some (.iload_n 3)),
  by intros; exact G_callS (k := 3) (kd := 0) (by decide +kernel : fetch mX12_nextOf 49 = some (.invokestatic 109)) (by decide +kernel) (by decide +kernel) (by decide +kernel) rfl (by decide),
  by intros; exact G_at (by decide +kernel : fetch mX12_nextOf 52 = some (.iaload)),
  by intros; exact G_at (by decide +kernel : fetch mX12_nextOf 53 = some (.if_icmp .le 6)),
  by intros; exact G_at (by decide +kernel : fetch mX12_nextOf 56 = some (.iload 4)),
  by intros; exact G_at (by decide +kernel : fetch mX12_nextOf 58 = some (.istore_n 3)),
  by intros; exact G_at (by decide +kernel : fetch mX12_nextOf 59 = some (.iinc 4 1)),
  by intros; exact G_at (by decide +kernel : fetch mX12_nextOf 62 = some (.goto (-56))),
  by intros; exact G_at (by decide +kernel : fetch mX12_nextOf 65 = some (.iload_n 3)),
  by intros; exact G_reti (by decide +kernel : fetch mX12_nextOf 66 = some (.ireturn)) (by decide +kernel),
  by decide +kernel⟩
end GG
