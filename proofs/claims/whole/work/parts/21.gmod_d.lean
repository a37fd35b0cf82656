section GG
variable {sp : Nat → List iV → iH → Option (Option iV × iH)} {sc : List Int}
theorem gX12_keepsMore : (∀ (n d : Nat) (L : List (Option iV)) (st : List iV) (h : iH) (Q : Option iV → iH → Prop), G sp sc [] d mX12_keepsMore (n + 1) 0 L st h Q = (match ld L 0 with | some (.inr (.inr (r + 1))) => G sp sc [] d mX12_keepsMore n 1 L (.inr (.inr (r + 1)) :: st) h Q | _ => False)) ∧
  (∀ (n d : Nat) (L : List (Option iV)) (r : List iV) (m : Nat) (h : iH) (Q : Option iV → iH → Prop), G sp sc [] d mX12_keepsMore (n + 1) 1 L (.inr (.inr (m + 2)) :: r) h Q = (match h.1[m]? with | some (.inl (ci, fs)) => (match lkF 12 9 ci with | some k => (match fs[k]? with | some v => G sp sc [] d mX12_keepsMore n 4 L (v :: r) h Q | none => False) | none => False) | _ => False)) ∧
  (∀ (n d : Nat) (L : List (Option iV)) (st : List iV) (h : iH) (Q : Option iV → iH → Prop), G sp sc [] d mX12_keepsMore (n + 1) 4 L st h Q = G sp sc [] d mX12_keepsMore n 5 L (.inl 1 :: st) h Q) ∧
  (∀ (n d : Nat) (L : List (Option iV)) (st : List iV) (h : iH) (Q : Option iV → iH → Prop), G sp sc [] d mX12_keepsMore (n + 1) 5 L st h Q = (match ld L 1 with | some (.inl x) => G sp sc [] d mX12_keepsMore n 6 L (.inl x :: st) h Q | _ => False)) ∧
  (∀ (n d : Nat) (L : List (Option iV)) (st : List iV) (h : iH) (Q : Option iV → iH → Prop), G sp sc [] d mX12_keepsMore (n + 1) 6 L st h Q = (match ld L 2 with | some (.inl x) => G sp sc [] d mX12_keepsMore n 7 L (.inl x :: st) h Q | _ => False)) ∧
  (∀ (n d : Nat) (L : List (Option iV)) (r : List iV) (z0 : iV) (z1 : iV) (z2 : iV) (h : iH) (Q : Option iV → iH → Prop), G sp sc [] (d + 1) mX12_keepsMore (n + 1) 7 L (z2 :: z1 :: z0 :: r) h Q = (cs r ≤ 8 ∧ Call sp sc d mX12_atLike [z0, z1, z2] h (fun q h1 => GC sp sc [] (d + 1) mX12_keepsMore n 10 L q r h h1 Q))) ∧
  (∀ (n d : Nat) (L : List (Option iV)) (r : List iV) (j : Int) (m : Nat) (h : iH) (Q : Option iV → iH → Prop), G sp sc [] d mX12_keepsMore (n + 1) 10 L (.inl j :: .inr (.inr (m + 2)) :: r) h Q = (match h.1[m]? with | some (.inr (.inl (0, xs))) => inA j xs.length = true ∧ G sp sc [] d mX12_keepsMore n 11 L (.inl (xs.getD j.toNat 0) :: r) h Q | _ => False)) ∧
  (∀ (n d : Nat) (L : List (Option iV)) (r : List iV) (x : Int) (h : iH) (Q : Option iV → iH → Prop), G sp sc [] d mX12_keepsMore (n + 1) 11 L (.inl x :: r) h Q = (match st1 L 4 (.inl x) with | some L' => G sp sc [] d mX12_keepsMore n 13 L' r h Q | none => False)) ∧
  (∀ (n d : Nat) (L : List (Option iV)) (st : List iV) (h : iH) (Q : Option iV → iH → Prop), G sp sc [] d mX12_keepsMore (n + 1) 13 L st h Q = (match ld L 0 with | some (.inr (.inr (r + 1))) => G sp sc [] d mX12_keepsMore n 14 L (.inr (.inr (r + 1)) :: st) h Q | _ => False)) ∧
  (∀ (n d : Nat) (L : List (Option iV)) (r : List iV) (m : Nat) (h : iH) (Q : Option iV → iH → Prop), G sp sc [] d mX12_keepsMore (n + 1) 14 L (.inr (.inr (m + 2)) :: r) h Q = (match h.1[m]? with | some (.inl (ci, fs)) => (match lkF 12 9 ci with | some k => (match fs[k]? with | some v => G sp sc [] d mX12_keepsMore n 17 L (v :: r) h Q | none => False) | none => False) | _ => False)) ∧
  (∀ (n d : Nat) (L : List (Option iV)) (st : List iV) (h : iH) (Q : Option iV → iH → Prop), G sp sc [] d mX12_keepsMore (n + 1) 17 L st h Q = G sp sc [] d mX12_keepsMore n 18 L (.inl 1 :: st) h Q) ∧
  (∀ (n d : Nat) (L : List (Option iV)) (st : List iV) (h : iH) (Q : Option iV → iH → Prop), G sp sc [] d mX12_keepsMore (n + 1) 18 L st h Q = (match ld L 1 with | some (.inl x) => G sp sc [] d mX12_keepsMore n 19 L (.inl x :: st) h Q | _ => False)) ∧
  (∀ (n d : Nat) (L : List (Option iV)) (st : List iV) (h : iH) (Q : Option iV → iH → Prop), G sp sc [] d mX12_keepsMore (n + 1) 19 L st h Q = (match ld L 3 with | some (.inl x) => G sp sc [] d mX12_keepsMore n 20 L (.inl x :: st) h Q | _ => False)) ∧
  (∀ (n d : Nat) (L : List (Option iV)) (r : List iV) (z0 : iV) (z1 : iV) (z2 : iV) (h : iH) (Q : Option iV → iH → Prop), G sp sc [] (d + 1) mX12_keepsMore (n + 1) 20 L (z2 :: z1 :: z0 :: r) h Q = (cs r ≤ 8 ∧ Call sp sc d mX12_atLike [z0, z1, z2] h (fun q h1 => GC sp sc [] (d + 1) mX12_keepsMore n 23 L q r h h1 Q))) ∧
  (∀ (n d : Nat) (L : List (Option iV)) (r : List iV) (j : Int) (m : Nat) (h : iH) (Q : Option iV → iH → Prop), G sp sc [] d mX12_keepsMore (n + 1) 23 L (.inl j :: .inr (.inr (m + 2)) :: r) h Q = (match h.1[m]? with | some (.inr (.inl (0, xs))) => inA j xs.length = true ∧ G sp sc [] d mX12_keepsMore n 24 L (.inl (xs.getD j.toNat 0) :: r) h Q | _ => False)) ∧
  (∀ (n d : Nat) (L : List (Option iV)) (r : List iV) (x : Int) (h : iH) (Q : Option iV → iH → Prop), G sp sc [] d mX12_keepsMore (n + 1) 24 L (.inl x :: r) h Q = (match st1 L 5 (.inl x) with | some L' => G sp sc [] d mX12_keepsMore n 26 L' r h Q | none => False)) ∧
  (∀ (n d : Nat) (L : List (Option iV)) (st : List iV) (h : iH) (Q : Option iV → iH → Prop), G sp sc [] d mX12_keepsMore (n + 1) 26 L st h Q = (match ld L 4 with | some (.inl x) => G sp sc [] d mX12_keepsMore n 28 L (.inl x :: st) h Q | _ => False)) ∧
  (∀ (n d : Nat) (L : List (Option iV)) (st : List iV) (h : iH) (Q : Option iV → iH → Prop), G sp sc [] d mX12_keepsMore (n + 1) 28 L st h Q = (match ld L 5 with | some (.inl x) => G sp sc [] d mX12_keepsMore n 30 L (.inl x :: st) h Q | _ => False)) ∧
  (∀ (n d : Nat) (L : List (Option iV)) (a : Int) (b : Int) (r : List iV) (h : iH) (Q : Option iV → iH → Prop), G sp sc [] d mX12_keepsMore (n + 1) 30 L (.inl b :: .inl a :: r) h Q = ((inI a = true ∧ inI b = true) ∧ (b < a → G sp sc [] d mX12_keepsMore n 45 L r h Q) ∧ (¬ (b < a) → G sp sc [] d mX12_keepsMore n 33 L r h Q))) ∧
  (∀ (n d : Nat) (L : List (Option iV)) (st : List iV) (h : iH) (Q : Option iV → iH → Prop), G sp sc [] d mX12_keepsMore (n + 1) 33 L st h Q = (match ld L 4 with | some (.inl x) => G sp sc [] d mX12_keepsMore n 35 L (.inl x :: st) h Q | _ => False)) ∧
  (∀ (n d : Nat) (L : List (Option iV)) (st : List iV) (h : iH) (Q : Option iV → iH → Prop), G sp sc [] d mX12_keepsMore (n + 1) 35 L st h Q = (match ld L 5 with | some (.inl x) => G sp sc [] d mX12_keepsMore n 37 L (.inl x :: st) h Q | _ => False)) ∧
  (∀ (n d : Nat) (L : List (Option iV)) (a : Int) (b : Int) (r : List iV) (h : iH) (Q : Option iV → iH → Prop), G sp sc [] d mX12_keepsMore (n + 1) 37 L (.inl b :: .inl a :: r) h Q = ((inI a = true ∧ inI b = true) ∧ (¬ a = b → G sp sc [] d mX12_keepsMore n 49 L r h Q) ∧ (¬ (¬ a = b) → G sp sc [] d mX12_keepsMore n 40 L r h Q))) ∧
  (∀ (n d : Nat) (L : List (Option iV)) (st : List iV) (h : iH) (Q : Option iV → iH → Prop), G sp sc [] d mX12_keepsMore (n + 1) 40 L st h Q = (match ld L 2 with | some (.inl x) => G sp sc [] d mX12_keepsMore n 41 L (.inl x :: st) h Q | _ => False)) ∧
  (∀ (n d : Nat) (L : List (Option iV)) (st : List iV) (h : iH) (Q : Option iV → iH → Prop), G sp sc [] d mX12_keepsMore (n + 1) 41 L st h Q = (match ld L 3 with | some (.inl x) => G sp sc [] d mX12_keepsMore n 42 L (.inl x :: st) h Q | _ => False)) ∧
  (∀ (n d : Nat) (L : List (Option iV)) (a : Int) (b : Int) (r : List iV) (h : iH) (Q : Option iV → iH → Prop), G sp sc [] d mX12_keepsMore (n + 1) 42 L (.inl b :: .inl a :: r) h Q = ((inI a = true ∧ inI b = true) ∧ (b ≤ a → G sp sc [] d mX12_keepsMore n 49 L r h Q) ∧ (¬ (b ≤ a) → G sp sc [] d mX12_keepsMore n 45 L r h Q))) ∧
  (∀ (n d : Nat) (L : List (Option iV)) (st : List iV) (h : iH) (Q : Option iV → iH → Prop), G sp sc [] d mX12_keepsMore (n + 1) 45 L st h Q = G sp sc [] d mX12_keepsMore n 46 L (.inl 1 :: st) h Q) ∧
  (∀ (n d : Nat) (L : List (Option iV)) (st : List iV) (h : iH) (Q : Option iV → iH → Prop), G sp sc [] d mX12_keepsMore (n + 1) 46 L st h Q = G sp sc [] d mX12_keepsMore n 50 L st h Q) ∧
  (∀ (n d : Nat) (L : List (Option iV)) (st : List iV) (h : iH) (Q : Option iV → iH → Prop), G sp sc [] d mX12_keepsMore (n + 1) 49 L st h Q = G sp sc [] d mX12_keepsMore n 50 L (.inl 0 :: st) h Q) ∧
  (∀ (n d : Nat) (L : List (Option iV)) (a : Int) (h : iH) (Q : Option iV → iH → Prop), G sp sc [] d mX12_keepsMore (n + 1) 50 L [.inl a] h Q = ((a = 0 ∨ a = 1) ∧ Q (some (.inl a)) h)) ∧
  lkF 12 9 12 = some 0 := ⟨by intros; exact G_at (by decide +kernel : fetch mX12_keepsMore 0 = some (.aload_n 0)),
  by intros; exact G_own (by decide +kernel : fetch mX12_keepsMore 1 = some (.getfield 9)) (by decide +kernel),
  by intros; exact G_at (by decide +kernel : fetch mX12_keepsMore 4 = some (.iconst 1)),
  by intros; exact G_at (by decide +kernel : fetch mX12_keepsMore 5 = some (.iload_n 1)),
  by intros; exact G_at (by decide +kernel : fetch mX12_keepsMore 6 = some (.iload_n 2)),
  by intros; exact G_callS (k := 3) (kd := 0) (by decide +kernel : fetch mX12_keepsMore 7 = some (.invokestatic 109)) (by decide +kernel) (by decide +kernel) (by decide +kernel) rfl (by decide),
  by intros; exact G_at (by decide +kernel : fetch mX12_keepsMore 10 = some (.iaload)),
  by intros; exact G_at (by decide +kernel : fetch mX12_keepsMore 11 = some (.istore 4)),
  by intros; exact G_at (by decide +kernel : fetch mX12_keepsMore 13 = some (.aload_n 0)),
  by intros; exact G_own (by decide +kernel : fetch mX12_keepsMore 14 = some (.getfield 9)) (by decide +kernel),
  by intros; exact G_at (by decide +kernel : fetch mX12_keepsMore 17 = some (.iconst 1)),
  by intros; exact G_at (by decide +kernel : fetch mX12_keepsMore 18 = some (.iload_n 1)),
  by intros; exact G_at (by decide +kernel : fetch mX12_keepsMore 19 = some (.iload_n 3)),
  by intros; exact G_callS (k := 3) (kd := 0) (by decide +kernel : fetch mX12_keepsMore 20 = some (.invokestatic 109)) (by decide +kernel) (by decide +kernel) (by decide +kernel) rfl (by decide),
  by intros; exact G_at (by decide +kernel : fetch mX12_keepsMore 23 = some (.iaload)),
  by intros; exact G_at (by decide +kernel : fetch mX12_keepsMore 24 = some (.istore 5)),
  by intros; exact G_at (by decide +kernel : fetch mX12_keepsMore 26 = some (.iload 4)),
  by intros; exact G_at (by decide +kernel : fetch mX12_keepsMore 28 = some (.iload 5)),
  by intros; exact G_at (by decide +kernel : fetch mX12_keepsMore 30 = some (.if_icmp .gt 15)),
  by intros; exact G_at (by decide +kernel : fetch mX12_keepsMore 33 = some (.iload 4)),
  by intros; exact G_at (by decide +kernel : fetch mX12_keepsMore 35 = some (.iload 5)),
  by intros; exact G_at (by decide +kernel : fetch mX12_keepsMore 37 = some (.if_icmp .ne 12)),
  by intros; exact G_at (by decide +kernel : fetch mX12_keepsMore 40 = some (.iload_n 2)),
  by intros; exact G_at (by decide +kernel : fetch mX12_keepsMore 41 = some (.iload_n 3)),
  by intros; exact G_at (by decide +kernel : fetch mX12_keepsMore 42 = some (.if_icmp .ge 7)),
  by intros; exact G_at (by decide +kernel : fetch mX12_keepsMore 45 = some (.iconst 1)),
  by intros; exact G_at (by decide +kernel : fetch mX12_keepsMore 46 = some (.goto 4)),
  by intros; exact G_at (by decide +kernel : fetch mX12_keepsMore 49 = some (.iconst 0)),
  by intros; exact G_retz (by decide +kernel : fetch mX12_keepsMore 50 = some (.ireturn)) (by decide +kernel),
  by decide +kernel⟩
theorem gX12_asksOnce : (∀ (n d : Nat) (L : List (Option iV)) (st : List iV) (h : iH) (Q : Option iV → iH → Prop), G sp sc [2] d mX12_asksOnce (n + 1) 0 L st h Q = G sp sc [2] d mX12_asksOnce n 1 L (.inl 0 :: st) h Q) ∧
  (∀ (n d : Nat) (L : List (Option iV)) (r : List iV) (x : Int) (h : iH) (Q : Option iV → iH → Prop), G sp sc [2] d mX12_asksOnce (n + 1) 1 L (.inl x :: r) h Q = (match st1 L 1 (.inl x) with | some L' => Run sp sc d mX12_asksOnce 2 L' r h Q | none => False)) ∧
  (∀ (n d : Nat) (L : List (Option iV)) (st : List iV) (h : iH) (Q : Option iV → iH → Prop), G sp sc [2] d mX12_asksOnce (n + 1) 2 L st h Q = (match ld L 1 with | some (.inl x) => G sp sc [2] d mX12_asksOnce n 3 L (.inl x :: st) h Q | _ => False)) ∧
  (∀ (n d : Nat) (L : List (Option iV)) (st : List iV) (h : iH) (Q : Option iV → iH → Prop), G sp sc [2] d mX12_asksOnce (n + 1) 3 L st h Q = (match ld L 0 with | some (.inr (.inr (r + 1))) => G sp sc [2] d mX12_asksOnce n 4 L (.inr (.inr (r + 1)) :: st) h Q | _ => False)) ∧
  (∀ (n d : Nat) (L : List (Option iV)) (r : List iV) (m : Nat) (h : iH) (Q : Option iV → iH → Prop), G sp sc [2] d mX12_asksOnce (n + 1) 4 L (.inr (.inr (m + 2)) :: r) h Q = (match h.1[m]? with | some (.inl (ci, fs)) => (match lkF 12 9 ci with | some k => (match fs[k]? with | some v => G sp sc [2] d mX12_asksOnce n 7 L (v :: r) h Q | none => False) | none => False) | _ => False)) ∧
  (∀ (n d : Nat) (L : List (Option iV)) (st : List iV) (h : iH) (Q : Option iV → iH → Prop), G sp sc [2] d mX12_asksOnce (n + 1) 7 L st h Q = G sp sc [2] d mX12_asksOnce n 8 L (.inl 0 :: st) h Q) ∧
  (∀ (n d : Nat) (L : List (Option iV)) (r : List iV) (j : Int) (m : Nat) (h : iH) (Q : Option iV → iH → Prop), G sp sc [2] d mX12_asksOnce (n + 1) 8 L (.inl j :: .inr (.inr (m + 2)) :: r) h Q = (match h.1[m]? with | some (.inr (.inl (0, xs))) => inA j xs.length = true ∧ G sp sc [2] d mX12_asksOnce n 9 L (.inl (xs.getD j.toNat 0) :: r) h Q | _ => False)) ∧
  (∀ (n d : Nat) (L : List (Option iV)) (a : Int) (b : Int) (r : List iV) (h : iH) (Q : Option iV → iH → Prop), G sp sc [2] d mX12_asksOnce (n + 1) 9 L (.inl b :: .inl a :: r) h Q = ((inI a = true ∧ inI b = true) ∧ (b ≤ a → G sp sc [2] d mX12_asksOnce n 102 L r h Q) ∧ (¬ (b ≤ a) → G sp sc [2] d mX12_asksOnce n 12 L r h Q))) ∧
  (∀ (n d : Nat) (L : List (Option iV)) (st : List iV) (h : iH) (Q : Option iV → iH → Prop), G sp sc [2] d mX12_asksOnce (n + 1) 12 L st h Q = (match ld L 0 with | some (.inr (.inr (r + 1))) => G sp sc [2] d mX12_asksOnce n 13 L (.inr (.inr (r + 1)) :: st) h Q | _ => False)) ∧
  (∀ (n d : Nat) (L : List (Option iV)) (r : List iV) (m : Nat) (h : iH) (Q : Option iV → iH → Prop), G sp sc [2] d mX12_asksOnce (n + 1) 13 L (.inr (.inr (m + 2)) :: r) h Q = (match h.1[m]? with | some (.inl (ci, fs)) => (match lkF 12 34 ci with | some k => (match fs[k]? with | some v => G sp sc [2] d mX12_asksOnce n 16 L (v :: r) h Q | none => False) | none => False) | _ => False)) ∧
  (∀ (n d : Nat) (L : List (Option iV)) (st : List iV) (h : iH) (Q : Option iV → iH → Prop), G sp sc [2] d mX12_asksOnce (n + 1) 16 L st h Q = (match ld L 1 with | some (.inl x) => G sp sc [2] d mX12_asksOnce n 17 L (.inl x :: st) h Q | _ => False)) ∧
  (∀ (n d : Nat) (L : List (Option iV)) (r : List iV) (j : Int) (m : Nat) (h : iH) (Q : Option iV → iH → Prop), G sp sc [2] d mX12_asksOnce (n + 1) 17 L (.inl j :: .inr (.inr (m + 2)) :: r) h Q = (match h.1[m]? with | some (.inr (.inl (0, xs))) => inA j xs.length = true ∧ G sp sc [2] d mX12_asksOnce n 18 L (.inl (xs.getD j.toNat 0) :: r) h Q | _ => False)) ∧
  (∀ (n d : Nat) (L : List (Option iV)) (a : Int) (r : List iV) (h : iH) (Q : Option iV → iH → Prop), G sp sc [2] d mX12_asksOnce (n + 1) 18 L (.inl a :: r) h Q = (inI a = true ∧ (a < 0 → G sp sc [2] d mX12_asksOnce n 24 L r h Q) ∧ (¬ (a < 0) → G sp sc [2] d mX12_asksOnce n 21 L r h Q))) ∧
  (∀ (n d : Nat) (L : List (Option iV)) (st : List iV) (h : iH) (Q : Option iV → iH → Prop), G sp sc [2] d mX12_asksOnce (n + 1) 21 L st h Q = G sp sc [2] d mX12_asksOnce n 96 L st h Q) ∧
  (∀ (n d : Nat) (L : List (Option iV)) (st : List iV) (h : iH) (Q : Option iV → iH → Prop), G sp sc [2] d mX12_asksOnce (n + 1) 24 L st h Q = (match ld L 0 with | some (.inr (.inr (r + 1))) => G sp sc [2] d mX12_asksOnce n 25 L (.inr (.inr (r + 1)) :: st) h Q | _ => False)) ∧
  (∀ (n d : Nat) (L : List (Option iV)) (st : List iV) (h : iH) (Q : Option iV → iH → Prop), G sp sc [2] d mX12_asksOnce (n + 1) 25 L st h Q = (match ld L 1 with | some (.inl x) => G sp sc [2] d mX12_asksOnce n 26 L (.inl x :: st) h Q | _ => False)) ∧
  (∀ (n d : Nat) (L : List (Option iV)) (st : List iV) (h : iH) (Q : Option iV → iH → Prop), G sp sc [2] d mX12_asksOnce (n + 1) 26 L st h Q = (match ld L 0 with | some (.inr (.inr (r + 1))) => G sp sc [2] d mX12_asksOnce n 27 L (.inr (.inr (r + 1)) :: st) h Q | _ => False)) ∧
  (∀ (n d : Nat) (L : List (Option iV)) (r : List iV) (m : Nat) (h : iH) (Q : Option iV → iH → Prop), G sp sc [2] d mX12_asksOnce (n + 1) 27 L (.inr (.inr (m + 2)) :: r) h Q = (match h.1[m]? with | some (.inl (ci, fs)) => (match lkF 12 40 ci with | some k => (match fs[k]? with | some v => G sp sc [2] d mX12_asksOnce n 30 L (v :: r) h Q | none => False) | none => False) | _ => False)) ∧
  (∀ (n d : Nat) (L : List (Option iV)) (st : List iV) (h : iH) (Q : Option iV → iH → Prop), G sp sc [2] d mX12_asksOnce (n + 1) 30 L st h Q = (match ld L 1 with | some (.inl x) => G sp sc [2] d mX12_asksOnce n 31 L (.inl x :: st) h Q | _ => False)) ∧
  (∀ (n d : Nat) (L : List (Option iV)) (r : List iV) (j : Int) (m : Nat) (h : iH) (Q : Option iV → iH → Prop), G sp sc [2] d mX12_asksOnce (n + 1) 31 L (.inl j :: .inr (.inr (m + 2)) :: r) h Q = (match h.1[m]? with | some (.inr (.inl (0, xs))) => inA j xs.length = true ∧ G sp sc [2] d mX12_asksOnce n 32 L (.inl (xs.getD j.toNat 0) :: r) h Q | _ => False)) ∧
  (∀ (n d : Nat) (L : List (Option iV)) (r : List iV) (m : Nat) (z0 : iV) (z1 : iV) (h : iH) (Q : Option iV → iH → Prop), G sp sc [2] (d + 1) mX12_asksOnce (n + 1) 32 L (z1 :: z0 :: .inr (.inr (m + 2)) :: r) h Q = (match h.1[m]? with | some (.inl (ci, _)) => (match lkC 12 239 ci with | some (y1, n1, kd) => (n1 = 2 ∧ (kd = 2 ∨ kd = 3 ∨ kd = 8) ∧ cs r ≤ 8) ∧ Call sp sc d y1 [.inr (.inr (m + 2)), z0, z1] h (fun q h1 => GC sp sc [2] (d + 1) mX12_asksOnce n 35 L q r h h1 Q) | none => False) | _ => False)) ∧
  (∀ (n d : Nat) (L : List (Option iV)) (r : List iV) (x : Int) (h : iH) (Q : Option iV → iH → Prop), G sp sc [2] d mX12_asksOnce (n + 1) 35 L (.inl x :: r) h Q = (match st1 L 2 (.inl x) with | some L' => G sp sc [2] d mX12_asksOnce n 36 L' r h Q | none => False)) ∧
  (∀ (n d : Nat) (L : List (Option iV)) (st : List iV) (h : iH) (Q : Option iV → iH → Prop), G sp sc [2] d mX12_asksOnce (n + 1) 36 L st h Q = (match ld L 2 with | some (.inl x) => G sp sc [2] d mX12_asksOnce n 37 L (.inl x :: st) h Q | _ => False)) ∧
  (∀ (n d : Nat) (L : List (Option iV)) (a : Int) (r : List iV) (h : iH) (Q : Option iV → iH → Prop), G sp sc [2] d mX12_asksOnce (n + 1) 37 L (.inl a :: r) h Q = (inI a = true ∧ (0 ≤ a → G sp sc [2] d mX12_asksOnce n 43 L r h Q) ∧ (¬ (0 ≤ a) → G sp sc [2] d mX12_asksOnce n 40 L r h Q))) ∧
  (∀ (n d : Nat) (L : List (Option iV)) (st : List iV) (h : iH) (Q : Option iV → iH → Prop), G sp sc [2] d mX12_asksOnce (n + 1) 40 L st h Q = G sp sc [2] d mX12_asksOnce n 96 L st h Q) ∧
  (∀ (n d : Nat) (L : List (Option iV)) (st : List iV) (h : iH) (Q : Option iV → iH → Prop), G sp sc [2] d mX12_asksOnce (n + 1) 43 L st h Q = (match ld L 0 with | some (.inr (.inr (r + 1))) => G sp sc [2] d mX12_asksOnce n 44 L (.inr (.inr (r + 1)) :: st) h Q | _ => False)) ∧
  (∀ (n d : Nat) (L : List (Option iV)) (r : List iV) (m : Nat) (h : iH) (Q : Option iV → iH → Prop), G sp sc [2] d mX12_asksOnce (n + 1) 44 L (.inr (.inr (m + 2)) :: r) h Q = (match h.1[m]? with | some (.inl (ci, fs)) => (match lkF 12 40 ci with | some k => (match fs[k]? with | some v => G sp sc [2] d mX12_asksOnce n 47 L (v :: r) h Q | none => False) | none => False) | _ => False)) ∧
  (∀ (n d : Nat) (L : List (Option iV)) (st : List iV) (h : iH) (Q : Option iV → iH → Prop), G sp sc [2] d mX12_asksOnce (n + 1) 47 L st h Q = (match ld L 1 with | some (.inl x) => G sp sc [2] d mX12_asksOnce n 48 L (.inl x :: st) h Q | _ => False)) ∧
  (∀ (n d : Nat) (L : List (Option iV)) (a : Int) (b : Nat) (r : List iV) (h : iH) (Q : Option iV → iH → Prop), G sp sc [2] d mX12_asksOnce (n + 1) 48 L (.inl a :: .inr (.inr b) :: r) h Q = G sp sc [2] d mX12_asksOnce n 49 L (.inl a :: .inr (.inr b) :: .inl a :: .inr (.inr b) :: r) h Q) ∧
  (∀ (n d : Nat) (L : List (Option iV)) (r : List iV) (j : Int) (m : Nat) (h : iH) (Q : Option iV → iH → Prop), G sp sc [2] d mX12_asksOnce (n + 1) 49 L (.inl j :: .inr (.inr (m + 2)) :: r) h Q = (match h.1[m]? with | some (.inr (.inl (0, xs))) => inA j xs.length = true ∧ G sp sc [2] d mX12_asksOnce n 50 L (.inl (xs.getD j.toNat 0) :: r) h Q | _ => False)) ∧
  (∀ (n d : Nat) (L : List (Option iV)) (st : List iV) (h : iH) (Q : Option iV → iH → Prop), G sp sc [2] d mX12_asksOnce (n + 1) 50 L st h Q = G sp sc [2] d mX12_asksOnce n 51 L (.inl 1 :: st) h Q) ∧
  (∀ (n d : Nat) (L : List (Option iV)) (st : List iV) (h : iH) (Q : Option iV → iH → Prop), G sp sc [2] d mX12_asksOnce (n + 1) 51 L st h Q = (match ld L 2 with | some (.inl x) => G sp sc [2] d mX12_asksOnce n 52 L (.inl x :: st) h Q | _ => False)) ∧
  (∀ (n d : Nat) (L : List (Option iV)) (a : Int) (b : Int) (r : List iV) (h : iH) (Q : Option iV → iH → Prop), G sp sc [2] d mX12_asksOnce (n + 1) 52 L (.inl b :: .inl a :: r) h Q = G sp sc [2] d mX12_asksOnce n 53 L (.inl (bShl a b) :: r) h Q) ∧
  (∀ (n d : Nat) (L : List (Option iV)) (a : Int) (b : Int) (r : List iV) (h : iH) (Q : Option iV → iH → Prop), G sp sc [2] d mX12_asksOnce (n + 1) 53 L (.inl b :: .inl a :: r) h Q = G sp sc [2] d mX12_asksOnce n 54 L (.inl (bOr a b) :: r) h Q) ∧
  (∀ (n d : Nat) (L : List (Option iV)) (r : List iV) (v : Int) (j : Int) (m : Nat) (h : iH) (Q : Option iV → iH → Prop), G sp sc [2] d mX12_asksOnce (n + 1) 54 L (.inl v :: .inl j :: .inr (.inr (m + 2)) :: r) h Q = (match h.1[m]? with | some (.inr (.inl (0, xs))) => inA j xs.length = true ∧ G sp sc [2] d mX12_asksOnce n 55 L r (h.1.set m (.inr (.inl (0, xs.set j.toNat v))), h.2) Q | _ => False)) ∧
  (∀ (n d : Nat) (L : List (Option iV)) (st : List iV) (h : iH) (Q : Option iV → iH → Prop), G sp sc [2] d mX12_asksOnce (n + 1) 55 L st h Q = (match ld L 0 with | some (.inr (.inr (r + 1))) => G sp sc [2] d mX12_asksOnce n 56 L (.inr (.inr (r + 1)) :: st) h Q | _ => False)) ∧
  (∀ (n d : Nat) (L : List (Option iV)) (st : List iV) (h : iH) (Q : Option iV → iH → Prop), G sp sc [2] d mX12_asksOnce (n + 1) 56 L st h Q = (match ld L 2 with | some (.inl x) => G sp sc [2] d mX12_asksOnce n 57 L (.inl x :: st) h Q | _ => False)) ∧
  (∀ (n d : Nat) (L : List (Option iV)) (r : List iV) (m : Nat) (z0 : iV) (h : iH) (Q : Option iV → iH → Prop), G sp sc [2] (d + 1) mX12_asksOnce (n + 1) 57 L (z0 :: .inr (.inr (m + 2)) :: r) h Q = (match h.1[m]? with | some (.inl (ci, _)) => (match lkC 12 233 ci with | some (y1, n1, kd) => (n1 = 1 ∧ (kd = 2 ∨ kd = 3 ∨ kd = 8) ∧ cs r ≤ 8) ∧ Call sp sc d y1 [.inr (.inr (m + 2)), z0] h (fun q h1 => GC sp sc [2] (d + 1) mX12_asksOnce n 60 L q r h h1 Q) | none => False) | _ => False)) ∧
  (∀ (n d : Nat) (L : List (Option iV)) (r : List iV) (x : Int) (h : iH) (Q : Option iV → iH → Prop), G sp sc [2] d mX12_asksOnce (n + 1) 60 L (.inl x :: r) h Q = (match st1 L 3 (.inl x) with | some L' => G sp sc [2] d mX12_asksOnce n 61 L' r h Q | none => False)) ∧
  (∀ (n d : Nat) (L : List (Option iV)) (st : List iV) (h : iH) (Q : Option iV → iH → Prop), G sp sc [2] d mX12_asksOnce (n + 1) 61 L st h Q = (match ld L 3 with | some (.inl x) => G sp sc [2] d mX12_asksOnce n 62 L (.inl x :: st) h Q | _ => False)) ∧
  (∀ (n d : Nat) (L : List (Option iV)) (a : Int) (r : List iV) (h : iH) (Q : Option iV → iH → Prop), G sp sc [2] d mX12_asksOnce (n + 1) 62 L (.inl a :: r) h Q = (inI a = true ∧ (a < 0 → G sp sc [2] d mX12_asksOnce n 75 L r h Q) ∧ (¬ (a < 0) → G sp sc [2] d mX12_asksOnce n 65 L r h Q))) ∧
  (∀ (n d : Nat) (L : List (Option iV)) (st : List iV) (h : iH) (Q : Option iV → iH → Prop), G sp sc [2] d mX12_asksOnce (n + 1) 65 L st h Q = (match ld L 0 with | some (.inr (.inr (r + 1))) => G sp sc [2] d mX12_asksOnce n 66 L (.inr (.inr (r + 1)) :: st) h Q | _ => False)) ∧
  (∀ (n d : Nat) (L : List (Option iV)) (st : List iV) (h : iH) (Q : Option iV → iH → Prop), G sp sc [2] d mX12_asksOnce (n + 1) 66 L st h Q = (match ld L 2 with | some (.inl x) => G sp sc [2] d mX12_asksOnce n 67 L (.inl x :: st) h Q | _ => False)) ∧
  (∀ (n d : Nat) (L : List (Option iV)) (st : List iV) (h : iH) (Q : Option iV → iH → Prop), G sp sc [2] d mX12_asksOnce (n + 1) 67 L st h Q = (match ld L 1 with | some (.inl x) => G sp sc [2] d mX12_asksOnce n 68 L (.inl x :: st) h Q | _ => False)) ∧
  (∀ (n d : Nat) (L : List (Option iV)) (st : List iV) (h : iH) (Q : Option iV → iH → Prop), G sp sc [2] d mX12_asksOnce (n + 1) 68 L st h Q = (match ld L 3 with | some (.inl x) => G sp sc [2] d mX12_asksOnce n 69 L (.inl x :: st) h Q | _ => False)) ∧
  (∀ (n d : Nat) (L : List (Option iV)) (r : List iV) (m : Nat) (z0 : iV) (z1 : iV) (z2 : iV) (h : iH) (Q : Option iV → iH → Prop), G sp sc [2] (d + 1) mX12_asksOnce (n + 1) 69 L (z2 :: z1 :: z0 :: .inr (.inr (m + 2)) :: r) h Q = (match h.1[m]? with | some (.inl (ci, _)) => (match lkC 12 242 ci with | some (y1, n1, kd) => (n1 = 3 ∧ (kd = 2 ∨ kd = 3 ∨ kd = 8) ∧ cs r ≤ 8) ∧ Call sp sc d y1 [.inr (.inr (m + 2)), z0, z1, z2] h (fun q h1 => GC sp sc [2] (d + 1) mX12_asksOnce n 72 L q r h h1 Q) | none => False) | _ => False)) ∧
  (∀ (n d : Nat) (L : List (Option iV)) (a : Int) (r : List iV) (h : iH) (Q : Option iV → iH → Prop), G sp sc [2] d mX12_asksOnce (n + 1) 72 L (.inl a :: r) h Q = (inI a = true ∧ (a = 0 → G sp sc [2] d mX12_asksOnce n 94 L r h Q) ∧ (¬ (a = 0) → G sp sc [2] d mX12_asksOnce n 75 L r h Q))) ∧
  (∀ (n d : Nat) (L : List (Option iV)) (st : List iV) (h : iH) (Q : Option iV → iH → Prop), G sp sc [2] d mX12_asksOnce (n + 1) 75 L st h Q = (match ld L 0 with | some (.inr (.inr (r + 1))) => G sp sc [2] d mX12_asksOnce n 76 L (.inr (.inr (r + 1)) :: st) h Q | _ => False)) ∧
  (∀ (n d : Nat) (L : List (Option iV)) (r : List iV) (m : Nat) (h : iH) (Q : Option iV → iH → Prop), G sp sc [2] d mX12_asksOnce (n + 1) 76 L (.inr (.inr (m + 2)) :: r) h Q = (match h.1[m]? with | some (.inl (ci, fs)) => (match lkF 12 34 ci with | some k => (match fs[k]? with | some v => G sp sc [2] d mX12_asksOnce n 79 L (v :: r) h Q | none => False) | none => False) | _ => False)) ∧
  (∀ (n d : Nat) (L : List (Option iV)) (st : List iV) (h : iH) (Q : Option iV → iH → Prop), G sp sc [2] d mX12_asksOnce (n + 1) 79 L st h Q = (match ld L 1 with | some (.inl x) => G sp sc [2] d mX12_asksOnce n 80 L (.inl x :: st) h Q | _ => False)) ∧
  (∀ (n d : Nat) (L : List (Option iV)) (st : List iV) (h : iH) (Q : Option iV → iH → Prop), G sp sc [2] d mX12_asksOnce (n + 1) 80 L st h Q = (match ld L 2 with | some (.inl x) => G sp sc [2] d mX12_asksOnce n 81 L (.inl x :: st) h Q | _ => False)) ∧
  (∀ (n d : Nat) (L : List (Option iV)) (r : List iV) (v : Int) (j : Int) (m : Nat) (h : iH) (Q : Option iV → iH → Prop), G sp sc [2] d mX12_asksOnce (n + 1) 81 L (.inl v :: .inl j :: .inr (.inr (m + 2)) :: r) h Q = (match h.1[m]? with | some (.inr (.inl (0, xs))) => inA j xs.length = true ∧ G sp sc [2] d mX12_asksOnce n 82 L r (h.1.set m (.inr (.inl (0, xs.set j.toNat v))), h.2) Q | _ => False)) ∧
  (∀ (n d : Nat) (L : List (Option iV)) (st : List iV) (h : iH) (Q : Option iV → iH → Prop), G sp sc [2] d mX12_asksOnce (n + 1) 82 L st h Q = (match ld L 3 with | some (.inl x) => G sp sc [2] d mX12_asksOnce n 83 L (.inl x :: st) h Q | _ => False)) ∧
  (∀ (n d : Nat) (L : List (Option iV)) (a : Int) (r : List iV) (h : iH) (Q : Option iV → iH → Prop), G sp sc [2] d mX12_asksOnce (n + 1) 83 L (.inl a :: r) h Q = (inI a = true ∧ (a < 0 → G sp sc [2] d mX12_asksOnce n 94 L r h Q) ∧ (¬ (a < 0) → G sp sc [2] d mX12_asksOnce n 86 L r h Q))) ∧
  (∀ (n d : Nat) (L : List (Option iV)) (st : List iV) (h : iH) (Q : Option iV → iH → Prop), G sp sc [2] d mX12_asksOnce (n + 1) 86 L st h Q = (match ld L 0 with | some (.inr (.inr (r + 1))) => G sp sc [2] d mX12_asksOnce n 87 L (.inr (.inr (r + 1)) :: st) h Q | _ => False)) ∧
  (∀ (n d : Nat) (L : List (Option iV)) (r : List iV) (m : Nat) (h : iH) (Q : Option iV → iH → Prop), G sp sc [2] d mX12_asksOnce (n + 1) 87 L (.inr (.inr (m + 2)) :: r) h Q = (match h.1[m]? with | some (.inl (ci, fs)) => (match lkF 12 34 ci with | some k => (match fs[k]? with | some v => G sp sc [2] d mX12_asksOnce n 90 L (v :: r) h Q | none => False) | none => False) | _ => False)) ∧
  (∀ (n d : Nat) (L : List (Option iV)) (st : List iV) (h : iH) (Q : Option iV → iH → Prop), G sp sc [2] d mX12_asksOnce (n + 1) 90 L st h Q = (match ld L 3 with | some (.inl x) => G sp sc [2] d mX12_asksOnce n 91 L (.inl x :: st) h Q | _ => False)) ∧
  (∀ (n d : Nat) (L : List (Option iV)) (st : List iV) (h : iH) (Q : Option iV → iH → Prop), G sp sc [2] d mX12_asksOnce (n + 1) 91 L st h Q = ((-128 ≤ ((-4) : Int) ∧ ((-4) : Int) < 128) ∧ G sp sc [2] d mX12_asksOnce n 93 L (.inl (-4) :: st) h Q)) ∧
  (∀ (n d : Nat) (L : List (Option iV)) (r : List iV) (v : Int) (j : Int) (m : Nat) (h : iH) (Q : Option iV → iH → Prop), G sp sc [2] d mX12_asksOnce (n + 1) 93 L (.inl v :: .inl j :: .inr (.inr (m + 2)) :: r) h Q = (match h.1[m]? with | some (.inr (.inl (0, xs))) => inA j xs.length = true ∧ G sp sc [2] d mX12_asksOnce n 94 L r (h.1.set m (.inr (.inl (0, xs.set j.toNat v))), h.2) Q | _ => False)) ∧
  (∀ (n d : Nat) (L : List (Option iV)) (st : List iV) (h : iH) (Q : Option iV → iH → Prop), G sp sc [2] d mX12_asksOnce (n + 1) 94 L st h Q = G sp sc [2] d mX12_asksOnce n 95 L (.inl 1 :: st) h Q) ∧
  (∀ (n d : Nat) (L : List (Option iV)) (a : Int) (h : iH) (Q : Option iV → iH → Prop), G sp sc [2] d mX12_asksOnce (n + 1) 95 L [.inl a] h Q = ((a = 0 ∨ a = 1) ∧ Q (some (.inl a)) h)) ∧
  (∀ (n d : Nat) (L : List (Option iV)) (st : List iV) (h : iH) (Q : Option iV → iH → Prop), G sp sc [2] d mX12_asksOnce (n + 1) 96 L st h Q = (match ld L 1 with | some (.inl x) => (match st1 L 1 (.inl (x + 1)) with | some L' => G sp sc [2] d mX12_asksOnce n 99 L' st h Q | none => False) | _ => False)) ∧
  (∀ (n d : Nat) (L : List (Option iV)) (st : List iV) (h : iH) (Q : Option iV → iH → Prop), G sp sc [2] d mX12_asksOnce (n + 1) 99 L st h Q = Run sp sc d mX12_asksOnce 2 L st h Q) ∧
  (∀ (n d : Nat) (L : List (Option iV)) (st : List iV) (h : iH) (Q : Option iV → iH → Prop), G sp sc [2] d mX12_asksOnce (n + 1) 102 L st h Q = G sp sc [2] d mX12_asksOnce n 103 L (.inl 0 :: st) h Q) ∧
  (∀ (n d : Nat) (L : List (Option iV)) (a : Int) (h : iH) (Q : Option iV → iH → Prop), G sp sc [2] d mX12_asksOnce (n + 1) 103 L [.inl a] h Q = ((a = 0 ∨ a = 1) ∧ Q (some (.inl a)) h)) ∧
  lkC 12 233 12 = some (mX12_manOf, 1, 2) ∧
  lkC 12 239 12 = some (mX12_nextOf, 2, 2) ∧
  lkC 12 242 12 = some (mX12_keepsMore, 3, 2) ∧
  lkF 12 34 12 = some 18 ∧
  lkF 12 40 12 = some 20 ∧
  lkF 12 9 12 = some 0 := ⟨by intros; exact G_at (by decide +kernel : fetch mX12_asksOnce 0 = some (.iconst 0)),
  by intros; exact G_at (by decide +kernel : fetch mX12_asksOnce 1 = some (.istore_n 1)),
  by intros; exact G_at (by decide +kernel : fetch mX12_asksOnce 2 = some (.iload_n 1)),
  by intros; exact G_at (by decide +kernel : fetch mX12_asksOnce 3 = some (.aload_n 0)),
  by intros; exact G_own (by decide +kernel : fetch mX12_asksOnce 4 = some (.getfield 9)) (by decide +kernel),
  by intros; exact G_at (by decide +kernel : fetch mX12_asksOnce 7 = some (.iconst 0)),
  by intros; exact G_at (by decide +kernel : fetch mX12_asksOnce 8 = some (.iaload)),
  by intros; exact G_at (by decide +kernel : fetch mX12_asksOnce 9 = some (.if_icmp .ge 93)),
  by intros; exact G_at (by decide +kernel : fetch mX12_asksOnce 12 = some (.aload_n 0)),
  by intros; exact G_own (by decide +kernel : fetch mX12_asksOnce 13 = some (.getfield 34)) (by decide +kernel),
  by intros; exact G_at (by decide +kernel : fetch mX12_asksOnce 16 = some (.iload_n 1)),
  by intros; exact G_at (by decide +kernel : fetch mX12_asksOnce 17 = some (.iaload)),
  by intros; exact G_at (by decide +kernel : fetch mX12_asksOnce 18 = some (.ifCond .lt 6)),
  by intros; exact G_at (by decide +kernel : fetch mX12_asksOnce 21 = some (.goto 75)),
  by intros; exact G_at (by decide +kernel : fetch mX12_asksOnce 24 = some (.aload_n 0)),
  by intros; exact G_at (by decide +kernel : fetch mX12_asksOnce 25 = some (.iload_n 1)),
  by intros; exact G_at (by decide +kernel : fetch mX12_asksOnce 26 = some (.aload_n 0)),
  by intros; exact G_own (by decide +kernel : fetch mX12_asksOnce 27 = some (.getfield 40)) (by decide +kernel),
  by intros; exact G_at (by decide +kernel : fetch mX12_asksOnce 30 = some (.iload_n 1)),
  by intros; exact G_at (by decide +kernel : fetch mX12_asksOnce 31 = some (.iaload)),
  by intros; exact G_callV (by decide +kernel : fetch mX12_asksOnce 32 = some (.invokevirtual 239)) (by decide +kernel) (by decide +kernel) rfl,
  by intros; exact G_at (by decide +kernel : fetch mX12_asksOnce 35 = some (.istore_n 2)),
  by intros; exact G_at (by decide +kernel : fetch mX12_asksOnce 36 = some (.iload_n 2)),
  by intros; exact G_at (by decide +kernel : fetch mX12_asksOnce 37 = some (.ifCond .ge 6)),
  by intros; exact G_at (by decide +kernel : fetch mX12_asksOnce 40 = some (.goto 56)),
  by intros; exact G_at (by decide +kernel : fetch mX12_asksOnce 43 = some (.aload_n 0)),
  by intros; exact G_own (by decide +kernel : fetch mX12_asksOnce 44 = some (.getfield 40)) (by decide +kernel),
  by intros; exact G_at (by decide +kernel : fetch mX12_asksOnce 47 = some (.iload_n 1)),
  by intros; exact G_at (by decide +kernel : fetch mX12_asksOnce 48 = some (.dup2)),
  by intros; exact G_at (by decide +kernel : fetch mX12_asksOnce 49 = some (.iaload)),
  by intros; exact G_at (by decide +kernel : fetch mX12_asksOnce 50 = some (.iconst 1)),
  by intros; exact G_at (by decide +kernel : fetch mX12_asksOnce 51 = some (.iload_n 2)),
  by intros; exact G_at (by decide +kernel : fetch mX12_asksOnce 52 = some (.ishl)),
  by intros; exact G_at (by decide +kernel : fetch mX12_asksOnce 53 = some (.ior)),
  by intros; exact G_at (by decide +kernel : fetch mX12_asksOnce 54 = some (.iastore)),
  by intros; exact G_at (by decide +kernel : fetch mX12_asksOnce 55 = some (.aload_n 0)),
  by intros; exact G_at (by decide +kernel : fetch mX12_asksOnce 56 = some (.iload_n 2)),
  by intros; exact G_callV (by decide +kernel : fetch mX12_asksOnce 57 = some (.invokevirtual 233)) (by decide +kernel) (by decide +kernel) rfl,
  by intros; exact G_at (by decide +kernel : fetch mX12_asksOnce 60 = some (.istore_n 3)),
  by intros; exact G_at (by decide +kernel : fetch mX12_asksOnce 61 = some (.iload_n 3)),
  by intros; exact G_at (by decide +kernel : fetch mX12_asksOnce 62 = some (.ifCond .lt 13)),
  by intros; exact G_at (by decide +kernel : fetch mX12_asksOnce 65 = some (.aload_n 0)),
  by intros; exact G_at (by decide +kernel : fetch mX12_asksOnce 66 = some (.iload_n 2)),
  by intros; exact G_at (by decide +kernel : fetch mX12_asksOnce 67 = some (.iload_n 1)),
  by intros; exact G_at (by decide +kernel : fetch mX12_asksOnce 68 = some (.iload_n 3)),
  by intros; exact G_callV (by decide +kernel : fetch mX12_asksOnce 69 = some (.invokevirtual 242)) (by decide +kernel) (by decide +kernel) rfl,
  by intros; exact G_at (by decide +kernel : fetch mX12_asksOnce 72 = some (.ifCond .eq 22)),
  by intros; exact G_at (by decide +kernel : fetch mX12_asksOnce 75 = some (.aload_n 0)),
  by intros; exact G_own (by decide +kernel : fetch mX12_asksOnce 76 = some (.getfield 34)) (by decide +kernel),
  by intros; exact G_at (by decide +kernel : fetch mX12_asksOnce 79 = some (.iload_n 1)),
  by intros; exact G_at (by decide +kernel : fetch mX12_asksOnce 80 = some (.iload_n 2)),
  by intros; exact G_at (by decide +kernel : fetch mX12_asksOnce 81 = some (.iastore)),
  by intros; exact G_at (by decide +kernel : fetch mX12_asksOnce 82 = some (.iload_n 3)),
  by intros; exact G_at (by decide +kernel : fetch mX12_asksOnce 83 = some (.ifCond .lt 11)),
  by intros; exact G_at (by decide +kernel : fetch mX12_asksOnce 86 = some (.aload_n 0)),
  by intros; exact G_own (by decide +kernel : fetch mX12_asksOnce 87 = some (.getfield 34)) (by decide +kernel),
  by intros; exact G_at (by decide +kernel : fetch mX12_asksOnce 90 = some (.iload_n 3)),
  by intros; exact G_at (by decide +kernel : fetch mX12_asksOnce 91 = some (.bipush (-4))),
  by intros; exact G_at (by decide +kernel : fetch mX12_asksOnce 93 = some (.iastore)),
  by intros; exact G_at (by decide +kernel : fetch mX12_asksOnce 94 = some (.iconst 1)),
  by intros; exact G_retz (by decide +kernel : fetch mX12_asksOnce 95 = some (.ireturn)) (by decide +kernel),
  by intros; exact G_at (by decide +kernel : fetch mX12_asksOnce 96 = some (.iinc 1 1)),
  by intros; exact G_at (by decide +kernel : fetch mX12_asksOnce 99 = some (.goto (-97))),
  by intros; exact G_at (by decide +kernel : fetch mX12_asksOnce 102 = some (.iconst 0)),
  by intros; exact G_retz (by decide +kernel : fetch mX12_asksOnce 103 = some (.ireturn)) (by decide +kernel),
  by decide +kernel,
  by decide +kernel,
  by decide +kernel,
  by decide +kernel,
  by decide +kernel,
  by decide +kernel⟩
theorem gX12_stable : (∀ (n d : Nat) (L : List (Option iV)) (st : List iV) (h : iH) (Q : Option iV → iH → Prop), G sp sc [13, 41] d mX12_stable (n + 1) 0 L st h Q = (match ld L 0 with | some (.inr (.inr (r + 1))) => G sp sc [13, 41] d mX12_stable n 1 L (.inr (.inr (r + 1)) :: st) h Q | _ => False)) ∧
  (∀ (n d : Nat) (L : List (Option iV)) (st : List iV) (h : iH) (Q : Option iV → iH → Prop), G sp sc [13, 41] d mX12_stable (n + 1) 1 L st h Q = G sp sc [13, 41] d mX12_stable n 2 L (.inl 0 :: st) h Q) ∧
  (∀ (n d : Nat) (L : List (Option iV)) (st : List iV) (h : iH) (Q : Option iV → iH → Prop), G sp sc [13, 41] d mX12_stable (n + 1) 2 L st h Q = (match ld L 1 with | some (.inl x) => G sp sc [13, 41] d mX12_stable n 3 L (.inl x :: st) h Q | _ => False)) ∧
  (∀ (n d : Nat) (L : List (Option iV)) (r : List iV) (m : Nat) (z0 : iV) (z1 : iV) (h : iH) (Q : Option iV → iH → Prop), G sp sc [13, 41] (d + 1) mX12_stable (n + 1) 3 L (z1 :: z0 :: .inr (.inr (m + 2)) :: r) h Q = (match h.1[m]? with | some (.inl (ci, _)) => (match lkC 12 175 ci with | some (y1, n1, kd) => (n1 = 2 ∧ (kd = 2 ∨ kd = 3 ∨ kd = 8) ∧ cs r ≤ 8) ∧ Call sp sc d y1 [.inr (.inr (m + 2)), z0, z1] h (fun q h1 => GC sp sc [13, 41] (d + 1) mX12_stable n 6 L q r h h1 Q) | none => False) | _ => False)) ∧
  (∀ (n d : Nat) (L : List (Option iV)) (a : Int) (r : List iV) (h : iH) (Q : Option iV → iH → Prop), G sp sc [13, 41] d mX12_stable (n + 1) 6 L (.inl a :: r) h Q = (inI a = true ∧ (¬ a = 0 → G sp sc [13, 41] d mX12_stable n 11 L r h Q) ∧ (¬ (¬ a = 0) → G sp sc [13, 41] d mX12_stable n 9 L r h Q))) ∧
  (∀ (n d : Nat) (L : List (Option iV)) (st : List iV) (h : iH) (Q : Option iV → iH → Prop), G sp sc [13, 41] d mX12_stable (n + 1) 9 L st h Q = G sp sc [13, 41] d mX12_stable n 10 L (.inl (-1) :: st) h Q) ∧
  (∀ (n d : Nat) (L : List (Option iV)) (a : Int) (h : iH) (Q : Option iV → iH → Prop), G sp sc [13, 41] d mX12_stable (n + 1) 10 L [.inl a] h Q = Q (some (.inl a)) h) ∧
  (∀ (n d : Nat) (L : List (Option iV)) (st : List iV) (h : iH) (Q : Option iV → iH → Prop), G sp sc [13, 41] d mX12_stable (n + 1) 11 L st h Q = G sp sc [13, 41] d mX12_stable n 12 L (.inl 0 :: st) h Q) ∧
  (∀ (n d : Nat) (L : List (Option iV)) (r : List iV) (x : Int) (h : iH) (Q : Option iV → iH → Prop), G sp sc [13, 41] d mX12_stable (n + 1) 12 L (.inl x :: r) h Q = (match st1 L 2 (.inl x) with | some L' => Run sp sc d mX12_stable 13 L' r h Q | none => False)) ∧
  (∀ (n d : Nat) (L : List (Option iV)) (st : List iV) (h : iH) (Q : Option iV → iH → Prop), G sp sc [13, 41] d mX12_stable (n + 1) 13 L st h Q = (match ld L 2 with | some (.inl x) => G sp sc [13, 41] d mX12_stable n 14 L (.inl x :: st) h Q | _ => False)) ∧
  (∀ (n d : Nat) (L : List (Option iV)) (st : List iV) (h : iH) (Q : Option iV → iH → Prop), G sp sc [13, 41] d mX12_stable (n + 1) 14 L st h Q = G sp sc [13, 41] d mX12_stable n 15 L (.inl 5 :: st) h Q) ∧
  (∀ (n d : Nat) (L : List (Option iV)) (a : Int) (b : Int) (r : List iV) (h : iH) (Q : Option iV → iH → Prop), G sp sc [13, 41] d mX12_stable (n + 1) 15 L (.inl b :: .inl a :: r) h Q = ((inI a = true ∧ inI b = true) ∧ (b ≤ a → G sp sc [13, 41] d mX12_stable n 39 L r h Q) ∧ (¬ (b ≤ a) → G sp sc [13, 41] d mX12_stable n 18 L r h Q))) ∧
  (∀ (n d : Nat) (L : List (Option iV)) (st : List iV) (h : iH) (Q : Option iV → iH → Prop), G sp sc [13, 41] d mX12_stable (n + 1) 18 L st h Q = (match ld L 0 with | some (.inr (.inr (r + 1))) => G sp sc [13, 41] d mX12_stable n 19 L (.inr (.inr (r + 1)) :: st) h Q | _ => False)) ∧
  (∀ (n d : Nat) (L : List (Option iV)) (r : List iV) (m : Nat) (h : iH) (Q : Option iV → iH → Prop), G sp sc [13, 41] d mX12_stable (n + 1) 19 L (.inr (.inr (m + 2)) :: r) h Q = (match h.1[m]? with | some (.inl (ci, fs)) => (match lkF 12 34 ci with | some k => (match fs[k]? with | some v => G sp sc [13, 41] d mX12_stable n 22 L (v :: r) h Q | none => False) | none => False) | _ => False)) ∧
  (∀ (n d : Nat) (L : List (Option iV)) (st : List iV) (h : iH) (Q : Option iV → iH → Prop), G sp sc [13, 41] d mX12_stable (n + 1) 22 L st h Q = (match ld L 2 with | some (.inl x) => G sp sc [13, 41] d mX12_stable n 23 L (.inl x :: st) h Q | _ => False)) ∧
  (∀ (n d : Nat) (L : List (Option iV)) (st : List iV) (h : iH) (Q : Option iV → iH → Prop), G sp sc [13, 41] d mX12_stable (n + 1) 23 L st h Q = ((-128 ≤ ((-4) : Int) ∧ ((-4) : Int) < 128) ∧ G sp sc [13, 41] d mX12_stable n 25 L (.inl (-4) :: st) h Q)) ∧
  (∀ (n d : Nat) (L : List (Option iV)) (r : List iV) (v : Int) (j : Int) (m : Nat) (h : iH) (Q : Option iV → iH → Prop), G sp sc [13, 41] d mX12_stable (n + 1) 25 L (.inl v :: .inl j :: .inr (.inr (m + 2)) :: r) h Q = (match h.1[m]? with | some (.inr (.inl (0, xs))) => inA j xs.length = true ∧ G sp sc [13, 41] d mX12_stable n 26 L r (h.1.set m (.inr (.inl (0, xs.set j.toNat v))), h.2) Q | _ => False)) ∧
  (∀ (n d : Nat) (L : List (Option iV)) (st : List iV) (h : iH) (Q : Option iV → iH → Prop), G sp sc [13, 41] d mX12_stable (n + 1) 26 L st h Q = (match ld L 0 with | some (.inr (.inr (r + 1))) => G sp sc [13, 41] d mX12_stable n 27 L (.inr (.inr (r + 1)) :: st) h Q | _ => False)) ∧
  (∀ (n d : Nat) (L : List (Option iV)) (r : List iV) (m : Nat) (h : iH) (Q : Option iV → iH → Prop), G sp sc [13, 41] d mX12_stable (n + 1) 27 L (.inr (.inr (m + 2)) :: r) h Q = (match h.1[m]? with | some (.inl (ci, fs)) => (match lkF 12 40 ci with | some k => (match fs[k]? with | some v => G sp sc [13, 41] d mX12_stable n 30 L (v :: r) h Q | none => False) | none => False) | _ => False)) ∧
  (∀ (n d : Nat) (L : List (Option iV)) (st : List iV) (h : iH) (Q : Option iV → iH → Prop), G sp sc [13, 41] d mX12_stable (n + 1) 30 L st h Q = (match ld L 2 with | some (.inl x) => G sp sc [13, 41] d mX12_stable n 31 L (.inl x :: st) h Q | _ => False)) ∧
  (∀ (n d : Nat) (L : List (Option iV)) (st : List iV) (h : iH) (Q : Option iV → iH → Prop), G sp sc [13, 41] d mX12_stable (n + 1) 31 L st h Q = G sp sc [13, 41] d mX12_stable n 32 L (.inl 0 :: st) h Q) ∧
  (∀ (n d : Nat) (L : List (Option iV)) (r : List iV) (v : Int) (j : Int) (m : Nat) (h : iH) (Q : Option iV → iH → Prop), G sp sc [13, 41] d mX12_stable (n + 1) 32 L (.inl v :: .inl j :: .inr (.inr (m + 2)) :: r) h Q = (match h.1[m]? with | some (.inr (.inl (0, xs))) => inA j xs.length = true ∧ G sp sc [13, 41] d mX12_stable n 33 L r (h.1.set m (.inr (.inl (0, xs.set j.toNat v))), h.2) Q | _ => False)) ∧
  (∀ (n d : Nat) (L : List (Option iV)) (st : List iV) (h : iH) (Q : Option iV → iH → Prop), G sp sc [13, 41] d mX12_stable (n + 1) 33 L st h Q = (match ld L 2 with | some (.inl x) => (match st1 L 2 (.inl (x + 1)) with | some L' => G sp sc [13, 41] d mX12_stable n 36 L' st h Q | none => False) | _ => False)) ∧
  (∀ (n d : Nat) (L : List (Option iV)) (st : List iV) (h : iH) (Q : Option iV → iH → Prop), G sp sc [13, 41] d mX12_stable (n + 1) 36 L st h Q = Run sp sc d mX12_stable 13 L st h Q) ∧
  (∀ (n d : Nat) (L : List (Option iV)) (st : List iV) (h : iH) (Q : Option iV → iH → Prop), G sp sc [13, 41] d mX12_stable (n + 1) 39 L st h Q = G sp sc [13, 41] d mX12_stable n 40 L (.inl 1 :: st) h Q) ∧
  (∀ (n d : Nat) (L : List (Option iV)) (r : List iV) (x : Int) (h : iH) (Q : Option iV → iH → Prop), G sp sc [13, 41] d mX12_stable (n + 1) 40 L (.inl x :: r) h Q = (match st1 L 2 (.inl x) with | some L' => Run sp sc d mX12_stable 41 L' r h Q | none => False)) ∧
  (∀ (n d : Nat) (L : List (Option iV)) (st : List iV) (h : iH) (Q : Option iV → iH → Prop), G sp sc [13, 41] d mX12_stable (n + 1) 41 L st h Q = (match ld L 2 with | some (.inl x) => G sp sc [13, 41] d mX12_stable n 42 L (.inl x :: st) h Q | _ => False)) ∧
  (∀ (n d : Nat) (L : List (Option iV)) (a : Int) (r : List iV) (h : iH) (Q : Option iV → iH → Prop), G sp sc [13, 41] d mX12_stable (n + 1) 42 L (.inl a :: r) h Q = (inI a = true ∧ (a = 0 → G sp sc [13, 41] d mX12_stable n 53 L r h Q) ∧ (¬ (a = 0) → G sp sc [13, 41] d mX12_stable n 45 L r h Q))) ∧
  (∀ (n d : Nat) (L : List (Option iV)) (st : List iV) (h : iH) (Q : Option iV → iH → Prop), G sp sc [13, 41] d mX12_stable (n + 1) 45 L st h Q = (match ld L 0 with | some (.inr (.inr (r + 1))) => G sp sc [13, 41] d mX12_stable n 46 L (.inr (.inr (r + 1)) :: st) h Q | _ => False)) ∧
  (∀ (n d : Nat) (L : List (Option iV)) (r : List iV) (m : Nat) (h : iH) (Q : Option iV → iH → Prop), G sp sc [13, 41] (d + 1) mX12_stable (n + 1) 46 L (.inr (.inr (m + 2)) :: r) h Q = (match h.1[m]? with | some (.inl (ci, _)) => (match lkC 12 245 ci with | some (y1, n1, kd) => (n1 = 0 ∧ (kd = 2 ∨ kd = 3 ∨ kd = 8) ∧ cs r ≤ 8) ∧ Call sp sc d y1 [.inr (.inr (m + 2))] h (fun q h1 => GC sp sc [13, 41] (d + 1) mX12_stable n 49 L q r h h1 Q) | none => False) | _ => False)) ∧
  (∀ (n d : Nat) (L : List (Option iV)) (r : List iV) (x : Int) (h : iH) (Q : Option iV → iH → Prop), G sp sc [13, 41] d mX12_stable (n + 1) 49 L (.inl x :: r) h Q = (match st1 L 2 (.inl x) with | some L' => G sp sc [13, 41] d mX12_stable n 50 L' r h Q | none => False)) ∧
  (∀ (n d : Nat) (L : List (Option iV)) (st : List iV) (h : iH) (Q : Option iV → iH → Prop), G sp sc [13, 41] d mX12_stable (n + 1) 50 L st h Q = Run sp sc d mX12_stable 41 L st h Q) ∧
  (∀ (n d : Nat) (L : List (Option iV)) (st : List iV) (h : iH) (Q : Option iV → iH → Prop), G sp sc [13, 41] d mX12_stable (n + 1) 53 L st h Q = (match ld L 0 with | some (.inr (.inr (r + 1))) => G sp sc [13, 41] d mX12_stable n 54 L (.inr (.inr (r + 1)) :: st) h Q | _ => False)) ∧
  (∀ (n d : Nat) (L : List (Option iV)) (r : List iV) (m : Nat) (h : iH) (Q : Option iV → iH → Prop), G sp sc [13, 41] d mX12_stable (n + 1) 54 L (.inr (.inr (m + 2)) :: r) h Q = (match h.1[m]? with | some (.inl (ci, fs)) => (match lkF 12 34 ci with | some k => (match fs[k]? with | some v => G sp sc [13, 41] d mX12_stable n 57 L (v :: r) h Q | none => False) | none => False) | _ => False)) ∧
  (∀ (n d : Nat) (L : List (Option iV)) (st : List iV) (h : iH) (Q : Option iV → iH → Prop), G sp sc [13, 41] d mX12_stable (n + 1) 57 L st h Q = (match ld L 1 with | some (.inl x) => G sp sc [13, 41] d mX12_stable n 58 L (.inl x :: st) h Q | _ => False)) ∧
  (∀ (n d : Nat) (L : List (Option iV)) (r : List iV) (j : Int) (m : Nat) (h : iH) (Q : Option iV → iH → Prop), G sp sc [13, 41] d mX12_stable (n + 1) 58 L (.inl j :: .inr (.inr (m + 2)) :: r) h Q = (match h.1[m]? with | some (.inr (.inl (0, xs))) => inA j xs.length = true ∧ G sp sc [13, 41] d mX12_stable n 59 L (.inl (xs.getD j.toNat 0) :: r) h Q | _ => False)) ∧
  (∀ (n d : Nat) (L : List (Option iV)) (a : Int) (h : iH) (Q : Option iV → iH → Prop), G sp sc [13, 41] d mX12_stable (n + 1) 59 L [.inl a] h Q = Q (some (.inl a)) h) ∧
  lkC 12 175 12 = some (mX12_isOne, 2, 2) ∧
  lkC 12 245 12 = some (mX12_asksOnce, 0, 2) ∧
  lkF 12 34 12 = some 18 ∧
  lkF 12 40 12 = some 20 := ⟨by intros; exact G_at (by decide +kernel : fetch mX12_stable 0 = some (.aload_n 0)),
  by intros; exact G_at (by decide +kernel : fetch mX12_stable 1 = some (.iconst 0)),
  by intros; exact G_at (by decide +kernel : fetch mX12_stable 2 = some (.iload_n 1)),
  by intros; exact G_callV (by decide +kernel : fetch mX12_stable 3 = some (.invokevirtual 175)) (by decide +kernel) (by decide +kernel) rfl,
  by intros; exact G_at (by decide +kernel : fetch mX12_stable 6 = some (.ifCond .ne 5)),
  by intros; exact G_at (by decide +kernel : fetch mX12_stable 9 = some (.iconst (-1))),
  by intros; exact G_reti (by decide +kernel : fetch mX12_stable 10 = some (.ireturn)) (by decide +kernel),
  by intros; exact G_at (by decide +kernel : fetch mX12_stable 11 = some (.iconst 0)),
  by intros; exact G_at (by decide +kernel : fetch mX12_stable 12 = some (.istore_n 2)),
  by intros; exact G_at (by decide +kernel : fetch mX12_stable 13 = some (.iload_n 2)),
  by intros; exact G_at (by decide +kernel : fetch mX12_stable 14 = some (.iconst 5)),
  by intros; exact G_at (by decide +kernel : fetch mX12_stable 15 = some (.if_icmp .ge 24)),
  by intros; exact G_at (by decide +kernel : fetch mX12_stable 18 = some (.aload_n 0)),
  by intros; exact G_own (by decide +kernel : fetch mX12_stable 19 = some (.getfield 34)) (by decide +kernel),
  by intros; exact G_at (by decide +kernel : fetch mX12_stable 22 = some (.iload_n 2)),
  by intros; exact G_at (by decide +kernel : fetch mX12_stable 23 = some (.bipush (-4))),
  by intros; exact G_at (by decide +kernel : fetch mX12_stable 25 = some (.iastore)),
  by intros; exact G_at (by decide +kernel : fetch mX12_stable 26 = some (.aload_n 0)),
  by intros; exact G_own (by decide +kernel : fetch mX12_stable 27 = some (.getfield 40)) (by decide +kernel),
  by intros; exact G_at (by decide +kernel : fetch mX12_stable 30 = some (.iload_n 2)),
  by intros; exact G_at (by decide +kernel : fetch mX12_stable 31 = some (.iconst 0)),
  by intros; exact G_at (by decide +kernel : fetch mX12_stable 32 = some (.iastore)),
  by intros; exact G_at (by decide +kernel : fetch mX12_stable 33 = some (.iinc 2 1)),
  by intros; exact G_at (by decide +kernel : fetch mX12_stable 36 = some (.goto (-23))),
  by intros; exact G_at (by decide +kernel : fetch mX12_stable 39 = some (.iconst 1)),
  by intros; exact G_at (by decide +kernel : fetch mX12_stable 40 = some (.istore_n 2)),
  by intros; exact G_at (by decide +kernel : fetch mX12_stable 41 = some (.iload_n 2)),
  by intros; exact G_at (by decide +kernel : fetch mX12_stable 42 = some (.ifCond .eq 11)),
  by intros; exact G_at (by decide +kernel : fetch mX12_stable 45 = some (.aload_n 0)),
  by intros; exact G_callV (by decide +kernel : fetch mX12_stable 46 = some (.invokevirtual 245)) (by decide +kernel) (by decide +kernel) rfl,
  by intros; exact G_at (by decide +kernel : fetch mX12_stable 49 = some (.istore_n 2)),
  by intros; exact G_at (by decide +kernel : fetch mX12_stable 50 = some (.goto (-9))),
  by intros; exact G_at (by decide +kernel : fetch mX12_stable 53 = some (.aload_n 0)),
  by intros; exact G_own (by decide +kernel : fetch mX12_stable 54 = some (.getfield 34)) (by decide +kernel),
  by intros; exact G_at (by decide +kernel : fetch mX12_stable 57 = some (.iload_n 1)),
  by intros; exact G_at (by decide +kernel : fetch mX12_stable 58 = some (.iaload)),
  by intros; exact G_reti (by decide +kernel : fetch mX12_stable 59 = some (.ireturn)) (by decide +kernel),
  by decide +kernel,
  by decide +kernel,
  by decide +kernel,
  by decide +kernel⟩
theorem gX12_looksAtMatching : (∀ (n d : Nat) (L : List (Option iV)) (st : List iV) (h : iH) (Q : Option iV → iH → Prop), G sp sc [25, 106] d mX12_looksAtMatching (n + 1) 0 L st h Q = (match ld L 0 with | some (.inr (.inr (r + 1))) => G sp sc [25, 106] d mX12_looksAtMatching n 1 L (.inr (.inr (r + 1)) :: st) h Q | _ => False)) ∧
  (∀ (n d : Nat) (L : List (Option iV)) (a : Int) (r : List iV) (h : iH) (Q : Option iV → iH → Prop), G sp sc [25, 106] d mX12_looksAtMatching (n + 1) 1 L (.inl a :: r) h Q = G sp sc [25, 106] d mX12_looksAtMatching n 2 L (.inl a :: .inl a :: r) h Q) ∧
  (∀ (n d : Nat) (L : List (Option iV)) (a : Nat) (r : List iV) (h : iH) (Q : Option iV → iH → Prop), G sp sc [25, 106] d mX12_looksAtMatching (n + 1) 1 L (.inr (.inr a) :: r) h Q = G sp sc [25, 106] d mX12_looksAtMatching n 2 L (.inr (.inr a) :: .inr (.inr a) :: r) h Q) ∧
  (∀ (n d : Nat) (L : List (Option iV)) (r : List iV) (m : Nat) (h : iH) (Q : Option iV → iH → Prop), G sp sc [25, 106] d mX12_looksAtMatching (n + 1) 2 L (.inr (.inr (m + 2)) :: r) h Q = (match h.1[m]? with | some (.inl (ci, fs)) => (match lkF 12 248 ci with | some k => (match fs[k]? with | some v => G sp sc [25, 106] d mX12_looksAtMatching n 5 L (v :: r) h Q | none => False) | none => False) | _ => False)) ∧
  (∀ (n d : Nat) (L : List (Option iV)) (st : List iV) (h : iH) (Q : Option iV → iH → Prop), G sp sc [25, 106] d mX12_looksAtMatching (n + 1) 5 L st h Q = (match ld L 0 with | some (.inr (.inr (r + 1))) => G sp sc [25, 106] d mX12_looksAtMatching n 6 L (.inr (.inr (r + 1)) :: st) h Q | _ => False)) ∧
  (∀ (n d : Nat) (L : List (Option iV)) (r : List iV) (m : Nat) (h : iH) (Q : Option iV → iH → Prop), G sp sc [25, 106] (d + 1) mX12_looksAtMatching (n + 1) 6 L (.inr (.inr (m + 2)) :: r) h Q = (match h.1[m]? with | some (.inl (ci, _)) => (match lkC 12 236 ci with | some (y1, n1, kd) => (n1 = 0 ∧ (kd = 2 ∨ kd = 3 ∨ kd = 8) ∧ cs r ≤ 8) ∧ Call sp sc d y1 [.inr (.inr (m + 2))] h (fun q h1 => GC sp sc [25, 106] (d + 1) mX12_looksAtMatching n 9 L q r h h1 Q) | none => False) | _ => False)) ∧
  (∀ (n d : Nat) (L : List (Option iV)) (a : Int) (r : List iV) (h : iH) (Q : Option iV → iH → Prop), G sp sc [25, 106] d mX12_looksAtMatching (n + 1) 9 L (.inl a :: r) h Q = (inI a = true ∧ (0 ≤ a → G sp sc [25, 106] d mX12_looksAtMatching n 16 L r h Q) ∧ (¬ (0 ≤ a) → G sp sc [25, 106] d mX12_looksAtMatching n 12 L r h Q))) ∧
  (∀ (n d : Nat) (L : List (Option iV)) (st : List iV) (h : iH) (Q : Option iV → iH → Prop), G sp sc [25, 106] d mX12_looksAtMatching (n + 1) 12 L st h Q = G sp sc [25, 106] d mX12_looksAtMatching n 13 L (.inl 1 :: st) h Q) ∧
  (∀ (n d : Nat) (L : List (Option iV)) (st : List iV) (h : iH) (Q : Option iV → iH → Prop), G sp sc [25, 106] d mX12_looksAtMatching (n + 1) 13 L st h Q = G sp sc [25, 106] d mX12_looksAtMatching n 17 L st h Q) ∧
  (∀ (n d : Nat) (L : List (Option iV)) (st : List iV) (h : iH) (Q : Option iV → iH → Prop), G sp sc [25, 106] d mX12_looksAtMatching (n + 1) 16 L st h Q = G sp sc [25, 106] d mX12_looksAtMatching n 17 L (.inl 0 :: st) h Q) ∧
  (∀ (n d : Nat) (L : List (Option iV)) (a : Int) (b : Int) (r : List iV) (h : iH) (Q : Option iV → iH → Prop), G sp sc [25, 106] d mX12_looksAtMatching (n + 1) 17 L (.inl b :: .inl a :: r) h Q = G sp sc [25, 106] d mX12_looksAtMatching n 18 L (.inl (a + b) :: r) h Q) ∧
  (∀ (n d : Nat) (L : List (Option iV)) (r : List iV) (v : iV) (m : Nat) (h : iH) (Q : Option iV → iH → Prop), G sp sc [25, 106] d mX12_looksAtMatching (n + 1) 18 L (v :: .inr (.inr (m + 2)) :: r) h Q = (match h.1[m]? with | some (.inl (ci, fs)) => (match lkF 12 248 ci with | some k => (fitV (tyT ci k) v = true ∧ k < fs.length ∧ pOK 12 false ci k = true) ∧ G sp sc [25, 106] d mX12_looksAtMatching n 21 L r (h.1.set m (.inl (ci, fs.set k v)), h.2) Q | none => False) | _ => False)) ∧
  (∀ (n d : Nat) (L : List (Option iV)) (st : List iV) (h : iH) (Q : Option iV → iH → Prop), G sp sc [25, 106] d mX12_looksAtMatching (n + 1) 21 L st h Q = G sp sc [25, 106] d mX12_looksAtMatching n 22 L (.inl 0 :: st) h Q) ∧
  (∀ (n d : Nat) (L : List (Option iV)) (r : List iV) (x : Int) (h : iH) (Q : Option iV → iH → Prop), G sp sc [25, 106] d mX12_looksAtMatching (n + 1) 22 L (.inl x :: r) h Q = (match st1 L 1 (.inl x) with | some L' => G sp sc [25, 106] d mX12_looksAtMatching n 23 L' r h Q | none => False)) ∧
  (∀ (n d : Nat) (L : List (Option iV)) (st : List iV) (h : iH) (Q : Option iV → iH → Prop), G sp sc [25, 106] d mX12_looksAtMatching (n + 1) 23 L st h Q = G sp sc [25, 106] d mX12_looksAtMatching n 24 L (.inl 0 :: st) h Q) ∧
  (∀ (n d : Nat) (L : List (Option iV)) (r : List iV) (x : Int) (h : iH) (Q : Option iV → iH → Prop), G sp sc [25, 106] d mX12_looksAtMatching (n + 1) 24 L (.inl x :: r) h Q = (match st1 L 2 (.inl x) with | some L' => Run sp sc d mX12_looksAtMatching 25 L' r h Q | none => False)) ∧
  (∀ (n d : Nat) (L : List (Option iV)) (st : List iV) (h : iH) (Q : Option iV → iH → Prop), G sp sc [25, 106] d mX12_looksAtMatching (n + 1) 25 L st h Q = (match ld L 2 with | some (.inl x) => G sp sc [25, 106] d mX12_looksAtMatching n 26 L (.inl x :: st) h Q | _ => False)) ∧
  (∀ (n d : Nat) (L : List (Option iV)) (st : List iV) (h : iH) (Q : Option iV → iH → Prop), G sp sc [25, 106] d mX12_looksAtMatching (n + 1) 26 L st h Q = (match ld L 0 with | some (.inr (.inr (r + 1))) => G sp sc [25, 106] d mX12_looksAtMatching n 27 L (.inr (.inr (r + 1)) :: st) h Q | _ => False)) ∧
  (∀ (n d : Nat) (L : List (Option iV)) (r : List iV) (m : Nat) (h : iH) (Q : Option iV → iH → Prop), G sp sc [25, 106] d mX12_looksAtMatching (n + 1) 27 L (.inr (.inr (m + 2)) :: r) h Q = (match h.1[m]? with | some (.inl (ci, fs)) => (match lkF 12 9 ci with | some k => (match fs[k]? with | some v => G sp sc [25, 106] d mX12_looksAtMatching n 30 L (v :: r) h Q | none => False) | none => False) | _ => False)) ∧
  (∀ (n d : Nat) (L : List (Option iV)) (st : List iV) (h : iH) (Q : Option iV → iH → Prop), G sp sc [25, 106] d mX12_looksAtMatching (n + 1) 30 L st h Q = G sp sc [25, 106] d mX12_looksAtMatching n 31 L (.inl 0 :: st) h Q) ∧
  (∀ (n d : Nat) (L : List (Option iV)) (r : List iV) (j : Int) (m : Nat) (h : iH) (Q : Option iV → iH → Prop), G sp sc [25, 106] d mX12_looksAtMatching (n + 1) 31 L (.inl j :: .inr (.inr (m + 2)) :: r) h Q = (match h.1[m]? with | some (.inr (.inl (0, xs))) => inA j xs.length = true ∧ G sp sc [25, 106] d mX12_looksAtMatching n 32 L (.inl (xs.getD j.toNat 0) :: r) h Q | _ => False)) ∧
  (∀ (n d : Nat) (L : List (Option iV)) (a : Int) (b : Int) (r : List iV) (h : iH) (Q : Option iV → iH → Prop), G sp sc [25, 106] d mX12_looksAtMatching (n + 1) 32 L (.inl b :: .inl a :: r) h Q = ((inI a = true ∧ inI b = true) ∧ (b ≤ a → G sp sc [25, 106] d mX12_looksAtMatching n 90 L r h Q) ∧ (¬ (b ≤ a) → G sp sc [25, 106] d mX12_looksAtMatching n 35 L r h Q))) ∧
  (∀ (n d : Nat) (L : List (Option iV)) (st : List iV) (h : iH) (Q : Option iV → iH → Prop), G sp sc [25, 106] d mX12_looksAtMatching (n + 1) 35 L st h Q = (match ld L 1 with | some (.inl x) => G sp sc [25, 106] d mX12_looksAtMatching n 36 L (.inl x :: st) h Q | _ => False)) ∧
  (∀ (n d : Nat) (L : List (Option iV)) (st : List iV) (h : iH) (Q : Option iV → iH → Prop), G sp sc [25, 106] d mX12_looksAtMatching (n + 1) 36 L st h Q = (match ld L 0 with | some (.inr (.inr (r + 1))) => G sp sc [25, 106] d mX12_looksAtMatching n 37 L (.inr (.inr (r + 1)) :: st) h Q | _ => False)) ∧
  (∀ (n d : Nat) (L : List (Option iV)) (r : List iV) (m : Nat) (h : iH) (Q : Option iV → iH → Prop), G sp sc [25, 106] d mX12_looksAtMatching (n + 1) 37 L (.inr (.inr (m + 2)) :: r) h Q = (match h.1[m]? with | some (.inl (ci, fs)) => (match lkF 12 34 ci with | some k => (match fs[k]? with | some v => G sp sc [25, 106] d mX12_looksAtMatching n 40 L (v :: r) h Q | none => False) | none => False) | _ => False)) ∧
  (∀ (n d : Nat) (L : List (Option iV)) (st : List iV) (h : iH) (Q : Option iV → iH → Prop), G sp sc [25, 106] d mX12_looksAtMatching (n + 1) 40 L st h Q = (match ld L 2 with | some (.inl x) => G sp sc [25, 106] d mX12_looksAtMatching n 41 L (.inl x :: st) h Q | _ => False)) ∧
  (∀ (n d : Nat) (L : List (Option iV)) (r : List iV) (j : Int) (m : Nat) (h : iH) (Q : Option iV → iH → Prop), G sp sc [25, 106] d mX12_looksAtMatching (n + 1) 41 L (.inl j :: .inr (.inr (m + 2)) :: r) h Q = (match h.1[m]? with | some (.inr (.inl (0, xs))) => inA j xs.length = true ∧ G sp sc [25, 106] d mX12_looksAtMatching n 42 L (.inl (xs.getD j.toNat 0) :: r) h Q | _ => False)) ∧
  (∀ (n d : Nat) (L : List (Option iV)) (a : Int) (r : List iV) (h : iH) (Q : Option iV → iH → Prop), G sp sc [25, 106] d mX12_looksAtMatching (n + 1) 42 L (.inl a :: r) h Q = (inI a = true ∧ (0 ≤ a → G sp sc [25, 106] d mX12_looksAtMatching n 49 L r h Q) ∧ (¬ (0 ≤ a) → G sp sc [25, 106] d mX12_looksAtMatching n 45 L r h Q))) ∧
  (∀ (n d : Nat) (L : List (Option iV)) (st : List iV) (h : iH) (Q : Option iV → iH → Prop), G sp sc [25, 106] d mX12_looksAtMatching (n + 1) 45 L st h Q = G sp sc [25, 106] d mX12_looksAtMatching n 46 L (.inl 0 :: st) h Q) ∧
  (∀ (n d : Nat) (L : List (Option iV)) (st : List iV) (h : iH) (Q : Option iV → iH → Prop), G sp sc [25, 106] d mX12_looksAtMatching (n + 1) 46 L st h Q = G sp sc [25, 106] d mX12_looksAtMatching n 82 L st h Q) ∧
  (∀ (n d : Nat) (L : List (Option iV)) (st : List iV) (h : iH) (Q : Option iV → iH → Prop), G sp sc [25, 106] d mX12_looksAtMatching (n + 1) 49 L st h Q = (match ld L 0 with | some (.inr (.inr (r + 1))) => G sp sc [25, 106] d mX12_looksAtMatching n 50 L (.inr (.inr (r + 1)) :: st) h Q | _ => False)) ∧
  (∀ (n d : Nat) (L : List (Option iV)) (r : List iV) (m : Nat) (h : iH) (Q : Option iV → iH → Prop), G sp sc [25, 106] d mX12_looksAtMatching (n + 1) 50 L (.inr (.inr (m + 2)) :: r) h Q = (match h.1[m]? with | some (.inl (ci, fs)) => (match lkF 12 9 ci with | some k => (match fs[k]? with | some v => G sp sc [25, 106] d mX12_looksAtMatching n 53 L (v :: r) h Q | none => False) | none => False) | _ => False)) ∧
  (∀ (n d : Nat) (L : List (Option iV)) (st : List iV) (h : iH) (Q : Option iV → iH → Prop), G sp sc [25, 106] d mX12_looksAtMatching (n + 1) 53 L st h Q = G sp sc [25, 106] d mX12_looksAtMatching n 54 L (.inl 0 :: st) h Q) ∧
  (∀ (n d : Nat) (L : List (Option iV)) (st : List iV) (h : iH) (Q : Option iV → iH → Prop), G sp sc [25, 106] d mX12_looksAtMatching (n + 1) 54 L st h Q = (match ld L 2 with | some (.inl x) => G sp sc [25, 106] d mX12_looksAtMatching n 55 L (.inl x :: st) h Q | _ => False)) ∧
  (∀ (n d : Nat) (L : List (Option iV)) (st : List iV) (h : iH) (Q : Option iV → iH → Prop), G sp sc [25, 106] d mX12_looksAtMatching (n + 1) 55 L st h Q = (match ld L 0 with | some (.inr (.inr (r + 1))) => G sp sc [25, 106] d mX12_looksAtMatching n 56 L (.inr (.inr (r + 1)) :: st) h Q | _ => False)) ∧
  (∀ (n d : Nat) (L : List (Option iV)) (r : List iV) (m : Nat) (h : iH) (Q : Option iV → iH → Prop), G sp sc [25, 106] d mX12_looksAtMatching (n + 1) 56 L (.inr (.inr (m + 2)) :: r) h Q = (match h.1[m]? with | some (.inl (ci, fs)) => (match lkF 12 34 ci with | some k => (match fs[k]? with | some v => G sp sc [25, 106] d mX12_looksAtMatching n 59 L (v :: r) h Q | none => False) | none => False) | _ => False)) ∧
  (∀ (n d : Nat) (L : List (Option iV)) (st : List iV) (h : iH) (Q : Option iV → iH → Prop), G sp sc [25, 106] d mX12_looksAtMatching (n + 1) 59 L st h Q = (match ld L 2 with | some (.inl x) => G sp sc [25, 106] d mX12_looksAtMatching n 60 L (.inl x :: st) h Q | _ => False)) ∧
  (∀ (n d : Nat) (L : List (Option iV)) (r : List iV) (j : Int) (m : Nat) (h : iH) (Q : Option iV → iH → Prop), G sp sc [25, 106] d mX12_looksAtMatching (n + 1) 60 L (.inl j :: .inr (.inr (m + 2)) :: r) h Q = (match h.1[m]? with | some (.inr (.inl (0, xs))) => inA j xs.length = true ∧ G sp sc [25, 106] d mX12_looksAtMatching n 61 L (.inl (xs.getD j.toNat 0) :: r) h Q | _ => False)) ∧
  (∀ (n d : Nat) (L : List (Option iV)) (r : List iV) (z0 : iV) (z1 : iV) (z2 : iV) (h : iH) (Q : Option iV → iH → Prop), G sp sc [25, 106] (d + 1) mX12_looksAtMatching (n + 1) 61 L (z2 :: z1 :: z0 :: r) h Q = (cs r ≤ 8 ∧ Call sp sc d mX12_atLike [z0, z1, z2] h (fun q h1 => GC sp sc [25, 106] (d + 1) mX12_looksAtMatching n 64 L q r h h1 Q))) ∧
  (∀ (n d : Nat) (L : List (Option iV)) (r : List iV) (j : Int) (m : Nat) (h : iH) (Q : Option iV → iH → Prop), G sp sc [25, 106] d mX12_looksAtMatching (n + 1) 64 L (.inl j :: .inr (.inr (m + 2)) :: r) h Q = (match h.1[m]? with | some (.inr (.inl (0, xs))) => inA j xs.length = true ∧ G sp sc [25, 106] d mX12_looksAtMatching n 65 L (.inl (xs.getD j.toNat 0) :: r) h Q | _ => False)) ∧
  (∀ (n d : Nat) (L : List (Option iV)) (st : List iV) (h : iH) (Q : Option iV → iH → Prop), G sp sc [25, 106] d mX12_looksAtMatching (n + 1) 65 L st h Q = (match ld L 0 with | some (.inr (.inr (r + 1))) => G sp sc [25, 106] d mX12_looksAtMatching n 66 L (.inr (.inr (r + 1)) :: st) h Q | _ => False)) ∧
  (∀ (n d : Nat) (L : List (Option iV)) (r : List iV) (m : Nat) (h : iH) (Q : Option iV → iH → Prop), G sp sc [25, 106] d mX12_looksAtMatching (n + 1) 66 L (.inr (.inr (m + 2)) :: r) h Q = (match h.1[m]? with | some (.inl (ci, fs)) => (match lkF 12 9 ci with | some k => (match fs[k]? with | some v => G sp sc [25, 106] d mX12_looksAtMatching n 69 L (v :: r) h Q | none => False) | none => False) | _ => False)) ∧
  (∀ (n d : Nat) (L : List (Option iV)) (st : List iV) (h : iH) (Q : Option iV → iH → Prop), G sp sc [25, 106] d mX12_looksAtMatching (n + 1) 69 L st h Q = G sp sc [25, 106] d mX12_looksAtMatching n 70 L (.inl 1 :: st) h Q) ∧
  (∀ (n d : Nat) (L : List (Option iV)) (st : List iV) (h : iH) (Q : Option iV → iH → Prop), G sp sc [25, 106] d mX12_looksAtMatching (n + 1) 70 L st h Q = (match ld L 0 with | some (.inr (.inr (r + 1))) => G sp sc [25, 106] d mX12_looksAtMatching n 71 L (.inr (.inr (r + 1)) :: st) h Q | _ => False)) ∧
  (∀ (n d : Nat) (L : List (Option iV)) (r : List iV) (m : Nat) (h : iH) (Q : Option iV → iH → Prop), G sp sc [25, 106] d mX12_looksAtMatching (n + 1) 71 L (.inr (.inr (m + 2)) :: r) h Q = (match h.1[m]? with | some (.inl (ci, fs)) => (match lkF 12 34 ci with | some k => (match fs[k]? with | some v => G sp sc [25, 106] d mX12_looksAtMatching n 74 L (v :: r) h Q | none => False) | none => False) | _ => False)) ∧
  (∀ (n d : Nat) (L : List (Option iV)) (st : List iV) (h : iH) (Q : Option iV → iH → Prop), G sp sc [25, 106] d mX12_looksAtMatching (n + 1) 74 L st h Q = (match ld L 2 with | some (.inl x) => G sp sc [25, 106] d mX12_looksAtMatching n 75 L (.inl x :: st) h Q | _ => False)) ∧
  (∀ (n d : Nat) (L : List (Option iV)) (r : List iV) (j : Int) (m : Nat) (h : iH) (Q : Option iV → iH → Prop), G sp sc [25, 106] d mX12_looksAtMatching (n + 1) 75 L (.inl j :: .inr (.inr (m + 2)) :: r) h Q = (match h.1[m]? with | some (.inr (.inl (0, xs))) => inA j xs.length = true ∧ G sp sc [25, 106] d mX12_looksAtMatching n 76 L (.inl (xs.getD j.toNat 0) :: r) h Q | _ => False)) ∧
  (∀ (n d : Nat) (L : List (Option iV)) (st : List iV) (h : iH) (Q : Option iV → iH → Prop), G sp sc [25, 106] d mX12_looksAtMatching (n + 1) 76 L st h Q = (match ld L 2 with | some (.inl x) => G sp sc [25, 106] d mX12_looksAtMatching n 77 L (.inl x :: st) h Q | _ => False)) ∧
  (∀ (n d : Nat) (L : List (Option iV)) (r : List iV) (z0 : iV) (z1 : iV) (z2 : iV) (h : iH) (Q : Option iV → iH → Prop), G sp sc [25, 106] (d + 1) mX12_looksAtMatching (n + 1) 77 L (z2 :: z1 :: z0 :: r) h Q = (cs r ≤ 8 ∧ Call sp sc d mX12_atLike [z0, z1, z2] h (fun q h1 => GC sp sc [25, 106] (d + 1) mX12_looksAtMatching n 80 L q r h h1 Q))) ∧
  (∀ (n d : Nat) (L : List (Option iV)) (r : List iV) (j : Int) (m : Nat) (h : iH) (Q : Option iV → iH → Prop), G sp sc [25, 106] d mX12_looksAtMatching (n + 1) 80 L (.inl j :: .inr (.inr (m + 2)) :: r) h Q = (match h.1[m]? with | some (.inr (.inl (0, xs))) => inA j xs.length = true ∧ G sp sc [25, 106] d mX12_looksAtMatching n 81 L (.inl (xs.getD j.toNat 0) :: r) h Q | _ => False)) ∧
  (∀ (n d : Nat) (L : List (Option iV)) (a : Int) (b : Int) (r : List iV) (h : iH) (Q : Option iV → iH → Prop), G sp sc [25, 106] d mX12_looksAtMatching (n + 1) 81 L (.inl b :: .inl a :: r) h Q = G sp sc [25, 106] d mX12_looksAtMatching n 82 L (.inl (a + b) :: r) h Q) ∧
  (∀ (n d : Nat) (L : List (Option iV)) (a : Int) (b : Int) (r : List iV) (h : iH) (Q : Option iV → iH → Prop), G sp sc [25, 106] d mX12_looksAtMatching (n + 1) 82 L (.inl b :: .inl a :: r) h Q = G sp sc [25, 106] d mX12_looksAtMatching n 83 L (.inl (a + b) :: r) h Q) ∧
  (∀ (n d : Nat) (L : List (Option iV)) (r : List iV) (x : Int) (h : iH) (Q : Option iV → iH → Prop), G sp sc [25, 106] d mX12_looksAtMatching (n + 1) 83 L (.inl x :: r) h Q = (match st1 L 1 (.inl x) with | some L' => G sp sc [25, 106] d mX12_looksAtMatching n 84 L' r h Q | none => False)) ∧
  (∀ (n d : Nat) (L : List (Option iV)) (st : List iV) (h : iH) (Q : Option iV → iH → Prop), G sp sc [25, 106] d mX12_looksAtMatching (n + 1) 84 L st h Q = (match ld L 2 with | some (.inl x) => (match st1 L 2 (.inl (x + 1)) with | some L' => G sp sc [25, 106] d mX12_looksAtMatching n 87 L' st h Q | none => False) | _ => False)) ∧
  (∀ (n d : Nat) (L : List (Option iV)) (st : List iV) (h : iH) (Q : Option iV → iH → Prop), G sp sc [25, 106] d mX12_looksAtMatching (n + 1) 87 L st h Q = Run sp sc d mX12_looksAtMatching 25 L st h Q) ∧
  (∀ (n d : Nat) (L : List (Option iV)) (st : List iV) (h : iH) (Q : Option iV → iH → Prop), G sp sc [25, 106] d mX12_looksAtMatching (n + 1) 90 L st h Q = (match ld L 1 with | some (.inl x) => G sp sc [25, 106] d mX12_looksAtMatching n 91 L (.inl x :: st) h Q | _ => False)) ∧
  (∀ (n d : Nat) (L : List (Option iV)) (st : List iV) (h : iH) (Q : Option iV → iH → Prop), G sp sc [25, 106] d mX12_looksAtMatching (n + 1) 91 L st h Q = (match ld L 0 with | some (.inr (.inr (r + 1))) => G sp sc [25, 106] d mX12_looksAtMatching n 92 L (.inr (.inr (r + 1)) :: st) h Q | _ => False)) ∧
  (∀ (n d : Nat) (L : List (Option iV)) (r : List iV) (m : Nat) (h : iH) (Q : Option iV → iH → Prop), G sp sc [25, 106] d mX12_looksAtMatching (n + 1) 92 L (.inr (.inr (m + 2)) :: r) h Q = (match h.1[m]? with | some (.inl (ci, fs)) => (match lkF 12 251 ci with | some k => (match fs[k]? with | some v => G sp sc [25, 106] d mX12_looksAtMatching n 95 L (v :: r) h Q | none => False) | none => False) | _ => False)) ∧
  (∀ (n d : Nat) (L : List (Option iV)) (a : Int) (b : Int) (r : List iV) (h : iH) (Q : Option iV → iH → Prop), G sp sc [25, 106] d mX12_looksAtMatching (n + 1) 95 L (.inl b :: .inl a :: r) h Q = ((inI a = true ∧ inI b = true) ∧ (b < a → G sp sc [25, 106] d mX12_looksAtMatching n 99 L r h Q) ∧ (¬ (b < a) → G sp sc [25, 106] d mX12_looksAtMatching n 98 L r h Q))) ∧
  (∀ (n d : Nat) (L : List (Option iV))  (h : iH) (Q : Option iV → iH → Prop), G sp sc [25, 106] d mX12_looksAtMatching (n + 1) 98 L [] h Q = Q none h) ∧
  (∀ (n d : Nat) (L : List (Option iV)) (st : List iV) (h : iH) (Q : Option iV → iH → Prop), G sp sc [25, 106] d mX12_looksAtMatching (n + 1) 99 L st h Q = (match ld L 0 with | some (.inr (.inr (r + 1))) => G sp sc [25, 106] d mX12_looksAtMatching n 100 L (.inr (.inr (r + 1)) :: st) h Q | _ => False)) ∧
  (∀ (n d : Nat) (L : List (Option iV)) (st : List iV) (h : iH) (Q : Option iV → iH → Prop), G sp sc [25, 106] d mX12_looksAtMatching (n + 1) 100 L st h Q = (match ld L 1 with | some (.inl x) => G sp sc [25, 106] d mX12_looksAtMatching n 101 L (.inl x :: st) h Q | _ => False)) ∧
  (∀ (n d : Nat) (L : List (Option iV)) (r : List iV) (v : iV) (m : Nat) (h : iH) (Q : Option iV → iH → Prop), G sp sc [25, 106] d mX12_looksAtMatching (n + 1) 101 L (v :: .inr (.inr (m + 2)) :: r) h Q = (match h.1[m]? with | some (.inl (ci, fs)) => (match lkF 12 251 ci with | some k => (fitV (tyT ci k) v = true ∧ k < fs.length ∧ pOK 12 false ci k = true) ∧ G sp sc [25, 106] d mX12_looksAtMatching n 104 L r (h.1.set m (.inl (ci, fs.set k v)), h.2) Q | none => False) | _ => False)) ∧
  (∀ (n d : Nat) (L : List (Option iV)) (st : List iV) (h : iH) (Q : Option iV → iH → Prop), G sp sc [25, 106] d mX12_looksAtMatching (n + 1) 104 L st h Q = G sp sc [25, 106] d mX12_looksAtMatching n 105 L (.inl 0 :: st) h Q) ∧
  (∀ (n d : Nat) (L : List (Option iV)) (r : List iV) (x : Int) (h : iH) (Q : Option iV → iH → Prop), G sp sc [25, 106] d mX12_looksAtMatching (n + 1) 105 L (.inl x :: r) h Q = (match st1 L 2 (.inl x) with | some L' => Run sp sc d mX12_looksAtMatching 106 L' r h Q | none => False)) ∧
  (∀ (n d : Nat) (L : List (Option iV)) (st : List iV) (h : iH) (Q : Option iV → iH → Prop), G sp sc [25, 106] d mX12_looksAtMatching (n + 1) 106 L st h Q = (match ld L 2 with | some (.inl x) => G sp sc [25, 106] d mX12_looksAtMatching n 107 L (.inl x :: st) h Q | _ => False)) ∧
  (∀ (n d : Nat) (L : List (Option iV)) (st : List iV) (h : iH) (Q : Option iV → iH → Prop), G sp sc [25, 106] d mX12_looksAtMatching (n + 1) 107 L st h Q = G sp sc [25, 106] d mX12_looksAtMatching n 108 L (.inl 5 :: st) h Q) ∧
  (∀ (n d : Nat) (L : List (Option iV)) (a : Int) (b : Int) (r : List iV) (h : iH) (Q : Option iV → iH → Prop), G sp sc [25, 106] d mX12_looksAtMatching (n + 1) 108 L (.inl b :: .inl a :: r) h Q = ((inI a = true ∧ inI b = true) ∧ (b ≤ a → G sp sc [25, 106] d mX12_looksAtMatching n 129 L r h Q) ∧ (¬ (b ≤ a) → G sp sc [25, 106] d mX12_looksAtMatching n 111 L r h Q))) ∧
  (∀ (n d : Nat) (L : List (Option iV)) (st : List iV) (h : iH) (Q : Option iV → iH → Prop), G sp sc [25, 106] d mX12_looksAtMatching (n + 1) 111 L st h Q = (match ld L 0 with | some (.inr (.inr (r + 1))) => G sp sc [25, 106] d mX12_looksAtMatching n 112 L (.inr (.inr (r + 1)) :: st) h Q | _ => False)) ∧
  (∀ (n d : Nat) (L : List (Option iV)) (r : List iV) (m : Nat) (h : iH) (Q : Option iV → iH → Prop), G sp sc [25, 106] d mX12_looksAtMatching (n + 1) 112 L (.inr (.inr (m + 2)) :: r) h Q = (match h.1[m]? with | some (.inl (ci, fs)) => (match lkF 12 37 ci with | some k => (match fs[k]? with | some v => G sp sc [25, 106] d mX12_looksAtMatching n 115 L (v :: r) h Q | none => False) | none => False) | _ => False)) ∧
  (∀ (n d : Nat) (L : List (Option iV)) (st : List iV) (h : iH) (Q : Option iV → iH → Prop), G sp sc [25, 106] d mX12_looksAtMatching (n + 1) 115 L st h Q = (match ld L 2 with | some (.inl x) => G sp sc [25, 106] d mX12_looksAtMatching n 116 L (.inl x :: st) h Q | _ => False)) ∧
  (∀ (n d : Nat) (L : List (Option iV)) (st : List iV) (h : iH) (Q : Option iV → iH → Prop), G sp sc [25, 106] d mX12_looksAtMatching (n + 1) 116 L st h Q = (match ld L 0 with | some (.inr (.inr (r + 1))) => G sp sc [25, 106] d mX12_looksAtMatching n 117 L (.inr (.inr (r + 1)) :: st) h Q | _ => False)) ∧
  (∀ (n d : Nat) (L : List (Option iV)) (r : List iV) (m : Nat) (h : iH) (Q : Option iV → iH → Prop), G sp sc [25, 106] d mX12_looksAtMatching (n + 1) 117 L (.inr (.inr (m + 2)) :: r) h Q = (match h.1[m]? with | some (.inl (ci, fs)) => (match lkF 12 34 ci with | some k => (match fs[k]? with | some v => G sp sc [25, 106] d mX12_looksAtMatching n 120 L (v :: r) h Q | none => False) | none => False) | _ => False)) ∧
  (∀ (n d : Nat) (L : List (Option iV)) (st : List iV) (h : iH) (Q : Option iV → iH → Prop), G sp sc [25, 106] d mX12_looksAtMatching (n + 1) 120 L st h Q = (match ld L 2 with | some (.inl x) => G sp sc [25, 106] d mX12_looksAtMatching n 121 L (.inl x :: st) h Q | _ => False)) ∧
  (∀ (n d : Nat) (L : List (Option iV)) (r : List iV) (j : Int) (m : Nat) (h : iH) (Q : Option iV → iH → Prop), G sp sc [25, 106] d mX12_looksAtMatching (n + 1) 121 L (.inl j :: .inr (.inr (m + 2)) :: r) h Q = (match h.1[m]? with | some (.inr (.inl (0, xs))) => inA j xs.length = true ∧ G sp sc [25, 106] d mX12_looksAtMatching n 122 L (.inl (xs.getD j.toNat 0) :: r) h Q | _ => False)) ∧
  (∀ (n d : Nat) (L : List (Option iV)) (r : List iV) (v : Int) (j : Int) (m : Nat) (h : iH) (Q : Option iV → iH → Prop), G sp sc [25, 106] d mX12_looksAtMatching (n + 1) 122 L (.inl v :: .inl j :: .inr (.inr (m + 2)) :: r) h Q = (match h.1[m]? with | some (.inr (.inl (0, xs))) => inA j xs.length = true ∧ G sp sc [25, 106] d mX12_looksAtMatching n 123 L r (h.1.set m (.inr (.inl (0, xs.set j.toNat v))), h.2) Q | _ => False)) ∧
  (∀ (n d : Nat) (L : List (Option iV)) (st : List iV) (h : iH) (Q : Option iV → iH → Prop), G sp sc [25, 106] d mX12_looksAtMatching (n + 1) 123 L st h Q = (match ld L 2 with | some (.inl x) => (match st1 L 2 (.inl (x + 1)) with | some L' => G sp sc [25, 106] d mX12_looksAtMatching n 126 L' st h Q | none => False) | _ => False)) ∧
  (∀ (n d : Nat) (L : List (Option iV)) (st : List iV) (h : iH) (Q : Option iV → iH → Prop), G sp sc [25, 106] d mX12_looksAtMatching (n + 1) 126 L st h Q = Run sp sc d mX12_looksAtMatching 106 L st h Q) ∧
  (∀ (n d : Nat) (L : List (Option iV))  (h : iH) (Q : Option iV → iH → Prop), G sp sc [25, 106] d mX12_looksAtMatching (n + 1) 129 L [] h Q = Q none h) ∧
  lkC 12 236 12 = some (mX12_leaving, 0, 2) ∧
  lkF 12 248 12 = some 21 ∧
  lkF 12 251 12 = some 22 ∧
  lkF 12 34 12 = some 18 ∧
  lkF 12 37 12 = some 19 ∧
  lkF 12 9 12 = some 0 ∧
  pOK 12 false 12 21 = true ∧
  pOK 12 false 12 22 = true := ⟨by intros; exact G_at (by decide +kernel : fetch mX12_looksAtMatching 0 = some (.aload_n 0)),
  by intros; exact G_at (by decide +kernel : fetch mX12_looksAtMatching 1 = some (.dup)),
  by intros; exact G_at (by decide +kernel : fetch mX12_looksAtMatching 1 = some (.dup)),
  by intros; exact G_own (by decide +kernel : fetch mX12_looksAtMatching 2 = some (.getfield 248)) (by decide +kernel),
  by intros; exact G_at (by decide +kernel : fetch mX12_looksAtMatching 5 = some (.aload_n 0)),
  by intros; exact G_callV (by decide +kernel : fetch mX12_looksAtMatching 6 = some (.invokevirtual 236)) (by decide +kernel) (by decide +kernel) rfl,
  by intros; exact G_at (by decide +kernel : fetch mX12_looksAtMatching 9 = some (.ifCond .ge 7)),
  by intros; exact G_at (by decide +kernel : fetch mX12_looksAtMatching 12 = some (.iconst 1)),
  by intros; exact G_at (by decide +kernel : fetch mX12_looksAtMatching 13 = some (.goto 4)),
  by intros; exact G_at (by decide +kernel : fetch mX12_looksAtMatching 16 = some (.iconst 0)),
  by intros; exact G_at (by decide +kernel : fetch mX12_looksAtMatching 17 = some (.iadd)),
  by intros; exact G_ownW (by decide +kernel : fetch mX12_looksAtMatching 18 = some (.putfield 248)) (by decide +kernel) (by decide +kernel),
  by intros; exact G_at (by decide +kernel : fetch mX12_looksAtMatching 21 = some (.iconst 0)),
  by intros; exact G_at (by decide +kernel : fetch mX12_looksAtMatching 22 = some (.istore_n 1)),
  by intros; exact G_at (by decide +kernel : fetch mX12_looksAtMatching 23 = some (.iconst 0)),
  by intros; exact G_at (by decide +kernel : fetch mX12_looksAtMatching 24 = some (.istore_n 2)),
  by intros; exact G_at (by decide +kernel : fetch mX12_looksAtMatching 25 = some (.iload_n 2)),
  by intros; exact G_at (by decide +kernel : fetch mX12_looksAtMatching 26 = some (.aload_n 0)),
  by intros; exact G_own (by decide +kernel : fetch mX12_looksAtMatching 27 = some (.getfield 9)) (by decide +kernel),
  by intros; exact G_at (by decide +kernel : fetch mX12_looksAtMatching 30 = some (.iconst 0)),
  by intros; exact G_at (by decide +kernel : fetch mX12_looksAtMatching 31 = some (.iaload)),
  by intros; exact G_at (by decide +kernel : fetch mX12_looksAtMatching 32 = some (.if_icmp .ge 58)),
  by intros; exact G_at (by decide +kernel : fetch mX12_looksAtMatching 35 = some (.iload_n 1)),
  by intros; exact G_at (by decide +kernel : fetch mX12_looksAtMatching 36 = some (.aload_n 0)),
  by intros; exact G_own (by decide +kernel : fetch mX12_looksAtMatching 37 = some (.getfield 34)) (by decide +kernel),
  by intros; exact G_at (by decide +kernel : fetch mX12_looksAtMatching 40 = some (.iload_n 2)),
  by intros; exact G_at (by decide +kernel : fetch mX12_looksAtMatching 41 = some (.iaload)),
  by intros; exact G_at (by decide +kernel : fetch mX12_looksAtMatching 42 = some (.ifCond .ge 7)),
  by intros; exact G_at (by decide +kernel : fetch mX12_looksAtMatching 45 = some (.iconst 0)),
  by intros; exact G_at (by decide +kernel : fetch mX12_looksAtMatching 46 = some (.goto 36)),
  by intros; exact G_at (by decide +kernel : fetch mX12_looksAtMatching 49 = some (.aload_n 0)),
  by intros; exact G_own (by decide +kernel : fetch mX12_looksAtMatching 50 = some (.getfield 9)) (by decide +kernel),
  by intros; exact G_at (by decide +kernel : fetch mX12_looksAtMatching 53 = some (.iconst 0)),
  by intros; exact G_at (by decide +kernel : fetch mX12_looksAtMatching 54 = some (.iload_n 2)),
  by intros; exact G_at (by decide +kernel : fetch mX12_looksAtMatching 55 = some (.aload_n 0)),
  by intros; exact G_own (by decide +kernel : fetch mX12_looksAtMatching 56 = some (.getfield 34)) (by decide +kernel),
  by intros; exact G_at (by decide +kernel : fetch mX12_looksAtMatching 59 = some (.iload_n 2)),
  by intros; exact G_at (by decide +kernel : fetch mX12_looksAtMatching 60 = some (.iaload)),
  by intros; exact G_callS (k := 3) (kd := 0) (by decide +kernel : fetch mX12_looksAtMatching 61 = some (.invokestatic 109)) (by decide +kernel) (by decide +kernel) (by decide +kernel) rfl (by decide),
  by intros; exact G_at (by decide +kernel : fetch mX12_looksAtMatching 64 = some (.iaload)),
  by intros; exact G_at (by decide +kernel : fetch mX12_looksAtMatching 65 = some (.aload_n 0)),
  by intros; exact G_own (by decide +kernel : fetch mX12_looksAtMatching 66 = some (.getfield 9)) (by decide +kernel),
  by intros; exact G_at (by decide +kernel : fetch mX12_looksAtMatching 69 = some (.iconst 1)),
  by intros; exact G_at (by decide +kernel : fetch mX12_looksAtMatching 70 = some (.aload_n 0)),
  by intros; exact G_own (by decide +kernel : fetch mX12_looksAtMatching 71 = some (.getfield 34)) (by decide +kernel),
  by intros; exact G_at (by decide +kernel : fetch mX12_looksAtMatching 74 = some (.iload_n 2)),
  by intros; exact G_at (by decide +kernel : fetch mX12_looksAtMatching 75 = some (.iaload)),
  by intros; exact G_at (by decide +kernel : fetch mX12_looksAtMatching 76 = some (.iload_n 2)),
  by intros; exact G_callS (k := 3) (kd := 0) (by decide +kernel : fetch mX12_looksAtMatching 77 = some (.invokestatic 109)) (by decide +kernel) (by decide +kernel) (by decide +kernel) rfl (by decide),
  by intros; exact G_at (by decide +kernel : fetch mX12_looksAtMatching 80 = some (.iaload)),
  by intros; exact G_at (by decide +kernel : fetch mX12_looksAtMatching 81 = some (.iadd)),
  by intros; exact G_at (by decide +kernel : fetch mX12_looksAtMatching 82 = some (.iadd)),
  by intros; exact G_at (by decide +kernel : fetch mX12_looksAtMatching 83 = some (.istore_n 1)),
  by intros; exact G_at (by decide +kernel : fetch mX12_looksAtMatching 84 = some (.iinc 2 1)),
  by intros; exact G_at (by decide +kernel : fetch mX12_looksAtMatching 87 = some (.goto (-62))),
  by intros; exact G_at (by decide +kernel : fetch mX12_looksAtMatching 90 = some (.iload_n 1)),
  by intros; exact G_at (by decide +kernel : fetch mX12_looksAtMatching 91 = some (.aload_n 0)),
  by intros; exact G_own (by decide +kernel : fetch mX12_looksAtMatching 92 = some (.getfield 251)) (by decide +kernel),
  by intros; exact G_at (by decide +kernel : fetch mX12_looksAtMatching 95 = some (.if_icmp .gt 4)),
  by intros; exact G_retv (by decide +kernel : fetch mX12_looksAtMatching 98 = some (.return_)) (by decide +kernel),
  by intros; exact G_at (by decide +kernel : fetch mX12_looksAtMatching 99 = some (.aload_n 0)),
  by intros; exact G_at (by decide +kernel : fetch mX12_looksAtMatching 100 = some (.iload_n 1)),
  by intros; exact G_ownW (by decide +kernel : fetch mX12_looksAtMatching 101 = some (.putfield 251)) (by decide +kernel) (by decide +kernel),
  by intros; exact G_at (by decide +kernel : fetch mX12_looksAtMatching 104 = some (.iconst 0)),
  by intros; exact G_at (by decide +kernel : fetch mX12_looksAtMatching 105 = some (.istore_n 2)),
  by intros; exact G_at (by decide +kernel : fetch mX12_looksAtMatching 106 = some (.iload_n 2)),
  by intros; exact G_at (by decide +kernel : fetch mX12_looksAtMatching 107 = some (.iconst 5)),
  by intros; exact G_at (by decide +kernel : fetch mX12_looksAtMatching 108 = some (.if_icmp .ge 21)),
  by intros; exact G_at (by decide +kernel : fetch mX12_looksAtMatching 111 = some (.aload_n 0)),
  by intros; exact G_own (by decide +kernel : fetch mX12_looksAtMatching 112 = some (.getfield 37)) (by decide +kernel),
  by intros; exact G_at (by decide +kernel : fetch mX12_looksAtMatching 115 = some (.iload_n 2)),
  by intros; exact G_at (by decide +kernel : fetch mX12_looksAtMatching 116 = some (.aload_n 0)),
  by intros; exact G_own (by decide +kernel : fetch mX12_looksAtMatching 117 = some (.getfield 34)) (by decide +kernel),
  by intros; exact G_at (by decide +kernel : fetch mX12_looksAtMatching 120 = some (.iload_n 2)),
  by intros; exact G_at (by decide +kernel : fetch mX12_looksAtMatching 121 = some (.iaload)),
  by intros; exact G_at (by decide +kernel : fetch mX12_looksAtMatching 122 = some (.iastore)),
  by intros; exact G_at (by decide +kernel : fetch mX12_looksAtMatching 123 = some (.iinc 2 1)),
  by intros; exact G_at (by decide +kernel : fetch mX12_looksAtMatching 126 = some (.goto (-20))),
  by intros; exact G_retv (by decide +kernel : fetch mX12_looksAtMatching 129 = some (.return_)) (by decide +kernel),
  by decide +kernel,
  by decide +kernel,
  by decide +kernel,
  by decide +kernel,
  by decide +kernel,
  by decide +kernel,
  by decide +kernel,
  by decide +kernel⟩
theorem gX12_eachMatching : (∀ (n d : Nat) (L : List (Option iV)) (st : List iV) (h : iH) (Q : Option iV → iH → Prop), G sp sc [22] d mX12_eachMatching (n + 1) 0 L st h Q = (match ld L 1 with | some (.inl x) => G sp sc [22] d mX12_eachMatching n 1 L (.inl x :: st) h Q | _ => False)) ∧
  (∀ (n d : Nat) (L : List (Option iV)) (st : List iV) (h : iH) (Q : Option iV → iH → Prop), G sp sc [22] d mX12_eachMatching (n + 1) 1 L st h Q = (match ld L 0 with | some (.inr (.inr (r + 1))) => G sp sc [22] d mX12_eachMatching n 2 L (.inr (.inr (r + 1)) :: st) h Q | _ => False)) ∧
  (∀ (n d : Nat) (L : List (Option iV)) (r : List iV) (m : Nat) (h : iH) (Q : Option iV → iH → Prop), G sp sc [22] d mX12_eachMatching (n + 1) 2 L (.inr (.inr (m + 2)) :: r) h Q = (match h.1[m]? with | some (.inl (ci, fs)) => (match lkF 12 9 ci with | some k => (match fs[k]? with | some v => G sp sc [22] d mX12_eachMatching n 5 L (v :: r) h Q | none => False) | none => False) | _ => False)) ∧
  (∀ (n d : Nat) (L : List (Option iV)) (st : List iV) (h : iH) (Q : Option iV → iH → Prop), G sp sc [22] d mX12_eachMatching (n + 1) 5 L st h Q = G sp sc [22] d mX12_eachMatching n 6 L (.inl 0 :: st) h Q) ∧
  (∀ (n d : Nat) (L : List (Option iV)) (r : List iV) (j : Int) (m : Nat) (h : iH) (Q : Option iV → iH → Prop), G sp sc [22] d mX12_eachMatching (n + 1) 6 L (.inl j :: .inr (.inr (m + 2)) :: r) h Q = (match h.1[m]? with | some (.inr (.inl (0, xs))) => inA j xs.length = true ∧ G sp sc [22] d mX12_eachMatching n 7 L (.inl (xs.getD j.toNat 0) :: r) h Q | _ => False)) ∧
  (∀ (n d : Nat) (L : List (Option iV)) (a : Int) (b : Int) (r : List iV) (h : iH) (Q : Option iV → iH → Prop), G sp sc [22] d mX12_eachMatching (n + 1) 7 L (.inl b :: .inl a :: r) h Q = ((inI a = true ∧ inI b = true) ∧ (¬ a = b → G sp sc [22] d mX12_eachMatching n 19 L r h Q) ∧ (¬ (¬ a = b) → G sp sc [22] d mX12_eachMatching n 10 L r h Q))) ∧
  (∀ (n d : Nat) (L : List (Option iV)) (st : List iV) (h : iH) (Q : Option iV → iH → Prop), G sp sc [22] d mX12_eachMatching (n + 1) 10 L st h Q = (match ld L 3 with | some (.inl x) => G sp sc [22] d mX12_eachMatching n 11 L (.inl x :: st) h Q | _ => False)) ∧
  (∀ (n d : Nat) (L : List (Option iV)) (a : Int) (r : List iV) (h : iH) (Q : Option iV → iH → Prop), G sp sc [22] d mX12_eachMatching (n + 1) 11 L (.inl a :: r) h Q = (inI a = true ∧ (¬ a = 0 → G sp sc [22] d mX12_eachMatching n 18 L r h Q) ∧ (¬ (¬ a = 0) → G sp sc [22] d mX12_eachMatching n 14 L r h Q))) ∧
  (∀ (n d : Nat) (L : List (Option iV)) (st : List iV) (h : iH) (Q : Option iV → iH → Prop), G sp sc [22] d mX12_eachMatching (n + 1) 14 L st h Q = (match ld L 0 with | some (.inr (.inr (r + 1))) => G sp sc [22] d mX12_eachMatching n 15 L (.inr (.inr (r + 1)) :: st) h Q | _ => False)) ∧
  (∀ (n d : Nat) (L : List (Option iV)) (r : List iV) (m : Nat) (h : iH) (Q : Option iV → iH → Prop), G sp sc [22] (d + 1) mX12_eachMatching (n + 1) 15 L (.inr (.inr (m + 2)) :: r) h Q = (match h.1[m]? with | some (.inl (ci, _)) => (match lkC 12 254 ci with | some (y1, n1, kd) => (n1 = 0 ∧ (kd = 2 ∨ kd = 3 ∨ kd = 8) ∧ cs r ≤ 8) ∧ Call sp sc d y1 [.inr (.inr (m + 2))] h (fun q h1 => GC sp sc [22] (d + 1) mX12_eachMatching n 18 L q r h h1 Q) | none => False) | _ => False)) ∧
  (∀ (n d : Nat) (L : List (Option iV))  (h : iH) (Q : Option iV → iH → Prop), G sp sc [22] d mX12_eachMatching (n + 1) 18 L [] h Q = Q none h) ∧
  (∀ (n d : Nat) (L : List (Option iV)) (st : List iV) (h : iH) (Q : Option iV → iH → Prop), G sp sc [22] d mX12_eachMatching (n + 1) 19 L st h Q = G sp sc [22] d mX12_eachMatching n 20 L (.inl 0 :: st) h Q) ∧
  (∀ (n d : Nat) (L : List (Option iV)) (r : List iV) (x : Int) (h : iH) (Q : Option iV → iH → Prop), G sp sc [22] d mX12_eachMatching (n + 1) 20 L (.inl x :: r) h Q = (match st1 L 4 (.inl x) with | some L' => Run sp sc d mX12_eachMatching 22 L' r h Q | none => False)) ∧
  (∀ (n d : Nat) (L : List (Option iV)) (st : List iV) (h : iH) (Q : Option iV → iH → Prop), G sp sc [22] d mX12_eachMatching (n + 1) 22 L st h Q = (match ld L 4 with | some (.inl x) => G sp sc [22] d mX12_eachMatching n 24 L (.inl x :: st) h Q | _ => False)) ∧
  (∀ (n d : Nat) (L : List (Option iV)) (st : List iV) (h : iH) (Q : Option iV → iH → Prop), G sp sc [22] d mX12_eachMatching (n + 1) 24 L st h Q = (match ld L 0 with | some (.inr (.inr (r + 1))) => G sp sc [22] d mX12_eachMatching n 25 L (.inr (.inr (r + 1)) :: st) h Q | _ => False)) ∧
  (∀ (n d : Nat) (L : List (Option iV)) (r : List iV) (m : Nat) (h : iH) (Q : Option iV → iH → Prop), G sp sc [22] d mX12_eachMatching (n + 1) 25 L (.inr (.inr (m + 2)) :: r) h Q = (match h.1[m]? with | some (.inl (ci, fs)) => (match lkF 12 9 ci with | some k => (match fs[k]? with | some v => G sp sc [22] d mX12_eachMatching n 28 L (v :: r) h Q | none => False) | none => False) | _ => False)) ∧
  (∀ (n d : Nat) (L : List (Option iV)) (st : List iV) (h : iH) (Q : Option iV → iH → Prop), G sp sc [22] d mX12_eachMatching (n + 1) 28 L st h Q = G sp sc [22] d mX12_eachMatching n 29 L (.inl 1 :: st) h Q) ∧
  (∀ (n d : Nat) (L : List (Option iV)) (r : List iV) (j : Int) (m : Nat) (h : iH) (Q : Option iV → iH → Prop), G sp sc [22] d mX12_eachMatching (n + 1) 29 L (.inl j :: .inr (.inr (m + 2)) :: r) h Q = (match h.1[m]? with | some (.inr (.inl (0, xs))) => inA j xs.length = true ∧ G sp sc [22] d mX12_eachMatching n 30 L (.inl (xs.getD j.toNat 0) :: r) h Q | _ => False)) ∧
  (∀ (n d : Nat) (L : List (Option iV)) (a : Int) (b : Int) (r : List iV) (h : iH) (Q : Option iV → iH → Prop), G sp sc [22] d mX12_eachMatching (n + 1) 30 L (.inl b :: .inl a :: r) h Q = ((inI a = true ∧ inI b = true) ∧ (b ≤ a → G sp sc [22] d mX12_eachMatching n 75 L r h Q) ∧ (¬ (b ≤ a) → G sp sc [22] d mX12_eachMatching n 33 L r h Q))) ∧
  (∀ (n d : Nat) (L : List (Option iV)) (st : List iV) (h : iH) (Q : Option iV → iH → Prop), G sp sc [22] d mX12_eachMatching (n + 1) 33 L st h Q = (match ld L 2 with | some (.inl x) => G sp sc [22] d mX12_eachMatching n 34 L (.inl x :: st) h Q | _ => False)) ∧
  (∀ (n d : Nat) (L : List (Option iV)) (st : List iV) (h : iH) (Q : Option iV → iH → Prop), G sp sc [22] d mX12_eachMatching (n + 1) 34 L st h Q = (match ld L 4 with | some (.inl x) => G sp sc [22] d mX12_eachMatching n 36 L (.inl x :: st) h Q | _ => False)) ∧
  (∀ (n d : Nat) (L : List (Option iV)) (r : List iV) (z0 : iV) (z1 : iV) (h : iH) (Q : Option iV → iH → Prop), G sp sc [22] (d + 1) mX12_eachMatching (n + 1) 36 L (z1 :: z0 :: r) h Q = (cs r ≤ 8 ∧ Call sp sc d mX12_has [z0, z1] h (fun q h1 => GC sp sc [22] (d + 1) mX12_eachMatching n 39 L q r h h1 Q))) ∧
  (∀ (n d : Nat) (L : List (Option iV)) (a : Int) (r : List iV) (h : iH) (Q : Option iV → iH → Prop), G sp sc [22] d mX12_eachMatching (n + 1) 39 L (.inl a :: r) h Q = (inI a = true ∧ (a = 0 → G sp sc [22] d mX12_eachMatching n 45 L r h Q) ∧ (¬ (a = 0) → G sp sc [22] d mX12_eachMatching n 42 L r h Q))) ∧
  (∀ (n d : Nat) (L : List (Option iV)) (st : List iV) (h : iH) (Q : Option iV → iH → Prop), G sp sc [22] d mX12_eachMatching (n + 1) 42 L st h Q = G sp sc [22] d mX12_eachMatching n 69 L st h Q) ∧
  (∀ (n d : Nat) (L : List (Option iV)) (st : List iV) (h : iH) (Q : Option iV → iH → Prop), G sp sc [22] d mX12_eachMatching (n + 1) 45 L st h Q = (match ld L 0 with | some (.inr (.inr (r + 1))) => G sp sc [22] d mX12_eachMatching n 46 L (.inr (.inr (r + 1)) :: st) h Q | _ => False)) ∧
  (∀ (n d : Nat) (L : List (Option iV)) (r : List iV) (m : Nat) (h : iH) (Q : Option iV → iH → Prop), G sp sc [22] d mX12_eachMatching (n + 1) 46 L (.inr (.inr (m + 2)) :: r) h Q = (match h.1[m]? with | some (.inl (ci, fs)) => (match lkF 12 34 ci with | some k => (match fs[k]? with | some v => G sp sc [22] d mX12_eachMatching n 49 L (v :: r) h Q | none => False) | none => False) | _ => False)) ∧
  (∀ (n d : Nat) (L : List (Option iV)) (st : List iV) (h : iH) (Q : Option iV → iH → Prop), G sp sc [22] d mX12_eachMatching (n + 1) 49 L st h Q = (match ld L 1 with | some (.inl x) => G sp sc [22] d mX12_eachMatching n 50 L (.inl x :: st) h Q | _ => False)) ∧
  (∀ (n d : Nat) (L : List (Option iV)) (st : List iV) (h : iH) (Q : Option iV → iH → Prop), G sp sc [22] d mX12_eachMatching (n + 1) 50 L st h Q = (match ld L 4 with | some (.inl x) => G sp sc [22] d mX12_eachMatching n 52 L (.inl x :: st) h Q | _ => False)) ∧
  (∀ (n d : Nat) (L : List (Option iV)) (r : List iV) (v : Int) (j : Int) (m : Nat) (h : iH) (Q : Option iV → iH → Prop), G sp sc [22] d mX12_eachMatching (n + 1) 52 L (.inl v :: .inl j :: .inr (.inr (m + 2)) :: r) h Q = (match h.1[m]? with | some (.inr (.inl (0, xs))) => inA j xs.length = true ∧ G sp sc [22] d mX12_eachMatching n 53 L r (h.1.set m (.inr (.inl (0, xs.set j.toNat v))), h.2) Q | _ => False)) ∧
  (∀ (n d : Nat) (L : List (Option iV)) (st : List iV) (h : iH) (Q : Option iV → iH → Prop), G sp sc [22] d mX12_eachMatching (n + 1) 53 L st h Q = (match ld L 0 with | some (.inr (.inr (r + 1))) => G sp sc [22] d mX12_eachMatching n 54 L (.inr (.inr (r + 1)) :: st) h Q | _ => False)) ∧
  (∀ (n d : Nat) (L : List (Option iV)) (st : List iV) (h : iH) (Q : Option iV → iH → Prop), G sp sc [22] d mX12_eachMatching (n + 1) 54 L st h Q = (match ld L 1 with | some (.inl x) => G sp sc [22] d mX12_eachMatching n 55 L (.inl x :: st) h Q | _ => False)) ∧
  (∀ (n d : Nat) (L : List (Option iV)) (st : List iV) (h : iH) (Q : Option iV → iH → Prop), G sp sc [22] d mX12_eachMatching (n + 1) 55 L st h Q = G sp sc [22] d mX12_eachMatching n 56 L (.inl 1 :: st) h Q) ∧
  (∀ (n d : Nat) (L : List (Option iV)) (a : Int) (b : Int) (r : List iV) (h : iH) (Q : Option iV → iH → Prop), G sp sc [22] d mX12_eachMatching (n + 1) 56 L (.inl b :: .inl a :: r) h Q = G sp sc [22] d mX12_eachMatching n 57 L (.inl (a + b) :: r) h Q) ∧
  (∀ (n d : Nat) (L : List (Option iV)) (st : List iV) (h : iH) (Q : Option iV → iH → Prop), G sp sc [22] d mX12_eachMatching (n + 1) 57 L st h Q = (match ld L 2 with | some (.inl x) => G sp sc [22] d mX12_eachMatching n 58 L (.inl x :: st) h Q | _ => False)) ∧
  (∀ (n d : Nat) (L : List (Option iV)) (st : List iV) (h : iH) (Q : Option iV → iH → Prop), G sp sc [22] d mX12_eachMatching (n + 1) 58 L st h Q = G sp sc [22] d mX12_eachMatching n 59 L (.inl 1 :: st) h Q) ∧
  (∀ (n d : Nat) (L : List (Option iV)) (st : List iV) (h : iH) (Q : Option iV → iH → Prop), G sp sc [22] d mX12_eachMatching (n + 1) 59 L st h Q = (match ld L 4 with | some (.inl x) => G sp sc [22] d mX12_eachMatching n 61 L (.inl x :: st) h Q | _ => False)) ∧
  (∀ (n d : Nat) (L : List (Option iV)) (a : Int) (b : Int) (r : List iV) (h : iH) (Q : Option iV → iH → Prop), G sp sc [22] d mX12_eachMatching (n + 1) 61 L (.inl b :: .inl a :: r) h Q = G sp sc [22] d mX12_eachMatching n 62 L (.inl (bShl a b) :: r) h Q) ∧
  (∀ (n d : Nat) (L : List (Option iV)) (a : Int) (b : Int) (r : List iV) (h : iH) (Q : Option iV → iH → Prop), G sp sc [22] d mX12_eachMatching (n + 1) 62 L (.inl b :: .inl a :: r) h Q = G sp sc [22] d mX12_eachMatching n 63 L (.inl (bOr a b) :: r) h Q) ∧
  (∀ (n d : Nat) (L : List (Option iV)) (st : List iV) (h : iH) (Q : Option iV → iH → Prop), G sp sc [22] d mX12_eachMatching (n + 1) 63 L st h Q = (match ld L 3 with | some (.inl x) => G sp sc [22] d mX12_eachMatching n 64 L (.inl x :: st) h Q | _ => False)) ∧
  (∀ (n d : Nat) (L : List (Option iV)) (st : List iV) (h : iH) (Q : Option iV → iH → Prop), G sp sc [22] d mX12_eachMatching (n + 1) 64 L st h Q = G sp sc [22] d mX12_eachMatching n 65 L (.inl 1 :: st) h Q) ∧
  (∀ (n d : Nat) (L : List (Option iV)) (a : Int) (b : Int) (r : List iV) (h : iH) (Q : Option iV → iH → Prop), G sp sc [22] d mX12_eachMatching (n + 1) 65 L (.inl b :: .inl a :: r) h Q = G sp sc [22] d mX12_eachMatching n 66 L (.inl (a - b) :: r) h Q) ∧
  (∀ (n d : Nat) (L : List (Option iV)) (r : List iV) (m : Nat) (z0 : iV) (z1 : iV) (z2 : iV) (h : iH) (Q : Option iV → iH → Prop), G sp sc [22] (d + 1) mX12_eachMatching (n + 1) 66 L (z2 :: z1 :: z0 :: .inr (.inr (m + 2)) :: r) h Q = (match h.1[m]? with | some (.inl (ci, _)) => (match lkC 12 257 ci with | some (y1, n1, kd) => (n1 = 3 ∧ (kd = 2 ∨ kd = 3 ∨ kd = 8) ∧ cs r ≤ 8) ∧ Call sp sc d y1 [.inr (.inr (m + 2)), z0, z1, z2] h (fun q h1 => GC sp sc [22] (d + 1) mX12_eachMatching n 69 L q r h h1 Q) | none => False) | _ => False)) ∧
  (∀ (n d : Nat) (L : List (Option iV)) (st : List iV) (h : iH) (Q : Option iV → iH → Prop), G sp sc [22] d mX12_eachMatching (n + 1) 69 L st h Q = (match ld L 4 with | some (.inl x) => (match st1 L 4 (.inl (x + 1)) with | some L' => G sp sc [22] d mX12_eachMatching n 72 L' st h Q | none => False) | _ => False)) ∧
  (∀ (n d : Nat) (L : List (Option iV)) (st : List iV) (h : iH) (Q : Option iV → iH → Prop), G sp sc [22] d mX12_eachMatching (n + 1) 72 L st h Q = Run sp sc d mX12_eachMatching 22 L st h Q) ∧
  (∀ (n d : Nat) (L : List (Option iV)) (st : List iV) (h : iH) (Q : Option iV → iH → Prop), G sp sc [22] d mX12_eachMatching (n + 1) 75 L st h Q = (match ld L 0 with | some (.inr (.inr (r + 1))) => G sp sc [22] d mX12_eachMatching n 76 L (.inr (.inr (r + 1)) :: st) h Q | _ => False)) ∧
  (∀ (n d : Nat) (L : List (Option iV)) (r : List iV) (m : Nat) (h : iH) (Q : Option iV → iH → Prop), G sp sc [22] d mX12_eachMatching (n + 1) 76 L (.inr (.inr (m + 2)) :: r) h Q = (match h.1[m]? with | some (.inl (ci, fs)) => (match lkF 12 34 ci with | some k => (match fs[k]? with | some v => G sp sc [22] d mX12_eachMatching n 79 L (v :: r) h Q | none => False) | none => False) | _ => False)) ∧
  (∀ (n d : Nat) (L : List (Option iV)) (st : List iV) (h : iH) (Q : Option iV → iH → Prop), G sp sc [22] d mX12_eachMatching (n + 1) 79 L st h Q = (match ld L 1 with | some (.inl x) => G sp sc [22] d mX12_eachMatching n 80 L (.inl x :: st) h Q | _ => False)) ∧
  (∀ (n d : Nat) (L : List (Option iV)) (st : List iV) (h : iH) (Q : Option iV → iH → Prop), G sp sc [22] d mX12_eachMatching (n + 1) 80 L st h Q = ((-128 ≤ ((-4) : Int) ∧ ((-4) : Int) < 128) ∧ G sp sc [22] d mX12_eachMatching n 82 L (.inl (-4) :: st) h Q)) ∧
  (∀ (n d : Nat) (L : List (Option iV)) (r : List iV) (v : Int) (j : Int) (m : Nat) (h : iH) (Q : Option iV → iH → Prop), G sp sc [22] d mX12_eachMatching (n + 1) 82 L (.inl v :: .inl j :: .inr (.inr (m + 2)) :: r) h Q = (match h.1[m]? with | some (.inr (.inl (0, xs))) => inA j xs.length = true ∧ G sp sc [22] d mX12_eachMatching n 83 L r (h.1.set m (.inr (.inl (0, xs.set j.toNat v))), h.2) Q | _ => False)) ∧
  (∀ (n d : Nat) (L : List (Option iV)) (st : List iV) (h : iH) (Q : Option iV → iH → Prop), G sp sc [22] d mX12_eachMatching (n + 1) 83 L st h Q = (match ld L 0 with | some (.inr (.inr (r + 1))) => G sp sc [22] d mX12_eachMatching n 84 L (.inr (.inr (r + 1)) :: st) h Q | _ => False)) ∧
  (∀ (n d : Nat) (L : List (Option iV)) (r : List iV) (m : Nat) (h : iH) (Q : Option iV → iH → Prop), G sp sc [22] d mX12_eachMatching (n + 1) 84 L (.inr (.inr (m + 2)) :: r) h Q = (match h.1[m]? with | some (.inl (ci, fs)) => (match lkF 12 9 ci with | some k => (match fs[k]? with | some v => G sp sc [22] d mX12_eachMatching n 87 L (v :: r) h Q | none => False) | none => False) | _ => False)) ∧
  (∀ (n d : Nat) (L : List (Option iV)) (st : List iV) (h : iH) (Q : Option iV → iH → Prop), G sp sc [22] d mX12_eachMatching (n + 1) 87 L st h Q = G sp sc [22] d mX12_eachMatching n 88 L (.inl 0 :: st) h Q) ∧
  (∀ (n d : Nat) (L : List (Option iV)) (r : List iV) (j : Int) (m : Nat) (h : iH) (Q : Option iV → iH → Prop), G sp sc [22] d mX12_eachMatching (n + 1) 88 L (.inl j :: .inr (.inr (m + 2)) :: r) h Q = (match h.1[m]? with | some (.inr (.inl (0, xs))) => inA j xs.length = true ∧ G sp sc [22] d mX12_eachMatching n 89 L (.inl (xs.getD j.toNat 0) :: r) h Q | _ => False)) ∧
  (∀ (n d : Nat) (L : List (Option iV)) (st : List iV) (h : iH) (Q : Option iV → iH → Prop), G sp sc [22] d mX12_eachMatching (n + 1) 89 L st h Q = (match ld L 1 with | some (.inl x) => G sp sc [22] d mX12_eachMatching n 90 L (.inl x :: st) h Q | _ => False)) ∧
  (∀ (n d : Nat) (L : List (Option iV)) (a : Int) (b : Int) (r : List iV) (h : iH) (Q : Option iV → iH → Prop), G sp sc [22] d mX12_eachMatching (n + 1) 90 L (.inl b :: .inl a :: r) h Q = G sp sc [22] d mX12_eachMatching n 91 L (.inl (a - b) :: r) h Q) ∧
  (∀ (n d : Nat) (L : List (Option iV)) (st : List iV) (h : iH) (Q : Option iV → iH → Prop), G sp sc [22] d mX12_eachMatching (n + 1) 91 L st h Q = (match ld L 3 with | some (.inl x) => G sp sc [22] d mX12_eachMatching n 92 L (.inl x :: st) h Q | _ => False)) ∧
  (∀ (n d : Nat) (L : List (Option iV)) (a : Int) (b : Int) (r : List iV) (h : iH) (Q : Option iV → iH → Prop), G sp sc [22] d mX12_eachMatching (n + 1) 92 L (.inl b :: .inl a :: r) h Q = ((inI a = true ∧ inI b = true) ∧ (a ≤ b → G sp sc [22] d mX12_eachMatching n 104 L r h Q) ∧ (¬ (a ≤ b) → G sp sc [22] d mX12_eachMatching n 95 L r h Q))) ∧
  (∀ (n d : Nat) (L : List (Option iV)) (st : List iV) (h : iH) (Q : Option iV → iH → Prop), G sp sc [22] d mX12_eachMatching (n + 1) 95 L st h Q = (match ld L 0 with | some (.inr (.inr (r + 1))) => G sp sc [22] d mX12_eachMatching n 96 L (.inr (.inr (r + 1)) :: st) h Q | _ => False)) ∧
  (∀ (n d : Nat) (L : List (Option iV)) (st : List iV) (h : iH) (Q : Option iV → iH → Prop), G sp sc [22] d mX12_eachMatching (n + 1) 96 L st h Q = (match ld L 1 with | some (.inl x) => G sp sc [22] d mX12_eachMatching n 97 L (.inl x :: st) h Q | _ => False)) ∧
  (∀ (n d : Nat) (L : List (Option iV)) (st : List iV) (h : iH) (Q : Option iV → iH → Prop), G sp sc [22] d mX12_eachMatching (n + 1) 97 L st h Q = G sp sc [22] d mX12_eachMatching n 98 L (.inl 1 :: st) h Q) ∧
  (∀ (n d : Nat) (L : List (Option iV)) (a : Int) (b : Int) (r : List iV) (h : iH) (Q : Option iV → iH → Prop), G sp sc [22] d mX12_eachMatching (n + 1) 98 L (.inl b :: .inl a :: r) h Q = G sp sc [22] d mX12_eachMatching n 99 L (.inl (a + b) :: r) h Q) ∧
  (∀ (n d : Nat) (L : List (Option iV)) (st : List iV) (h : iH) (Q : Option iV → iH → Prop), G sp sc [22] d mX12_eachMatching (n + 1) 99 L st h Q = (match ld L 2 with | some (.inl x) => G sp sc [22] d mX12_eachMatching n 100 L (.inl x :: st) h Q | _ => False)) ∧
  (∀ (n d : Nat) (L : List (Option iV)) (st : List iV) (h : iH) (Q : Option iV → iH → Prop), G sp sc [22] d mX12_eachMatching (n + 1) 100 L st h Q = (match ld L 3 with | some (.inl x) => G sp sc [22] d mX12_eachMatching n 101 L (.inl x :: st) h Q | _ => False)) ∧
  (∀ (n d : Nat) (L : List (Option iV)) (r : List iV) (m : Nat) (z0 : iV) (z1 : iV) (z2 : iV) (h : iH) (Q : Option iV → iH → Prop), G sp sc [22] (d + 1) mX12_eachMatching (n + 1) 101 L (z2 :: z1 :: z0 :: .inr (.inr (m + 2)) :: r) h Q = (match h.1[m]? with | some (.inl (ci, _)) => (match lkC 12 257 ci with | some (y1, n1, kd) => (n1 = 3 ∧ (kd = 2 ∨ kd = 3 ∨ kd = 8) ∧ cs r ≤ 8) ∧ Call sp sc d y1 [.inr (.inr (m + 2)), z0, z1, z2] h (fun q h1 => GC sp sc [22] (d + 1) mX12_eachMatching n 104 L q r h h1 Q) | none => False) | _ => False)) ∧
  (∀ (n d : Nat) (L : List (Option iV))  (h : iH) (Q : Option iV → iH → Prop), G sp sc [22] d mX12_eachMatching (n + 1) 104 L [] h Q = Q none h) ∧
  lkC 12 254 12 = some (mX12_looksAtMatching, 0, 2) ∧
  lkC 12 257 12 = some (mX12_eachMatching, 3, 2) ∧
  lkF 12 34 12 = some 18 ∧
  lkF 12 9 12 = some 0 := ⟨by intros; exact G_at (by decide +kernel : fetch mX12_eachMatching 0 = some (.iload_n 1)),
  by intros; exact G_at (by decide +kernel : fetch mX12_eachMatching 1 = some (.aload_n 0)),
  by intros; exact G_own (by decide +kernel : fetch mX12_eachMatching 2 = some (.getfield 9)) (by decide +kernel),
  by intros; exact G_at (by decide +kernel : fetch mX12_eachMatching 5 = some (.iconst 0)),
  by intros; exact G_at (by decide +kernel : fetch mX12_eachMatching 6 = some (.iaload)),
  by intros; exact G_at (by decide +kernel : fetch mX12_eachMatching 7 = some (.if_icmp .ne 12)),
  by intros; exact G_at (by decide +kernel : fetch mX12_eachMatching 10 = some (.iload_n 3)),
  by intros; exact G_at (by decide +kernel : fetch mX12_eachMatching 11 = some (.ifCond .ne 7)),
  by intros; exact G_at (by decide +kernel : fetch mX12_eachMatching 14 = some (.aload_n 0)),
  by intros; exact G_callV (by decide +kernel : fetch mX12_eachMatching 15 = some (.invokevirtual 254)) (by decide +kernel) (by decide +kernel) rfl,
  by intros; exact G_retv (by decide +kernel : fetch mX12_eachMatching 18 = some (.return_)) (by decide +kernel),
  by intros; exact G_at (by decide +kernel : fetch mX12_eachMatching 19 = some (.iconst 0)),
  by intros; exact G_at (by decide +kernel : fetch mX12_eachMatching 20 = some (.istore 4)),
  by intros; exact G_at (by decide +kernel : fetch mX12_eachMatching 22 = some (.iload 4)),
  by intros; exact G_at (by decide +kernel : fetch mX12_eachMatching 24 = some (.aload_n 0)),
  by intros; exact G_own (by decide +kernel : fetch mX12_eachMatching 25 = some (.getfield 9)) (by decide +kernel),
  by intros; exact G_at (by decide +kernel : fetch mX12_eachMatching 28 = some (.iconst 1)),
  by intros; exact G_at (by decide +kernel : fetch mX12_eachMatching 29 = some (.iaload)),
  by intros; exact G_at (by decide +kernel : fetch mX12_eachMatching 30 = some (.if_icmp .ge 45)),
  by intros; exact G_at (by decide +kernel : fetch mX12_eachMatching 33 = some (.iload_n 2)),
  by intros; exact G_at (by decide +kernel : fetch mX12_eachMatching 34 = some (.iload 4)),
  by intros; exact G_callS (k := 2) (kd := 0) (by decide +kernel : fetch mX12_eachMatching 36 = some (.invokestatic 131)) (by decide +kernel) (by decide +kernel) (by decide +kernel) rfl (by decide),
  by intros; exact G_at (by decide +kernel : fetch mX12_eachMatching 39 = some (.ifCond .eq 6)),
  by intros; exact G_at (by decide +kernel : fetch mX12_eachMatching 42 = some (.goto 27)),
  by intros; exact G_at (by decide +kernel : fetch mX12_eachMatching 45 = some (.aload_n 0)),
  by intros; exact G_own (by decide +kernel : fetch mX12_eachMatching 46 = some (.getfield 34)) (by decide +kernel),
  by intros; exact G_at (by decide +kernel : fetch mX12_eachMatching 49 = some (.iload_n 1)),
  by intros; exact G_at (by decide +kernel : fetch mX12_eachMatching 50 = some (.iload 4)),
  by intros; exact G_at (by decide +kernel : fetch mX12_eachMatching 52 = some (.iastore)),
  by intros; exact G_at (by decide +kernel : fetch mX12_eachMatching 53 = some (.aload_n 0)),
  by intros; exact G_at (by decide +kernel : fetch mX12_eachMatching 54 = some (.iload_n 1)),
  by intros; exact G_at (by decide +kernel : fetch mX12_eachMatching 55 = some (.iconst 1)),
  by intros; exact G_at (by decide +kernel : fetch mX12_eachMatching 56 = some (.iadd)),
  by intros; exact G_at (by decide +kernel : fetch mX12_eachMatching 57 = some (.iload_n 2)),
  by intros; exact G_at (by decide +kernel : fetch mX12_eachMatching 58 = some (.iconst 1)),
  by intros; exact G_at (by decide +kernel : fetch mX12_eachMatching 59 = some (.iload 4)),
  by intros; exact G_at (by decide +kernel : fetch mX12_eachMatching 61 = some (.ishl)),
  by intros; exact G_at (by decide +kernel : fetch mX12_eachMatching 62 = some (.ior)),
  by intros; exact G_at (by decide +kernel : fetch mX12_eachMatching 63 = some (.iload_n 3)),
  by intros; exact G_at (by decide +kernel : fetch mX12_eachMatching 64 = some (.iconst 1)),
  by intros; exact G_at (by decide +kernel : fetch mX12_eachMatching 65 = some (.isub)),
  by intros; exact G_callV (by decide +kernel : fetch mX12_eachMatching 66 = some (.invokevirtual 257)) (by decide +kernel) (by decide +kernel) rfl,
  by intros; exact G_at (by decide +kernel : fetch mX12_eachMatching 69 = some (.iinc 4 1)),
  by intros; exact G_at (by decide +kernel : fetch mX12_eachMatching 72 = some (.goto (-50))),
  by intros; exact G_at (by decide +kernel : fetch mX12_eachMatching 75 = some (.aload_n 0)),
  by intros; exact G_own (by decide +kernel : fetch mX12_eachMatching 76 = some (.getfield 34)) (by decide +kernel),
  by intros; exact G_at (by decide +kernel : fetch mX12_eachMatching 79 = some (.iload_n 1)),
  by intros; exact G_at (by decide +kernel : fetch mX12_eachMatching 80 = some (.bipush (-4))),
  by intros; exact G_at (by decide +kernel : fetch mX12_eachMatching 82 = some (.iastore)),
  by intros; exact G_at (by decide +kernel : fetch mX12_eachMatching 83 = some (.aload_n 0)),
  by intros; exact G_own (by decide +kernel : fetch mX12_eachMatching 84 = some (.getfield 9)) (by decide +kernel),
  by intros; exact G_at (by decide +kernel : fetch mX12_eachMatching 87 = some (.iconst 0)),
  by intros; exact G_at (by decide +kernel : fetch mX12_eachMatching 88 = some (.iaload)),
  by intros; exact G_at (by decide +kernel : fetch mX12_eachMatching 89 = some (.iload_n 1)),
  by intros; exact G_at (by decide +kernel : fetch mX12_eachMatching 90 = some (.isub)),
  by intros; exact G_at (by decide +kernel : fetch mX12_eachMatching 91 = some (.iload_n 3)),
  by intros; exact G_at (by decide +kernel : fetch mX12_eachMatching 92 = some (.if_icmp .le 12)),
  by intros; exact G_at (by decide +kernel : fetch mX12_eachMatching 95 = some (.aload_n 0)),
  by intros; exact G_at (by decide +kernel : fetch mX12_eachMatching 96 = some (.iload_n 1)),
  by intros; exact G_at (by decide +kernel : fetch mX12_eachMatching 97 = some (.iconst 1)),
  by intros; exact G_at (by decide +kernel : fetch mX12_eachMatching 98 = some (.iadd)),
  by intros; exact G_at (by decide +kernel : fetch mX12_eachMatching 99 = some (.iload_n 2)),
  by intros; exact G_at (by decide +kernel : fetch mX12_eachMatching 100 = some (.iload_n 3)),
  by intros; exact G_callV (by decide +kernel : fetch mX12_eachMatching 101 = some (.invokevirtual 257)) (by decide +kernel) (by decide +kernel) rfl,
  by intros; exact G_retv (by decide +kernel : fetch mX12_eachMatching 104 = some (.return_)) (by decide +kernel),
  by decide +kernel,
  by decide +kernel,
  by decide +kernel,
  by decide +kernel⟩
theorem gX12_allMatchings : (∀ (n d : Nat) (L : List (Option iV)) (st : List iV) (h : iH) (Q : Option iV → iH → Prop), G sp sc [2] d mX12_allMatchings (n + 1) 0 L st h Q = G sp sc [2] d mX12_allMatchings n 1 L (.inl 0 :: st) h Q) ∧
  (∀ (n d : Nat) (L : List (Option iV)) (r : List iV) (x : Int) (h : iH) (Q : Option iV → iH → Prop), G sp sc [2] d mX12_allMatchings (n + 1) 1 L (.inl x :: r) h Q = (match st1 L 1 (.inl x) with | some L' => Run sp sc d mX12_allMatchings 2 L' r h Q | none => False)) ∧
  (∀ (n d : Nat) (L : List (Option iV)) (st : List iV) (h : iH) (Q : Option iV → iH → Prop), G sp sc [2] d mX12_allMatchings (n + 1) 2 L st h Q = (match ld L 1 with | some (.inl x) => G sp sc [2] d mX12_allMatchings n 3 L (.inl x :: st) h Q | _ => False)) ∧
  (∀ (n d : Nat) (L : List (Option iV)) (st : List iV) (h : iH) (Q : Option iV → iH → Prop), G sp sc [2] d mX12_allMatchings (n + 1) 3 L st h Q = G sp sc [2] d mX12_allMatchings n 4 L (.inl 5 :: st) h Q) ∧
  (∀ (n d : Nat) (L : List (Option iV)) (a : Int) (b : Int) (r : List iV) (h : iH) (Q : Option iV → iH → Prop), G sp sc [2] d mX12_allMatchings (n + 1) 4 L (.inl b :: .inl a :: r) h Q = ((inI a = true ∧ inI b = true) ∧ (b ≤ a → G sp sc [2] d mX12_allMatchings n 21 L r h Q) ∧ (¬ (b ≤ a) → G sp sc [2] d mX12_allMatchings n 7 L r h Q))) ∧
  (∀ (n d : Nat) (L : List (Option iV)) (st : List iV) (h : iH) (Q : Option iV → iH → Prop), G sp sc [2] d mX12_allMatchings (n + 1) 7 L st h Q = (match ld L 0 with | some (.inr (.inr (r + 1))) => G sp sc [2] d mX12_allMatchings n 8 L (.inr (.inr (r + 1)) :: st) h Q | _ => False)) ∧
  (∀ (n d : Nat) (L : List (Option iV)) (r : List iV) (m : Nat) (h : iH) (Q : Option iV → iH → Prop), G sp sc [2] d mX12_allMatchings (n + 1) 8 L (.inr (.inr (m + 2)) :: r) h Q = (match h.1[m]? with | some (.inl (ci, fs)) => (match lkF 12 34 ci with | some k => (match fs[k]? with | some v => G sp sc [2] d mX12_allMatchings n 11 L (v :: r) h Q | none => False) | none => False) | _ => False)) ∧
  (∀ (n d : Nat) (L : List (Option iV)) (st : List iV) (h : iH) (Q : Option iV → iH → Prop), G sp sc [2] d mX12_allMatchings (n + 1) 11 L st h Q = (match ld L 1 with | some (.inl x) => G sp sc [2] d mX12_allMatchings n 12 L (.inl x :: st) h Q | _ => False)) ∧
  (∀ (n d : Nat) (L : List (Option iV)) (st : List iV) (h : iH) (Q : Option iV → iH → Prop), G sp sc [2] d mX12_allMatchings (n + 1) 12 L st h Q = ((-128 ≤ ((-4) : Int) ∧ ((-4) : Int) < 128) ∧ G sp sc [2] d mX12_allMatchings n 14 L (.inl (-4) :: st) h Q)) ∧
  (∀ (n d : Nat) (L : List (Option iV)) (r : List iV) (v : Int) (j : Int) (m : Nat) (h : iH) (Q : Option iV → iH → Prop), G sp sc [2] d mX12_allMatchings (n + 1) 14 L (.inl v :: .inl j :: .inr (.inr (m + 2)) :: r) h Q = (match h.1[m]? with | some (.inr (.inl (0, xs))) => inA j xs.length = true ∧ G sp sc [2] d mX12_allMatchings n 15 L r (h.1.set m (.inr (.inl (0, xs.set j.toNat v))), h.2) Q | _ => False)) ∧
  (∀ (n d : Nat) (L : List (Option iV)) (st : List iV) (h : iH) (Q : Option iV → iH → Prop), G sp sc [2] d mX12_allMatchings (n + 1) 15 L st h Q = (match ld L 1 with | some (.inl x) => (match st1 L 1 (.inl (x + 1)) with | some L' => G sp sc [2] d mX12_allMatchings n 18 L' st h Q | none => False) | _ => False)) ∧
  (∀ (n d : Nat) (L : List (Option iV)) (st : List iV) (h : iH) (Q : Option iV → iH → Prop), G sp sc [2] d mX12_allMatchings (n + 1) 18 L st h Q = Run sp sc d mX12_allMatchings 2 L st h Q) ∧
  (∀ (n d : Nat) (L : List (Option iV)) (st : List iV) (h : iH) (Q : Option iV → iH → Prop), G sp sc [2] d mX12_allMatchings (n + 1) 21 L st h Q = (match ld L 0 with | some (.inr (.inr (r + 1))) => G sp sc [2] d mX12_allMatchings n 22 L (.inr (.inr (r + 1)) :: st) h Q | _ => False)) ∧
  (∀ (n d : Nat) (L : List (Option iV)) (st : List iV) (h : iH) (Q : Option iV → iH → Prop), G sp sc [2] d mX12_allMatchings (n + 1) 22 L st h Q = G sp sc [2] d mX12_allMatchings n 23 L (.inl 0 :: st) h Q) ∧
  (∀ (n d : Nat) (L : List (Option iV)) (r : List iV) (v : iV) (m : Nat) (h : iH) (Q : Option iV → iH → Prop), G sp sc [2] d mX12_allMatchings (n + 1) 23 L (v :: .inr (.inr (m + 2)) :: r) h Q = (match h.1[m]? with | some (.inl (ci, fs)) => (match lkF 12 248 ci with | some k => (fitV (tyT ci k) v = true ∧ k < fs.length ∧ pOK 12 false ci k = true) ∧ G sp sc [2] d mX12_allMatchings n 26 L r (h.1.set m (.inl (ci, fs.set k v)), h.2) Q | none => False) | _ => False)) ∧
  (∀ (n d : Nat) (L : List (Option iV)) (st : List iV) (h : iH) (Q : Option iV → iH → Prop), G sp sc [2] d mX12_allMatchings (n + 1) 26 L st h Q = (match ld L 0 with | some (.inr (.inr (r + 1))) => G sp sc [2] d mX12_allMatchings n 27 L (.inr (.inr (r + 1)) :: st) h Q | _ => False)) ∧
  (∀ (n d : Nat) (L : List (Option iV)) (st : List iV) (h : iH) (Q : Option iV → iH → Prop), G sp sc [2] d mX12_allMatchings (n + 1) 27 L st h Q = G sp sc [2] d mX12_allMatchings n 28 L (.inl (-1) :: st) h Q) ∧
  (∀ (n d : Nat) (L : List (Option iV)) (r : List iV) (v : iV) (m : Nat) (h : iH) (Q : Option iV → iH → Prop), G sp sc [2] d mX12_allMatchings (n + 1) 28 L (v :: .inr (.inr (m + 2)) :: r) h Q = (match h.1[m]? with | some (.inl (ci, fs)) => (match lkF 12 251 ci with | some k => (fitV (tyT ci k) v = true ∧ k < fs.length ∧ pOK 12 false ci k = true) ∧ G sp sc [2] d mX12_allMatchings n 31 L r (h.1.set m (.inl (ci, fs.set k v)), h.2) Q | none => False) | _ => False)) ∧
  (∀ (n d : Nat) (L : List (Option iV)) (st : List iV) (h : iH) (Q : Option iV → iH → Prop), G sp sc [2] d mX12_allMatchings (n + 1) 31 L st h Q = (match ld L 0 with | some (.inr (.inr (r + 1))) => G sp sc [2] d mX12_allMatchings n 32 L (.inr (.inr (r + 1)) :: st) h Q | _ => False)) ∧
  (∀ (n d : Nat) (L : List (Option iV)) (st : List iV) (h : iH) (Q : Option iV → iH → Prop), G sp sc [2] d mX12_allMatchings (n + 1) 32 L st h Q = G sp sc [2] d mX12_allMatchings n 33 L (.inl 0 :: st) h Q) ∧
  (∀ (n d : Nat) (L : List (Option iV)) (st : List iV) (h : iH) (Q : Option iV → iH → Prop), G sp sc [2] d mX12_allMatchings (n + 1) 33 L st h Q = G sp sc [2] d mX12_allMatchings n 34 L (.inl 0 :: st) h Q) ∧
  (∀ (n d : Nat) (L : List (Option iV)) (st : List iV) (h : iH) (Q : Option iV → iH → Prop), G sp sc [2] d mX12_allMatchings (n + 1) 34 L st h Q = (match ld L 0 with | some (.inr (.inr (r + 1))) => G sp sc [2] d mX12_allMatchings n 35 L (.inr (.inr (r + 1)) :: st) h Q | _ => False)) ∧
  (∀ (n d : Nat) (L : List (Option iV)) (r : List iV) (m : Nat) (h : iH) (Q : Option iV → iH → Prop), G sp sc [2] d mX12_allMatchings (n + 1) 35 L (.inr (.inr (m + 2)) :: r) h Q = (match h.1[m]? with | some (.inl (ci, fs)) => (match lkF 12 9 ci with | some k => (match fs[k]? with | some v => G sp sc [2] d mX12_allMatchings n 38 L (v :: r) h Q | none => False) | none => False) | _ => False)) ∧
  (∀ (n d : Nat) (L : List (Option iV)) (st : List iV) (h : iH) (Q : Option iV → iH → Prop), G sp sc [2] d mX12_allMatchings (n + 1) 38 L st h Q = G sp sc [2] d mX12_allMatchings n 39 L (.inl 0 :: st) h Q) ∧
  (∀ (n d : Nat) (L : List (Option iV)) (r : List iV) (j : Int) (m : Nat) (h : iH) (Q : Option iV → iH → Prop), G sp sc [2] d mX12_allMatchings (n + 1) 39 L (.inl j :: .inr (.inr (m + 2)) :: r) h Q = (match h.1[m]? with | some (.inr (.inl (0, xs))) => inA j xs.length = true ∧ G sp sc [2] d mX12_allMatchings n 40 L (.inl (xs.getD j.toNat 0) :: r) h Q | _ => False)) ∧
  (∀ (n d : Nat) (L : List (Option iV)) (st : List iV) (h : iH) (Q : Option iV → iH → Prop), G sp sc [2] d mX12_allMatchings (n + 1) 40 L st h Q = (match ld L 0 with | some (.inr (.inr (r + 1))) => G sp sc [2] d mX12_allMatchings n 41 L (.inr (.inr (r + 1)) :: st) h Q | _ => False)) ∧
  (∀ (n d : Nat) (L : List (Option iV)) (r : List iV) (m : Nat) (h : iH) (Q : Option iV → iH → Prop), G sp sc [2] d mX12_allMatchings (n + 1) 41 L (.inr (.inr (m + 2)) :: r) h Q = (match h.1[m]? with | some (.inl (ci, fs)) => (match lkF 12 9 ci with | some k => (match fs[k]? with | some v => G sp sc [2] d mX12_allMatchings n 44 L (v :: r) h Q | none => False) | none => False) | _ => False)) ∧
  (∀ (n d : Nat) (L : List (Option iV)) (st : List iV) (h : iH) (Q : Option iV → iH → Prop), G sp sc [2] d mX12_allMatchings (n + 1) 44 L st h Q = G sp sc [2] d mX12_allMatchings n 45 L (.inl 1 :: st) h Q) ∧
  (∀ (n d : Nat) (L : List (Option iV)) (r : List iV) (j : Int) (m : Nat) (h : iH) (Q : Option iV → iH → Prop), G sp sc [2] d mX12_allMatchings (n + 1) 45 L (.inl j :: .inr (.inr (m + 2)) :: r) h Q = (match h.1[m]? with | some (.inr (.inl (0, xs))) => inA j xs.length = true ∧ G sp sc [2] d mX12_allMatchings n 46 L (.inl (xs.getD j.toNat 0) :: r) h Q | _ => False)) ∧
  (∀ (n d : Nat) (L : List (Option iV)) (r : List iV) (z0 : iV) (z1 : iV) (h : iH) (Q : Option iV → iH → Prop), G sp sc [2] (d + 1) mX12_allMatchings (n + 1) 46 L (z1 :: z0 :: r) h Q = (cs r ≤ 8 ∧ Call sp sc d mX12_least [z0, z1] h (fun q h1 => GC sp sc [2] (d + 1) mX12_allMatchings n 49 L q r h h1 Q))) ∧
  (∀ (n d : Nat) (L : List (Option iV)) (r : List iV) (m : Nat) (z0 : iV) (z1 : iV) (z2 : iV) (h : iH) (Q : Option iV → iH → Prop), G sp sc [2] (d + 1) mX12_allMatchings (n + 1) 49 L (z2 :: z1 :: z0 :: .inr (.inr (m + 2)) :: r) h Q = (match h.1[m]? with | some (.inl (ci, _)) => (match lkC 12 257 ci with | some (y1, n1, kd) => (n1 = 3 ∧ (kd = 2 ∨ kd = 3 ∨ kd = 8) ∧ cs r ≤ 8) ∧ Call sp sc d y1 [.inr (.inr (m + 2)), z0, z1, z2] h (fun q h1 => GC sp sc [2] (d + 1) mX12_allMatchings n 52 L q r h h1 Q) | none => False) | _ => False)) ∧
  (∀ (n d : Nat) (L : List (Option iV))  (h : iH) (Q : Option iV → iH → Prop), G sp sc [2] d mX12_allMatchings (n + 1) 52 L [] h Q = Q none h) ∧
  lkC 12 257 12 = some (mX12_eachMatching, 3, 2) ∧
  lkF 12 248 12 = some 21 ∧
  lkF 12 251 12 = some 22 ∧
  lkF 12 34 12 = some 18 ∧
  lkF 12 9 12 = some 0 ∧
  pOK 12 false 12 21 = true ∧
  pOK 12 false 12 22 = true := ⟨by intros; exact G_at (by decide +kernel : fetch mX12_allMatchings 0 = some (.iconst 0)),
  by intros; exact G_at (by decide +kernel : fetch mX12_allMatchings 1 = some (.istore_n 1)),
  by intros; exact G_at (by decide +kernel : fetch mX12_allMatchings 2 = some (.iload_n 1)),
  by intros; exact G_at (by decide +kernel : fetch mX12_allMatchings 3 = some (.iconst 5)),
  by intros; exact G_at (by decide +kernel : fetch mX12_allMatchings 4 = some (.if_icmp .ge 17)),
  by intros; exact G_at (by decide +kernel : fetch mX12_allMatchings 7 = some (.aload_n 0)),
  by intros; exact G_own (by decide +kernel : fetch mX12_allMatchings 8 = some (.getfield 34)) (by decide +kernel),
  by intros; exact G_at (by decide +kernel : fetch mX12_allMatchings 11 = some (.iload_n 1)),
  by intros; exact G_at (by decide +kernel : fetch mX12_allMatchings 12 = some (.bipush (-4))),
  by intros; exact G_at (by decide +kernel : fetch mX12_allMatchings 14 = some (.iastore)),
  by intros; exact G_at (by decide +kernel : fetch mX12_allMatchings 15 = some (.iinc 1 1)),
  by intros; exact G_at (by decide +kernel : fetch mX12_allMatchings 18 = some (.goto (-16))),
  by intros; exact G_at (by decide +kernel : fetch mX12_allMatchings 21 = some (.aload_n 0)),
  by intros; exact G_at (by decide +kernel : fetch mX12_allMatchings 22 = some (.iconst 0)),
  by intros; exact G_ownW (by decide +kernel : fetch mX12_allMatchings 23 = some (.putfield 248)) (by decide +kernel) (by decide +kernel),
  by intros; exact G_at (by decide +kernel : fetch mX12_allMatchings 26 = some (.aload_n 0)),
  by intros; exact G_at (by decide +kernel : fetch mX12_allMatchings 27 = some (.iconst (-1))),
  by intros; exact G_ownW (by decide +kernel : fetch mX12_allMatchings 28 = some (.putfield 251)) (by decide +kernel) (by decide +kernel),
  by intros; exact G_at (by decide +kernel : fetch mX12_allMatchings 31 = some (.aload_n 0)),
  by intros; exact G_at (by decide +kernel : fetch mX12_allMatchings 32 = some (.iconst 0)),
  by intros; exact G_at (by decide +kernel : fetch mX12_allMatchings 33 = some (.iconst 0)),
  by intros; exact G_at (by decide +kernel : fetch mX12_allMatchings 34 = some (.aload_n 0)),
  by intros; exact G_own (by decide +kernel : fetch mX12_allMatchings 35 = some (.getfield 9)) (by decide +kernel),
  by intros; exact G_at (by decide +kernel : fetch mX12_allMatchings 38 = some (.iconst 0)),
  by intros; exact G_at (by decide +kernel : fetch mX12_allMatchings 39 = some (.iaload)),
  by intros; exact G_at (by decide +kernel : fetch mX12_allMatchings 40 = some (.aload_n 0)),
  by intros; exact G_own (by decide +kernel : fetch mX12_allMatchings 41 = some (.getfield 9)) (by decide +kernel),
  by intros; exact G_at (by decide +kernel : fetch mX12_allMatchings 44 = some (.iconst 1)),
  by intros; exact G_at (by decide +kernel : fetch mX12_allMatchings 45 = some (.iaload)),
  by intros; exact G_callS (k := 2) (kd := 0) (by decide +kernel : fetch mX12_allMatchings 46 = some (.invokestatic 99)) (by decide +kernel) (by decide +kernel) (by decide +kernel) rfl (by decide),
  by intros; exact G_callV (by decide +kernel : fetch mX12_allMatchings 49 = some (.invokevirtual 257)) (by decide +kernel) (by decide +kernel) rfl,
  by intros; exact G_retv (by decide +kernel : fetch mX12_allMatchings 52 = some (.return_)) (by decide +kernel),
  by decide +kernel,
  by decide +kernel,
  by decide +kernel,
  by decide +kernel,
  by decide +kernel,
  by decide +kernel,
  by decide +kernel⟩
theorem gX12_allStable : (∀ (n d : Nat) (L : List (Option iV)) (st : List iV) (h : iH) (Q : Option iV → iH → Prop), G sp sc [] d mX12_allStable (n + 1) 0 L st h Q = (match ld L 0 with | some (.inr (.inr (r + 1))) => G sp sc [] d mX12_allStable n 1 L (.inr (.inr (r + 1)) :: st) h Q | _ => False)) ∧
  (∀ (n d : Nat) (L : List (Option iV)) (r : List iV) (m : Nat) (h : iH) (Q : Option iV → iH → Prop), G sp sc [] (d + 1) mX12_allStable (n + 1) 1 L (.inr (.inr (m + 2)) :: r) h Q = (match h.1[m]? with | some (.inl (ci, _)) => (match lkC 12 260 ci with | some (y1, n1, kd) => (n1 = 0 ∧ (kd = 2 ∨ kd = 3 ∨ kd = 8) ∧ cs r ≤ 8) ∧ Call sp sc d y1 [.inr (.inr (m + 2))] h (fun q h1 => GC sp sc [] (d + 1) mX12_allStable n 4 L q r h h1 Q) | none => False) | _ => False)) ∧
  (∀ (n d : Nat) (L : List (Option iV)) (st : List iV) (h : iH) (Q : Option iV → iH → Prop), G sp sc [] d mX12_allStable (n + 1) 4 L st h Q = (match ld L 0 with | some (.inr (.inr (r + 1))) => G sp sc [] d mX12_allStable n 5 L (.inr (.inr (r + 1)) :: st) h Q | _ => False)) ∧
  (∀ (n d : Nat) (L : List (Option iV)) (r : List iV) (m : Nat) (h : iH) (Q : Option iV → iH → Prop), G sp sc [] d mX12_allStable (n + 1) 5 L (.inr (.inr (m + 2)) :: r) h Q = (match h.1[m]? with | some (.inl (ci, fs)) => (match lkF 12 248 ci with | some k => (match fs[k]? with | some v => G sp sc [] d mX12_allStable n 8 L (v :: r) h Q | none => False) | none => False) | _ => False)) ∧
  (∀ (n d : Nat) (L : List (Option iV)) (a : Int) (h : iH) (Q : Option iV → iH → Prop), G sp sc [] d mX12_allStable (n + 1) 8 L [.inl a] h Q = Q (some (.inl a)) h) ∧
  lkC 12 260 12 = some (mX12_allMatchings, 0, 2) ∧
  lkF 12 248 12 = some 21 := ⟨by intros; exact G_at (by decide +kernel : fetch mX12_allStable 0 = some (.aload_n 0)),
  by intros; exact G_callV (by decide +kernel : fetch mX12_allStable 1 = some (.invokevirtual 260)) (by decide +kernel) (by decide +kernel) rfl,
  by intros; exact G_at (by decide +kernel : fetch mX12_allStable 4 = some (.aload_n 0)),
  by intros; exact G_own (by decide +kernel : fetch mX12_allStable 5 = some (.getfield 248)) (by decide +kernel),
  by intros; exact G_reti (by decide +kernel : fetch mX12_allStable 8 = some (.ireturn)) (by decide +kernel),
  by decide +kernel,
  by decide +kernel⟩
theorem gX12_most : (∀ (n d : Nat) (L : List (Option iV)) (st : List iV) (h : iH) (Q : Option iV → iH → Prop), G sp sc [] d mX12_most (n + 1) 0 L st h Q = (match ld L 0 with | some (.inr (.inr (r + 1))) => G sp sc [] d mX12_most n 1 L (.inr (.inr (r + 1)) :: st) h Q | _ => False)) ∧
  (∀ (n d : Nat) (L : List (Option iV)) (r : List iV) (m : Nat) (h : iH) (Q : Option iV → iH → Prop), G sp sc [] (d + 1) mX12_most (n + 1) 1 L (.inr (.inr (m + 2)) :: r) h Q = (match h.1[m]? with | some (.inl (ci, _)) => (match lkC 12 260 ci with | some (y1, n1, kd) => (n1 = 0 ∧ (kd = 2 ∨ kd = 3 ∨ kd = 8) ∧ cs r ≤ 8) ∧ Call sp sc d y1 [.inr (.inr (m + 2))] h (fun q h1 => GC sp sc [] (d + 1) mX12_most n 4 L q r h h1 Q) | none => False) | _ => False)) ∧
  (∀ (n d : Nat) (L : List (Option iV)) (st : List iV) (h : iH) (Q : Option iV → iH → Prop), G sp sc [] d mX12_most (n + 1) 4 L st h Q = (match ld L 0 with | some (.inr (.inr (r + 1))) => G sp sc [] d mX12_most n 5 L (.inr (.inr (r + 1)) :: st) h Q | _ => False)) ∧
  (∀ (n d : Nat) (L : List (Option iV)) (r : List iV) (m : Nat) (h : iH) (Q : Option iV → iH → Prop), G sp sc [] d mX12_most (n + 1) 5 L (.inr (.inr (m + 2)) :: r) h Q = (match h.1[m]? with | some (.inl (ci, fs)) => (match lkF 12 251 ci with | some k => (match fs[k]? with | some v => G sp sc [] d mX12_most n 8 L (v :: r) h Q | none => False) | none => False) | _ => False)) ∧
  (∀ (n d : Nat) (L : List (Option iV)) (a : Int) (h : iH) (Q : Option iV → iH → Prop), G sp sc [] d mX12_most (n + 1) 8 L [.inl a] h Q = Q (some (.inl a)) h) ∧
  lkC 12 260 12 = some (mX12_allMatchings, 0, 2) ∧
  lkF 12 251 12 = some 22 := ⟨by intros; exact G_at (by decide +kernel : fetch mX12_most 0 = some (.aload_n 0)),
  by intros; exact G_callV (by decide +kernel : fetch mX12_most 1 = some (.invokevirtual 260)) (by decide +kernel) (by decide +kernel) rfl,
  by intros; exact G_at (by decide +kernel : fetch mX12_most 4 = some (.aload_n 0)),
  by intros; exact G_own (by decide +kernel : fetch mX12_most 5 = some (.getfield 251)) (by decide +kernel),
  by intros; exact G_reti (by decide +kernel : fetch mX12_most 8 = some (.ireturn)) (by decide +kernel),
  by decide +kernel,
  by decide +kernel⟩
theorem gX12_mostOf : (∀ (n d : Nat) (L : List (Option iV)) (st : List iV) (h : iH) (Q : Option iV → iH → Prop), G sp sc [] d mX12_mostOf (n + 1) 0 L st h Q = (match ld L 0 with | some (.inr (.inr (r + 1))) => G sp sc [] d mX12_mostOf n 1 L (.inr (.inr (r + 1)) :: st) h Q | _ => False)) ∧
  (∀ (n d : Nat) (L : List (Option iV)) (st : List iV) (h : iH) (Q : Option iV → iH → Prop), G sp sc [] d mX12_mostOf (n + 1) 1 L st h Q = G sp sc [] d mX12_mostOf n 2 L (.inl 0 :: st) h Q) ∧
  (∀ (n d : Nat) (L : List (Option iV)) (st : List iV) (h : iH) (Q : Option iV → iH → Prop), G sp sc [] d mX12_mostOf (n + 1) 2 L st h Q = (match ld L 1 with | some (.inl x) => G sp sc [] d mX12_mostOf n 3 L (.inl x :: st) h Q | _ => False)) ∧
  (∀ (n d : Nat) (L : List (Option iV)) (r : List iV) (m : Nat) (z0 : iV) (z1 : iV) (h : iH) (Q : Option iV → iH → Prop), G sp sc [] (d + 1) mX12_mostOf (n + 1) 3 L (z1 :: z0 :: .inr (.inr (m + 2)) :: r) h Q = (match h.1[m]? with | some (.inl (ci, _)) => (match lkC 12 175 ci with | some (y1, n1, kd) => (n1 = 2 ∧ (kd = 2 ∨ kd = 3 ∨ kd = 8) ∧ cs r ≤ 8) ∧ Call sp sc d y1 [.inr (.inr (m + 2)), z0, z1] h (fun q h1 => GC sp sc [] (d + 1) mX12_mostOf n 6 L q r h h1 Q) | none => False) | _ => False)) ∧
  (∀ (n d : Nat) (L : List (Option iV)) (a : Int) (r : List iV) (h : iH) (Q : Option iV → iH → Prop), G sp sc [] d mX12_mostOf (n + 1) 6 L (.inl a :: r) h Q = (inI a = true ∧ (¬ a = 0 → G sp sc [] d mX12_mostOf n 11 L r h Q) ∧ (¬ (¬ a = 0) → G sp sc [] d mX12_mostOf n 9 L r h Q))) ∧
  (∀ (n d : Nat) (L : List (Option iV)) (st : List iV) (h : iH) (Q : Option iV → iH → Prop), G sp sc [] d mX12_mostOf (n + 1) 9 L st h Q = G sp sc [] d mX12_mostOf n 10 L (.inl (-1) :: st) h Q) ∧
  (∀ (n d : Nat) (L : List (Option iV)) (a : Int) (h : iH) (Q : Option iV → iH → Prop), G sp sc [] d mX12_mostOf (n + 1) 10 L [.inl a] h Q = Q (some (.inl a)) h) ∧
  (∀ (n d : Nat) (L : List (Option iV)) (st : List iV) (h : iH) (Q : Option iV → iH → Prop), G sp sc [] d mX12_mostOf (n + 1) 11 L st h Q = (match ld L 0 with | some (.inr (.inr (r + 1))) => G sp sc [] d mX12_mostOf n 12 L (.inr (.inr (r + 1)) :: st) h Q | _ => False)) ∧
  (∀ (n d : Nat) (L : List (Option iV)) (r : List iV) (m : Nat) (h : iH) (Q : Option iV → iH → Prop), G sp sc [] (d + 1) mX12_mostOf (n + 1) 12 L (.inr (.inr (m + 2)) :: r) h Q = (match h.1[m]? with | some (.inl (ci, _)) => (match lkC 12 260 ci with | some (y1, n1, kd) => (n1 = 0 ∧ (kd = 2 ∨ kd = 3 ∨ kd = 8) ∧ cs r ≤ 8) ∧ Call sp sc d y1 [.inr (.inr (m + 2))] h (fun q h1 => GC sp sc [] (d + 1) mX12_mostOf n 15 L q r h h1 Q) | none => False) | _ => False)) ∧
  (∀ (n d : Nat) (L : List (Option iV)) (st : List iV) (h : iH) (Q : Option iV → iH → Prop), G sp sc [] d mX12_mostOf (n + 1) 15 L st h Q = (match ld L 0 with | some (.inr (.inr (r + 1))) => G sp sc [] d mX12_mostOf n 16 L (.inr (.inr (r + 1)) :: st) h Q | _ => False)) ∧
  (∀ (n d : Nat) (L : List (Option iV)) (r : List iV) (m : Nat) (h : iH) (Q : Option iV → iH → Prop), G sp sc [] d mX12_mostOf (n + 1) 16 L (.inr (.inr (m + 2)) :: r) h Q = (match h.1[m]? with | some (.inl (ci, fs)) => (match lkF 12 37 ci with | some k => (match fs[k]? with | some v => G sp sc [] d mX12_mostOf n 19 L (v :: r) h Q | none => False) | none => False) | _ => False)) ∧
  (∀ (n d : Nat) (L : List (Option iV)) (st : List iV) (h : iH) (Q : Option iV → iH → Prop), G sp sc [] d mX12_mostOf (n + 1) 19 L st h Q = (match ld L 1 with | some (.inl x) => G sp sc [] d mX12_mostOf n 20 L (.inl x :: st) h Q | _ => False)) ∧
  (∀ (n d : Nat) (L : List (Option iV)) (r : List iV) (j : Int) (m : Nat) (h : iH) (Q : Option iV → iH → Prop), G sp sc [] d mX12_mostOf (n + 1) 20 L (.inl j :: .inr (.inr (m + 2)) :: r) h Q = (match h.1[m]? with | some (.inr (.inl (0, xs))) => inA j xs.length = true ∧ G sp sc [] d mX12_mostOf n 21 L (.inl (xs.getD j.toNat 0) :: r) h Q | _ => False)) ∧
  (∀ (n d : Nat) (L : List (Option iV)) (a : Int) (h : iH) (Q : Option iV → iH → Prop), G sp sc [] d mX12_mostOf (n + 1) 21 L [.inl a] h Q = Q (some (.inl a)) h) ∧
  lkC 12 175 12 = some (mX12_isOne, 2, 2) ∧
  lkC 12 260 12 = some (mX12_allMatchings, 0, 2) ∧
  lkF 12 37 12 = some 19 := ⟨by intros; exact G_at (by decide +kernel : fetch mX12_mostOf 0 = some (.aload_n 0)),
  by intros; exact G_at (by decide +kernel : fetch mX12_mostOf 1 = some (.iconst 0)),
  by intros; exact G_at (by decide +kernel : fetch mX12_mostOf 2 = some (.iload_n 1)),
  by intros; exact G_callV (by decide +kernel : fetch mX12_mostOf 3 = some (.invokevirtual 175)) (by decide +kernel) (by decide +kernel) rfl,
  by intros; exact G_at (by decide +kernel : fetch mX12_mostOf 6 = some (.ifCond .ne 5)),
  by intros; exact G_at (by decide +kernel : fetch mX12_mostOf 9 = some (.iconst (-1))),
  by intros; exact G_reti (by decide +kernel : fetch mX12_mostOf 10 = some (.ireturn)) (by decide +kernel),
  by intros; exact G_at (by decide +kernel : fetch mX12_mostOf 11 = some (.aload_n 0)),
  by intros; exact G_callV (by decide +kernel : fetch mX12_mostOf 12 = some (.invokevirtual 260)) (by decide +kernel) (by decide +kernel) rfl,
  by intros; exact G_at (by decide +kernel : fetch mX12_mostOf 15 = some (.aload_n 0)),
  by intros; exact G_own (by decide +kernel : fetch mX12_mostOf 16 = some (.getfield 37)) (by decide +kernel),
  by intros; exact G_at (by decide +kernel : fetch mX12_mostOf 19 = some (.iload_n 1)),
  by intros; exact G_at (by decide +kernel : fetch mX12_mostOf 20 = some (.iaload)),
  by intros; exact G_reti (by decide +kernel : fetch mX12_mostOf 21 = some (.ireturn)) (by decide +kernel),
  by decide +kernel,
  by decide +kernel,
  by decide +kernel⟩
theorem gX12_told : (∀ (n d : Nat) (L : List (Option iV)) (st : List iV) (h : iH) (Q : Option iV → iH → Prop), G sp sc [19] d mX12_told (n + 1) 0 L st h Q = (match ld L 3 with | some (.inl x) => G sp sc [19] d mX12_told n 1 L (.inl x :: st) h Q | _ => False)) ∧
  (∀ (n d : Nat) (L : List (Option iV)) (r : List iV) (x : Int) (h : iH) (Q : Option iV → iH → Prop), G sp sc [19] d mX12_told (n + 1) 1 L (.inl x :: r) h Q = (match st1 L 4 (.inl x) with | some L' => G sp sc [19] d mX12_told n 3 L' r h Q | none => False)) ∧
  (∀ (n d : Nat) (L : List (Option iV)) (st : List iV) (h : iH) (Q : Option iV → iH → Prop), G sp sc [19] d mX12_told (n + 1) 3 L st h Q = (match ld L 0 with | some (.inr (.inr (r + 1))) => G sp sc [19] d mX12_told n 4 L (.inr (.inr (r + 1)) :: st) h Q | _ => False)) ∧
  (∀ (n d : Nat) (L : List (Option iV)) (r : List iV) (m : Nat) (h : iH) (Q : Option iV → iH → Prop), G sp sc [19] d mX12_told (n + 1) 4 L (.inr (.inr (m + 2)) :: r) h Q = (match h.1[m]? with | some (.inl (ci, fs)) => (match lkF 12 9 ci with | some k => (match fs[k]? with | some v => G sp sc [19] d mX12_told n 7 L (v :: r) h Q | none => False) | none => False) | _ => False)) ∧
  (∀ (n d : Nat) (L : List (Option iV)) (st : List iV) (h : iH) (Q : Option iV → iH → Prop), G sp sc [19] d mX12_told (n + 1) 7 L st h Q = (match ld L 1 with | some (.inl x) => G sp sc [19] d mX12_told n 8 L (.inl x :: st) h Q | _ => False)) ∧
  (∀ (n d : Nat) (L : List (Option iV)) (st : List iV) (h : iH) (Q : Option iV → iH → Prop), G sp sc [19] d mX12_told (n + 1) 8 L st h Q = (match ld L 2 with | some (.inl x) => G sp sc [19] d mX12_told n 9 L (.inl x :: st) h Q | _ => False)) ∧
  (∀ (n d : Nat) (L : List (Option iV)) (st : List iV) (h : iH) (Q : Option iV → iH → Prop), G sp sc [19] d mX12_told (n + 1) 9 L st h Q = G sp sc [19] d mX12_told n 10 L (.inl 2 :: st) h Q) ∧
  (∀ (n d : Nat) (L : List (Option iV)) (r : List iV) (z0 : iV) (z1 : iV) (z2 : iV) (h : iH) (Q : Option iV → iH → Prop), G sp sc [19] (d + 1) mX12_told (n + 1) 10 L (z2 :: z1 :: z0 :: r) h Q = (cs r ≤ 8 ∧ Call sp sc d mX12_atOne [z0, z1, z2] h (fun q h1 => GC sp sc [19] (d + 1) mX12_told n 13 L q r h h1 Q))) ∧
  (∀ (n d : Nat) (L : List (Option iV)) (r : List iV) (j : Int) (m : Nat) (h : iH) (Q : Option iV → iH → Prop), G sp sc [19] d mX12_told (n + 1) 13 L (.inl j :: .inr (.inr (m + 2)) :: r) h Q = (match h.1[m]? with | some (.inr (.inl (0, xs))) => inA j xs.length = true ∧ G sp sc [19] d mX12_told n 14 L (.inl (xs.getD j.toNat 0) :: r) h Q | _ => False)) ∧
  (∀ (n d : Nat) (L : List (Option iV)) (r : List iV) (x : Int) (h : iH) (Q : Option iV → iH → Prop), G sp sc [19] d mX12_told (n + 1) 14 L (.inl x :: r) h Q = (match st1 L 5 (.inl x) with | some L' => G sp sc [19] d mX12_told n 16 L' r h Q | none => False)) ∧
  (∀ (n d : Nat) (L : List (Option iV)) (st : List iV) (h : iH) (Q : Option iV → iH → Prop), G sp sc [19] d mX12_told (n + 1) 16 L st h Q = G sp sc [19] d mX12_told n 17 L (.inl 0 :: st) h Q) ∧
  (∀ (n d : Nat) (L : List (Option iV)) (r : List iV) (x : Int) (h : iH) (Q : Option iV → iH → Prop), G sp sc [19] d mX12_told (n + 1) 17 L (.inl x :: r) h Q = (match st1 L 6 (.inl x) with | some L' => Run sp sc d mX12_told 19 L' r h Q | none => False)) ∧
  (∀ (n d : Nat) (L : List (Option iV)) (st : List iV) (h : iH) (Q : Option iV → iH → Prop), G sp sc [19] d mX12_told (n + 1) 19 L st h Q = (match ld L 6 with | some (.inl x) => G sp sc [19] d mX12_told n 21 L (.inl x :: st) h Q | _ => False)) ∧
  (∀ (n d : Nat) (L : List (Option iV)) (st : List iV) (h : iH) (Q : Option iV → iH → Prop), G sp sc [19] d mX12_told (n + 1) 21 L st h Q = G sp sc [19] d mX12_told n 22 L (.inl 2 :: st) h Q) ∧
  (∀ (n d : Nat) (L : List (Option iV)) (a : Int) (b : Int) (r : List iV) (h : iH) (Q : Option iV → iH → Prop), G sp sc [19] d mX12_told (n + 1) 22 L (.inl b :: .inl a :: r) h Q = ((inI a = true ∧ inI b = true) ∧ (b ≤ a → G sp sc [19] d mX12_told n 81 L r h Q) ∧ (¬ (b ≤ a) → G sp sc [19] d mX12_told n 25 L r h Q))) ∧
  (∀ (n d : Nat) (L : List (Option iV)) (st : List iV) (h : iH) (Q : Option iV → iH → Prop), G sp sc [19] d mX12_told (n + 1) 25 L st h Q = (match ld L 5 with | some (.inl x) => G sp sc [19] d mX12_told n 27 L (.inl x :: st) h Q | _ => False)) ∧
  (∀ (n d : Nat) (L : List (Option iV)) (a : Int) (r : List iV) (h : iH) (Q : Option iV → iH → Prop), G sp sc [19] d mX12_told (n + 1) 27 L (.inl a :: r) h Q = (inI a = true ∧ (a < 0 → G sp sc [19] d mX12_told n 81 L r h Q) ∧ (¬ (a < 0) → G sp sc [19] d mX12_told n 30 L r h Q))) ∧
  (∀ (n d : Nat) (L : List (Option iV)) (st : List iV) (h : iH) (Q : Option iV → iH → Prop), G sp sc [19] d mX12_told (n + 1) 30 L st h Q = (match ld L 0 with | some (.inr (.inr (r + 1))) => G sp sc [19] d mX12_told n 31 L (.inr (.inr (r + 1)) :: st) h Q | _ => False)) ∧
  (∀ (n d : Nat) (L : List (Option iV)) (r : List iV) (m : Nat) (h : iH) (Q : Option iV → iH → Prop), G sp sc [19] d mX12_told (n + 1) 31 L (.inr (.inr (m + 2)) :: r) h Q = (match h.1[m]? with | some (.inl (ci, fs)) => (match lkF 12 9 ci with | some k => (match fs[k]? with | some v => G sp sc [19] d mX12_told n 34 L (v :: r) h Q | none => False) | none => False) | _ => False)) ∧
  (∀ (n d : Nat) (L : List (Option iV)) (st : List iV) (h : iH) (Q : Option iV → iH → Prop), G sp sc [19] d mX12_told (n + 1) 34 L st h Q = (match ld L 1 with | some (.inl x) => G sp sc [19] d mX12_told n 35 L (.inl x :: st) h Q | _ => False)) ∧
  (∀ (n d : Nat) (L : List (Option iV)) (st : List iV) (h : iH) (Q : Option iV → iH → Prop), G sp sc [19] d mX12_told (n + 1) 35 L st h Q = (match ld L 5 with | some (.inl x) => G sp sc [19] d mX12_told n 37 L (.inl x :: st) h Q | _ => False)) ∧
  (∀ (n d : Nat) (L : List (Option iV)) (st : List iV) (h : iH) (Q : Option iV → iH → Prop), G sp sc [19] d mX12_told (n + 1) 37 L st h Q = G sp sc [19] d mX12_told n 38 L (.inl 0 :: st) h Q) ∧
  (∀ (n d : Nat) (L : List (Option iV)) (r : List iV) (z0 : iV) (z1 : iV) (z2 : iV) (h : iH) (Q : Option iV → iH → Prop), G sp sc [19] (d + 1) mX12_told (n + 1) 38 L (z2 :: z1 :: z0 :: r) h Q = (cs r ≤ 8 ∧ Call sp sc d mX12_atOne [z0, z1, z2] h (fun q h1 => GC sp sc [19] (d + 1) mX12_told n 41 L q r h h1 Q))) ∧
  (∀ (n d : Nat) (L : List (Option iV)) (r : List iV) (j : Int) (m : Nat) (h : iH) (Q : Option iV → iH → Prop), G sp sc [19] d mX12_told (n + 1) 41 L (.inl j :: .inr (.inr (m + 2)) :: r) h Q = (match h.1[m]? with | some (.inr (.inl (0, xs))) => inA j xs.length = true ∧ G sp sc [19] d mX12_told n 42 L (.inl (xs.getD j.toNat 0) :: r) h Q | _ => False)) ∧
  (∀ (n d : Nat) (L : List (Option iV)) (st : List iV) (h : iH) (Q : Option iV → iH → Prop), G sp sc [19] d mX12_told (n + 1) 42 L st h Q = (match ld L 0 with | some (.inr (.inr (r + 1))) => G sp sc [19] d mX12_told n 43 L (.inr (.inr (r + 1)) :: st) h Q | _ => False)) ∧
  (∀ (n d : Nat) (L : List (Option iV)) (r : List iV) (m : Nat) (h : iH) (Q : Option iV → iH → Prop), G sp sc [19] d mX12_told (n + 1) 43 L (.inr (.inr (m + 2)) :: r) h Q = (match h.1[m]? with | some (.inl (ci, fs)) => (match lkF 12 9 ci with | some k => (match fs[k]? with | some v => G sp sc [19] d mX12_told n 46 L (v :: r) h Q | none => False) | none => False) | _ => False)) ∧
  (∀ (n d : Nat) (L : List (Option iV)) (st : List iV) (h : iH) (Q : Option iV → iH → Prop), G sp sc [19] d mX12_told (n + 1) 46 L st h Q = (match ld L 1 with | some (.inl x) => G sp sc [19] d mX12_told n 47 L (.inl x :: st) h Q | _ => False)) ∧
  (∀ (n d : Nat) (L : List (Option iV)) (st : List iV) (h : iH) (Q : Option iV → iH → Prop), G sp sc [19] d mX12_told (n + 1) 47 L st h Q = (match ld L 5 with | some (.inl x) => G sp sc [19] d mX12_told n 49 L (.inl x :: st) h Q | _ => False)) ∧
  (∀ (n d : Nat) (L : List (Option iV)) (st : List iV) (h : iH) (Q : Option iV → iH → Prop), G sp sc [19] d mX12_told (n + 1) 49 L st h Q = G sp sc [19] d mX12_told n 50 L (.inl 1 :: st) h Q) ∧
  (∀ (n d : Nat) (L : List (Option iV)) (r : List iV) (z0 : iV) (z1 : iV) (z2 : iV) (h : iH) (Q : Option iV → iH → Prop), G sp sc [19] (d + 1) mX12_told (n + 1) 50 L (z2 :: z1 :: z0 :: r) h Q = (cs r ≤ 8 ∧ Call sp sc d mX12_atOne [z0, z1, z2] h (fun q h1 => GC sp sc [19] (d + 1) mX12_told n 53 L q r h h1 Q))) ∧
  (∀ (n d : Nat) (L : List (Option iV)) (r : List iV) (j : Int) (m : Nat) (h : iH) (Q : Option iV → iH → Prop), G sp sc [19] d mX12_told (n + 1) 53 L (.inl j :: .inr (.inr (m + 2)) :: r) h Q = (match h.1[m]? with | some (.inr (.inl (0, xs))) => inA j xs.length = true ∧ G sp sc [19] d mX12_told n 54 L (.inl (xs.getD j.toNat 0) :: r) h Q | _ => False)) ∧
  (∀ (n d : Nat) (L : List (Option iV)) (st : List iV) (h : iH) (Q : Option iV → iH → Prop), G sp sc [19] d mX12_told (n + 1) 54 L st h Q = (match ld L 4 with | some (.inl x) => G sp sc [19] d mX12_told n 56 L (.inl x :: st) h Q | _ => False)) ∧
  (∀ (n d : Nat) (L : List (Option iV)) (r : List iV) (z0 : iV) (z1 : iV) (z2 : iV) (h : iH) (Q : Option iV → iH → Prop), G sp sc [19] (d + 1) mX12_told (n + 1) 56 L (z2 :: z1 :: z0 :: r) h Q = (cs r ≤ 8 ∧ Call sp sc d mX12_retellsBy [z0, z1, z2] h (fun q h1 => GC sp sc [19] (d + 1) mX12_told n 59 L q r h h1 Q))) ∧
  (∀ (n d : Nat) (L : List (Option iV)) (r : List iV) (x : Int) (h : iH) (Q : Option iV → iH → Prop), G sp sc [19] d mX12_told (n + 1) 59 L (.inl x :: r) h Q = (match st1 L 4 (.inl x) with | some L' => G sp sc [19] d mX12_told n 61 L' r h Q | none => False)) ∧
  (∀ (n d : Nat) (L : List (Option iV)) (st : List iV) (h : iH) (Q : Option iV → iH → Prop), G sp sc [19] d mX12_told (n + 1) 61 L st h Q = (match ld L 0 with | some (.inr (.inr (r + 1))) => G sp sc [19] d mX12_told n 62 L (.inr (.inr (r + 1)) :: st) h Q | _ => False)) ∧
  (∀ (n d : Nat) (L : List (Option iV)) (r : List iV) (m : Nat) (h : iH) (Q : Option iV → iH → Prop), G sp sc [19] d mX12_told (n + 1) 62 L (.inr (.inr (m + 2)) :: r) h Q = (match h.1[m]? with | some (.inl (ci, fs)) => (match lkF 12 9 ci with | some k => (match fs[k]? with | some v => G sp sc [19] d mX12_told n 65 L (v :: r) h Q | none => False) | none => False) | _ => False)) ∧
  (∀ (n d : Nat) (L : List (Option iV)) (st : List iV) (h : iH) (Q : Option iV → iH → Prop), G sp sc [19] d mX12_told (n + 1) 65 L st h Q = (match ld L 1 with | some (.inl x) => G sp sc [19] d mX12_told n 66 L (.inl x :: st) h Q | _ => False)) ∧
  (∀ (n d : Nat) (L : List (Option iV)) (st : List iV) (h : iH) (Q : Option iV → iH → Prop), G sp sc [19] d mX12_told (n + 1) 66 L st h Q = (match ld L 5 with | some (.inl x) => G sp sc [19] d mX12_told n 68 L (.inl x :: st) h Q | _ => False)) ∧
  (∀ (n d : Nat) (L : List (Option iV)) (st : List iV) (h : iH) (Q : Option iV → iH → Prop), G sp sc [19] d mX12_told (n + 1) 68 L st h Q = G sp sc [19] d mX12_told n 69 L (.inl 2 :: st) h Q) ∧
  (∀ (n d : Nat) (L : List (Option iV)) (r : List iV) (z0 : iV) (z1 : iV) (z2 : iV) (h : iH) (Q : Option iV → iH → Prop), G sp sc [19] (d + 1) mX12_told (n + 1) 69 L (z2 :: z1 :: z0 :: r) h Q = (cs r ≤ 8 ∧ Call sp sc d mX12_atOne [z0, z1, z2] h (fun q h1 => GC sp sc [19] (d + 1) mX12_told n 72 L q r h h1 Q))) ∧
  (∀ (n d : Nat) (L : List (Option iV)) (r : List iV) (j : Int) (m : Nat) (h : iH) (Q : Option iV → iH → Prop), G sp sc [19] d mX12_told (n + 1) 72 L (.inl j :: .inr (.inr (m + 2)) :: r) h Q = (match h.1[m]? with | some (.inr (.inl (0, xs))) => inA j xs.length = true ∧ G sp sc [19] d mX12_told n 73 L (.inl (xs.getD j.toNat 0) :: r) h Q | _ => False)) ∧
  (∀ (n d : Nat) (L : List (Option iV)) (r : List iV) (x : Int) (h : iH) (Q : Option iV → iH → Prop), G sp sc [19] d mX12_told (n + 1) 73 L (.inl x :: r) h Q = (match st1 L 5 (.inl x) with | some L' => G sp sc [19] d mX12_told n 75 L' r h Q | none => False)) ∧
  (∀ (n d : Nat) (L : List (Option iV)) (st : List iV) (h : iH) (Q : Option iV → iH → Prop), G sp sc [19] d mX12_told (n + 1) 75 L st h Q = (match ld L 6 with | some (.inl x) => (match st1 L 6 (.inl (x + 1)) with | some L' => G sp sc [19] d mX12_told n 78 L' st h Q | none => False) | _ => False)) ∧
  (∀ (n d : Nat) (L : List (Option iV)) (st : List iV) (h : iH) (Q : Option iV → iH → Prop), G sp sc [19] d mX12_told (n + 1) 78 L st h Q = Run sp sc d mX12_told 19 L st h Q) ∧
  (∀ (n d : Nat) (L : List (Option iV)) (st : List iV) (h : iH) (Q : Option iV → iH → Prop), G sp sc [19] d mX12_told (n + 1) 81 L st h Q = (match ld L 4 with | some (.inl x) => G sp sc [19] d mX12_told n 83 L (.inl x :: st) h Q | _ => False)) ∧
  (∀ (n d : Nat) (L : List (Option iV)) (a : Int) (h : iH) (Q : Option iV → iH → Prop), G sp sc [19] d mX12_told (n + 1) 83 L [.inl a] h Q = Q (some (.inl a)) h) ∧
  lkF 12 9 12 = some 0 := ⟨by intros; exact G_at (by decide +kernel : fetch mX12_told 0 = some (.iload_n 3)),
  by intros; exact G_at (by decide +kernel : fetch mX12_told 1 = some (.istore 4)),
  by intros; exact G_at (by decide +kernel : fetch mX12_told 3 = some (.aload_n 0)),
  by intros; exact G_own (by decide +kernel : fetch mX12_told 4 = some (.getfield 9)) (by decide +kernel),
  by intros; exact G_at (by decide +kernel : fetch mX12_told 7 = some (.iload_n 1)),
  by intros; exact G_at (by decide +kernel : fetch mX12_told 8 = some (.iload_n 2)),
  by intros; exact G_at (by decide +kernel : fetch mX12_told 9 = some (.iconst 2)),
  by intros; exact G_callS (k := 3) (kd := 0) (by decide +kernel : fetch mX12_told 10 = some (.invokestatic 88)) (by decide +kernel) (by decide +kernel) (by decide +kernel) rfl (by decide),
  by intros; exact G_at (by decide +kernel : fetch mX12_told 13 = some (.iaload)),
  by intros; exact G_at (by decide +kernel : fetch mX12_told 14 = some (.istore 5)),
  by intros; exact G_at (by decide +kernel : fetch mX12_told 16 = some (.iconst 0)),
  by intros; exact G_at (by decide +kernel : fetch mX12_told 17 = some (.istore 6)),
  by intros; exact G_at (by decide +kernel : fetch mX12_told 19 = some (.iload 6)),
  by intros; exact G_at (by decide +kernel : fetch mX12_told 21 = some (.iconst 2)),
  by intros; exact G_at (by decide +kernel : fetch mX12_told 22 = some (.if_icmp .ge 59)),
  by intros; exact G_at (by decide +kernel : fetch mX12_told 25 = some (.iload 5)),
  by intros; exact G_at (by decide +kernel : fetch mX12_told 27 = some (.ifCond .lt 54)),
  by intros; exact G_at (by decide +kernel : fetch mX12_told 30 = some (.aload_n 0)),
  by intros; exact G_own (by decide +kernel : fetch mX12_told 31 = some (.getfield 9)) (by decide +kernel),
  by intros; exact G_at (by decide +kernel : fetch mX12_told 34 = some (.iload_n 1)),
  by intros; exact G_at (by decide +kernel : fetch mX12_told 35 = some (.iload 5)),
  by intros; exact G_at (by decide +kernel : fetch mX12_told 37 = some (.iconst 0)),
  by intros; exact G_callS (k := 3) (kd := 0) (by decide +kernel : fetch mX12_told 38 = some (.invokestatic 88)) (by decide +kernel) (by decide +kernel) (by decide +kernel) rfl (by decide),
  by intros; exact G_at (by decide +kernel : fetch mX12_told 41 = some (.iaload)),
  by intros; exact G_at (by decide +kernel : fetch mX12_told 42 = some (.aload_n 0)),
  by intros; exact G_own (by decide +kernel : fetch mX12_told 43 = some (.getfield 9)) (by decide +kernel),
  by intros; exact G_at (by decide +kernel : fetch mX12_told 46 = some (.iload_n 1)),
  by intros; exact G_at (by decide +kernel : fetch mX12_told 47 = some (.iload 5)),
  by intros; exact G_at (by decide +kernel : fetch mX12_told 49 = some (.iconst 1)),
  by intros; exact G_callS (k := 3) (kd := 0) (by decide +kernel : fetch mX12_told 50 = some (.invokestatic 88)) (by decide +kernel) (by decide +kernel) (by decide +kernel) rfl (by decide),
  by intros; exact G_at (by decide +kernel : fetch mX12_told 53 = some (.iaload)),
  by intros; exact G_at (by decide +kernel : fetch mX12_told 54 = some (.iload 4)),
  by intros; exact G_callS (k := 3) (kd := 0) (by decide +kernel : fetch mX12_told 56 = some (.invokestatic 199)) (by decide +kernel) (by decide +kernel) (by decide +kernel) rfl (by decide),
  by intros; exact G_at (by decide +kernel : fetch mX12_told 59 = some (.istore 4)),
  by intros; exact G_at (by decide +kernel : fetch mX12_told 61 = some (.aload_n 0)),
  by intros; exact G_own (by decide +kernel : fetch mX12_told 62 = some (.getfield 9)) (by decide +kernel),
  by intros; exact G_at (by decide +kernel : fetch mX12_told 65 = some (.iload_n 1)),
  by intros; exact G_at (by decide +kernel : fetch mX12_told 66 = some (.iload 5)),
  by intros; exact G_at (by decide +kernel : fetch mX12_told 68 = some (.iconst 2)),
  by intros; exact G_callS (k := 3) (kd := 0) (by decide +kernel : fetch mX12_told 69 = some (.invokestatic 88)) (by decide +kernel) (by decide +kernel) (by decide +kernel) rfl (by decide),
  by intros; exact G_at (by decide +kernel : fetch mX12_told 72 = some (.iaload)),
  by intros; exact G_at (by decide +kernel : fetch mX12_told 73 = some (.istore 5)),
  by intros; exact G_at (by decide +kernel : fetch mX12_told 75 = some (.iinc 6 1)),
  by intros; exact G_at (by decide +kernel : fetch mX12_told 78 = some (.goto (-59))),
  by intros; exact G_at (by decide +kernel : fetch mX12_told 81 = some (.iload 4)),
  by intros; exact G_reti (by decide +kernel : fetch mX12_told 83 = some (.ireturn)) (by decide +kernel),
  by decide +kernel⟩
theorem gX12_report : (∀ (n d : Nat) (L : List (Option iV)) (st : List iV) (h : iH) (Q : Option iV → iH → Prop), G sp sc [] d mX12_report (n + 1) 0 L st h Q = (match ld L 0 with | some (.inr (.inr (r + 1))) => G sp sc [] d mX12_report n 1 L (.inr (.inr (r + 1)) :: st) h Q | _ => False)) ∧
  (∀ (n d : Nat) (L : List (Option iV)) (st : List iV) (h : iH) (Q : Option iV → iH → Prop), G sp sc [] d mX12_report (n + 1) 1 L st h Q = (match ld L 1 with | some (.inl x) => G sp sc [] d mX12_report n 2 L (.inl x :: st) h Q | _ => False)) ∧
  (∀ (n d : Nat) (L : List (Option iV)) (st : List iV) (h : iH) (Q : Option iV → iH → Prop), G sp sc [] d mX12_report (n + 1) 2 L st h Q = (match ld L 2 with | some (.inl x) => G sp sc [] d mX12_report n 3 L (.inl x :: st) h Q | _ => False)) ∧
  (∀ (n d : Nat) (L : List (Option iV)) (r : List iV) (m : Nat) (z0 : iV) (z1 : iV) (h : iH) (Q : Option iV → iH → Prop), G sp sc [] (d + 1) mX12_report (n + 1) 3 L (z1 :: z0 :: .inr (.inr (m + 2)) :: r) h Q = (match h.1[m]? with | some (.inl (ci, _)) => (match lkC 12 175 ci with | some (y1, n1, kd) => (n1 = 2 ∧ (kd = 2 ∨ kd = 3 ∨ kd = 8) ∧ cs r ≤ 8) ∧ Call sp sc d y1 [.inr (.inr (m + 2)), z0, z1] h (fun q h1 => GC sp sc [] (d + 1) mX12_report n 6 L q r h h1 Q) | none => False) | _ => False)) ∧
  (∀ (n d : Nat) (L : List (Option iV)) (a : Int) (r : List iV) (h : iH) (Q : Option iV → iH → Prop), G sp sc [] d mX12_report (n + 1) 6 L (.inl a :: r) h Q = (inI a = true ∧ (a = 0 → G sp sc [] d mX12_report n 29 L r h Q) ∧ (¬ (a = 0) → G sp sc [] d mX12_report n 9 L r h Q))) ∧
  (∀ (n d : Nat) (L : List (Option iV)) (st : List iV) (h : iH) (Q : Option iV → iH → Prop), G sp sc [] d mX12_report (n + 1) 9 L st h Q = (match ld L 3 with | some (.inl x) => G sp sc [] d mX12_report n 10 L (.inl x :: st) h Q | _ => False)) ∧
  (∀ (n d : Nat) (L : List (Option iV)) (st : List iV) (h : iH) (Q : Option iV → iH → Prop), G sp sc [] d mX12_report (n + 1) 10 L st h Q = G sp sc [] d mX12_report n 11 L (.inl 0 :: st) h Q) ∧
  (∀ (n d : Nat) (L : List (Option iV)) (st : List iV) (h : iH) (Q : Option iV → iH → Prop), G sp sc [] d mX12_report (n + 1) 11 L st h Q = ((-128 ≤ (99 : Int) ∧ (99 : Int) < 128) ∧ G sp sc [] d mX12_report n 13 L (.inl 99 :: st) h Q)) ∧
  (∀ (n d : Nat) (L : List (Option iV)) (r : List iV) (z0 : iV) (z1 : iV) (z2 : iV) (h : iH) (Q : Option iV → iH → Prop), G sp sc [] (d + 1) mX12_report (n + 1) 13 L (z2 :: z1 :: z0 :: r) h Q = (cs r ≤ 8 ∧ Call sp sc d mX12_isIn [z0, z1, z2] h (fun q h1 => GC sp sc [] (d + 1) mX12_report n 16 L q r h h1 Q))) ∧
  (∀ (n d : Nat) (L : List (Option iV)) (a : Int) (r : List iV) (h : iH) (Q : Option iV → iH → Prop), G sp sc [] d mX12_report (n + 1) 16 L (.inl a :: r) h Q = (inI a = true ∧ (a = 0 → G sp sc [] d mX12_report n 29 L r h Q) ∧ (¬ (a = 0) → G sp sc [] d mX12_report n 19 L r h Q))) ∧
  (∀ (n d : Nat) (L : List (Option iV)) (st : List iV) (h : iH) (Q : Option iV → iH → Prop), G sp sc [] d mX12_report (n + 1) 19 L st h Q = (match ld L 0 with | some (.inr (.inr (r + 1))) => G sp sc [] d mX12_report n 20 L (.inr (.inr (r + 1)) :: st) h Q | _ => False)) ∧
  (∀ (n d : Nat) (L : List (Option iV)) (st : List iV) (h : iH) (Q : Option iV → iH → Prop), G sp sc [] d mX12_report (n + 1) 20 L st h Q = (match ld L 1 with | some (.inl x) => G sp sc [] d mX12_report n 21 L (.inl x :: st) h Q | _ => False)) ∧
  (∀ (n d : Nat) (L : List (Option iV)) (st : List iV) (h : iH) (Q : Option iV → iH → Prop), G sp sc [] d mX12_report (n + 1) 21 L st h Q = (match ld L 2 with | some (.inl x) => G sp sc [] d mX12_report n 22 L (.inl x :: st) h Q | _ => False)) ∧
  (∀ (n d : Nat) (L : List (Option iV)) (st : List iV) (h : iH) (Q : Option iV → iH → Prop), G sp sc [] d mX12_report (n + 1) 22 L st h Q = (match ld L 3 with | some (.inl x) => G sp sc [] d mX12_report n 23 L (.inl x :: st) h Q | _ => False)) ∧
  (∀ (n d : Nat) (L : List (Option iV)) (r : List iV) (m : Nat) (z0 : iV) (z1 : iV) (z2 : iV) (h : iH) (Q : Option iV → iH → Prop), G sp sc [] (d + 1) mX12_report (n + 1) 23 L (z2 :: z1 :: z0 :: .inr (.inr (m + 2)) :: r) h Q = (match h.1[m]? with | some (.inl (ci, _)) => (match lkC 12 263 ci with | some (y1, n1, kd) => (n1 = 3 ∧ (kd = 2 ∨ kd = 3 ∨ kd = 8) ∧ cs r ≤ 8) ∧ Call sp sc d y1 [.inr (.inr (m + 2)), z0, z1, z2] h (fun q h1 => GC sp sc [] (d + 1) mX12_report n 26 L q r h h1 Q) | none => False) | _ => False)) ∧
  (∀ (n d : Nat) (L : List (Option iV)) (st : List iV) (h : iH) (Q : Option iV → iH → Prop), G sp sc [] d mX12_report (n + 1) 26 L st h Q = G sp sc [] d mX12_report n 30 L st h Q) ∧
  (∀ (n d : Nat) (L : List (Option iV)) (st : List iV) (h : iH) (Q : Option iV → iH → Prop), G sp sc [] d mX12_report (n + 1) 29 L st h Q = G sp sc [] d mX12_report n 30 L (.inl (-1) :: st) h Q) ∧
  (∀ (n d : Nat) (L : List (Option iV)) (a : Int) (h : iH) (Q : Option iV → iH → Prop), G sp sc [] d mX12_report (n + 1) 30 L [.inl a] h Q = Q (some (.inl a)) h) ∧
  lkC 12 175 12 = some (mX12_isOne, 2, 2) ∧
  lkC 12 263 12 = some (mX12_told, 3, 2) := ⟨by intros; exact G_at (by decide +kernel : fetch mX12_report 0 = some (.aload_n 0)),
  by intros; exact G_at (by decide +kernel : fetch mX12_report 1 = some (.iload_n 1)),
  by intros; exact G_at (by decide +kernel : fetch mX12_report 2 = some (.iload_n 2)),
  by intros; exact G_callV (by decide +kernel : fetch mX12_report 3 = some (.invokevirtual 175)) (by decide +kernel) (by decide +kernel) rfl,
  by intros; exact G_at (by decide +kernel : fetch mX12_report 6 = some (.ifCond .eq 23)),
  by intros; exact G_at (by decide +kernel : fetch mX12_report 9 = some (.iload_n 3)),
  by intros; exact G_at (by decide +kernel : fetch mX12_report 10 = some (.iconst 0)),
  by intros; exact G_at (by decide +kernel : fetch mX12_report 11 = some (.bipush 99)),
  by intros; exact G_callS (k := 3) (kd := 0) (by decide +kernel : fetch mX12_report 13 = some (.invokestatic 67)) (by decide +kernel) (by decide +kernel) (by decide +kernel) rfl (by decide),
  by intros; exact G_at (by decide +kernel : fetch mX12_report 16 = some (.ifCond .eq 13)),
  by intros; exact G_at (by decide +kernel : fetch mX12_report 19 = some (.aload_n 0)),
  by intros; exact G_at (by decide +kernel : fetch mX12_report 20 = some (.iload_n 1)),
  by intros; exact G_at (by decide +kernel : fetch mX12_report 21 = some (.iload_n 2)),
  by intros; exact G_at (by decide +kernel : fetch mX12_report 22 = some (.iload_n 3)),
  by intros; exact G_callV (by decide +kernel : fetch mX12_report 23 = some (.invokevirtual 263)) (by decide +kernel) (by decide +kernel) rfl,
  by intros; exact G_at (by decide +kernel : fetch mX12_report 26 = some (.goto 4)),
  by intros; exact G_at (by decide +kernel : fetch mX12_report 29 = some (.iconst (-1))),
  by intros; exact G_reti (by decide +kernel : fetch mX12_report 30 = some (.ireturn)) (by decide +kernel),
  by decide +kernel,
  by decide +kernel⟩
theorem gX12_said : (∀ (n d : Nat) (L : List (Option iV)) (st : List iV) (h : iH) (Q : Option iV → iH → Prop), G sp sc [43] d mX12_said (n + 1) 0 L st h Q = (match ld L 0 with | some (.inr (.inr (r + 1))) => G sp sc [43] d mX12_said n 1 L (.inr (.inr (r + 1)) :: st) h Q | _ => False)) ∧
  (∀ (n d : Nat) (L : List (Option iV)) (st : List iV) (h : iH) (Q : Option iV → iH → Prop), G sp sc [43] d mX12_said (n + 1) 1 L st h Q = (match ld L 1 with | some (.inl x) => G sp sc [43] d mX12_said n 2 L (.inl x :: st) h Q | _ => False)) ∧
  (∀ (n d : Nat) (L : List (Option iV)) (st : List iV) (h : iH) (Q : Option iV → iH → Prop), G sp sc [43] d mX12_said (n + 1) 2 L st h Q = (match ld L 2 with | some (.inl x) => G sp sc [43] d mX12_said n 3 L (.inl x :: st) h Q | _ => False)) ∧
  (∀ (n d : Nat) (L : List (Option iV)) (r : List iV) (m : Nat) (z0 : iV) (z1 : iV) (h : iH) (Q : Option iV → iH → Prop), G sp sc [43] (d + 1) mX12_said (n + 1) 3 L (z1 :: z0 :: .inr (.inr (m + 2)) :: r) h Q = (match h.1[m]? with | some (.inl (ci, _)) => (match lkC 12 175 ci with | some (y1, n1, kd) => (n1 = 2 ∧ (kd = 2 ∨ kd = 3 ∨ kd = 8) ∧ cs r ≤ 8) ∧ Call sp sc d y1 [.inr (.inr (m + 2)), z0, z1] h (fun q h1 => GC sp sc [43] (d + 1) mX12_said n 6 L q r h h1 Q) | none => False) | _ => False)) ∧
  (∀ (n d : Nat) (L : List (Option iV)) (a : Int) (r : List iV) (h : iH) (Q : Option iV → iH → Prop), G sp sc [43] d mX12_said (n + 1) 6 L (.inl a :: r) h Q = (inI a = true ∧ (a = 0 → G sp sc [43] d mX12_said n 30 L r h Q) ∧ (¬ (a = 0) → G sp sc [43] d mX12_said n 9 L r h Q))) ∧
  (∀ (n d : Nat) (L : List (Option iV)) (st : List iV) (h : iH) (Q : Option iV → iH → Prop), G sp sc [43] d mX12_said (n + 1) 9 L st h Q = (match ld L 3 with | some (.inl x) => G sp sc [43] d mX12_said n 10 L (.inl x :: st) h Q | _ => False)) ∧
  (∀ (n d : Nat) (L : List (Option iV)) (st : List iV) (h : iH) (Q : Option iV → iH → Prop), G sp sc [43] d mX12_said (n + 1) 10 L st h Q = G sp sc [43] d mX12_said n 11 L (.inl 0 :: st) h Q) ∧
  (∀ (n d : Nat) (L : List (Option iV)) (st : List iV) (h : iH) (Q : Option iV → iH → Prop), G sp sc [43] d mX12_said (n + 1) 11 L st h Q = ((-32768 ≤ (999 : Int) ∧ (999 : Int) < 32768) ∧ G sp sc [43] d mX12_said n 14 L (.inl 999 :: st) h Q)) ∧
  (∀ (n d : Nat) (L : List (Option iV)) (r : List iV) (z0 : iV) (z1 : iV) (z2 : iV) (h : iH) (Q : Option iV → iH → Prop), G sp sc [43] (d + 1) mX12_said (n + 1) 14 L (z2 :: z1 :: z0 :: r) h Q = (cs r ≤ 8 ∧ Call sp sc d mX12_isIn [z0, z1, z2] h (fun q h1 => GC sp sc [43] (d + 1) mX12_said n 17 L q r h h1 Q))) ∧
  (∀ (n d : Nat) (L : List (Option iV)) (a : Int) (r : List iV) (h : iH) (Q : Option iV → iH → Prop), G sp sc [43] d mX12_said (n + 1) 17 L (.inl a :: r) h Q = (inI a = true ∧ (a = 0 → G sp sc [43] d mX12_said n 30 L r h Q) ∧ (¬ (a = 0) → G sp sc [43] d mX12_said n 20 L r h Q))) ∧
  (∀ (n d : Nat) (L : List (Option iV)) (st : List iV) (h : iH) (Q : Option iV → iH → Prop), G sp sc [43] d mX12_said (n + 1) 20 L st h Q = (match ld L 4 with | some (.inl x) => G sp sc [43] d mX12_said n 22 L (.inl x :: st) h Q | _ => False)) ∧
  (∀ (n d : Nat) (L : List (Option iV)) (st : List iV) (h : iH) (Q : Option iV → iH → Prop), G sp sc [43] d mX12_said (n + 1) 22 L st h Q = G sp sc [43] d mX12_said n 23 L (.inl 0 :: st) h Q) ∧
  (∀ (n d : Nat) (L : List (Option iV)) (st : List iV) (h : iH) (Q : Option iV → iH → Prop), G sp sc [43] d mX12_said (n + 1) 23 L st h Q = G sp sc [43] d mX12_said n 24 L (.inl 1 :: st) h Q) ∧
  (∀ (n d : Nat) (L : List (Option iV)) (r : List iV) (z0 : iV) (z1 : iV) (z2 : iV) (h : iH) (Q : Option iV → iH → Prop), G sp sc [43] (d + 1) mX12_said (n + 1) 24 L (z2 :: z1 :: z0 :: r) h Q = (cs r ≤ 8 ∧ Call sp sc d mX12_isIn [z0, z1, z2] h (fun q h1 => GC sp sc [43] (d + 1) mX12_said n 27 L q r h h1 Q))) ∧
  (∀ (n d : Nat) (L : List (Option iV)) (a : Int) (r : List iV) (h : iH) (Q : Option iV → iH → Prop), G sp sc [43] d mX12_said (n + 1) 27 L (.inl a :: r) h Q = (inI a = true ∧ (¬ a = 0 → G sp sc [43] d mX12_said n 32 L r h Q) ∧ (¬ (¬ a = 0) → G sp sc [43] d mX12_said n 30 L r h Q))) ∧
  (∀ (n d : Nat) (L : List (Option iV)) (st : List iV) (h : iH) (Q : Option iV → iH → Prop), G sp sc [43] d mX12_said (n + 1) 30 L st h Q = G sp sc [43] d mX12_said n 31 L (.inl (-1) :: st) h Q) ∧
  (∀ (n d : Nat) (L : List (Option iV)) (a : Int) (h : iH) (Q : Option iV → iH → Prop), G sp sc [43] d mX12_said (n + 1) 31 L [.inl a] h Q = Q (some (.inl a)) h) ∧
  (∀ (n d : Nat) (L : List (Option iV)) (st : List iV) (h : iH) (Q : Option iV → iH → Prop), G sp sc [43] d mX12_said (n + 1) 32 L st h Q = G sp sc [43] d mX12_said n 33 L (.inl 0 :: st) h Q) ∧
  (∀ (n d : Nat) (L : List (Option iV)) (r : List iV) (x : Int) (h : iH) (Q : Option iV → iH → Prop), G sp sc [43] d mX12_said (n + 1) 33 L (.inl x :: r) h Q = (match st1 L 5 (.inl x) with | some L' => G sp sc [43] d mX12_said n 35 L' r h Q | none => False)) ∧
  (∀ (n d : Nat) (L : List (Option iV)) (st : List iV) (h : iH) (Q : Option iV → iH → Prop), G sp sc [43] d mX12_said (n + 1) 35 L st h Q = ((-128 ≤ ((-4) : Int) ∧ ((-4) : Int) < 128) ∧ G sp sc [43] d mX12_said n 37 L (.inl (-4) :: st) h Q)) ∧
  (∀ (n d : Nat) (L : List (Option iV)) (r : List iV) (x : Int) (h : iH) (Q : Option iV → iH → Prop), G sp sc [43] d mX12_said (n + 1) 37 L (.inl x :: r) h Q = (match st1 L 6 (.inl x) with | some L' => G sp sc [43] d mX12_said n 39 L' r h Q | none => False)) ∧
  (∀ (n d : Nat) (L : List (Option iV)) (st : List iV) (h : iH) (Q : Option iV → iH → Prop), G sp sc [43] d mX12_said (n + 1) 39 L st h Q = ((-128 ≤ (99 : Int) ∧ (99 : Int) < 128) ∧ G sp sc [43] d mX12_said n 41 L (.inl 99 :: st) h Q)) ∧
  (∀ (n d : Nat) (L : List (Option iV)) (r : List iV) (x : Int) (h : iH) (Q : Option iV → iH → Prop), G sp sc [43] d mX12_said (n + 1) 41 L (.inl x :: r) h Q = (match st1 L 7 (.inl x) with | some L' => Run sp sc d mX12_said 43 L' r h Q | none => False)) ∧
  (∀ (n d : Nat) (L : List (Option iV)) (st : List iV) (h : iH) (Q : Option iV → iH → Prop), G sp sc [43] d mX12_said (n + 1) 43 L st h Q = (match ld L 7 with | some (.inl x) => G sp sc [43] d mX12_said n 45 L (.inl x :: st) h Q | _ => False)) ∧
  (∀ (n d : Nat) (L : List (Option iV)) (a : Int) (r : List iV) (h : iH) (Q : Option iV → iH → Prop), G sp sc [43] d mX12_said (n + 1) 45 L (.inl a :: r) h Q = (inI a = true ∧ (a < 0 → G sp sc [43] d mX12_said n 76 L r h Q) ∧ (¬ (a < 0) → G sp sc [43] d mX12_said n 48 L r h Q))) ∧
  (∀ (n d : Nat) (L : List (Option iV)) (st : List iV) (h : iH) (Q : Option iV → iH → Prop), G sp sc [43] d mX12_said (n + 1) 48 L st h Q = (match ld L 0 with | some (.inr (.inr (r + 1))) => G sp sc [43] d mX12_said n 49 L (.inr (.inr (r + 1)) :: st) h Q | _ => False)) ∧
  (∀ (n d : Nat) (L : List (Option iV)) (st : List iV) (h : iH) (Q : Option iV → iH → Prop), G sp sc [43] d mX12_said (n + 1) 49 L st h Q = (match ld L 1 with | some (.inl x) => G sp sc [43] d mX12_said n 50 L (.inl x :: st) h Q | _ => False)) ∧
  (∀ (n d : Nat) (L : List (Option iV)) (st : List iV) (h : iH) (Q : Option iV → iH → Prop), G sp sc [43] d mX12_said (n + 1) 50 L st h Q = (match ld L 2 with | some (.inl x) => G sp sc [43] d mX12_said n 51 L (.inl x :: st) h Q | _ => False)) ∧
  (∀ (n d : Nat) (L : List (Option iV)) (st : List iV) (h : iH) (Q : Option iV → iH → Prop), G sp sc [43] d mX12_said (n + 1) 51 L st h Q = (match ld L 7 with | some (.inl x) => G sp sc [43] d mX12_said n 53 L (.inl x :: st) h Q | _ => False)) ∧
  (∀ (n d : Nat) (L : List (Option iV)) (r : List iV) (m : Nat) (z0 : iV) (z1 : iV) (z2 : iV) (h : iH) (Q : Option iV → iH → Prop), G sp sc [43] (d + 1) mX12_said (n + 1) 53 L (z2 :: z1 :: z0 :: .inr (.inr (m + 2)) :: r) h Q = (match h.1[m]? with | some (.inl (ci, _)) => (match lkC 12 263 ci with | some (y1, n1, kd) => (n1 = 3 ∧ (kd = 2 ∨ kd = 3 ∨ kd = 8) ∧ cs r ≤ 8) ∧ Call sp sc d y1 [.inr (.inr (m + 2)), z0, z1, z2] h (fun q h1 => GC sp sc [43] (d + 1) mX12_said n 56 L q r h h1 Q) | none => False) | _ => False)) ∧
  (∀ (n d : Nat) (L : List (Option iV)) (st : List iV) (h : iH) (Q : Option iV → iH → Prop), G sp sc [43] d mX12_said (n + 1) 56 L st h Q = (match ld L 3 with | some (.inl x) => G sp sc [43] d mX12_said n 57 L (.inl x :: st) h Q | _ => False)) ∧
  (∀ (n d : Nat) (L : List (Option iV)) (a : Int) (b : Int) (r : List iV) (h : iH) (Q : Option iV → iH → Prop), G sp sc [43] d mX12_said (n + 1) 57 L (.inl b :: .inl a :: r) h Q = ((inI a = true ∧ inI b = true) ∧ (a = b → G sp sc [43] d mX12_said n 63 L r h Q) ∧ (¬ (a = b) → G sp sc [43] d mX12_said n 60 L r h Q))) ∧
  (∀ (n d : Nat) (L : List (Option iV)) (st : List iV) (h : iH) (Q : Option iV → iH → Prop), G sp sc [43] d mX12_said (n + 1) 60 L st h Q = G sp sc [43] d mX12_said n 70 L st h Q) ∧
  (∀ (n d : Nat) (L : List (Option iV)) (st : List iV) (h : iH) (Q : Option iV → iH → Prop), G sp sc [43] d mX12_said (n + 1) 63 L st h Q = (match ld L 5 with | some (.inl x) => (match st1 L 5 (.inl (x + 1)) with | some L' => G sp sc [43] d mX12_said n 66 L' st h Q | none => False) | _ => False)) ∧
  (∀ (n d : Nat) (L : List (Option iV)) (st : List iV) (h : iH) (Q : Option iV → iH → Prop), G sp sc [43] d mX12_said (n + 1) 66 L st h Q = (match ld L 7 with | some (.inl x) => G sp sc [43] d mX12_said n 68 L (.inl x :: st) h Q | _ => False)) ∧
  (∀ (n d : Nat) (L : List (Option iV)) (r : List iV) (x : Int) (h : iH) (Q : Option iV → iH → Prop), G sp sc [43] d mX12_said (n + 1) 68 L (.inl x :: r) h Q = (match st1 L 6 (.inl x) with | some L' => G sp sc [43] d mX12_said n 70 L' r h Q | none => False)) ∧
  (∀ (n d : Nat) (L : List (Option iV)) (st : List iV) (h : iH) (Q : Option iV → iH → Prop), G sp sc [43] d mX12_said (n + 1) 70 L st h Q = (match ld L 7 with | some (.inl x) => (match st1 L 7 (.inl (x + (-1))) with | some L' => G sp sc [43] d mX12_said n 73 L' st h Q | none => False) | _ => False)) ∧
  (∀ (n d : Nat) (L : List (Option iV)) (st : List iV) (h : iH) (Q : Option iV → iH → Prop), G sp sc [43] d mX12_said (n + 1) 73 L st h Q = Run sp sc d mX12_said 43 L st h Q) ∧
  (∀ (n d : Nat) (L : List (Option iV)) (st : List iV) (h : iH) (Q : Option iV → iH → Prop), G sp sc [43] d mX12_said (n + 1) 76 L st h Q = (match ld L 4 with | some (.inl x) => G sp sc [43] d mX12_said n 78 L (.inl x :: st) h Q | _ => False)) ∧
  (∀ (n d : Nat) (L : List (Option iV)) (a : Int) (r : List iV) (h : iH) (Q : Option iV → iH → Prop), G sp sc [43] d mX12_said (n + 1) 78 L (.inl a :: r) h Q = (inI a = true ∧ (¬ a = 0 → G sp sc [43] d mX12_said n 86 L r h Q) ∧ (¬ (¬ a = 0) → G sp sc [43] d mX12_said n 81 L r h Q))) ∧
  (∀ (n d : Nat) (L : List (Option iV)) (st : List iV) (h : iH) (Q : Option iV → iH → Prop), G sp sc [43] d mX12_said (n + 1) 81 L st h Q = (match ld L 5 with | some (.inl x) => G sp sc [43] d mX12_said n 83 L (.inl x :: st) h Q | _ => False)) ∧
  (∀ (n d : Nat) (L : List (Option iV)) (st : List iV) (h : iH) (Q : Option iV → iH → Prop), G sp sc [43] d mX12_said (n + 1) 83 L st h Q = G sp sc [43] d mX12_said n 88 L st h Q) ∧
  (∀ (n d : Nat) (L : List (Option iV)) (st : List iV) (h : iH) (Q : Option iV → iH → Prop), G sp sc [43] d mX12_said (n + 1) 86 L st h Q = (match ld L 6 with | some (.inl x) => G sp sc [43] d mX12_said n 88 L (.inl x :: st) h Q | _ => False)) ∧
  (∀ (n d : Nat) (L : List (Option iV)) (a : Int) (h : iH) (Q : Option iV → iH → Prop), G sp sc [43] d mX12_said (n + 1) 88 L [.inl a] h Q = Q (some (.inl a)) h) ∧
  lkC 12 175 12 = some (mX12_isOne, 2, 2) ∧
  lkC 12 263 12 = some (mX12_told, 3, 2) := ⟨by intros; exact G_at (by decide +kernel : fetch mX12_said 0 = some (.aload_n 0)),
  by intros; exact G_at (by decide +kernel : fetch mX12_said 1 = some (.iload_n 1)),
  by intros; exact G_at (by decide +kernel : fetch mX12_said 2 = some (.iload_n 2)),
  by intros; exact G_callV (by decide +kernel : fetch mX12_said 3 = some (.invokevirtual 175)) (by decide +kernel) (by decide +kernel) rfl,
  by intros; exact G_at (by decide +kernel : fetch mX12_said 6 = some (.ifCond .eq 24)),
  by intros; exact G_at (by decide +kernel : fetch mX12_said 9 = some (.iload_n 3)),
  by intros; exact G_at (by decide +kernel : fetch mX12_said 10 = some (.iconst 0)),
  by intros; exact G_at (by decide +kernel : fetch mX12_said 11 = some (.sipush 999)),
  by intros; exact G_callS (k := 3) (kd := 0) (by decide +kernel : fetch mX12_said 14 = some (.invokestatic 67)) (by decide +kernel) (by decide +kernel) (by decide +kernel) rfl (by decide),
  by intros; exact G_at (by decide +kernel : fetch mX12_said 17 = some (.ifCond .eq 13)),
  by intros; exact G_at (by decide +kernel : fetch mX12_said 20 = some (.iload 4)),
  by intros; exact G_at (by decide +kernel : fetch mX12_said 22 = some (.iconst 0)),
  by intros; exact G_at (by decide +kernel : fetch mX12_said 23 = some (.iconst 1)),
  by intros; exact G_callS (k := 3) (kd := 0) (by decide +kernel : fetch mX12_said 24 = some (.invokestatic 67)) (by decide +kernel) (by decide +kernel) (by decide +kernel) rfl (by decide),
  by intros; exact G_at (by decide +kernel : fetch mX12_said 27 = some (.ifCond .ne 5)),
  by intros; exact G_at (by decide +kernel : fetch mX12_said 30 = some (.iconst (-1))),
  by intros; exact G_reti (by decide +kernel : fetch mX12_said 31 = some (.ireturn)) (by decide +kernel),
  by intros; exact G_at (by decide +kernel : fetch mX12_said 32 = some (.iconst 0)),
  by intros; exact G_at (by decide +kernel : fetch mX12_said 33 = some (.istore 5)),
  by intros; exact G_at (by decide +kernel : fetch mX12_said 35 = some (.bipush (-4))),
  by intros; exact G_at (by decide +kernel : fetch mX12_said 37 = some (.istore 6)),
  by intros; exact G_at (by decide +kernel : fetch mX12_said 39 = some (.bipush 99)),
  by intros; exact G_at (by decide +kernel : fetch mX12_said 41 = some (.istore 7)),
  by intros; exact G_at (by decide +kernel : fetch mX12_said 43 = some (.iload 7)),
  by intros; exact G_at (by decide +kernel : fetch mX12_said 45 = some (.ifCond .lt 31)),
  by intros; exact G_at (by decide +kernel : fetch mX12_said 48 = some (.aload_n 0)),
  by intros; exact G_at (by decide +kernel : fetch mX12_said 49 = some (.iload_n 1)),
  by intros; exact G_at (by decide +kernel : fetch mX12_said 50 = some (.iload_n 2)),
  by intros; exact G_at (by decide +kernel : fetch mX12_said 51 = some (.iload 7)),
  by intros; exact G_callV (by decide +kernel : fetch mX12_said 53 = some (.invokevirtual 263)) (by decide +kernel) (by decide +kernel) rfl,
  by intros; exact G_at (by decide +kernel : fetch mX12_said 56 = some (.iload_n 3)),
  by intros; exact G_at (by decide +kernel : fetch mX12_said 57 = some (.if_icmp .eq 6)),
  by intros; exact G_at (by decide +kernel : fetch mX12_said 60 = some (.goto 10)),
  by intros; exact G_at (by decide +kernel : fetch mX12_said 63 = some (.iinc 5 1)),
  by intros; exact G_at (by decide +kernel : fetch mX12_said 66 = some (.iload 7)),
  by intros; exact G_at (by decide +kernel : fetch mX12_said 68 = some (.istore 6)),
  by intros; exact G_at (by decide +kernel : fetch mX12_said 70 = some (.iinc 7 (-1))),
  by intros; exact G_at (by decide +kernel : fetch mX12_said 73 = some (.goto (-30))),
  by intros; exact G_at (by decide +kernel : fetch mX12_said 76 = some (.iload 4)),
  by intros; exact G_at (by decide +kernel : fetch mX12_said 78 = some (.ifCond .ne 8)),
  by intros; exact G_at (by decide +kernel : fetch mX12_said 81 = some (.iload 5)),
  by intros; exact G_at (by decide +kernel : fetch mX12_said 83 = some (.goto 5)),
  by intros; exact G_at (by decide +kernel : fetch mX12_said 86 = some (.iload 6)),
  by intros; exact G_reti (by decide +kernel : fetch mX12_said 88 = some (.ireturn)) (by decide +kernel),
  by decide +kernel,
  by decide +kernel⟩
theorem gX12_isLearnt : (∀ (n d : Nat) (L : List (Option iV)) (st : List iV) (h : iH) (Q : Option iV → iH → Prop), G sp sc [3] d mX12_isLearnt (n + 1) 0 L st h Q = G sp sc [3] d mX12_isLearnt n 1 L (.inl 0 :: st) h Q) ∧
  (∀ (n d : Nat) (L : List (Option iV)) (r : List iV) (x : Int) (h : iH) (Q : Option iV → iH → Prop), G sp sc [3] d mX12_isLearnt (n + 1) 1 L (.inl x :: r) h Q = (match st1 L 4 (.inl x) with | some L' => Run sp sc d mX12_isLearnt 3 L' r h Q | none => False)) ∧
  (∀ (n d : Nat) (L : List (Option iV)) (st : List iV) (h : iH) (Q : Option iV → iH → Prop), G sp sc [3] d mX12_isLearnt (n + 1) 3 L st h Q = (match ld L 4 with | some (.inl x) => G sp sc [3] d mX12_isLearnt n 5 L (.inl x :: st) h Q | _ => False)) ∧
  (∀ (n d : Nat) (L : List (Option iV)) (st : List iV) (h : iH) (Q : Option iV → iH → Prop), G sp sc [3] d mX12_isLearnt (n + 1) 5 L st h Q = (match ld L 0 with | some (.inr (.inr (r + 1))) => G sp sc [3] d mX12_isLearnt n 6 L (.inr (.inr (r + 1)) :: st) h Q | _ => False)) ∧
  (∀ (n d : Nat) (L : List (Option iV)) (r : List iV) (m : Nat) (h : iH) (Q : Option iV → iH → Prop), G sp sc [3] d mX12_isLearnt (n + 1) 6 L (.inr (.inr (m + 2)) :: r) h Q = (match h.1[m]? with | some (.inl (ci, fs)) => (match lkF 12 61 ci with | some k => (match fs[k]? with | some v => G sp sc [3] d mX12_isLearnt n 9 L (v :: r) h Q | none => False) | none => False) | _ => False)) ∧
  (∀ (n d : Nat) (L : List (Option iV)) (st : List iV) (h : iH) (Q : Option iV → iH → Prop), G sp sc [3] d mX12_isLearnt (n + 1) 9 L st h Q = (match ld L 1 with | some (.inl x) => G sp sc [3] d mX12_isLearnt n 10 L (.inl x :: st) h Q | _ => False)) ∧
  (∀ (n d : Nat) (L : List (Option iV)) (r : List iV) (j : Int) (m : Nat) (h : iH) (Q : Option iV → iH → Prop), G sp sc [3] d mX12_isLearnt (n + 1) 10 L (.inl j :: .inr (.inr (m + 2)) :: r) h Q = (match h.1[m]? with | some (.inr (.inl (0, xs))) => inA j xs.length = true ∧ G sp sc [3] d mX12_isLearnt n 11 L (.inl (xs.getD j.toNat 0) :: r) h Q | _ => False)) ∧
  (∀ (n d : Nat) (L : List (Option iV)) (a : Int) (b : Int) (r : List iV) (h : iH) (Q : Option iV → iH → Prop), G sp sc [3] d mX12_isLearnt (n + 1) 11 L (.inl b :: .inl a :: r) h Q = ((inI a = true ∧ inI b = true) ∧ (b ≤ a → G sp sc [3] d mX12_isLearnt n 43 L r h Q) ∧ (¬ (b ≤ a) → G sp sc [3] d mX12_isLearnt n 14 L r h Q))) ∧
  (∀ (n d : Nat) (L : List (Option iV)) (st : List iV) (h : iH) (Q : Option iV → iH → Prop), G sp sc [3] d mX12_isLearnt (n + 1) 14 L st h Q = (match ld L 0 with | some (.inr (.inr (r + 1))) => G sp sc [3] d mX12_isLearnt n 15 L (.inr (.inr (r + 1)) :: st) h Q | _ => False)) ∧
  (∀ (n d : Nat) (L : List (Option iV)) (r : List iV) (m : Nat) (h : iH) (Q : Option iV → iH → Prop), G sp sc [3] d mX12_isLearnt (n + 1) 15 L (.inr (.inr (m + 2)) :: r) h Q = (match h.1[m]? with | some (.inl (ci, fs)) => (match lkF 12 64 ci with | some k => (match fs[k]? with | some v => G sp sc [3] d mX12_isLearnt n 18 L (v :: r) h Q | none => False) | none => False) | _ => False)) ∧
  (∀ (n d : Nat) (L : List (Option iV)) (st : List iV) (h : iH) (Q : Option iV → iH → Prop), G sp sc [3] d mX12_isLearnt (n + 1) 18 L st h Q = ((-128 ≤ (100 : Int) ∧ (100 : Int) < 128) ∧ G sp sc [3] d mX12_isLearnt n 20 L (.inl 100 :: st) h Q)) ∧
  (∀ (n d : Nat) (L : List (Option iV)) (st : List iV) (h : iH) (Q : Option iV → iH → Prop), G sp sc [3] d mX12_isLearnt (n + 1) 20 L st h Q = (match ld L 1 with | some (.inl x) => G sp sc [3] d mX12_isLearnt n 21 L (.inl x :: st) h Q | _ => False)) ∧
  (∀ (n d : Nat) (L : List (Option iV)) (a : Int) (b : Int) (r : List iV) (h : iH) (Q : Option iV → iH → Prop), G sp sc [3] d mX12_isLearnt (n + 1) 21 L (.inl b :: .inl a :: r) h Q = G sp sc [3] d mX12_isLearnt n 22 L (.inl (a * b) :: r) h Q) ∧
  (∀ (n d : Nat) (L : List (Option iV)) (st : List iV) (h : iH) (Q : Option iV → iH → Prop), G sp sc [3] d mX12_isLearnt (n + 1) 22 L st h Q = (match ld L 4 with | some (.inl x) => G sp sc [3] d mX12_isLearnt n 24 L (.inl x :: st) h Q | _ => False)) ∧
  (∀ (n d : Nat) (L : List (Option iV)) (a : Int) (b : Int) (r : List iV) (h : iH) (Q : Option iV → iH → Prop), G sp sc [3] d mX12_isLearnt (n + 1) 24 L (.inl b :: .inl a :: r) h Q = G sp sc [3] d mX12_isLearnt n 25 L (.inl (a + b) :: r) h Q) ∧
  (∀ (n d : Nat) (L : List (Option iV)) (r : List iV) (j : Int) (m : Nat) (h : iH) (Q : Option iV → iH → Prop), G sp sc [3] d mX12_isLearnt (n + 1) 25 L (.inl j :: .inr (.inr (m + 2)) :: r) h Q = (match h.1[m]? with | some (.inr (.inl (0, xs))) => inA j xs.length = true ∧ G sp sc [3] d mX12_isLearnt n 26 L (.inl (xs.getD j.toNat 0) :: r) h Q | _ => False)) ∧
  (∀ (n d : Nat) (L : List (Option iV)) (st : List iV) (h : iH) (Q : Option iV → iH → Prop), G sp sc [3] d mX12_isLearnt (n + 1) 26 L st h Q = (match ld L 2 with | some (.inl x) => G sp sc [3] d mX12_isLearnt n 27 L (.inl x :: st) h Q | _ => False)) ∧
  (∀ (n d : Nat) (L : List (Option iV)) (st : List iV) (h : iH) (Q : Option iV → iH → Prop), G sp sc [3] d mX12_isLearnt (n + 1) 27 L st h Q = (match ld L 3 with | some (.inl x) => G sp sc [3] d mX12_isLearnt n 28 L (.inl x :: st) h Q | _ => False)) ∧
  (∀ (n d : Nat) (L : List (Option iV)) (st : List iV) (h : iH) (Q : Option iV → iH → Prop), G sp sc [3] d mX12_isLearnt (n + 1) 28 L st h Q = G sp sc [3] d mX12_isLearnt n 29 L (.inl 1 :: st) h Q) ∧
  (∀ (n d : Nat) (L : List (Option iV)) (r : List iV) (z0 : iV) (z1 : iV) (z2 : iV) (h : iH) (Q : Option iV → iH → Prop), G sp sc [3] (d + 1) mX12_isLearnt (n + 1) 29 L (z2 :: z1 :: z0 :: r) h Q = (cs r ≤ 8 ∧ Call sp sc d mX12_growsBy [z0, z1, z2] h (fun q h1 => GC sp sc [3] (d + 1) mX12_isLearnt n 32 L q r h h1 Q))) ∧
  (∀ (n d : Nat) (L : List (Option iV)) (a : Int) (b : Int) (r : List iV) (h : iH) (Q : Option iV → iH → Prop), G sp sc [3] d mX12_isLearnt (n + 1) 32 L (.inl b :: .inl a :: r) h Q = ((inI a = true ∧ inI b = true) ∧ (a = b → G sp sc [3] d mX12_isLearnt n 37 L r h Q) ∧ (¬ (a = b) → G sp sc [3] d mX12_isLearnt n 35 L r h Q))) ∧
  (∀ (n d : Nat) (L : List (Option iV)) (st : List iV) (h : iH) (Q : Option iV → iH → Prop), G sp sc [3] d mX12_isLearnt (n + 1) 35 L st h Q = G sp sc [3] d mX12_isLearnt n 36 L (.inl 0 :: st) h Q) ∧
  (∀ (n d : Nat) (L : List (Option iV)) (a : Int) (h : iH) (Q : Option iV → iH → Prop), G sp sc [3] d mX12_isLearnt (n + 1) 36 L [.inl a] h Q = ((a = 0 ∨ a = 1) ∧ Q (some (.inl a)) h)) ∧
  (∀ (n d : Nat) (L : List (Option iV)) (st : List iV) (h : iH) (Q : Option iV → iH → Prop), G sp sc [3] d mX12_isLearnt (n + 1) 37 L st h Q = (match ld L 4 with | some (.inl x) => (match st1 L 4 (.inl (x + 1)) with | some L' => G sp sc [3] d mX12_isLearnt n 40 L' st h Q | none => False) | _ => False)) ∧
  (∀ (n d : Nat) (L : List (Option iV)) (st : List iV) (h : iH) (Q : Option iV → iH → Prop), G sp sc [3] d mX12_isLearnt (n + 1) 40 L st h Q = Run sp sc d mX12_isLearnt 3 L st h Q) ∧
  (∀ (n d : Nat) (L : List (Option iV)) (st : List iV) (h : iH) (Q : Option iV → iH → Prop), G sp sc [3] d mX12_isLearnt (n + 1) 43 L st h Q = G sp sc [3] d mX12_isLearnt n 44 L (.inl 1 :: st) h Q) ∧
  (∀ (n d : Nat) (L : List (Option iV)) (a : Int) (h : iH) (Q : Option iV → iH → Prop), G sp sc [3] d mX12_isLearnt (n + 1) 44 L [.inl a] h Q = ((a = 0 ∨ a = 1) ∧ Q (some (.inl a)) h)) ∧
  lkF 12 61 12 = some 30 ∧
  lkF 12 64 12 = some 31 := ⟨by intros; exact G_at (by decide +kernel : fetch mX12_isLearnt 0 = some (.iconst 0)),
  by intros; exact G_at (by decide +kernel : fetch mX12_isLearnt 1 = some (.istore 4)),
  by intros; exact G_at (by decide +kernel : fetch mX12_isLearnt 3 = some (.iload 4)),
  by intros; exact G_at (by decide +kernel : fetch mX12_isLearnt 5 = some (.aload_n 0)),
  by intros; exact G_own (by decide +kernel : fetch mX12_isLearnt 6 = some (.getfield 61)) (by decide +kernel),
  by intros; exact G_at (by decide +kernel : fetch mX12_isLearnt 9 = some (.iload_n 1)),
  by intros; exact G_at (by decide +kernel : fetch mX12_isLearnt 10 = some (.iaload)),
  by intros; exact G_at (by decide +kernel : fetch mX12_isLearnt 11 = some (.if_icmp .ge 32)),
  by intros; exact G_at (by decide +kernel : fetch mX12_isLearnt 14 = some (.aload_n 0)),
  by intros; exact G_own (by decide +kernel : fetch mX12_isLearnt 15 = some (.getfield 64)) (by decide +kernel),
  by intros; exact G_at (by decide +kernel : fetch mX12_isLearnt 18 = some (.bipush 100)),
  by intros; exact G_at (by decide +kernel : fetch mX12_isLearnt 20 = some (.iload_n 1)),
  by intros; exact G_at (by decide +kernel : fetch mX12_isLearnt 21 = some (.imul)),
  by intros; exact G_at (by decide +kernel : fetch mX12_isLearnt 22 = some (.iload 4)),
  by intros; exact G_at (by decide +kernel : fetch mX12_isLearnt 24 = some (.iadd)),
  by intros; exact G_at (by decide +kernel : fetch mX12_isLearnt 25 = some (.iaload)),
  by intros; exact G_at (by decide +kernel : fetch mX12_isLearnt 26 = some (.iload_n 2)),
  by intros; exact G_at (by decide +kernel : fetch mX12_isLearnt 27 = some (.iload_n 3)),
  by intros; exact G_at (by decide +kernel : fetch mX12_isLearnt 28 = some (.iconst 1)),
  by intros; exact G_callS (k := 3) (kd := 0) (by decide +kernel : fetch mX12_isLearnt 29 = some (.invokestatic 112)) (by decide +kernel) (by decide +kernel) (by decide +kernel) rfl (by decide),
  by intros; exact G_at (by decide +kernel : fetch mX12_isLearnt 32 = some (.if_icmp .eq 5)),
  by intros; exact G_at (by decide +kernel : fetch mX12_isLearnt 35 = some (.iconst 0)),
  by intros; exact G_retz (by decide +kernel : fetch mX12_isLearnt 36 = some (.ireturn)) (by decide +kernel),
  by intros; exact G_at (by decide +kernel : fetch mX12_isLearnt 37 = some (.iinc 4 1)),
  by intros; exact G_at (by decide +kernel : fetch mX12_isLearnt 40 = some (.goto (-37))),
  by intros; exact G_at (by decide +kernel : fetch mX12_isLearnt 43 = some (.iconst 1)),
  by intros; exact G_retz (by decide +kernel : fetch mX12_isLearnt 44 = some (.ireturn)) (by decide +kernel),
  by decide +kernel,
  by decide +kernel⟩
theorem gX12_learnt : (∀ (n d : Nat) (L : List (Option iV)) (st : List iV) (h : iH) (Q : Option iV → iH → Prop), G sp sc [33] d mX12_learnt (n + 1) 0 L st h Q = (match ld L 2 with | some (.inl x) => G sp sc [33] d mX12_learnt n 1 L (.inl x :: st) h Q | _ => False)) ∧
  (∀ (n d : Nat) (L : List (Option iV)) (st : List iV) (h : iH) (Q : Option iV → iH → Prop), G sp sc [33] d mX12_learnt (n + 1) 1 L st h Q = G sp sc [33] d mX12_learnt n 2 L (.inl 0 :: st) h Q) ∧
  (∀ (n d : Nat) (L : List (Option iV)) (st : List iV) (h : iH) (Q : Option iV → iH → Prop), G sp sc [33] d mX12_learnt (n + 1) 2 L st h Q = G sp sc [33] d mX12_learnt n 3 L (.inl 1 :: st) h Q) ∧
  (∀ (n d : Nat) (L : List (Option iV)) (r : List iV) (z0 : iV) (z1 : iV) (z2 : iV) (h : iH) (Q : Option iV → iH → Prop), G sp sc [33] (d + 1) mX12_learnt (n + 1) 3 L (z2 :: z1 :: z0 :: r) h Q = (cs r ≤ 8 ∧ Call sp sc d mX12_isIn [z0, z1, z2] h (fun q h1 => GC sp sc [33] (d + 1) mX12_learnt n 6 L q r h h1 Q))) ∧
  (∀ (n d : Nat) (L : List (Option iV)) (a : Int) (r : List iV) (h : iH) (Q : Option iV → iH → Prop), G sp sc [33] d mX12_learnt (n + 1) 6 L (.inl a :: r) h Q = (inI a = true ∧ (¬ a = 0 → G sp sc [33] d mX12_learnt n 11 L r h Q) ∧ (¬ (¬ a = 0) → G sp sc [33] d mX12_learnt n 9 L r h Q))) ∧
  (∀ (n d : Nat) (L : List (Option iV)) (st : List iV) (h : iH) (Q : Option iV → iH → Prop), G sp sc [33] d mX12_learnt (n + 1) 9 L st h Q = G sp sc [33] d mX12_learnt n 10 L (.inl (-1) :: st) h Q) ∧
  (∀ (n d : Nat) (L : List (Option iV)) (a : Int) (h : iH) (Q : Option iV → iH → Prop), G sp sc [33] d mX12_learnt (n + 1) 10 L [.inl a] h Q = Q (some (.inl a)) h) ∧
  (∀ (n d : Nat) (L : List (Option iV)) (st : List iV) (h : iH) (Q : Option iV → iH → Prop), G sp sc [33] d mX12_learnt (n + 1) 11 L st h Q = (match ld L 0 with | some (.inr (.inr (r + 1))) => G sp sc [33] d mX12_learnt n 12 L (.inr (.inr (r + 1)) :: st) h Q | _ => False)) ∧
  (∀ (n d : Nat) (L : List (Option iV)) (st : List iV) (h : iH) (Q : Option iV → iH → Prop), G sp sc [33] d mX12_learnt (n + 1) 12 L st h Q = (match ld L 1 with | some (.inl x) => G sp sc [33] d mX12_learnt n 13 L (.inl x :: st) h Q | _ => False)) ∧
  (∀ (n d : Nat) (L : List (Option iV)) (st : List iV) (h : iH) (Q : Option iV → iH → Prop), G sp sc [33] d mX12_learnt (n + 1) 13 L st h Q = G sp sc [33] d mX12_learnt n 14 L (.inl (-1) :: st) h Q) ∧
  (∀ (n d : Nat) (L : List (Option iV)) (r : List iV) (m : Nat) (z0 : iV) (z1 : iV) (h : iH) (Q : Option iV → iH → Prop), G sp sc [33] (d + 1) mX12_learnt (n + 1) 14 L (z1 :: z0 :: .inr (.inr (m + 2)) :: r) h Q = (match h.1[m]? with | some (.inl (ci, _)) => (match lkC 12 184 ci with | some (y1, n1, kd) => (n1 = 2 ∧ (kd = 2 ∨ kd = 3 ∨ kd = 8) ∧ cs r ≤ 8) ∧ Call sp sc d y1 [.inr (.inr (m + 2)), z0, z1] h (fun q h1 => GC sp sc [33] (d + 1) mX12_learnt n 17 L q r h h1 Q) | none => False) | _ => False)) ∧
  (∀ (n d : Nat) (L : List (Option iV)) (r : List iV) (x : Int) (h : iH) (Q : Option iV → iH → Prop), G sp sc [33] d mX12_learnt (n + 1) 17 L (.inl x :: r) h Q = (match st1 L 3 (.inl x) with | some L' => G sp sc [33] d mX12_learnt n 18 L' r h Q | none => False)) ∧
  (∀ (n d : Nat) (L : List (Option iV)) (st : List iV) (h : iH) (Q : Option iV → iH → Prop), G sp sc [33] d mX12_learnt (n + 1) 18 L st h Q = (match ld L 3 with | some (.inl x) => G sp sc [33] d mX12_learnt n 19 L (.inl x :: st) h Q | _ => False)) ∧
  (∀ (n d : Nat) (L : List (Option iV)) (a : Int) (r : List iV) (h : iH) (Q : Option iV → iH → Prop), G sp sc [33] d mX12_learnt (n + 1) 19 L (.inl a :: r) h Q = (inI a = true ∧ (a = 0 → G sp sc [33] d mX12_learnt n 24 L r h Q) ∧ (¬ (a = 0) → G sp sc [33] d mX12_learnt n 22 L r h Q))) ∧
  (∀ (n d : Nat) (L : List (Option iV)) (st : List iV) (h : iH) (Q : Option iV → iH → Prop), G sp sc [33] d mX12_learnt (n + 1) 22 L st h Q = (match ld L 3 with | some (.inl x) => G sp sc [33] d mX12_learnt n 23 L (.inl x :: st) h Q | _ => False)) ∧
  (∀ (n d : Nat) (L : List (Option iV)) (a : Int) (h : iH) (Q : Option iV → iH → Prop), G sp sc [33] d mX12_learnt (n + 1) 23 L [.inl a] h Q = Q (some (.inl a)) h) ∧
  (∀ (n d : Nat) (L : List (Option iV)) (st : List iV) (h : iH) (Q : Option iV → iH → Prop), G sp sc [33] d mX12_learnt (n + 1) 24 L st h Q = G sp sc [33] d mX12_learnt n 25 L (.inl 0 :: st) h Q) ∧
  (∀ (n d : Nat) (L : List (Option iV)) (r : List iV) (x : Int) (h : iH) (Q : Option iV → iH → Prop), G sp sc [33] d mX12_learnt (n + 1) 25 L (.inl x :: r) h Q = (match st1 L 4 (.inl x) with | some L' => G sp sc [33] d mX12_learnt n 27 L' r h Q | none => False)) ∧
  (∀ (n d : Nat) (L : List (Option iV)) (st : List iV) (h : iH) (Q : Option iV → iH → Prop), G sp sc [33] d mX12_learnt (n + 1) 27 L st h Q = G sp sc [33] d mX12_learnt n 28 L (.inl 0 :: st) h Q) ∧
  (∀ (n d : Nat) (L : List (Option iV)) (r : List iV) (x : Int) (h : iH) (Q : Option iV → iH → Prop), G sp sc [33] d mX12_learnt (n + 1) 28 L (.inl x :: r) h Q = (match st1 L 5 (.inl x) with | some L' => G sp sc [33] d mX12_learnt n 30 L' r h Q | none => False)) ∧
  (∀ (n d : Nat) (L : List (Option iV)) (st : List iV) (h : iH) (Q : Option iV → iH → Prop), G sp sc [33] d mX12_learnt (n + 1) 30 L st h Q = G sp sc [33] d mX12_learnt n 31 L (.inl 0 :: st) h Q) ∧
  (∀ (n d : Nat) (L : List (Option iV)) (r : List iV) (x : Int) (h : iH) (Q : Option iV → iH → Prop), G sp sc [33] d mX12_learnt (n + 1) 31 L (.inl x :: r) h Q = (match st1 L 6 (.inl x) with | some L' => Run sp sc d mX12_learnt 33 L' r h Q | none => False)) ∧
  (∀ (n d : Nat) (L : List (Option iV)) (st : List iV) (h : iH) (Q : Option iV → iH → Prop), G sp sc [33] d mX12_learnt (n + 1) 33 L st h Q = (match ld L 6 with | some (.inl x) => G sp sc [33] d mX12_learnt n 35 L (.inl x :: st) h Q | _ => False)) ∧
  (∀ (n d : Nat) (L : List (Option iV)) (st : List iV) (h : iH) (Q : Option iV → iH → Prop), G sp sc [33] d mX12_learnt (n + 1) 35 L st h Q = ((-128 ≤ (60 : Int) ∧ (60 : Int) < 128) ∧ G sp sc [33] d mX12_learnt n 37 L (.inl 60 :: st) h Q)) ∧
  (∀ (n d : Nat) (L : List (Option iV)) (a : Int) (b : Int) (r : List iV) (h : iH) (Q : Option iV → iH → Prop), G sp sc [33] d mX12_learnt (n + 1) 37 L (.inl b :: .inl a :: r) h Q = ((inI a = true ∧ inI b = true) ∧ (b ≤ a → G sp sc [33] d mX12_learnt n 82 L r h Q) ∧ (¬ (b ≤ a) → G sp sc [33] d mX12_learnt n 40 L r h Q))) ∧
  (∀ (n d : Nat) (L : List (Option iV)) (st : List iV) (h : iH) (Q : Option iV → iH → Prop), G sp sc [33] d mX12_learnt (n + 1) 40 L st h Q = (match ld L 0 with | some (.inr (.inr (r + 1))) => G sp sc [33] d mX12_learnt n 41 L (.inr (.inr (r + 1)) :: st) h Q | _ => False)) ∧
  (∀ (n d : Nat) (L : List (Option iV)) (st : List iV) (h : iH) (Q : Option iV → iH → Prop), G sp sc [33] d mX12_learnt (n + 1) 41 L st h Q = (match ld L 1 with | some (.inl x) => G sp sc [33] d mX12_learnt n 42 L (.inl x :: st) h Q | _ => False)) ∧
  (∀ (n d : Nat) (L : List (Option iV)) (st : List iV) (h : iH) (Q : Option iV → iH → Prop), G sp sc [33] d mX12_learnt (n + 1) 42 L st h Q = (match ld L 6 with | some (.inl x) => G sp sc [33] d mX12_learnt n 44 L (.inl x :: st) h Q | _ => False)) ∧
  (∀ (n d : Nat) (L : List (Option iV)) (st : List iV) (h : iH) (Q : Option iV → iH → Prop), G sp sc [33] d mX12_learnt (n + 1) 44 L st h Q = ((-128 ≤ (10 : Int) ∧ (10 : Int) < 128) ∧ G sp sc [33] d mX12_learnt n 46 L (.inl 10 :: st) h Q)) ∧
  (∀ (n d : Nat) (L : List (Option iV)) (a : Int) (b : Int) (r : List iV) (h : iH) (Q : Option iV → iH → Prop), G sp sc [33] d mX12_learnt (n + 1) 46 L (.inl b :: .inl a :: r) h Q = ((inI a = true ∧ inI b = true ∧ 0 < b) ∧ G sp sc [33] d mX12_learnt n 47 L (.inl (a.tdiv b) :: r) h Q)) ∧
  (∀ (n d : Nat) (L : List (Option iV)) (st : List iV) (h : iH) (Q : Option iV → iH → Prop), G sp sc [33] d mX12_learnt (n + 1) 47 L st h Q = (match ld L 6 with | some (.inl x) => G sp sc [33] d mX12_learnt n 49 L (.inl x :: st) h Q | _ => False)) ∧
  (∀ (n d : Nat) (L : List (Option iV)) (st : List iV) (h : iH) (Q : Option iV → iH → Prop), G sp sc [33] d mX12_learnt (n + 1) 49 L st h Q = ((-128 ≤ (10 : Int) ∧ (10 : Int) < 128) ∧ G sp sc [33] d mX12_learnt n 51 L (.inl 10 :: st) h Q)) ∧
  (∀ (n d : Nat) (L : List (Option iV)) (a : Int) (b : Int) (r : List iV) (h : iH) (Q : Option iV → iH → Prop), G sp sc [33] d mX12_learnt (n + 1) 51 L (.inl b :: .inl a :: r) h Q = ((inI a = true ∧ inI b = true ∧ 0 < b) ∧ G sp sc [33] d mX12_learnt n 52 L (.inl (a.tmod b) :: r) h Q)) ∧
  (∀ (n d : Nat) (L : List (Option iV)) (r : List iV) (m : Nat) (z0 : iV) (z1 : iV) (z2 : iV) (h : iH) (Q : Option iV → iH → Prop), G sp sc [33] (d + 1) mX12_learnt (n + 1) 52 L (z2 :: z1 :: z0 :: .inr (.inr (m + 2)) :: r) h Q = (match h.1[m]? with | some (.inl (ci, _)) => (match lkC 12 266 ci with | some (y1, n1, kd) => (n1 = 3 ∧ (kd = 2 ∨ kd = 3 ∨ kd = 8) ∧ cs r ≤ 8) ∧ Call sp sc d y1 [.inr (.inr (m + 2)), z0, z1, z2] h (fun q h1 => GC sp sc [33] (d + 1) mX12_learnt n 55 L q r h h1 Q) | none => False) | _ => False)) ∧
  (∀ (n d : Nat) (L : List (Option iV)) (a : Int) (r : List iV) (h : iH) (Q : Option iV → iH → Prop), G sp sc [33] d mX12_learnt (n + 1) 55 L (.inl a :: r) h Q = (inI a = true ∧ (¬ a = 0 → G sp sc [33] d mX12_learnt n 61 L r h Q) ∧ (¬ (¬ a = 0) → G sp sc [33] d mX12_learnt n 58 L r h Q))) ∧
  (∀ (n d : Nat) (L : List (Option iV)) (st : List iV) (h : iH) (Q : Option iV → iH → Prop), G sp sc [33] d mX12_learnt (n + 1) 58 L st h Q = G sp sc [33] d mX12_learnt n 76 L st h Q) ∧
  (∀ (n d : Nat) (L : List (Option iV)) (st : List iV) (h : iH) (Q : Option iV → iH → Prop), G sp sc [33] d mX12_learnt (n + 1) 61 L st h Q = (match ld L 4 with | some (.inl x) => G sp sc [33] d mX12_learnt n 63 L (.inl x :: st) h Q | _ => False)) ∧
  (∀ (n d : Nat) (L : List (Option iV)) (st : List iV) (h : iH) (Q : Option iV → iH → Prop), G sp sc [33] d mX12_learnt (n + 1) 63 L st h Q = G sp sc [33] d mX12_learnt n 64 L (.inl 1 :: st) h Q) ∧
  (∀ (n d : Nat) (L : List (Option iV)) (st : List iV) (h : iH) (Q : Option iV → iH → Prop), G sp sc [33] d mX12_learnt (n + 1) 64 L st h Q = (match ld L 6 with | some (.inl x) => G sp sc [33] d mX12_learnt n 66 L (.inl x :: st) h Q | _ => False)) ∧
  (∀ (n d : Nat) (L : List (Option iV)) (st : List iV) (h : iH) (Q : Option iV → iH → Prop), G sp sc [33] d mX12_learnt (n + 1) 66 L st h Q = ((-128 ≤ (10 : Int) ∧ (10 : Int) < 128) ∧ G sp sc [33] d mX12_learnt n 68 L (.inl 10 :: st) h Q)) ∧
  (∀ (n d : Nat) (L : List (Option iV)) (a : Int) (b : Int) (r : List iV) (h : iH) (Q : Option iV → iH → Prop), G sp sc [33] d mX12_learnt (n + 1) 68 L (.inl b :: .inl a :: r) h Q = ((inI a = true ∧ inI b = true ∧ 0 < b) ∧ G sp sc [33] d mX12_learnt n 69 L (.inl (a.tdiv b) :: r) h Q)) ∧
  (∀ (n d : Nat) (L : List (Option iV)) (a : Int) (b : Int) (r : List iV) (h : iH) (Q : Option iV → iH → Prop), G sp sc [33] d mX12_learnt (n + 1) 69 L (.inl b :: .inl a :: r) h Q = G sp sc [33] d mX12_learnt n 70 L (.inl (bShl a b) :: r) h Q) ∧
  (∀ (n d : Nat) (L : List (Option iV)) (a : Int) (b : Int) (r : List iV) (h : iH) (Q : Option iV → iH → Prop), G sp sc [33] d mX12_learnt (n + 1) 70 L (.inl b :: .inl a :: r) h Q = G sp sc [33] d mX12_learnt n 71 L (.inl (bOr a b) :: r) h Q) ∧
  (∀ (n d : Nat) (L : List (Option iV)) (r : List iV) (x : Int) (h : iH) (Q : Option iV → iH → Prop), G sp sc [33] d mX12_learnt (n + 1) 71 L (.inl x :: r) h Q = (match st1 L 4 (.inl x) with | some L' => G sp sc [33] d mX12_learnt n 73 L' r h Q | none => False)) ∧
  (∀ (n d : Nat) (L : List (Option iV)) (st : List iV) (h : iH) (Q : Option iV → iH → Prop), G sp sc [33] d mX12_learnt (n + 1) 73 L st h Q = (match ld L 5 with | some (.inl x) => (match st1 L 5 (.inl (x + 1)) with | some L' => G sp sc [33] d mX12_learnt n 76 L' st h Q | none => False) | _ => False)) ∧
  (∀ (n d : Nat) (L : List (Option iV)) (st : List iV) (h : iH) (Q : Option iV → iH → Prop), G sp sc [33] d mX12_learnt (n + 1) 76 L st h Q = (match ld L 6 with | some (.inl x) => (match st1 L 6 (.inl (x + 1)) with | some L' => G sp sc [33] d mX12_learnt n 79 L' st h Q | none => False) | _ => False)) ∧
  (∀ (n d : Nat) (L : List (Option iV)) (st : List iV) (h : iH) (Q : Option iV → iH → Prop), G sp sc [33] d mX12_learnt (n + 1) 79 L st h Q = Run sp sc d mX12_learnt 33 L st h Q) ∧
  (∀ (n d : Nat) (L : List (Option iV)) (st : List iV) (h : iH) (Q : Option iV → iH → Prop), G sp sc [33] d mX12_learnt (n + 1) 82 L st h Q = (match ld L 2 with | some (.inl x) => G sp sc [33] d mX12_learnt n 83 L (.inl x :: st) h Q | _ => False)) ∧
  (∀ (n d : Nat) (L : List (Option iV)) (a : Int) (r : List iV) (h : iH) (Q : Option iV → iH → Prop), G sp sc [33] d mX12_learnt (n + 1) 83 L (.inl a :: r) h Q = (inI a = true ∧ (¬ a = 0 → G sp sc [33] d mX12_learnt n 91 L r h Q) ∧ (¬ (¬ a = 0) → G sp sc [33] d mX12_learnt n 86 L r h Q))) ∧
  (∀ (n d : Nat) (L : List (Option iV)) (st : List iV) (h : iH) (Q : Option iV → iH → Prop), G sp sc [33] d mX12_learnt (n + 1) 86 L st h Q = (match ld L 4 with | some (.inl x) => G sp sc [33] d mX12_learnt n 88 L (.inl x :: st) h Q | _ => False)) ∧
  (∀ (n d : Nat) (L : List (Option iV)) (st : List iV) (h : iH) (Q : Option iV → iH → Prop), G sp sc [33] d mX12_learnt (n + 1) 88 L st h Q = G sp sc [33] d mX12_learnt n 93 L st h Q) ∧
  (∀ (n d : Nat) (L : List (Option iV)) (st : List iV) (h : iH) (Q : Option iV → iH → Prop), G sp sc [33] d mX12_learnt (n + 1) 91 L st h Q = (match ld L 5 with | some (.inl x) => G sp sc [33] d mX12_learnt n 93 L (.inl x :: st) h Q | _ => False)) ∧
  (∀ (n d : Nat) (L : List (Option iV)) (a : Int) (h : iH) (Q : Option iV → iH → Prop), G sp sc [33] d mX12_learnt (n + 1) 93 L [.inl a] h Q = Q (some (.inl a)) h) ∧
  lkC 12 184 12 = some (mX12_wrongRow, 2, 2) ∧
  lkC 12 266 12 = some (mX12_isLearnt, 3, 2) := ⟨by intros; exact G_at (by decide +kernel : fetch mX12_learnt 0 = some (.iload_n 2)),
  by intros; exact G_at (by decide +kernel : fetch mX12_learnt 1 = some (.iconst 0)),
  by intros; exact G_at (by decide +kernel : fetch mX12_learnt 2 = some (.iconst 1)),
  by intros; exact G_callS (k := 3) (kd := 0) (by decide +kernel : fetch mX12_learnt 3 = some (.invokestatic 67)) (by decide +kernel) (by decide +kernel) (by decide +kernel) rfl (by decide),
  by intros; exact G_at (by decide +kernel : fetch mX12_learnt 6 = some (.ifCond .ne 5)),
  by intros; exact G_at (by decide +kernel : fetch mX12_learnt 9 = some (.iconst (-1))),
  by intros; exact G_reti (by decide +kernel : fetch mX12_learnt 10 = some (.ireturn)) (by decide +kernel),
  by intros; exact G_at (by decide +kernel : fetch mX12_learnt 11 = some (.aload_n 0)),
  by intros; exact G_at (by decide +kernel : fetch mX12_learnt 12 = some (.iload_n 1)),
  by intros; exact G_at (by decide +kernel : fetch mX12_learnt 13 = some (.iconst (-1))),
  by intros; exact G_callV (by decide +kernel : fetch mX12_learnt 14 = some (.invokevirtual 184)) (by decide +kernel) (by decide +kernel) rfl,
  by intros; exact G_at (by decide +kernel : fetch mX12_learnt 17 = some (.istore_n 3)),
  by intros; exact G_at (by decide +kernel : fetch mX12_learnt 18 = some (.iload_n 3)),
  by intros; exact G_at (by decide +kernel : fetch mX12_learnt 19 = some (.ifCond .eq 5)),
  by intros; exact G_at (by decide +kernel : fetch mX12_learnt 22 = some (.iload_n 3)),
  by intros; exact G_reti (by decide +kernel : fetch mX12_learnt 23 = some (.ireturn)) (by decide +kernel),
  by intros; exact G_at (by decide +kernel : fetch mX12_learnt 24 = some (.iconst 0)),
  by intros; exact G_at (by decide +kernel : fetch mX12_learnt 25 = some (.istore 4)),
  by intros; exact G_at (by decide +kernel : fetch mX12_learnt 27 = some (.iconst 0)),
  by intros; exact G_at (by decide +kernel : fetch mX12_learnt 28 = some (.istore 5)),
  by intros; exact G_at (by decide +kernel : fetch mX12_learnt 30 = some (.iconst 0)),
  by intros; exact G_at (by decide +kernel : fetch mX12_learnt 31 = some (.istore 6)),
  by intros; exact G_at (by decide +kernel : fetch mX12_learnt 33 = some (.iload 6)),
  by intros; exact G_at (by decide +kernel : fetch mX12_learnt 35 = some (.bipush 60)),
  by intros; exact G_at (by decide +kernel : fetch mX12_learnt 37 = some (.if_icmp .ge 45)),
  by intros; exact G_at (by decide +kernel : fetch mX12_learnt 40 = some (.aload_n 0)),
  by intros; exact G_at (by decide +kernel : fetch mX12_learnt 41 = some (.iload_n 1)),
  by intros; exact G_at (by decide +kernel : fetch mX12_learnt 42 = some (.iload 6)),
  by intros; exact G_at (by decide +kernel : fetch mX12_learnt 44 = some (.bipush 10)),
  by intros; exact G_at (by decide +kernel : fetch mX12_learnt 46 = some (.idiv)),
  by intros; exact G_at (by decide +kernel : fetch mX12_learnt 47 = some (.iload 6)),
  by intros; exact G_at (by decide +kernel : fetch mX12_learnt 49 = some (.bipush 10)),
  by intros; exact G_at (by decide +kernel : fetch mX12_learnt 51 = some (.irem)),
  by intros; exact G_callV (by decide +kernel : fetch mX12_learnt 52 = some (.invokevirtual 266)) (by decide +kernel) (by decide +kernel) rfl,
  by intros; exact G_at (by decide +kernel : fetch mX12_learnt 55 = some (.ifCond .ne 6)),
  by intros; exact G_at (by decide +kernel : fetch mX12_learnt 58 = some (.goto 18)),
  by intros; exact G_at (by decide +kernel : fetch mX12_learnt 61 = some (.iload 4)),
  by intros; exact G_at (by decide +kernel : fetch mX12_learnt 63 = some (.iconst 1)),
  by intros; exact G_at (by decide +kernel : fetch mX12_learnt 64 = some (.iload 6)),
  by intros; exact G_at (by decide +kernel : fetch mX12_learnt 66 = some (.bipush 10)),
  by intros; exact G_at (by decide +kernel : fetch mX12_learnt 68 = some (.idiv)),
  by intros; exact G_at (by decide +kernel : fetch mX12_learnt 69 = some (.ishl)),
  by intros; exact G_at (by decide +kernel : fetch mX12_learnt 70 = some (.ior)),
  by intros; exact G_at (by decide +kernel : fetch mX12_learnt 71 = some (.istore 4)),
  by intros; exact G_at (by decide +kernel : fetch mX12_learnt 73 = some (.iinc 5 1)),
  by intros; exact G_at (by decide +kernel : fetch mX12_learnt 76 = some (.iinc 6 1)),
  by intros; exact G_at (by decide +kernel : fetch mX12_learnt 79 = some (.goto (-46))),
  by intros; exact G_at (by decide +kernel : fetch mX12_learnt 82 = some (.iload_n 2)),
  by intros; exact G_at (by decide +kernel : fetch mX12_learnt 83 = some (.ifCond .ne 8)),
  by intros; exact G_at (by decide +kernel : fetch mX12_learnt 86 = some (.iload 4)),
  by intros; exact G_at (by decide +kernel : fetch mX12_learnt 88 = some (.goto 5)),
  by intros; exact G_at (by decide +kernel : fetch mX12_learnt 91 = some (.iload 5)),
  by intros; exact G_reti (by decide +kernel : fetch mX12_learnt 93 = some (.ireturn)) (by decide +kernel),
  by decide +kernel,
  by decide +kernel⟩
theorem gX12_chain : (∀ (n d : Nat) (L : List (Option iV)) (st : List iV) (h : iH) (Q : Option iV → iH → Prop), G sp sc [41] d mX12_chain (n + 1) 0 L st h Q = (match ld L 0 with | some (.inr (.inr (r + 1))) => G sp sc [41] d mX12_chain n 1 L (.inr (.inr (r + 1)) :: st) h Q | _ => False)) ∧
  (∀ (n d : Nat) (L : List (Option iV)) (st : List iV) (h : iH) (Q : Option iV → iH → Prop), G sp sc [41] d mX12_chain (n + 1) 1 L st h Q = (match ld L 1 with | some (.inl x) => G sp sc [41] d mX12_chain n 2 L (.inl x :: st) h Q | _ => False)) ∧
  (∀ (n d : Nat) (L : List (Option iV)) (st : List iV) (h : iH) (Q : Option iV → iH → Prop), G sp sc [41] d mX12_chain (n + 1) 2 L st h Q = (match ld L 2 with | some (.inl x) => G sp sc [41] d mX12_chain n 3 L (.inl x :: st) h Q | _ => False)) ∧
  (∀ (n d : Nat) (L : List (Option iV)) (r : List iV) (m : Nat) (z0 : iV) (z1 : iV) (h : iH) (Q : Option iV → iH → Prop), G sp sc [41] (d + 1) mX12_chain (n + 1) 3 L (z1 :: z0 :: .inr (.inr (m + 2)) :: r) h Q = (match h.1[m]? with | some (.inl (ci, _)) => (match lkC 12 175 ci with | some (y1, n1, kd) => (n1 = 2 ∧ (kd = 2 ∨ kd = 3 ∨ kd = 8) ∧ cs r ≤ 8) ∧ Call sp sc d y1 [.inr (.inr (m + 2)), z0, z1] h (fun q h1 => GC sp sc [41] (d + 1) mX12_chain n 6 L q r h h1 Q) | none => False) | _ => False)) ∧
  (∀ (n d : Nat) (L : List (Option iV)) (a : Int) (r : List iV) (h : iH) (Q : Option iV → iH → Prop), G sp sc [41] d mX12_chain (n + 1) 6 L (.inl a :: r) h Q = (inI a = true ∧ (a = 0 → G sp sc [41] d mX12_chain n 18 L r h Q) ∧ (¬ (a = 0) → G sp sc [41] d mX12_chain n 9 L r h Q))) ∧
  (∀ (n d : Nat) (L : List (Option iV)) (st : List iV) (h : iH) (Q : Option iV → iH → Prop), G sp sc [41] d mX12_chain (n + 1) 9 L st h Q = (match ld L 3 with | some (.inl x) => G sp sc [41] d mX12_chain n 10 L (.inl x :: st) h Q | _ => False)) ∧
  (∀ (n d : Nat) (L : List (Option iV)) (st : List iV) (h : iH) (Q : Option iV → iH → Prop), G sp sc [41] d mX12_chain (n + 1) 10 L st h Q = G sp sc [41] d mX12_chain n 11 L (.inl 0 :: st) h Q) ∧
  (∀ (n d : Nat) (L : List (Option iV)) (st : List iV) (h : iH) (Q : Option iV → iH → Prop), G sp sc [41] d mX12_chain (n + 1) 11 L st h Q = G sp sc [41] d mX12_chain n 12 L (.inl 1 :: st) h Q) ∧
  (∀ (n d : Nat) (L : List (Option iV)) (r : List iV) (z0 : iV) (z1 : iV) (z2 : iV) (h : iH) (Q : Option iV → iH → Prop), G sp sc [41] (d + 1) mX12_chain (n + 1) 12 L (z2 :: z1 :: z0 :: r) h Q = (cs r ≤ 8 ∧ Call sp sc d mX12_isIn [z0, z1, z2] h (fun q h1 => GC sp sc [41] (d + 1) mX12_chain n 15 L q r h h1 Q))) ∧
  (∀ (n d : Nat) (L : List (Option iV)) (a : Int) (r : List iV) (h : iH) (Q : Option iV → iH → Prop), G sp sc [41] d mX12_chain (n + 1) 15 L (.inl a :: r) h Q = (inI a = true ∧ (¬ a = 0 → G sp sc [41] d mX12_chain n 20 L r h Q) ∧ (¬ (¬ a = 0) → G sp sc [41] d mX12_chain n 18 L r h Q))) ∧
  (∀ (n d : Nat) (L : List (Option iV)) (st : List iV) (h : iH) (Q : Option iV → iH → Prop), G sp sc [41] d mX12_chain (n + 1) 18 L st h Q = G sp sc [41] d mX12_chain n 19 L (.inl (-1) :: st) h Q) ∧
  (∀ (n d : Nat) (L : List (Option iV)) (a : Int) (h : iH) (Q : Option iV → iH → Prop), G sp sc [41] d mX12_chain (n + 1) 19 L [.inl a] h Q = Q (some (.inl a)) h) ∧
  (∀ (n d : Nat) (L : List (Option iV)) (st : List iV) (h : iH) (Q : Option iV → iH → Prop), G sp sc [41] d mX12_chain (n + 1) 20 L st h Q = G sp sc [41] d mX12_chain n 21 L (.inl 1 :: st) h Q) ∧
  (∀ (n d : Nat) (L : List (Option iV)) (st : List iV) (h : iH) (Q : Option iV → iH → Prop), G sp sc [41] d mX12_chain (n + 1) 21 L st h Q = (match ld L 2 with | some (.inl x) => G sp sc [41] d mX12_chain n 22 L (.inl x :: st) h Q | _ => False)) ∧
  (∀ (n d : Nat) (L : List (Option iV)) (a : Int) (b : Int) (r : List iV) (h : iH) (Q : Option iV → iH → Prop), G sp sc [41] d mX12_chain (n + 1) 22 L (.inl b :: .inl a :: r) h Q = G sp sc [41] d mX12_chain n 23 L (.inl (bShl a b) :: r) h Q) ∧
  (∀ (n d : Nat) (L : List (Option iV)) (r : List iV) (x : Int) (h : iH) (Q : Option iV → iH → Prop), G sp sc [41] d mX12_chain (n + 1) 23 L (.inl x :: r) h Q = (match st1 L 4 (.inl x) with | some L' => G sp sc [41] d mX12_chain n 25 L' r h Q | none => False)) ∧
  (∀ (n d : Nat) (L : List (Option iV)) (st : List iV) (h : iH) (Q : Option iV → iH → Prop), G sp sc [41] d mX12_chain (n + 1) 25 L st h Q = G sp sc [41] d mX12_chain n 26 L (.inl 0 :: st) h Q) ∧
  (∀ (n d : Nat) (L : List (Option iV)) (r : List iV) (x : Int) (h : iH) (Q : Option iV → iH → Prop), G sp sc [41] d mX12_chain (n + 1) 26 L (.inl x :: r) h Q = (match st1 L 5 (.inl x) with | some L' => G sp sc [41] d mX12_chain n 28 L' r h Q | none => False)) ∧
  (∀ (n d : Nat) (L : List (Option iV)) (st : List iV) (h : iH) (Q : Option iV → iH → Prop), G sp sc [41] d mX12_chain (n + 1) 28 L st h Q = (match ld L 0 with | some (.inr (.inr (r + 1))) => G sp sc [41] d mX12_chain n 29 L (.inr (.inr (r + 1)) :: st) h Q | _ => False)) ∧
  (∀ (n d : Nat) (L : List (Option iV)) (r : List iV) (m : Nat) (h : iH) (Q : Option iV → iH → Prop), G sp sc [41] d mX12_chain (n + 1) 29 L (.inr (.inr (m + 2)) :: r) h Q = (match h.1[m]? with | some (.inl (ci, fs)) => (match lkF 12 9 ci with | some k => (match fs[k]? with | some v => G sp sc [41] d mX12_chain n 32 L (v :: r) h Q | none => False) | none => False) | _ => False)) ∧
  (∀ (n d : Nat) (L : List (Option iV)) (st : List iV) (h : iH) (Q : Option iV → iH → Prop), G sp sc [41] d mX12_chain (n + 1) 32 L st h Q = (match ld L 1 with | some (.inl x) => G sp sc [41] d mX12_chain n 33 L (.inl x :: st) h Q | _ => False)) ∧
  (∀ (n d : Nat) (L : List (Option iV)) (st : List iV) (h : iH) (Q : Option iV → iH → Prop), G sp sc [41] d mX12_chain (n + 1) 33 L st h Q = (match ld L 2 with | some (.inl x) => G sp sc [41] d mX12_chain n 34 L (.inl x :: st) h Q | _ => False)) ∧
  (∀ (n d : Nat) (L : List (Option iV)) (st : List iV) (h : iH) (Q : Option iV → iH → Prop), G sp sc [41] d mX12_chain (n + 1) 34 L st h Q = G sp sc [41] d mX12_chain n 35 L (.inl 2 :: st) h Q) ∧
  (∀ (n d : Nat) (L : List (Option iV)) (r : List iV) (z0 : iV) (z1 : iV) (z2 : iV) (h : iH) (Q : Option iV → iH → Prop), G sp sc [41] (d + 1) mX12_chain (n + 1) 35 L (z2 :: z1 :: z0 :: r) h Q = (cs r ≤ 8 ∧ Call sp sc d mX12_atOne [z0, z1, z2] h (fun q h1 => GC sp sc [41] (d + 1) mX12_chain n 38 L q r h h1 Q))) ∧
  (∀ (n d : Nat) (L : List (Option iV)) (r : List iV) (j : Int) (m : Nat) (h : iH) (Q : Option iV → iH → Prop), G sp sc [41] d mX12_chain (n + 1) 38 L (.inl j :: .inr (.inr (m + 2)) :: r) h Q = (match h.1[m]? with | some (.inr (.inl (0, xs))) => inA j xs.length = true ∧ G sp sc [41] d mX12_chain n 39 L (.inl (xs.getD j.toNat 0) :: r) h Q | _ => False)) ∧
  (∀ (n d : Nat) (L : List (Option iV)) (r : List iV) (x : Int) (h : iH) (Q : Option iV → iH → Prop), G sp sc [41] d mX12_chain (n + 1) 39 L (.inl x :: r) h Q = (match st1 L 6 (.inl x) with | some L' => Run sp sc d mX12_chain 41 L' r h Q | none => False)) ∧
  (∀ (n d : Nat) (L : List (Option iV)) (st : List iV) (h : iH) (Q : Option iV → iH → Prop), G sp sc [41] d mX12_chain (n + 1) 41 L st h Q = (match ld L 6 with | some (.inl x) => G sp sc [41] d mX12_chain n 43 L (.inl x :: st) h Q | _ => False)) ∧
  (∀ (n d : Nat) (L : List (Option iV)) (a : Int) (r : List iV) (h : iH) (Q : Option iV → iH → Prop), G sp sc [41] d mX12_chain (n + 1) 43 L (.inl a :: r) h Q = (inI a = true ∧ (a < 0 → G sp sc [41] d mX12_chain n 85 L r h Q) ∧ (¬ (a < 0) → G sp sc [41] d mX12_chain n 46 L r h Q))) ∧
  (∀ (n d : Nat) (L : List (Option iV)) (st : List iV) (h : iH) (Q : Option iV → iH → Prop), G sp sc [41] d mX12_chain (n + 1) 46 L st h Q = (match ld L 4 with | some (.inl x) => G sp sc [41] d mX12_chain n 48 L (.inl x :: st) h Q | _ => False)) ∧
  (∀ (n d : Nat) (L : List (Option iV)) (st : List iV) (h : iH) (Q : Option iV → iH → Prop), G sp sc [41] d mX12_chain (n + 1) 48 L st h Q = (match ld L 6 with | some (.inl x) => G sp sc [41] d mX12_chain n 50 L (.inl x :: st) h Q | _ => False)) ∧
  (∀ (n d : Nat) (L : List (Option iV)) (r : List iV) (z0 : iV) (z1 : iV) (h : iH) (Q : Option iV → iH → Prop), G sp sc [41] (d + 1) mX12_chain (n + 1) 50 L (z1 :: z0 :: r) h Q = (cs r ≤ 8 ∧ Call sp sc d mX12_has [z0, z1] h (fun q h1 => GC sp sc [41] (d + 1) mX12_chain n 53 L q r h h1 Q))) ∧
  (∀ (n d : Nat) (L : List (Option iV)) (a : Int) (r : List iV) (h : iH) (Q : Option iV → iH → Prop), G sp sc [41] d mX12_chain (n + 1) 53 L (.inl a :: r) h Q = (inI a = true ∧ (¬ a = 0 → G sp sc [41] d mX12_chain n 85 L r h Q) ∧ (¬ (¬ a = 0) → G sp sc [41] d mX12_chain n 56 L r h Q))) ∧
  (∀ (n d : Nat) (L : List (Option iV)) (st : List iV) (h : iH) (Q : Option iV → iH → Prop), G sp sc [41] d mX12_chain (n + 1) 56 L st h Q = (match ld L 4 with | some (.inl x) => G sp sc [41] d mX12_chain n 58 L (.inl x :: st) h Q | _ => False)) ∧
  (∀ (n d : Nat) (L : List (Option iV)) (st : List iV) (h : iH) (Q : Option iV → iH → Prop), G sp sc [41] d mX12_chain (n + 1) 58 L st h Q = G sp sc [41] d mX12_chain n 59 L (.inl 1 :: st) h Q) ∧
  (∀ (n d : Nat) (L : List (Option iV)) (st : List iV) (h : iH) (Q : Option iV → iH → Prop), G sp sc [41] d mX12_chain (n + 1) 59 L st h Q = (match ld L 6 with | some (.inl x) => G sp sc [41] d mX12_chain n 61 L (.inl x :: st) h Q | _ => False)) ∧
  (∀ (n d : Nat) (L : List (Option iV)) (a : Int) (b : Int) (r : List iV) (h : iH) (Q : Option iV → iH → Prop), G sp sc [41] d mX12_chain (n + 1) 61 L (.inl b :: .inl a :: r) h Q = G sp sc [41] d mX12_chain n 62 L (.inl (bShl a b) :: r) h Q) ∧
  (∀ (n d : Nat) (L : List (Option iV)) (a : Int) (b : Int) (r : List iV) (h : iH) (Q : Option iV → iH → Prop), G sp sc [41] d mX12_chain (n + 1) 62 L (.inl b :: .inl a :: r) h Q = G sp sc [41] d mX12_chain n 63 L (.inl (bOr a b) :: r) h Q) ∧
  (∀ (n d : Nat) (L : List (Option iV)) (r : List iV) (x : Int) (h : iH) (Q : Option iV → iH → Prop), G sp sc [41] d mX12_chain (n + 1) 63 L (.inl x :: r) h Q = (match st1 L 4 (.inl x) with | some L' => G sp sc [41] d mX12_chain n 65 L' r h Q | none => False)) ∧
  (∀ (n d : Nat) (L : List (Option iV)) (st : List iV) (h : iH) (Q : Option iV → iH → Prop), G sp sc [41] d mX12_chain (n + 1) 65 L st h Q = (match ld L 5 with | some (.inl x) => (match st1 L 5 (.inl (x + 1)) with | some L' => G sp sc [41] d mX12_chain n 68 L' st h Q | none => False) | _ => False)) ∧
  (∀ (n d : Nat) (L : List (Option iV)) (st : List iV) (h : iH) (Q : Option iV → iH → Prop), G sp sc [41] d mX12_chain (n + 1) 68 L st h Q = (match ld L 0 with | some (.inr (.inr (r + 1))) => G sp sc [41] d mX12_chain n 69 L (.inr (.inr (r + 1)) :: st) h Q | _ => False)) ∧
  (∀ (n d : Nat) (L : List (Option iV)) (r : List iV) (m : Nat) (h : iH) (Q : Option iV → iH → Prop), G sp sc [41] d mX12_chain (n + 1) 69 L (.inr (.inr (m + 2)) :: r) h Q = (match h.1[m]? with | some (.inl (ci, fs)) => (match lkF 12 9 ci with | some k => (match fs[k]? with | some v => G sp sc [41] d mX12_chain n 72 L (v :: r) h Q | none => False) | none => False) | _ => False)) ∧
  (∀ (n d : Nat) (L : List (Option iV)) (st : List iV) (h : iH) (Q : Option iV → iH → Prop), G sp sc [41] d mX12_chain (n + 1) 72 L st h Q = (match ld L 1 with | some (.inl x) => G sp sc [41] d mX12_chain n 73 L (.inl x :: st) h Q | _ => False)) ∧
  (∀ (n d : Nat) (L : List (Option iV)) (st : List iV) (h : iH) (Q : Option iV → iH → Prop), G sp sc [41] d mX12_chain (n + 1) 73 L st h Q = (match ld L 6 with | some (.inl x) => G sp sc [41] d mX12_chain n 75 L (.inl x :: st) h Q | _ => False)) ∧
  (∀ (n d : Nat) (L : List (Option iV)) (st : List iV) (h : iH) (Q : Option iV → iH → Prop), G sp sc [41] d mX12_chain (n + 1) 75 L st h Q = G sp sc [41] d mX12_chain n 76 L (.inl 2 :: st) h Q) ∧
  (∀ (n d : Nat) (L : List (Option iV)) (r : List iV) (z0 : iV) (z1 : iV) (z2 : iV) (h : iH) (Q : Option iV → iH → Prop), G sp sc [41] (d + 1) mX12_chain (n + 1) 76 L (z2 :: z1 :: z0 :: r) h Q = (cs r ≤ 8 ∧ Call sp sc d mX12_atOne [z0, z1, z2] h (fun q h1 => GC sp sc [41] (d + 1) mX12_chain n 79 L q r h h1 Q))) ∧
  (∀ (n d : Nat) (L : List (Option iV)) (r : List iV) (j : Int) (m : Nat) (h : iH) (Q : Option iV → iH → Prop), G sp sc [41] d mX12_chain (n + 1) 79 L (.inl j :: .inr (.inr (m + 2)) :: r) h Q = (match h.1[m]? with | some (.inr (.inl (0, xs))) => inA j xs.length = true ∧ G sp sc [41] d mX12_chain n 80 L (.inl (xs.getD j.toNat 0) :: r) h Q | _ => False)) ∧
  (∀ (n d : Nat) (L : List (Option iV)) (r : List iV) (x : Int) (h : iH) (Q : Option iV → iH → Prop), G sp sc [41] d mX12_chain (n + 1) 80 L (.inl x :: r) h Q = (match st1 L 6 (.inl x) with | some L' => G sp sc [41] d mX12_chain n 82 L' r h Q | none => False)) ∧
  (∀ (n d : Nat) (L : List (Option iV)) (st : List iV) (h : iH) (Q : Option iV → iH → Prop), G sp sc [41] d mX12_chain (n + 1) 82 L st h Q = Run sp sc d mX12_chain 41 L st h Q) ∧
  (∀ (n d : Nat) (L : List (Option iV)) (st : List iV) (h : iH) (Q : Option iV → iH → Prop), G sp sc [41] d mX12_chain (n + 1) 85 L st h Q = (match ld L 3 with | some (.inl x) => G sp sc [41] d mX12_chain n 86 L (.inl x :: st) h Q | _ => False)) ∧
  (∀ (n d : Nat) (L : List (Option iV)) (a : Int) (r : List iV) (h : iH) (Q : Option iV → iH → Prop), G sp sc [41] d mX12_chain (n + 1) 86 L (.inl a :: r) h Q = (inI a = true ∧ (¬ a = 0 → G sp sc [41] d mX12_chain n 94 L r h Q) ∧ (¬ (¬ a = 0) → G sp sc [41] d mX12_chain n 89 L r h Q))) ∧
  (∀ (n d : Nat) (L : List (Option iV)) (st : List iV) (h : iH) (Q : Option iV → iH → Prop), G sp sc [41] d mX12_chain (n + 1) 89 L st h Q = (match ld L 5 with | some (.inl x) => G sp sc [41] d mX12_chain n 91 L (.inl x :: st) h Q | _ => False)) ∧
  (∀ (n d : Nat) (L : List (Option iV)) (st : List iV) (h : iH) (Q : Option iV → iH → Prop), G sp sc [41] d mX12_chain (n + 1) 91 L st h Q = G sp sc [41] d mX12_chain n 104 L st h Q) ∧
  (∀ (n d : Nat) (L : List (Option iV)) (st : List iV) (h : iH) (Q : Option iV → iH → Prop), G sp sc [41] d mX12_chain (n + 1) 94 L st h Q = (match ld L 6 with | some (.inl x) => G sp sc [41] d mX12_chain n 96 L (.inl x :: st) h Q | _ => False)) ∧
  (∀ (n d : Nat) (L : List (Option iV)) (a : Int) (r : List iV) (h : iH) (Q : Option iV → iH → Prop), G sp sc [41] d mX12_chain (n + 1) 96 L (.inl a :: r) h Q = (inI a = true ∧ (a < 0 → G sp sc [41] d mX12_chain n 103 L r h Q) ∧ (¬ (a < 0) → G sp sc [41] d mX12_chain n 99 L r h Q))) ∧
  (∀ (n d : Nat) (L : List (Option iV)) (st : List iV) (h : iH) (Q : Option iV → iH → Prop), G sp sc [41] d mX12_chain (n + 1) 99 L st h Q = G sp sc [41] d mX12_chain n 100 L (.inl 1 :: st) h Q) ∧
  (∀ (n d : Nat) (L : List (Option iV)) (st : List iV) (h : iH) (Q : Option iV → iH → Prop), G sp sc [41] d mX12_chain (n + 1) 100 L st h Q = G sp sc [41] d mX12_chain n 104 L st h Q) ∧
  (∀ (n d : Nat) (L : List (Option iV)) (st : List iV) (h : iH) (Q : Option iV → iH → Prop), G sp sc [41] d mX12_chain (n + 1) 103 L st h Q = G sp sc [41] d mX12_chain n 104 L (.inl 0 :: st) h Q) ∧
  (∀ (n d : Nat) (L : List (Option iV)) (a : Int) (h : iH) (Q : Option iV → iH → Prop), G sp sc [41] d mX12_chain (n + 1) 104 L [.inl a] h Q = Q (some (.inl a)) h) ∧
  lkC 12 175 12 = some (mX12_isOne, 2, 2) ∧
  lkF 12 9 12 = some 0 := ⟨by intros; exact G_at (by decide +kernel : fetch mX12_chain 0 = some (.aload_n 0)),
  by intros; exact G_at (by decide +kernel : fetch mX12_chain 1 = some (.iload_n 1)),
  by intros; exact G_at (by decide +kernel : fetch mX12_chain 2 = some (.iload_n 2)),
  by intros; exact G_callV (by decide +kernel : fetch mX12_chain 3 = some (.invokevirtual 175)) (by decide +kernel) (by decide +kernel) rfl,
  by intros; exact G_at (by decide +kernel : fetch mX12_chain 6 = some (.ifCond .eq 12)),
  by intros; exact G_at (by decide +kernel : fetch mX12_chain 9 = some (.iload_n 3)),
  by intros; exact G_at (by decide +kernel : fetch mX12_chain 10 = some (.iconst 0)),
  by intros; exact G_at (by decide +kernel : fetch mX12_chain 11 = some (.iconst 1)),
  by intros; exact G_callS (k := 3) (kd := 0) (by decide +kernel : fetch mX12_chain 12 = some (.invokestatic 67)) (by decide +kernel) (by decide +kernel) (by decide +kernel) rfl (by decide),
  by intros; exact G_at (by decide +kernel : fetch mX12_chain 15 = some (.ifCond .ne 5)),
  by intros; exact G_at (by decide +kernel : fetch mX12_chain 18 = some (.iconst (-1))),
  by intros; exact G_reti (by decide +kernel : fetch mX12_chain 19 = some (.ireturn)) (by decide +kernel),
  by intros; exact G_at (by decide +kernel : fetch mX12_chain 20 = some (.iconst 1)),
  by intros; exact G_at (by decide +kernel : fetch mX12_chain 21 = some (.iload_n 2)),
  by intros; exact G_at (by decide +kernel : fetch mX12_chain 22 = some (.ishl)),
  by intros; exact G_at (by decide +kernel : fetch mX12_chain 23 = some (.istore 4)),
  by intros; exact G_at (by decide +kernel : fetch mX12_chain 25 = some (.iconst 0)),
  by intros; exact G_at (by decide +kernel : fetch mX12_chain 26 = some (.istore 5)),
  by intros; exact G_at (by decide +kernel : fetch mX12_chain 28 = some (.aload_n 0)),
  by intros; exact G_own (by decide +kernel : fetch mX12_chain 29 = some (.getfield 9)) (by decide +kernel),
  by intros; exact G_at (by decide +kernel : fetch mX12_chain 32 = some (.iload_n 1)),
  by intros; exact G_at (by decide +kernel : fetch mX12_chain 33 = some (.iload_n 2)),
  by intros; exact G_at (by decide +kernel : fetch mX12_chain 34 = some (.iconst 2)),
  by intros; exact G_callS (k := 3) (kd := 0) (by decide +kernel : fetch mX12_chain 35 = some (.invokestatic 88)) (by decide +kernel) (by decide +kernel) (by decide +kernel) rfl (by decide),
  by intros; exact G_at (by decide +kernel : fetch mX12_chain 38 = some (.iaload)),
  by intros; exact G_at (by decide +kernel : fetch mX12_chain 39 = some (.istore 6)),
  by intros; exact G_at (by decide +kernel : fetch mX12_chain 41 = some (.iload 6)),
  by intros; exact G_at (by decide +kernel : fetch mX12_chain 43 = some (.ifCond .lt 42)),
  by intros; exact G_at (by decide +kernel : fetch mX12_chain 46 = some (.iload 4)),
  by intros; exact G_at (by decide +kernel : fetch mX12_chain 48 = some (.iload 6)),
  by intros; exact G_callS (k := 2) (kd := 0) (by decide +kernel : fetch mX12_chain 50 = some (.invokestatic 131)) (by decide +kernel) (by decide +kernel) (by decide +kernel) rfl (by decide),
  by intros; exact G_at (by decide +kernel : fetch mX12_chain 53 = some (.ifCond .ne 32)),
  by intros; exact G_at (by decide +kernel : fetch mX12_chain 56 = some (.iload 4)),
  by intros; exact G_at (by decide +kernel : fetch mX12_chain 58 = some (.iconst 1)),
  by intros; exact G_at (by decide +kernel : fetch mX12_chain 59 = some (.iload 6)),
  by intros; exact G_at (by decide +kernel : fetch mX12_chain 61 = some (.ishl)),
  by intros; exact G_at (by decide +kernel : fetch mX12_chain 62 = some (.ior)),
  by intros; exact G_at (by decide +kernel : fetch mX12_chain 63 = some (.istore 4)),
  by intros; exact G_at (by decide +kernel : fetch mX12_chain 65 = some (.iinc 5 1)),
  by intros; exact G_at (by decide +kernel : fetch mX12_chain 68 = some (.aload_n 0)),
  by intros; exact G_own (by decide +kernel : fetch mX12_chain 69 = some (.getfield 9)) (by decide +kernel),
  by intros; exact G_at (by decide +kernel : fetch mX12_chain 72 = some (.iload_n 1)),
  by intros; exact G_at (by decide +kernel : fetch mX12_chain 73 = some (.iload 6)),
  by intros; exact G_at (by decide +kernel : fetch mX12_chain 75 = some (.iconst 2)),
  by intros; exact G_callS (k := 3) (kd := 0) (by decide +kernel : fetch mX12_chain 76 = some (.invokestatic 88)) (by decide +kernel) (by decide +kernel) (by decide +kernel) rfl (by decide),
  by intros; exact G_at (by decide +kernel : fetch mX12_chain 79 = some (.iaload)),
  by intros; exact G_at (by decide +kernel : fetch mX12_chain 80 = some (.istore 6)),
  by intros; exact G_at (by decide +kernel : fetch mX12_chain 82 = some (.goto (-41))),
  by intros; exact G_at (by decide +kernel : fetch mX12_chain 85 = some (.iload_n 3)),
  by intros; exact G_at (by decide +kernel : fetch mX12_chain 86 = some (.ifCond .ne 8)),
  by intros; exact G_at (by decide +kernel : fetch mX12_chain 89 = some (.iload 5)),
  by intros; exact G_at (by decide +kernel : fetch mX12_chain 91 = some (.goto 13)),
  by intros; exact G_at (by decide +kernel : fetch mX12_chain 94 = some (.iload 6)),
  by intros; exact G_at (by decide +kernel : fetch mX12_chain 96 = some (.ifCond .lt 7)),
  by intros; exact G_at (by decide +kernel : fetch mX12_chain 99 = some (.iconst 1)),
  by intros; exact G_at (by decide +kernel : fetch mX12_chain 100 = some (.goto 4)),
  by intros; exact G_at (by decide +kernel : fetch mX12_chain 103 = some (.iconst 0)),
  by intros; exact G_reti (by decide +kernel : fetch mX12_chain 104 = some (.ireturn)) (by decide +kernel),
  by decide +kernel,
  by decide +kernel⟩
theorem gX12_digitOf : (∀ (n d : Nat) (L : List (Option iV)) (st : List iV) (h : iH) (Q : Option iV → iH → Prop), G sp sc [6] d mX12_digitOf (n + 1) 0 L st h Q = (match ld L 1 with | some (.inr (.inl x)) => G sp sc [6] d mX12_digitOf n 1 L (.inr (.inl x) :: st) h Q | _ => False)) ∧
  (∀ (n d : Nat) (L : List (Option iV)) (r : List iV) (x : Int) (h : iH) (Q : Option iV → iH → Prop), G sp sc [6] d mX12_digitOf (n + 1) 1 L (.inr (.inl x) :: r) h Q = (match st2 L 4 (.inr (.inl x)) with | some L' => G sp sc [6] d mX12_digitOf n 3 L' r h Q | none => False)) ∧
  (∀ (n d : Nat) (L : List (Option iV)) (st : List iV) (h : iH) (Q : Option iV → iH → Prop), G sp sc [6] d mX12_digitOf (n + 1) 3 L st h Q = G sp sc [6] d mX12_digitOf n 4 L (.inl 0 :: st) h Q) ∧
  (∀ (n d : Nat) (L : List (Option iV)) (r : List iV) (x : Int) (h : iH) (Q : Option iV → iH → Prop), G sp sc [6] d mX12_digitOf (n + 1) 4 L (.inl x :: r) h Q = (match st1 L 6 (.inl x) with | some L' => Run sp sc d mX12_digitOf 6 L' r h Q | none => False)) ∧
  (∀ (n d : Nat) (L : List (Option iV)) (st : List iV) (h : iH) (Q : Option iV → iH → Prop), G sp sc [6] d mX12_digitOf (n + 1) 6 L st h Q = (match ld L 4 with | some (.inr (.inl x)) => G sp sc [6] d mX12_digitOf n 8 L (.inr (.inl x) :: st) h Q | _ => False)) ∧
  (∀ (n d : Nat) (L : List (Option iV)) (st : List iV) (h : iH) (Q : Option iV → iH → Prop), G sp sc [6] d mX12_digitOf (n + 1) 8 L st h Q = G sp sc [6] d mX12_digitOf n 11 L (.inr (.inl (10)) :: st) h Q) ∧
  (∀ (n d : Nat) (L : List (Option iV)) (a : Int) (b : Int) (r : List iV) (h : iH) (Q : Option iV → iH → Prop), G sp sc [6] d mX12_digitOf (n + 1) 11 L (.inr (.inl b) :: .inr (.inl a) :: r) h Q = ((inJ a = true ∧ inJ b = true) ∧ G sp sc [6] d mX12_digitOf n 12 L (.inl (if b < a then 1 else if a = b then 0 else -1) :: r) h Q)) ∧
  (∀ (n d : Nat) (L : List (Option iV)) (a : Int) (r : List iV) (h : iH) (Q : Option iV → iH → Prop), G sp sc [6] d mX12_digitOf (n + 1) 12 L (.inl a :: r) h Q = (inI a = true ∧ (a < 0 → G sp sc [6] d mX12_digitOf n 35 L r h Q) ∧ (¬ (a < 0) → G sp sc [6] d mX12_digitOf n 15 L r h Q))) ∧
  (∀ (n d : Nat) (L : List (Option iV)) (st : List iV) (h : iH) (Q : Option iV → iH → Prop), G sp sc [6] d mX12_digitOf (n + 1) 15 L st h Q = (match ld L 6 with | some (.inl x) => G sp sc [6] d mX12_digitOf n 17 L (.inl x :: st) h Q | _ => False)) ∧
  (∀ (n d : Nat) (L : List (Option iV)) (st : List iV) (h : iH) (Q : Option iV → iH → Prop), G sp sc [6] d mX12_digitOf (n + 1) 17 L st h Q = (match ld L 3 with | some (.inl x) => G sp sc [6] d mX12_digitOf n 18 L (.inl x :: st) h Q | _ => False)) ∧
  (∀ (n d : Nat) (L : List (Option iV)) (a : Int) (b : Int) (r : List iV) (h : iH) (Q : Option iV → iH → Prop), G sp sc [6] d mX12_digitOf (n + 1) 18 L (.inl b :: .inl a :: r) h Q = ((inI a = true ∧ inI b = true) ∧ (a = b → G sp sc [6] d mX12_digitOf n 35 L r h Q) ∧ (¬ (a = b) → G sp sc [6] d mX12_digitOf n 21 L r h Q))) ∧
  (∀ (n d : Nat) (L : List (Option iV)) (st : List iV) (h : iH) (Q : Option iV → iH → Prop), G sp sc [6] d mX12_digitOf (n + 1) 21 L st h Q = (match ld L 4 with | some (.inr (.inl x)) => G sp sc [6] d mX12_digitOf n 23 L (.inr (.inl x) :: st) h Q | _ => False)) ∧
  (∀ (n d : Nat) (L : List (Option iV)) (st : List iV) (h : iH) (Q : Option iV → iH → Prop), G sp sc [6] d mX12_digitOf (n + 1) 23 L st h Q = G sp sc [6] d mX12_digitOf n 26 L (.inr (.inl (10)) :: st) h Q) ∧
  (∀ (n d : Nat) (L : List (Option iV)) (a : Int) (b : Int) (r : List iV) (h : iH) (Q : Option iV → iH → Prop), G sp sc [6] d mX12_digitOf (n + 1) 26 L (.inr (.inl b) :: .inr (.inl a) :: r) h Q = ((inJ a = true ∧ inJ b = true ∧ 0 < b) ∧ G sp sc [6] d mX12_digitOf n 27 L (.inr (.inl (a.tdiv b)) :: r) h Q)) ∧
  (∀ (n d : Nat) (L : List (Option iV)) (r : List iV) (x : Int) (h : iH) (Q : Option iV → iH → Prop), G sp sc [6] d mX12_digitOf (n + 1) 27 L (.inr (.inl x) :: r) h Q = (match st2 L 4 (.inr (.inl x)) with | some L' => G sp sc [6] d mX12_digitOf n 29 L' r h Q | none => False)) ∧
  (∀ (n d : Nat) (L : List (Option iV)) (st : List iV) (h : iH) (Q : Option iV → iH → Prop), G sp sc [6] d mX12_digitOf (n + 1) 29 L st h Q = (match ld L 6 with | some (.inl x) => (match st1 L 6 (.inl (x + 1)) with | some L' => G sp sc [6] d mX12_digitOf n 32 L' st h Q | none => False) | _ => False)) ∧
  (∀ (n d : Nat) (L : List (Option iV)) (st : List iV) (h : iH) (Q : Option iV → iH → Prop), G sp sc [6] d mX12_digitOf (n + 1) 32 L st h Q = Run sp sc d mX12_digitOf 6 L st h Q) ∧
  (∀ (n d : Nat) (L : List (Option iV)) (st : List iV) (h : iH) (Q : Option iV → iH → Prop), G sp sc [6] d mX12_digitOf (n + 1) 35 L st h Q = (match ld L 3 with | some (.inl x) => G sp sc [6] d mX12_digitOf n 36 L (.inl x :: st) h Q | _ => False)) ∧
  (∀ (n d : Nat) (L : List (Option iV)) (a : Int) (r : List iV) (h : iH) (Q : Option iV → iH → Prop), G sp sc [6] d mX12_digitOf (n + 1) 36 L (.inl a :: r) h Q = (inI a = true ∧ (0 ≤ a → G sp sc [6] d mX12_digitOf n 46 L r h Q) ∧ (¬ (0 ≤ a) → G sp sc [6] d mX12_digitOf n 39 L r h Q))) ∧
  (∀ (n d : Nat) (L : List (Option iV)) (st : List iV) (h : iH) (Q : Option iV → iH → Prop), G sp sc [6] d mX12_digitOf (n + 1) 39 L st h Q = (match ld L 6 with | some (.inl x) => G sp sc [6] d mX12_digitOf n 41 L (.inl x :: st) h Q | _ => False)) ∧
  (∀ (n d : Nat) (L : List (Option iV)) (st : List iV) (h : iH) (Q : Option iV → iH → Prop), G sp sc [6] d mX12_digitOf (n + 1) 41 L st h Q = G sp sc [6] d mX12_digitOf n 42 L (.inl 1 :: st) h Q) ∧
  (∀ (n d : Nat) (L : List (Option iV)) (a : Int) (b : Int) (r : List iV) (h : iH) (Q : Option iV → iH → Prop), G sp sc [6] d mX12_digitOf (n + 1) 42 L (.inl b :: .inl a :: r) h Q = G sp sc [6] d mX12_digitOf n 43 L (.inl (a + b) :: r) h Q) ∧
  (∀ (n d : Nat) (L : List (Option iV)) (st : List iV) (h : iH) (Q : Option iV → iH → Prop), G sp sc [6] d mX12_digitOf (n + 1) 43 L st h Q = G sp sc [6] d mX12_digitOf n 63 L st h Q) ∧
  (∀ (n d : Nat) (L : List (Option iV)) (st : List iV) (h : iH) (Q : Option iV → iH → Prop), G sp sc [6] d mX12_digitOf (n + 1) 46 L st h Q = (match ld L 6 with | some (.inl x) => G sp sc [6] d mX12_digitOf n 48 L (.inl x :: st) h Q | _ => False)) ∧
  (∀ (n d : Nat) (L : List (Option iV)) (st : List iV) (h : iH) (Q : Option iV → iH → Prop), G sp sc [6] d mX12_digitOf (n + 1) 48 L st h Q = (match ld L 3 with | some (.inl x) => G sp sc [6] d mX12_digitOf n 49 L (.inl x :: st) h Q | _ => False)) ∧
  (∀ (n d : Nat) (L : List (Option iV)) (a : Int) (b : Int) (r : List iV) (h : iH) (Q : Option iV → iH → Prop), G sp sc [6] d mX12_digitOf (n + 1) 49 L (.inl b :: .inl a :: r) h Q = ((inI a = true ∧ inI b = true) ∧ (¬ a = b → G sp sc [6] d mX12_digitOf n 62 L r h Q) ∧ (¬ (¬ a = b) → G sp sc [6] d mX12_digitOf n 52 L r h Q))) ∧
  (∀ (n d : Nat) (L : List (Option iV)) (st : List iV) (h : iH) (Q : Option iV → iH → Prop), G sp sc [6] d mX12_digitOf (n + 1) 52 L st h Q = (match ld L 4 with | some (.inr (.inl x)) => G sp sc [6] d mX12_digitOf n 54 L (.inr (.inl x) :: st) h Q | _ => False)) ∧
  (∀ (n d : Nat) (L : List (Option iV)) (st : List iV) (h : iH) (Q : Option iV → iH → Prop), G sp sc [6] d mX12_digitOf (n + 1) 54 L st h Q = G sp sc [6] d mX12_digitOf n 57 L (.inr (.inl (10)) :: st) h Q) ∧
  (∀ (n d : Nat) (L : List (Option iV)) (a : Int) (b : Int) (r : List iV) (h : iH) (Q : Option iV → iH → Prop), G sp sc [6] d mX12_digitOf (n + 1) 57 L (.inr (.inl b) :: .inr (.inl a) :: r) h Q = ((inJ a = true ∧ inJ b = true ∧ 0 < b) ∧ G sp sc [6] d mX12_digitOf n 58 L (.inr (.inl (a.tmod b)) :: r) h Q)) ∧
  (∀ (n d : Nat) (L : List (Option iV)) (a : Int) (r : List iV) (h : iH) (Q : Option iV → iH → Prop), G sp sc [6] d mX12_digitOf (n + 1) 58 L (.inr (.inl a) :: r) h Q = G sp sc [6] d mX12_digitOf n 59 L (.inl a :: r) h Q) ∧
  (∀ (n d : Nat) (L : List (Option iV)) (st : List iV) (h : iH) (Q : Option iV → iH → Prop), G sp sc [6] d mX12_digitOf (n + 1) 59 L st h Q = G sp sc [6] d mX12_digitOf n 63 L st h Q) ∧
  (∀ (n d : Nat) (L : List (Option iV)) (st : List iV) (h : iH) (Q : Option iV → iH → Prop), G sp sc [6] d mX12_digitOf (n + 1) 62 L st h Q = G sp sc [6] d mX12_digitOf n 63 L (.inl 0 :: st) h Q) ∧
  (∀ (n d : Nat) (L : List (Option iV)) (a : Int) (h : iH) (Q : Option iV → iH → Prop), G sp sc [6] d mX12_digitOf (n + 1) 63 L [.inl a] h Q = Q (some (.inl a)) h) := ⟨by intros; exact G_at (by decide +kernel : fetch mX12_digitOf 0 = some (.lload_n 1)),
  by intros; exact G_at (by decide +kernel : fetch mX12_digitOf 1 = some (.lstore 4)),
  by intros; exact G_at (by decide +kernel : fetch mX12_digitOf 3 = some (.iconst 0)),
  by intros; exact G_at (by decide +kernel : fetch mX12_digitOf 4 = some (.istore 6)),
  by intros; exact G_at (by decide +kernel : fetch mX12_digitOf 6 = some (.lload 4)),
  by intros; exact G_ldc2 (by decide +kernel : fetch mX12_digitOf 8 = some (.ldc2_w 269)) (by decide +kernel),
  by intros; exact G_at (by decide +kernel : fetch mX12_digitOf 11 = some (.lcmp)),
  by intros; exact G_at (by decide +kernel : fetch mX12_digitOf 12 = some (.ifCond .lt 23)),
  by intros; exact G_at (by decide +kernel : fetch mX12_digitOf 15 = some (.iload 6)),
  by intros; exact G_at (by decide +kernel : fetch mX12_digitOf 17 = some (.iload_n 3)),
  by intros; exact G_at (by decide +kernel : fetch mX12_digitOf 18 = some (.if_icmp .eq 17)),
  by intros; exact G_at (by decide +kernel : fetch mX12_digitOf 21 = some (.lload 4)),
  by intros; exact G_ldc2 (by decide +kernel : fetch mX12_digitOf 23 = some (.ldc2_w 269)) (by decide +kernel),
  by intros; exact G_at (by decide +kernel : fetch mX12_digitOf 26 = some (.ldiv)),
  by intros; exact G_at (by decide +kernel : fetch mX12_digitOf 27 = some (.lstore 4)),
  by intros; exact G_at (by decide +kernel : fetch mX12_digitOf 29 = some (.iinc 6 1)),
  by intros; exact G_at (by decide +kernel : fetch mX12_digitOf 32 = some (.goto (-26))),
  by intros; exact G_at (by decide +kernel : fetch mX12_digitOf 35 = some (.iload_n 3)),
  by intros; exact G_at (by decide +kernel : fetch mX12_digitOf 36 = some (.ifCond .ge 10)),
  by intros; exact G_at (by decide +kernel : fetch mX12_digitOf 39 = some (.iload 6)),
  by intros; exact G_at (by decide +kernel : fetch mX12_digitOf 41 = some (.iconst 1)),
  by intros; exact G_at (by decide +kernel : fetch mX12_digitOf 42 = some (.iadd)),
  by intros; exact G_at (by decide +kernel : fetch mX12_digitOf 43 = some (.goto 20)),
  by intros; exact G_at (by decide +kernel : fetch mX12_digitOf 46 = some (.iload 6)),
  by intros; exact G_at (by decide +kernel : fetch mX12_digitOf 48 = some (.iload_n 3)),
  by intros; exact G_at (by decide +kernel : fetch mX12_digitOf 49 = some (.if_icmp .ne 13)),
  by intros; exact G_at (by decide +kernel : fetch mX12_digitOf 52 = some (.lload 4)),
  by intros; exact G_ldc2 (by decide +kernel : fetch mX12_digitOf 54 = some (.ldc2_w 269)) (by decide +kernel),
  by intros; exact G_at (by decide +kernel : fetch mX12_digitOf 57 = some (.lrem)),
  by intros; exact G_at (by decide +kernel : fetch mX12_digitOf 58 = some (.l2i)),
  by intros; exact G_at (by decide +kernel : fetch mX12_digitOf 59 = some (.goto 4)),
  by intros; exact G_at (by decide +kernel : fetch mX12_digitOf 62 = some (.iconst 0)),
  by intros; exact G_reti (by decide +kernel : fetch mX12_digitOf 63 = some (.ireturn)) (by decide +kernel)⟩
theorem gX12_ways : (∀ (n d : Nat) (L : List (Option iV)) (st : List iV) (h : iH) (Q : Option iV → iH → Prop), G sp sc [15, 44] d mX12_ways (n + 1) 0 L st h Q = (match ld L 1 with | some (.inl x) => G sp sc [15, 44] d mX12_ways n 1 L (.inl x :: st) h Q | _ => False)) ∧
  (∀ (n d : Nat) (L : List (Option iV)) (st : List iV) (h : iH) (Q : Option iV → iH → Prop), G sp sc [15, 44] d mX12_ways (n + 1) 1 L st h Q = G sp sc [15, 44] d mX12_ways n 2 L (.inl (-1) :: st) h Q) ∧
  (∀ (n d : Nat) (L : List (Option iV)) (a : Int) (b : Int) (r : List iV) (h : iH) (Q : Option iV → iH → Prop), G sp sc [15, 44] d mX12_ways (n + 1) 2 L (.inl b :: .inl a :: r) h Q = ((inI a = true ∧ inI b = true) ∧ (b ≤ a → G sp sc [15, 44] d mX12_ways n 7 L r h Q) ∧ (¬ (b ≤ a) → G sp sc [15, 44] d mX12_ways n 5 L r h Q))) ∧
  (∀ (n d : Nat) (L : List (Option iV)) (st : List iV) (h : iH) (Q : Option iV → iH → Prop), G sp sc [15, 44] d mX12_ways (n + 1) 5 L st h Q = G sp sc [15, 44] d mX12_ways n 6 L (.inl (-1) :: st) h Q) ∧
  (∀ (n d : Nat) (L : List (Option iV)) (a : Int) (h : iH) (Q : Option iV → iH → Prop), G sp sc [15, 44] d mX12_ways (n + 1) 6 L [.inl a] h Q = Q (some (.inl a)) h) ∧
  (∀ (n d : Nat) (L : List (Option iV)) (st : List iV) (h : iH) (Q : Option iV → iH → Prop), G sp sc [15, 44] d mX12_ways (n + 1) 7 L st h Q = G sp sc [15, 44] d mX12_ways n 8 L (.inr (.inl ((1 : Fin 2).val : Int)) :: st) h Q) ∧
  (∀ (n d : Nat) (L : List (Option iV)) (r : List iV) (x : Int) (h : iH) (Q : Option iV → iH → Prop), G sp sc [15, 44] d mX12_ways (n + 1) 8 L (.inr (.inl x) :: r) h Q = (match st2 L 2 (.inr (.inl x)) with | some L' => G sp sc [15, 44] d mX12_ways n 9 L' r h Q | none => False)) ∧
  (∀ (n d : Nat) (L : List (Option iV)) (st : List iV) (h : iH) (Q : Option iV → iH → Prop), G sp sc [15, 44] d mX12_ways (n + 1) 9 L st h Q = G sp sc [15, 44] d mX12_ways n 10 L (.inl 0 :: st) h Q) ∧
  (∀ (n d : Nat) (L : List (Option iV)) (r : List iV) (x : Int) (h : iH) (Q : Option iV → iH → Prop), G sp sc [15, 44] d mX12_ways (n + 1) 10 L (.inl x :: r) h Q = (match st1 L 4 (.inl x) with | some L' => G sp sc [15, 44] d mX12_ways n 12 L' r h Q | none => False)) ∧
  (∀ (n d : Nat) (L : List (Option iV)) (st : List iV) (h : iH) (Q : Option iV → iH → Prop), G sp sc [15, 44] d mX12_ways (n + 1) 12 L st h Q = G sp sc [15, 44] d mX12_ways n 13 L (.inl 0 :: st) h Q) ∧
  (∀ (n d : Nat) (L : List (Option iV)) (r : List iV) (x : Int) (h : iH) (Q : Option iV → iH → Prop), G sp sc [15, 44] d mX12_ways (n + 1) 13 L (.inl x :: r) h Q = (match st1 L 5 (.inl x) with | some L' => Run sp sc d mX12_ways 15 L' r h Q | none => False)) ∧
  (∀ (n d : Nat) (L : List (Option iV)) (st : List iV) (h : iH) (Q : Option iV → iH → Prop), G sp sc [15, 44] d mX12_ways (n + 1) 15 L st h Q = (match ld L 5 with | some (.inl x) => G sp sc [15, 44] d mX12_ways n 17 L (.inl x :: st) h Q | _ => False)) ∧
  (∀ (n d : Nat) (L : List (Option iV)) (st : List iV) (h : iH) (Q : Option iV → iH → Prop), G sp sc [15, 44] d mX12_ways (n + 1) 17 L st h Q = (match ld L 0 with | some (.inr (.inr (r + 1))) => G sp sc [15, 44] d mX12_ways n 18 L (.inr (.inr (r + 1)) :: st) h Q | _ => False)) ∧
  (∀ (n d : Nat) (L : List (Option iV)) (r : List iV) (m : Nat) (h : iH) (Q : Option iV → iH → Prop), G sp sc [15, 44] d mX12_ways (n + 1) 18 L (.inr (.inr (m + 2)) :: r) h Q = (match h.1[m]? with | some (.inl (ci, fs)) => (match lkF 12 9 ci with | some k => (match fs[k]? with | some v => G sp sc [15, 44] d mX12_ways n 21 L (v :: r) h Q | none => False) | none => False) | _ => False)) ∧
  (∀ (n d : Nat) (L : List (Option iV)) (st : List iV) (h : iH) (Q : Option iV → iH → Prop), G sp sc [15, 44] d mX12_ways (n + 1) 21 L st h Q = G sp sc [15, 44] d mX12_ways n 22 L (.inl 2 :: st) h Q) ∧
  (∀ (n d : Nat) (L : List (Option iV)) (r : List iV) (j : Int) (m : Nat) (h : iH) (Q : Option iV → iH → Prop), G sp sc [15, 44] d mX12_ways (n + 1) 22 L (.inl j :: .inr (.inr (m + 2)) :: r) h Q = (match h.1[m]? with | some (.inr (.inl (0, xs))) => inA j xs.length = true ∧ G sp sc [15, 44] d mX12_ways n 23 L (.inl (xs.getD j.toNat 0) :: r) h Q | _ => False)) ∧
  (∀ (n d : Nat) (L : List (Option iV)) (a : Int) (b : Int) (r : List iV) (h : iH) (Q : Option iV → iH → Prop), G sp sc [15, 44] d mX12_ways (n + 1) 23 L (.inl b :: .inl a :: r) h Q = ((inI a = true ∧ inI b = true) ∧ (b ≤ a → G sp sc [15, 44] d mX12_ways n 88 L r h Q) ∧ (¬ (b ≤ a) → G sp sc [15, 44] d mX12_ways n 26 L r h Q))) ∧
  (∀ (n d : Nat) (L : List (Option iV)) (st : List iV) (h : iH) (Q : Option iV → iH → Prop), G sp sc [15, 44] d mX12_ways (n + 1) 26 L st h Q = (match ld L 0 with | some (.inr (.inr (r + 1))) => G sp sc [15, 44] d mX12_ways n 27 L (.inr (.inr (r + 1)) :: st) h Q | _ => False)) ∧
  (∀ (n d : Nat) (L : List (Option iV)) (r : List iV) (m : Nat) (h : iH) (Q : Option iV → iH → Prop), G sp sc [15, 44] d mX12_ways (n + 1) 27 L (.inr (.inr (m + 2)) :: r) h Q = (match h.1[m]? with | some (.inl (ci, fs)) => (match lkF 12 9 ci with | some k => (match fs[k]? with | some v => G sp sc [15, 44] d mX12_ways n 30 L (v :: r) h Q | none => False) | none => False) | _ => False)) ∧
  (∀ (n d : Nat) (L : List (Option iV)) (st : List iV) (h : iH) (Q : Option iV → iH → Prop), G sp sc [15, 44] d mX12_ways (n + 1) 30 L st h Q = (match ld L 5 with | some (.inl x) => G sp sc [15, 44] d mX12_ways n 32 L (.inl x :: st) h Q | _ => False)) ∧
  (∀ (n d : Nat) (L : List (Option iV)) (r : List iV) (z0 : iV) (z1 : iV) (h : iH) (Q : Option iV → iH → Prop), G sp sc [15, 44] (d + 1) mX12_ways (n + 1) 32 L (z1 :: z0 :: r) h Q = (cs r ≤ 8 ∧ Call sp sc d mX12_goesOn [z0, z1] h (fun q h1 => GC sp sc [15, 44] (d + 1) mX12_ways n 35 L q r h h1 Q))) ∧
  (∀ (n d : Nat) (L : List (Option iV)) (a : Int) (r : List iV) (h : iH) (Q : Option iV → iH → Prop), G sp sc [15, 44] d mX12_ways (n + 1) 35 L (.inl a :: r) h Q = (inI a = true ∧ (¬ a = 0 → G sp sc [15, 44] d mX12_ways n 41 L r h Q) ∧ (¬ (¬ a = 0) → G sp sc [15, 44] d mX12_ways n 38 L r h Q))) ∧
  (∀ (n d : Nat) (L : List (Option iV)) (st : List iV) (h : iH) (Q : Option iV → iH → Prop), G sp sc [15, 44] d mX12_ways (n + 1) 38 L st h Q = G sp sc [15, 44] d mX12_ways n 82 L st h Q) ∧
  (∀ (n d : Nat) (L : List (Option iV)) (st : List iV) (h : iH) (Q : Option iV → iH → Prop), G sp sc [15, 44] d mX12_ways (n + 1) 41 L st h Q = G sp sc [15, 44] d mX12_ways n 42 L (.inl 1 :: st) h Q) ∧
  (∀ (n d : Nat) (L : List (Option iV)) (r : List iV) (x : Int) (h : iH) (Q : Option iV → iH → Prop), G sp sc [15, 44] d mX12_ways (n + 1) 42 L (.inl x :: r) h Q = (match st1 L 6 (.inl x) with | some L' => Run sp sc d mX12_ways 44 L' r h Q | none => False)) ∧
  (∀ (n d : Nat) (L : List (Option iV)) (st : List iV) (h : iH) (Q : Option iV → iH → Prop), G sp sc [15, 44] d mX12_ways (n + 1) 44 L st h Q = (match ld L 6 with | some (.inl x) => G sp sc [15, 44] d mX12_ways n 46 L (.inl x :: st) h Q | _ => False)) ∧
  (∀ (n d : Nat) (L : List (Option iV)) (st : List iV) (h : iH) (Q : Option iV → iH → Prop), G sp sc [15, 44] d mX12_ways (n + 1) 46 L st h Q = ((-128 ≤ (6 : Int) ∧ (6 : Int) < 128) ∧ G sp sc [15, 44] d mX12_ways n 48 L (.inl 6 :: st) h Q)) ∧
  (∀ (n d : Nat) (L : List (Option iV)) (st : List iV) (h : iH) (Q : Option iV → iH → Prop), G sp sc [15, 44] d mX12_ways (n + 1) 48 L st h Q = (match ld L 0 with | some (.inr (.inr (r + 1))) => G sp sc [15, 44] d mX12_ways n 49 L (.inr (.inr (r + 1)) :: st) h Q | _ => False)) ∧
  (∀ (n d : Nat) (L : List (Option iV)) (r : List iV) (m : Nat) (h : iH) (Q : Option iV → iH → Prop), G sp sc [15, 44] d mX12_ways (n + 1) 49 L (.inr (.inr (m + 2)) :: r) h Q = (match h.1[m]? with | some (.inl (ci, fs)) => (match lkF 12 9 ci with | some k => (match fs[k]? with | some v => G sp sc [15, 44] d mX12_ways n 52 L (v :: r) h Q | none => False) | none => False) | _ => False)) ∧
  (∀ (n d : Nat) (L : List (Option iV)) (st : List iV) (h : iH) (Q : Option iV → iH → Prop), G sp sc [15, 44] d mX12_ways (n + 1) 52 L st h Q = (match ld L 5 with | some (.inl x) => G sp sc [15, 44] d mX12_ways n 54 L (.inl x :: st) h Q | _ => False)) ∧
  (∀ (n d : Nat) (L : List (Option iV)) (st : List iV) (h : iH) (Q : Option iV → iH → Prop), G sp sc [15, 44] d mX12_ways (n + 1) 54 L st h Q = G sp sc [15, 44] d mX12_ways n 55 L (.inl 3 :: st) h Q) ∧
  (∀ (n d : Nat) (L : List (Option iV)) (r : List iV) (z0 : iV) (z1 : iV) (h : iH) (Q : Option iV → iH → Prop), G sp sc [15, 44] (d + 1) mX12_ways (n + 1) 55 L (z1 :: z0 :: r) h Q = (cs r ≤ 8 ∧ Call sp sc d mX12_atCouple [z0, z1] h (fun q h1 => GC sp sc [15, 44] (d + 1) mX12_ways n 58 L q r h h1 Q))) ∧
  (∀ (n d : Nat) (L : List (Option iV)) (r : List iV) (j : Int) (m : Nat) (h : iH) (Q : Option iV → iH → Prop), G sp sc [15, 44] d mX12_ways (n + 1) 58 L (.inl j :: .inr (.inr (m + 2)) :: r) h Q = (match h.1[m]? with | some (.inr (.inl (0, xs))) => inA j xs.length = true ∧ G sp sc [15, 44] d mX12_ways n 59 L (.inl (xs.getD j.toNat 0) :: r) h Q | _ => False)) ∧
  (∀ (n d : Nat) (L : List (Option iV)) (a : Int) (b : Int) (r : List iV) (h : iH) (Q : Option iV → iH → Prop), G sp sc [15, 44] d mX12_ways (n + 1) 59 L (.inl b :: .inl a :: r) h Q = G sp sc [15, 44] d mX12_ways n 60 L (.inl (a - b) :: r) h Q) ∧
  (∀ (n d : Nat) (L : List (Option iV)) (a : Int) (b : Int) (r : List iV) (h : iH) (Q : Option iV → iH → Prop), G sp sc [15, 44] d mX12_ways (n + 1) 60 L (.inl b :: .inl a :: r) h Q = ((inI a = true ∧ inI b = true) ∧ (b < a → G sp sc [15, 44] d mX12_ways n 82 L r h Q) ∧ (¬ (b < a) → G sp sc [15, 44] d mX12_ways n 63 L r h Q))) ∧
  (∀ (n d : Nat) (L : List (Option iV)) (st : List iV) (h : iH) (Q : Option iV → iH → Prop), G sp sc [15, 44] d mX12_ways (n + 1) 63 L st h Q = (match ld L 4 with | some (.inl x) => (match st1 L 4 (.inl (x + 1)) with | some L' => G sp sc [15, 44] d mX12_ways n 66 L' st h Q | none => False) | _ => False)) ∧
  (∀ (n d : Nat) (L : List (Option iV)) (st : List iV) (h : iH) (Q : Option iV → iH → Prop), G sp sc [15, 44] d mX12_ways (n + 1) 66 L st h Q = (match ld L 2 with | some (.inr (.inl x)) => G sp sc [15, 44] d mX12_ways n 67 L (.inr (.inl x) :: st) h Q | _ => False)) ∧
  (∀ (n d : Nat) (L : List (Option iV)) (st : List iV) (h : iH) (Q : Option iV → iH → Prop), G sp sc [15, 44] d mX12_ways (n + 1) 67 L st h Q = (match ld L 4 with | some (.inl x) => G sp sc [15, 44] d mX12_ways n 69 L (.inl x :: st) h Q | _ => False)) ∧
  (∀ (n d : Nat) (L : List (Option iV)) (a : Int) (r : List iV) (h : iH) (Q : Option iV → iH → Prop), G sp sc [15, 44] d mX12_ways (n + 1) 69 L (.inl a :: r) h Q = (inI a = true ∧ G sp sc [15, 44] d mX12_ways n 70 L (.inr (.inl a) :: r) h Q)) ∧
  (∀ (n d : Nat) (L : List (Option iV)) (a : Int) (b : Int) (r : List iV) (h : iH) (Q : Option iV → iH → Prop), G sp sc [15, 44] d mX12_ways (n + 1) 70 L (.inr (.inl b) :: .inr (.inl a) :: r) h Q = G sp sc [15, 44] d mX12_ways n 71 L (.inr (.inl (a * b)) :: r) h Q) ∧
  (∀ (n d : Nat) (L : List (Option iV)) (st : List iV) (h : iH) (Q : Option iV → iH → Prop), G sp sc [15, 44] d mX12_ways (n + 1) 71 L st h Q = (match ld L 6 with | some (.inl x) => G sp sc [15, 44] d mX12_ways n 73 L (.inl x :: st) h Q | _ => False)) ∧
  (∀ (n d : Nat) (L : List (Option iV)) (a : Int) (r : List iV) (h : iH) (Q : Option iV → iH → Prop), G sp sc [15, 44] d mX12_ways (n + 1) 73 L (.inl a :: r) h Q = (inI a = true ∧ G sp sc [15, 44] d mX12_ways n 74 L (.inr (.inl a) :: r) h Q)) ∧
  (∀ (n d : Nat) (L : List (Option iV)) (a : Int) (b : Int) (r : List iV) (h : iH) (Q : Option iV → iH → Prop), G sp sc [15, 44] d mX12_ways (n + 1) 74 L (.inr (.inl b) :: .inr (.inl a) :: r) h Q = ((inJ a = true ∧ inJ b = true ∧ 0 < b) ∧ G sp sc [15, 44] d mX12_ways n 75 L (.inr (.inl (a.tdiv b)) :: r) h Q)) ∧
  (∀ (n d : Nat) (L : List (Option iV)) (r : List iV) (x : Int) (h : iH) (Q : Option iV → iH → Prop), G sp sc [15, 44] d mX12_ways (n + 1) 75 L (.inr (.inl x) :: r) h Q = (match st2 L 2 (.inr (.inl x)) with | some L' => G sp sc [15, 44] d mX12_ways n 76 L' r h Q | none => False)) ∧
  (∀ (n d : Nat) (L : List (Option iV)) (st : List iV) (h : iH) (Q : Option iV → iH → Prop), G sp sc [15, 44] d mX12_ways (n + 1) 76 L st h Q = (match ld L 6 with | some (.inl x) => (match st1 L 6 (.inl (x + 1)) with | some L' => G sp sc [15, 44] d mX12_ways n 79 L' st h Q | none => False) | _ => False)) ∧
  (∀ (n d : Nat) (L : List (Option iV)) (st : List iV) (h : iH) (Q : Option iV → iH → Prop), G sp sc [15, 44] d mX12_ways (n + 1) 79 L st h Q = Run sp sc d mX12_ways 44 L st h Q) ∧
  (∀ (n d : Nat) (L : List (Option iV)) (st : List iV) (h : iH) (Q : Option iV → iH → Prop), G sp sc [15, 44] d mX12_ways (n + 1) 82 L st h Q = (match ld L 5 with | some (.inl x) => (match st1 L 5 (.inl (x + 1)) with | some L' => G sp sc [15, 44] d mX12_ways n 85 L' st h Q | none => False) | _ => False)) ∧
  (∀ (n d : Nat) (L : List (Option iV)) (st : List iV) (h : iH) (Q : Option iV → iH → Prop), G sp sc [15, 44] d mX12_ways (n + 1) 85 L st h Q = Run sp sc d mX12_ways 15 L st h Q) ∧
  (∀ (n d : Nat) (L : List (Option iV)) (st : List iV) (h : iH) (Q : Option iV → iH → Prop), G sp sc [15, 44] d mX12_ways (n + 1) 88 L st h Q = (match ld L 0 with | some (.inr (.inr (r + 1))) => G sp sc [15, 44] d mX12_ways n 89 L (.inr (.inr (r + 1)) :: st) h Q | _ => False)) ∧
  (∀ (n d : Nat) (L : List (Option iV)) (st : List iV) (h : iH) (Q : Option iV → iH → Prop), G sp sc [15, 44] d mX12_ways (n + 1) 89 L st h Q = (match ld L 2 with | some (.inr (.inl x)) => G sp sc [15, 44] d mX12_ways n 90 L (.inr (.inl x) :: st) h Q | _ => False)) ∧
  (∀ (n d : Nat) (L : List (Option iV)) (st : List iV) (h : iH) (Q : Option iV → iH → Prop), G sp sc [15, 44] d mX12_ways (n + 1) 90 L st h Q = (match ld L 1 with | some (.inl x) => G sp sc [15, 44] d mX12_ways n 91 L (.inl x :: st) h Q | _ => False)) ∧
  (∀ (n d : Nat) (L : List (Option iV)) (r : List iV) (m : Nat) (z0 : iV) (z1 : iV) (h : iH) (Q : Option iV → iH → Prop), G sp sc [15, 44] (d + 1) mX12_ways (n + 1) 91 L (z1 :: z0 :: .inr (.inr (m + 2)) :: r) h Q = (match h.1[m]? with | some (.inl (ci, _)) => (match lkC 12 271 ci with | some (y1, n1, kd) => (n1 = 2 ∧ (kd = 2 ∨ kd = 3 ∨ kd = 8) ∧ cs r ≤ 8) ∧ Call sp sc d y1 [.inr (.inr (m + 2)), z0, z1] h (fun q h1 => GC sp sc [15, 44] (d + 1) mX12_ways n 94 L q r h h1 Q) | none => False) | _ => False)) ∧
  (∀ (n d : Nat) (L : List (Option iV)) (a : Int) (h : iH) (Q : Option iV → iH → Prop), G sp sc [15, 44] d mX12_ways (n + 1) 94 L [.inl a] h Q = Q (some (.inl a)) h) ∧
  lkC 12 271 12 = some (mX12_digitOf, 2, 2) ∧
  lkF 12 9 12 = some 0 := ⟨by intros; exact G_at (by decide +kernel : fetch mX12_ways 0 = some (.iload_n 1)),
  by intros; exact G_at (by decide +kernel : fetch mX12_ways 1 = some (.iconst (-1))),
  by intros; exact G_at (by decide +kernel : fetch mX12_ways 2 = some (.if_icmp .ge 5)),
  by intros; exact G_at (by decide +kernel : fetch mX12_ways 5 = some (.iconst (-1))),
  by intros; exact G_reti (by decide +kernel : fetch mX12_ways 6 = some (.ireturn)) (by decide +kernel),
  by intros; exact G_at (by decide +kernel : fetch mX12_ways 7 = some (.lconst 1)),
  by intros; exact G_at (by decide +kernel : fetch mX12_ways 8 = some (.lstore_n 2)),
  by intros; exact G_at (by decide +kernel : fetch mX12_ways 9 = some (.iconst 0)),
  by intros; exact G_at (by decide +kernel : fetch mX12_ways 10 = some (.istore 4)),
  by intros; exact G_at (by decide +kernel : fetch mX12_ways 12 = some (.iconst 0)),
  by intros; exact G_at (by decide +kernel : fetch mX12_ways 13 = some (.istore 5)),
  by intros; exact G_at (by decide +kernel : fetch mX12_ways 15 = some (.iload 5)),
  by intros; exact G_at (by decide +kernel : fetch mX12_ways 17 = some (.aload_n 0)),
  by intros; exact G_own (by decide +kernel : fetch mX12_ways 18 = some (.getfield 9)) (by decide +kernel),
  by intros; exact G_at (by decide +kernel : fetch mX12_ways 21 = some (.iconst 2)),
  by intros; exact G_at (by decide +kernel : fetch mX12_ways 22 = some (.iaload)),
  by intros; exact G_at (by decide +kernel : fetch mX12_ways 23 = some (.if_icmp .ge 65)),
  by intros; exact G_at (by decide +kernel : fetch mX12_ways 26 = some (.aload_n 0)),
  by intros; exact G_own (by decide +kernel : fetch mX12_ways 27 = some (.getfield 9)) (by decide +kernel),
  by intros; exact G_at (by decide +kernel : fetch mX12_ways 30 = some (.iload 5)),
  by intros; exact G_callS (k := 2) (kd := 0) (by decide +kernel : fetch mX12_ways 32 = some (.invokestatic 95)) (by decide +kernel) (by decide +kernel) (by decide +kernel) rfl (by decide),
  by intros; exact G_at (by decide +kernel : fetch mX12_ways 35 = some (.ifCond .ne 6)),
  by intros; exact G_at (by decide +kernel : fetch mX12_ways 38 = some (.goto 44)),
  by intros; exact G_at (by decide +kernel : fetch mX12_ways 41 = some (.iconst 1)),
  by intros; exact G_at (by decide +kernel : fetch mX12_ways 42 = some (.istore 6)),
  by intros; exact G_at (by decide +kernel : fetch mX12_ways 44 = some (.iload 6)),
  by intros; exact G_at (by decide +kernel : fetch mX12_ways 46 = some (.bipush 6)),
  by intros; exact G_at (by decide +kernel : fetch mX12_ways 48 = some (.aload_n 0)),
  by intros; exact G_own (by decide +kernel : fetch mX12_ways 49 = some (.getfield 9)) (by decide +kernel),
  by intros; exact G_at (by decide +kernel : fetch mX12_ways 52 = some (.iload 5)),
  by intros; exact G_at (by decide +kernel : fetch mX12_ways 54 = some (.iconst 3)),
  by intros; exact G_callS (k := 2) (kd := 0) (by decide +kernel : fetch mX12_ways 55 = some (.invokestatic 92)) (by decide +kernel) (by decide +kernel) (by decide +kernel) rfl (by decide),
  by intros; exact G_at (by decide +kernel : fetch mX12_ways 58 = some (.iaload)),
  by intros; exact G_at (by decide +kernel : fetch mX12_ways 59 = some (.isub)),
  by intros; exact G_at (by decide +kernel : fetch mX12_ways 60 = some (.if_icmp .gt 22)),
  by intros; exact G_at (by decide +kernel : fetch mX12_ways 63 = some (.iinc 4 1)),
  by intros; exact G_at (by decide +kernel : fetch mX12_ways 66 = some (.lload_n 2)),
  by intros; exact G_at (by decide +kernel : fetch mX12_ways 67 = some (.iload 4)),
  by intros; exact G_at (by decide +kernel : fetch mX12_ways 69 = some (.i2l)),
  by intros; exact G_at (by decide +kernel : fetch mX12_ways 70 = some (.lmul)),
  by intros; exact G_at (by decide +kernel : fetch mX12_ways 71 = some (.iload 6)),
  by intros; exact G_at (by decide +kernel : fetch mX12_ways 73 = some (.i2l)),
  by intros; exact G_at (by decide +kernel : fetch mX12_ways 74 = some (.ldiv)),
  by intros; exact G_at (by decide +kernel : fetch mX12_ways 75 = some (.lstore_n 2)),
  by intros; exact G_at (by decide +kernel : fetch mX12_ways 76 = some (.iinc 6 1)),
  by intros; exact G_at (by decide +kernel : fetch mX12_ways 79 = some (.goto (-35))),
  by intros; exact G_at (by decide +kernel : fetch mX12_ways 82 = some (.iinc 5 1)),
  by intros; exact G_at (by decide +kernel : fetch mX12_ways 85 = some (.goto (-70))),
  by intros; exact G_at (by decide +kernel : fetch mX12_ways 88 = some (.aload_n 0)),
  by intros; exact G_at (by decide +kernel : fetch mX12_ways 89 = some (.lload_n 2)),
  by intros; exact G_at (by decide +kernel : fetch mX12_ways 90 = some (.iload_n 1)),
  by intros; exact G_callV (by decide +kernel : fetch mX12_ways 91 = some (.invokevirtual 271)) (by decide +kernel) (by decide +kernel) rfl,
  by intros; exact G_reti (by decide +kernel : fetch mX12_ways 94 = some (.ireturn)) (by decide +kernel),
  by decide +kernel,
  by decide +kernel⟩
theorem gX12_thaws : (∀ (n d : Nat) (L : List (Option iV)) (st : List iV) (h : iH) (Q : Option iV → iH → Prop), G sp sc [6] d mX12_thaws (n + 1) 0 L st h Q = G sp sc [6] d mX12_thaws n 1 L (.inl 0 :: st) h Q) ∧
  (∀ (n d : Nat) (L : List (Option iV)) (r : List iV) (x : Int) (h : iH) (Q : Option iV → iH → Prop), G sp sc [6] d mX12_thaws (n + 1) 1 L (.inl x :: r) h Q = (match st1 L 4 (.inl x) with | some L' => G sp sc [6] d mX12_thaws n 3 L' r h Q | none => False)) ∧
  (∀ (n d : Nat) (L : List (Option iV)) (st : List iV) (h : iH) (Q : Option iV → iH → Prop), G sp sc [6] d mX12_thaws (n + 1) 3 L st h Q = G sp sc [6] d mX12_thaws n 4 L (.inl 0 :: st) h Q) ∧
  (∀ (n d : Nat) (L : List (Option iV)) (r : List iV) (x : Int) (h : iH) (Q : Option iV → iH → Prop), G sp sc [6] d mX12_thaws (n + 1) 4 L (.inl x :: r) h Q = (match st1 L 5 (.inl x) with | some L' => Run sp sc d mX12_thaws 6 L' r h Q | none => False)) ∧
  (∀ (n d : Nat) (L : List (Option iV)) (st : List iV) (h : iH) (Q : Option iV → iH → Prop), G sp sc [6] d mX12_thaws (n + 1) 6 L st h Q = (match ld L 5 with | some (.inl x) => G sp sc [6] d mX12_thaws n 8 L (.inl x :: st) h Q | _ => False)) ∧
  (∀ (n d : Nat) (L : List (Option iV)) (st : List iV) (h : iH) (Q : Option iV → iH → Prop), G sp sc [6] d mX12_thaws (n + 1) 8 L st h Q = ((-128 ≤ (64 : Int) ∧ (64 : Int) < 128) ∧ G sp sc [6] d mX12_thaws n 10 L (.inl 64 :: st) h Q)) ∧
  (∀ (n d : Nat) (L : List (Option iV)) (a : Int) (b : Int) (r : List iV) (h : iH) (Q : Option iV → iH → Prop), G sp sc [6] d mX12_thaws (n + 1) 10 L (.inl b :: .inl a :: r) h Q = ((inI a = true ∧ inI b = true) ∧ (b ≤ a → G sp sc [6] d mX12_thaws n 87 L r h Q) ∧ (¬ (b ≤ a) → G sp sc [6] d mX12_thaws n 13 L r h Q))) ∧
  (∀ (n d : Nat) (L : List (Option iV)) (st : List iV) (h : iH) (Q : Option iV → iH → Prop), G sp sc [6] d mX12_thaws (n + 1) 13 L st h Q = (match ld L 0 with | some (.inr (.inr (r + 1))) => G sp sc [6] d mX12_thaws n 14 L (.inr (.inr (r + 1)) :: st) h Q | _ => False)) ∧
  (∀ (n d : Nat) (L : List (Option iV)) (r : List iV) (m : Nat) (h : iH) (Q : Option iV → iH → Prop), G sp sc [6] d mX12_thaws (n + 1) 14 L (.inr (.inr (m + 2)) :: r) h Q = (match h.1[m]? with | some (.inl (ci, fs)) => (match lkF 12 43 ci with | some k => (match fs[k]? with | some v => G sp sc [6] d mX12_thaws n 17 L (v :: r) h Q | none => False) | none => False) | _ => False)) ∧
  (∀ (n d : Nat) (L : List (Option iV)) (st : List iV) (h : iH) (Q : Option iV → iH → Prop), G sp sc [6] d mX12_thaws (n + 1) 17 L st h Q = ((-128 ≤ (64 : Int) ∧ (64 : Int) < 128) ∧ G sp sc [6] d mX12_thaws n 19 L (.inl 64 :: st) h Q)) ∧
  (∀ (n d : Nat) (L : List (Option iV)) (st : List iV) (h : iH) (Q : Option iV → iH → Prop), G sp sc [6] d mX12_thaws (n + 1) 19 L st h Q = (match ld L 1 with | some (.inl x) => G sp sc [6] d mX12_thaws n 20 L (.inl x :: st) h Q | _ => False)) ∧
  (∀ (n d : Nat) (L : List (Option iV)) (a : Int) (b : Int) (r : List iV) (h : iH) (Q : Option iV → iH → Prop), G sp sc [6] d mX12_thaws (n + 1) 20 L (.inl b :: .inl a :: r) h Q = G sp sc [6] d mX12_thaws n 21 L (.inl (a * b) :: r) h Q) ∧
  (∀ (n d : Nat) (L : List (Option iV)) (st : List iV) (h : iH) (Q : Option iV → iH → Prop), G sp sc [6] d mX12_thaws (n + 1) 21 L st h Q = (match ld L 5 with | some (.inl x) => G sp sc [6] d mX12_thaws n 23 L (.inl x :: st) h Q | _ => False)) ∧
  (∀ (n d : Nat) (L : List (Option iV)) (a : Int) (b : Int) (r : List iV) (h : iH) (Q : Option iV → iH → Prop), G sp sc [6] d mX12_thaws (n + 1) 23 L (.inl b :: .inl a :: r) h Q = G sp sc [6] d mX12_thaws n 24 L (.inl (a + b) :: r) h Q) ∧
  (∀ (n d : Nat) (L : List (Option iV)) (r : List iV) (j : Int) (m : Nat) (h : iH) (Q : Option iV → iH → Prop), G sp sc [6] d mX12_thaws (n + 1) 24 L (.inl j :: .inr (.inr (m + 2)) :: r) h Q = (match h.1[m]? with | some (.inr (.inl (0, xs))) => inA j xs.length = true ∧ G sp sc [6] d mX12_thaws n 25 L (.inl (xs.getD j.toNat 0) :: r) h Q | _ => False)) ∧
  (∀ (n d : Nat) (L : List (Option iV)) (st : List iV) (h : iH) (Q : Option iV → iH → Prop), G sp sc [6] d mX12_thaws (n + 1) 25 L st h Q = (match ld L 2 with | some (.inl x) => G sp sc [6] d mX12_thaws n 26 L (.inl x :: st) h Q | _ => False)) ∧
  (∀ (n d : Nat) (L : List (Option iV)) (a : Int) (b : Int) (r : List iV) (h : iH) (Q : Option iV → iH → Prop), G sp sc [6] d mX12_thaws (n + 1) 26 L (.inl b :: .inl a :: r) h Q = G sp sc [6] d mX12_thaws n 27 L (.inl (a * b) :: r) h Q) ∧
  (∀ (n d : Nat) (L : List (Option iV)) (st : List iV) (h : iH) (Q : Option iV → iH → Prop), G sp sc [6] d mX12_thaws (n + 1) 27 L st h Q = (match ld L 1 with | some (.inl x) => G sp sc [6] d mX12_thaws n 28 L (.inl x :: st) h Q | _ => False)) ∧
  (∀ (n d : Nat) (L : List (Option iV)) (a : Int) (r : List iV) (h : iH) (Q : Option iV → iH → Prop), G sp sc [6] d mX12_thaws (n + 1) 28 L (.inl a :: r) h Q = (inI a = true ∧ (a ≤ 0 → G sp sc [6] d mX12_thaws n 50 L r h Q) ∧ (¬ (a ≤ 0) → G sp sc [6] d mX12_thaws n 31 L r h Q))) ∧
  (∀ (n d : Nat) (L : List (Option iV)) (st : List iV) (h : iH) (Q : Option iV → iH → Prop), G sp sc [6] d mX12_thaws (n + 1) 31 L st h Q = (match ld L 0 with | some (.inr (.inr (r + 1))) => G sp sc [6] d mX12_thaws n 32 L (.inr (.inr (r + 1)) :: st) h Q | _ => False)) ∧
  (∀ (n d : Nat) (L : List (Option iV)) (r : List iV) (m : Nat) (h : iH) (Q : Option iV → iH → Prop), G sp sc [6] d mX12_thaws (n + 1) 32 L (.inr (.inr (m + 2)) :: r) h Q = (match h.1[m]? with | some (.inl (ci, fs)) => (match lkF 12 43 ci with | some k => (match fs[k]? with | some v => G sp sc [6] d mX12_thaws n 35 L (v :: r) h Q | none => False) | none => False) | _ => False)) ∧
  (∀ (n d : Nat) (L : List (Option iV)) (st : List iV) (h : iH) (Q : Option iV → iH → Prop), G sp sc [6] d mX12_thaws (n + 1) 35 L st h Q = ((-128 ≤ (64 : Int) ∧ (64 : Int) < 128) ∧ G sp sc [6] d mX12_thaws n 37 L (.inl 64 :: st) h Q)) ∧
  (∀ (n d : Nat) (L : List (Option iV)) (st : List iV) (h : iH) (Q : Option iV → iH → Prop), G sp sc [6] d mX12_thaws (n + 1) 37 L st h Q = (match ld L 1 with | some (.inl x) => G sp sc [6] d mX12_thaws n 38 L (.inl x :: st) h Q | _ => False)) ∧
  (∀ (n d : Nat) (L : List (Option iV)) (st : List iV) (h : iH) (Q : Option iV → iH → Prop), G sp sc [6] d mX12_thaws (n + 1) 38 L st h Q = G sp sc [6] d mX12_thaws n 39 L (.inl 1 :: st) h Q) ∧
  (∀ (n d : Nat) (L : List (Option iV)) (a : Int) (b : Int) (r : List iV) (h : iH) (Q : Option iV → iH → Prop), G sp sc [6] d mX12_thaws (n + 1) 39 L (.inl b :: .inl a :: r) h Q = G sp sc [6] d mX12_thaws n 40 L (.inl (a - b) :: r) h Q) ∧
  (∀ (n d : Nat) (L : List (Option iV)) (a : Int) (b : Int) (r : List iV) (h : iH) (Q : Option iV → iH → Prop), G sp sc [6] d mX12_thaws (n + 1) 40 L (.inl b :: .inl a :: r) h Q = G sp sc [6] d mX12_thaws n 41 L (.inl (a * b) :: r) h Q) ∧
  (∀ (n d : Nat) (L : List (Option iV)) (st : List iV) (h : iH) (Q : Option iV → iH → Prop), G sp sc [6] d mX12_thaws (n + 1) 41 L st h Q = (match ld L 5 with | some (.inl x) => G sp sc [6] d mX12_thaws n 43 L (.inl x :: st) h Q | _ => False)) ∧
  (∀ (n d : Nat) (L : List (Option iV)) (a : Int) (b : Int) (r : List iV) (h : iH) (Q : Option iV → iH → Prop), G sp sc [6] d mX12_thaws (n + 1) 43 L (.inl b :: .inl a :: r) h Q = G sp sc [6] d mX12_thaws n 44 L (.inl (a + b) :: r) h Q) ∧
  (∀ (n d : Nat) (L : List (Option iV)) (r : List iV) (j : Int) (m : Nat) (h : iH) (Q : Option iV → iH → Prop), G sp sc [6] d mX12_thaws (n + 1) 44 L (.inl j :: .inr (.inr (m + 2)) :: r) h Q = (match h.1[m]? with | some (.inr (.inl (0, xs))) => inA j xs.length = true ∧ G sp sc [6] d mX12_thaws n 45 L (.inl (xs.getD j.toNat 0) :: r) h Q | _ => False)) ∧
  (∀ (n d : Nat) (L : List (Option iV)) (st : List iV) (h : iH) (Q : Option iV → iH → Prop), G sp sc [6] d mX12_thaws (n + 1) 45 L st h Q = (match ld L 3 with | some (.inl x) => G sp sc [6] d mX12_thaws n 46 L (.inl x :: st) h Q | _ => False)) ∧
  (∀ (n d : Nat) (L : List (Option iV)) (a : Int) (b : Int) (r : List iV) (h : iH) (Q : Option iV → iH → Prop), G sp sc [6] d mX12_thaws (n + 1) 46 L (.inl b :: .inl a :: r) h Q = G sp sc [6] d mX12_thaws n 47 L (.inl (a * b) :: r) h Q) ∧
  (∀ (n d : Nat) (L : List (Option iV)) (st : List iV) (h : iH) (Q : Option iV → iH → Prop), G sp sc [6] d mX12_thaws (n + 1) 47 L st h Q = G sp sc [6] d mX12_thaws n 51 L st h Q) ∧
  (∀ (n d : Nat) (L : List (Option iV)) (st : List iV) (h : iH) (Q : Option iV → iH → Prop), G sp sc [6] d mX12_thaws (n + 1) 50 L st h Q = G sp sc [6] d mX12_thaws n 51 L (.inl 0 :: st) h Q) ∧
  (∀ (n d : Nat) (L : List (Option iV)) (a : Int) (b : Int) (r : List iV) (h : iH) (Q : Option iV → iH → Prop), G sp sc [6] d mX12_thaws (n + 1) 51 L (.inl b :: .inl a :: r) h Q = G sp sc [6] d mX12_thaws n 52 L (.inl (a + b) :: r) h Q) ∧
  (∀ (n d : Nat) (L : List (Option iV)) (st : List iV) (h : iH) (Q : Option iV → iH → Prop), G sp sc [6] d mX12_thaws (n + 1) 52 L st h Q = (match ld L 4 with | some (.inl x) => G sp sc [6] d mX12_thaws n 54 L (.inl x :: st) h Q | _ => False)) ∧
  (∀ (n d : Nat) (L : List (Option iV)) (a : Int) (b : Int) (r : List iV) (h : iH) (Q : Option iV → iH → Prop), G sp sc [6] d mX12_thaws (n + 1) 54 L (.inl b :: .inl a :: r) h Q = G sp sc [6] d mX12_thaws n 55 L (.inl (a + b) :: r) h Q) ∧
  (∀ (n d : Nat) (L : List (Option iV)) (r : List iV) (x : Int) (h : iH) (Q : Option iV → iH → Prop), G sp sc [6] d mX12_thaws (n + 1) 55 L (.inl x :: r) h Q = (match st1 L 6 (.inl x) with | some L' => G sp sc [6] d mX12_thaws n 57 L' r h Q | none => False)) ∧
  (∀ (n d : Nat) (L : List (Option iV)) (st : List iV) (h : iH) (Q : Option iV → iH → Prop), G sp sc [6] d mX12_thaws (n + 1) 57 L st h Q = (match ld L 0 with | some (.inr (.inr (r + 1))) => G sp sc [6] d mX12_thaws n 58 L (.inr (.inr (r + 1)) :: st) h Q | _ => False)) ∧
  (∀ (n d : Nat) (L : List (Option iV)) (r : List iV) (m : Nat) (h : iH) (Q : Option iV → iH → Prop), G sp sc [6] d mX12_thaws (n + 1) 58 L (.inr (.inr (m + 2)) :: r) h Q = (match h.1[m]? with | some (.inl (ci, fs)) => (match lkF 12 46 ci with | some k => (match fs[k]? with | some v => G sp sc [6] d mX12_thaws n 61 L (v :: r) h Q | none => False) | none => False) | _ => False)) ∧
  (∀ (n d : Nat) (L : List (Option iV)) (st : List iV) (h : iH) (Q : Option iV → iH → Prop), G sp sc [6] d mX12_thaws (n + 1) 61 L st h Q = ((-128 ≤ (64 : Int) ∧ (64 : Int) < 128) ∧ G sp sc [6] d mX12_thaws n 63 L (.inl 64 :: st) h Q)) ∧
  (∀ (n d : Nat) (L : List (Option iV)) (st : List iV) (h : iH) (Q : Option iV → iH → Prop), G sp sc [6] d mX12_thaws (n + 1) 63 L st h Q = (match ld L 1 with | some (.inl x) => G sp sc [6] d mX12_thaws n 64 L (.inl x :: st) h Q | _ => False)) ∧
  (∀ (n d : Nat) (L : List (Option iV)) (a : Int) (b : Int) (r : List iV) (h : iH) (Q : Option iV → iH → Prop), G sp sc [6] d mX12_thaws (n + 1) 64 L (.inl b :: .inl a :: r) h Q = G sp sc [6] d mX12_thaws n 65 L (.inl (a * b) :: r) h Q) ∧
  (∀ (n d : Nat) (L : List (Option iV)) (st : List iV) (h : iH) (Q : Option iV → iH → Prop), G sp sc [6] d mX12_thaws (n + 1) 65 L st h Q = (match ld L 5 with | some (.inl x) => G sp sc [6] d mX12_thaws n 67 L (.inl x :: st) h Q | _ => False)) ∧
  (∀ (n d : Nat) (L : List (Option iV)) (a : Int) (b : Int) (r : List iV) (h : iH) (Q : Option iV → iH → Prop), G sp sc [6] d mX12_thaws (n + 1) 67 L (.inl b :: .inl a :: r) h Q = G sp sc [6] d mX12_thaws n 68 L (.inl (a + b) :: r) h Q) ∧
  (∀ (n d : Nat) (L : List (Option iV)) (st : List iV) (h : iH) (Q : Option iV → iH → Prop), G sp sc [6] d mX12_thaws (n + 1) 68 L st h Q = (match ld L 6 with | some (.inl x) => G sp sc [6] d mX12_thaws n 70 L (.inl x :: st) h Q | _ => False)) ∧
  (∀ (n d : Nat) (L : List (Option iV)) (st : List iV) (h : iH) (Q : Option iV → iH → Prop), G sp sc [6] d mX12_thaws (n + 1) 70 L st h Q = ((-128 ≤ (10 : Int) ∧ (10 : Int) < 128) ∧ G sp sc [6] d mX12_thaws n 72 L (.inl 10 :: st) h Q)) ∧
  (∀ (n d : Nat) (L : List (Option iV)) (a : Int) (b : Int) (r : List iV) (h : iH) (Q : Option iV → iH → Prop), G sp sc [6] d mX12_thaws (n + 1) 72 L (.inl b :: .inl a :: r) h Q = ((inI a = true ∧ inI b = true ∧ 0 < b) ∧ G sp sc [6] d mX12_thaws n 73 L (.inl (a.tmod b) :: r) h Q)) ∧
  (∀ (n d : Nat) (L : List (Option iV)) (r : List iV) (v : Int) (j : Int) (m : Nat) (h : iH) (Q : Option iV → iH → Prop), G sp sc [6] d mX12_thaws (n + 1) 73 L (.inl v :: .inl j :: .inr (.inr (m + 2)) :: r) h Q = (match h.1[m]? with | some (.inr (.inl (0, xs))) => inA j xs.length = true ∧ G sp sc [6] d mX12_thaws n 74 L r (h.1.set m (.inr (.inl (0, xs.set j.toNat v))), h.2) Q | _ => False)) ∧
  (∀ (n d : Nat) (L : List (Option iV)) (st : List iV) (h : iH) (Q : Option iV → iH → Prop), G sp sc [6] d mX12_thaws (n + 1) 74 L st h Q = (match ld L 6 with | some (.inl x) => G sp sc [6] d mX12_thaws n 76 L (.inl x :: st) h Q | _ => False)) ∧
  (∀ (n d : Nat) (L : List (Option iV)) (st : List iV) (h : iH) (Q : Option iV → iH → Prop), G sp sc [6] d mX12_thaws (n + 1) 76 L st h Q = ((-128 ≤ (10 : Int) ∧ (10 : Int) < 128) ∧ G sp sc [6] d mX12_thaws n 78 L (.inl 10 :: st) h Q)) ∧
  (∀ (n d : Nat) (L : List (Option iV)) (a : Int) (b : Int) (r : List iV) (h : iH) (Q : Option iV → iH → Prop), G sp sc [6] d mX12_thaws (n + 1) 78 L (.inl b :: .inl a :: r) h Q = ((inI a = true ∧ inI b = true ∧ 0 < b) ∧ G sp sc [6] d mX12_thaws n 79 L (.inl (a.tdiv b) :: r) h Q)) ∧
  (∀ (n d : Nat) (L : List (Option iV)) (r : List iV) (x : Int) (h : iH) (Q : Option iV → iH → Prop), G sp sc [6] d mX12_thaws (n + 1) 79 L (.inl x :: r) h Q = (match st1 L 4 (.inl x) with | some L' => G sp sc [6] d mX12_thaws n 81 L' r h Q | none => False)) ∧
  (∀ (n d : Nat) (L : List (Option iV)) (st : List iV) (h : iH) (Q : Option iV → iH → Prop), G sp sc [6] d mX12_thaws (n + 1) 81 L st h Q = (match ld L 5 with | some (.inl x) => (match st1 L 5 (.inl (x + 1)) with | some L' => G sp sc [6] d mX12_thaws n 84 L' st h Q | none => False) | _ => False)) ∧
  (∀ (n d : Nat) (L : List (Option iV)) (st : List iV) (h : iH) (Q : Option iV → iH → Prop), G sp sc [6] d mX12_thaws (n + 1) 84 L st h Q = Run sp sc d mX12_thaws 6 L st h Q) ∧
  (∀ (n d : Nat) (L : List (Option iV))  (h : iH) (Q : Option iV → iH → Prop), G sp sc [6] d mX12_thaws (n + 1) 87 L [] h Q = Q none h) ∧
  lkF 12 43 12 = some 23 ∧
  lkF 12 46 12 = some 24 := ⟨by intros; exact G_at (by decide +kernel : fetch mX12_thaws 0 = some (.iconst 0)),
  by intros; exact G_at (by decide +kernel : fetch mX12_thaws 1 = some (.istore 4)),
  by intros; exact G_at (by decide +kernel : fetch mX12_thaws 3 = some (.iconst 0)),
  by intros; exact G_at (by decide +kernel : fetch mX12_thaws 4 = some (.istore 5)),
  by intros; exact G_at (by decide +kernel : fetch mX12_thaws 6 = some (.iload 5)),
  by intros; exact G_at (by decide +kernel : fetch mX12_thaws 8 = some (.bipush 64)),
  by intros; exact G_at (by decide +kernel : fetch mX12_thaws 10 = some (.if_icmp .ge 77)),
  by intros; exact G_at (by decide +kernel : fetch mX12_thaws 13 = some (.aload_n 0)),
  by intros; exact G_own (by decide +kernel : fetch mX12_thaws 14 = some (.getfield 43)) (by decide +kernel),
  by intros; exact G_at (by decide +kernel : fetch mX12_thaws 17 = some (.bipush 64)),
  by intros; exact G_at (by decide +kernel : fetch mX12_thaws 19 = some (.iload_n 1)),
  by intros; exact G_at (by decide +kernel : fetch mX12_thaws 20 = some (.imul)),
  by intros; exact G_at (by decide +kernel : fetch mX12_thaws 21 = some (.iload 5)),
  by intros; exact G_at (by decide +kernel : fetch mX12_thaws 23 = some (.iadd)),
  by intros; exact G_at (by decide +kernel : fetch mX12_thaws 24 = some (.iaload)),
  by intros; exact G_at (by decide +kernel : fetch mX12_thaws 25 = some (.iload_n 2)),
  by intros; exact G_at (by decide +kernel : fetch mX12_thaws 26 = some (.imul)),
  by intros; exact G_at (by decide +kernel : fetch mX12_thaws 27 = some (.iload_n 1)),
  by intros; exact G_at (by decide +kernel : fetch mX12_thaws 28 = some (.ifCond .le 22)),
  by intros; exact G_at (by decide +kernel : fetch mX12_thaws 31 = some (.aload_n 0)),
  by intros; exact G_own (by decide +kernel : fetch mX12_thaws 32 = some (.getfield 43)) (by decide +kernel),
  by intros; exact G_at (by decide +kernel : fetch mX12_thaws 35 = some (.bipush 64)),
  by intros; exact G_at (by decide +kernel : fetch mX12_thaws 37 = some (.iload_n 1)),
  by intros; exact G_at (by decide +kernel : fetch mX12_thaws 38 = some (.iconst 1)),
  by intros; exact G_at (by decide +kernel : fetch mX12_thaws 39 = some (.isub)),
  by intros; exact G_at (by decide +kernel : fetch mX12_thaws 40 = some (.imul)),
  by intros; exact G_at (by decide +kernel : fetch mX12_thaws 41 = some (.iload 5)),
  by intros; exact G_at (by decide +kernel : fetch mX12_thaws 43 = some (.iadd)),
  by intros; exact G_at (by decide +kernel : fetch mX12_thaws 44 = some (.iaload)),
  by intros; exact G_at (by decide +kernel : fetch mX12_thaws 45 = some (.iload_n 3)),
  by intros; exact G_at (by decide +kernel : fetch mX12_thaws 46 = some (.imul)),
  by intros; exact G_at (by decide +kernel : fetch mX12_thaws 47 = some (.goto 4)),
  by intros; exact G_at (by decide +kernel : fetch mX12_thaws 50 = some (.iconst 0)),
  by intros; exact G_at (by decide +kernel : fetch mX12_thaws 51 = some (.iadd)),
  by intros; exact G_at (by decide +kernel : fetch mX12_thaws 52 = some (.iload 4)),
  by intros; exact G_at (by decide +kernel : fetch mX12_thaws 54 = some (.iadd)),
  by intros; exact G_at (by decide +kernel : fetch mX12_thaws 55 = some (.istore 6)),
  by intros; exact G_at (by decide +kernel : fetch mX12_thaws 57 = some (.aload_n 0)),
  by intros; exact G_own (by decide +kernel : fetch mX12_thaws 58 = some (.getfield 46)) (by decide +kernel),
  by intros; exact G_at (by decide +kernel : fetch mX12_thaws 61 = some (.bipush 64)),
  by intros; exact G_at (by decide +kernel : fetch mX12_thaws 63 = some (.iload_n 1)),
  by intros; exact G_at (by decide +kernel : fetch mX12_thaws 64 = some (.imul)),
  by intros; exact G_at (by decide +kernel : fetch mX12_thaws 65 = some (.iload 5)),
  by intros; exact G_at (by decide +kernel : fetch mX12_thaws 67 = some (.iadd)),
  by intros; exact G_at (by decide +kernel : fetch mX12_thaws 68 = some (.iload 6)),
  by intros; exact G_at (by decide +kernel : fetch mX12_thaws 70 = some (.bipush 10)),
  by intros; exact G_at (by decide +kernel : fetch mX12_thaws 72 = some (.irem)),
  by intros; exact G_at (by decide +kernel : fetch mX12_thaws 73 = some (.iastore)),
  by intros; exact G_at (by decide +kernel : fetch mX12_thaws 74 = some (.iload 6)),
  by intros; exact G_at (by decide +kernel : fetch mX12_thaws 76 = some (.bipush 10)),
  by intros; exact G_at (by decide +kernel : fetch mX12_thaws 78 = some (.idiv)),
  by intros; exact G_at (by decide +kernel : fetch mX12_thaws 79 = some (.istore 4)),
  by intros; exact G_at (by decide +kernel : fetch mX12_thaws 81 = some (.iinc 5 1)),
  by intros; exact G_at (by decide +kernel : fetch mX12_thaws 84 = some (.goto (-78))),
  by intros; exact G_retv (by decide +kernel : fetch mX12_thaws 87 = some (.return_)) (by decide +kernel),
  by decide +kernel,
  by decide +kernel⟩
theorem gX12_thaw : (∀ (n d : Nat) (L : List (Option iV)) (st : List iV) (h : iH) (Q : Option iV → iH → Prop), G sp sc [68, 100, 109, 148, 220] d mX12_thaw (n + 1) 0 L st h Q = (match ld L 0 with | some (.inr (.inr (r + 1))) => G sp sc [68, 100, 109, 148, 220] d mX12_thaw n 1 L (.inr (.inr (r + 1)) :: st) h Q | _ => False)) ∧
  (∀ (n d : Nat) (L : List (Option iV)) (st : List iV) (h : iH) (Q : Option iV → iH → Prop), G sp sc [68, 100, 109, 148, 220] d mX12_thaw (n + 1) 1 L st h Q = (match ld L 1 with | some (.inl x) => G sp sc [68, 100, 109, 148, 220] d mX12_thaw n 2 L (.inl x :: st) h Q | _ => False)) ∧
  (∀ (n d : Nat) (L : List (Option iV)) (r : List iV) (m : Nat) (z0 : iV) (h : iH) (Q : Option iV → iH → Prop), G sp sc [68, 100, 109, 148, 220] (d + 1) mX12_thaw (n + 1) 2 L (z0 :: .inr (.inr (m + 2)) :: r) h Q = (match h.1[m]? with | some (.inl (ci, _)) => (match lkC 12 208 ci with | some (y1, n1, kd) => (n1 = 1 ∧ (kd = 2 ∨ kd = 3 ∨ kd = 8) ∧ cs r ≤ 8) ∧ Call sp sc d y1 [.inr (.inr (m + 2)), z0] h (fun q h1 => GC sp sc [68, 100, 109, 148, 220] (d + 1) mX12_thaw n 5 L q r h h1 Q) | none => False) | _ => False)) ∧
  (∀ (n d : Nat) (L : List (Option iV)) (a : Int) (r : List iV) (h : iH) (Q : Option iV → iH → Prop), G sp sc [68, 100, 109, 148, 220] d mX12_thaw (n + 1) 5 L (.inl a :: r) h Q = (inI a = true ∧ (a = 0 → G sp sc [68, 100, 109, 148, 220] d mX12_thaw n 34 L r h Q) ∧ (¬ (a = 0) → G sp sc [68, 100, 109, 148, 220] d mX12_thaw n 8 L r h Q))) ∧
  (∀ (n d : Nat) (L : List (Option iV)) (st : List iV) (h : iH) (Q : Option iV → iH → Prop), G sp sc [68, 100, 109, 148, 220] d mX12_thaw (n + 1) 8 L st h Q = (match ld L 2 with | some (.inl x) => G sp sc [68, 100, 109, 148, 220] d mX12_thaw n 9 L (.inl x :: st) h Q | _ => False)) ∧
  (∀ (n d : Nat) (L : List (Option iV)) (st : List iV) (h : iH) (Q : Option iV → iH → Prop), G sp sc [68, 100, 109, 148, 220] d mX12_thaw (n + 1) 9 L st h Q = G sp sc [68, 100, 109, 148, 220] d mX12_thaw n 10 L (.inl 0 :: st) h Q) ∧
  (∀ (n d : Nat) (L : List (Option iV)) (st : List iV) (h : iH) (Q : Option iV → iH → Prop), G sp sc [68, 100, 109, 148, 220] d mX12_thaw (n + 1) 10 L st h Q = ((-128 ≤ (60 : Int) ∧ (60 : Int) < 128) ∧ G sp sc [68, 100, 109, 148, 220] d mX12_thaw n 12 L (.inl 60 :: st) h Q)) ∧
  (∀ (n d : Nat) (L : List (Option iV)) (r : List iV) (z0 : iV) (z1 : iV) (z2 : iV) (h : iH) (Q : Option iV → iH → Prop), G sp sc [68, 100, 109, 148, 220] (d + 1) mX12_thaw (n + 1) 12 L (z2 :: z1 :: z0 :: r) h Q = (cs r ≤ 8 ∧ Call sp sc d mX12_isIn [z0, z1, z2] h (fun q h1 => GC sp sc [68, 100, 109, 148, 220] (d + 1) mX12_thaw n 15 L q r h h1 Q))) ∧
  (∀ (n d : Nat) (L : List (Option iV)) (a : Int) (r : List iV) (h : iH) (Q : Option iV → iH → Prop), G sp sc [68, 100, 109, 148, 220] d mX12_thaw (n + 1) 15 L (.inl a :: r) h Q = (inI a = true ∧ (a = 0 → G sp sc [68, 100, 109, 148, 220] d mX12_thaw n 34 L r h Q) ∧ (¬ (a = 0) → G sp sc [68, 100, 109, 148, 220] d mX12_thaw n 18 L r h Q))) ∧
  (∀ (n d : Nat) (L : List (Option iV)) (st : List iV) (h : iH) (Q : Option iV → iH → Prop), G sp sc [68, 100, 109, 148, 220] d mX12_thaw (n + 1) 18 L st h Q = (match ld L 3 with | some (.inl x) => G sp sc [68, 100, 109, 148, 220] d mX12_thaw n 19 L (.inl x :: st) h Q | _ => False)) ∧
  (∀ (n d : Nat) (L : List (Option iV)) (st : List iV) (h : iH) (Q : Option iV → iH → Prop), G sp sc [68, 100, 109, 148, 220] d mX12_thaw (n + 1) 19 L st h Q = G sp sc [68, 100, 109, 148, 220] d mX12_thaw n 20 L (.inl 1 :: st) h Q) ∧
  (∀ (n d : Nat) (L : List (Option iV)) (st : List iV) (h : iH) (Q : Option iV → iH → Prop), G sp sc [68, 100, 109, 148, 220] d mX12_thaw (n + 1) 20 L st h Q = ((-128 ≤ (9 : Int) ∧ (9 : Int) < 128) ∧ G sp sc [68, 100, 109, 148, 220] d mX12_thaw n 22 L (.inl 9 :: st) h Q)) ∧
  (∀ (n d : Nat) (L : List (Option iV)) (r : List iV) (z0 : iV) (z1 : iV) (z2 : iV) (h : iH) (Q : Option iV → iH → Prop), G sp sc [68, 100, 109, 148, 220] (d + 1) mX12_thaw (n + 1) 22 L (z2 :: z1 :: z0 :: r) h Q = (cs r ≤ 8 ∧ Call sp sc d mX12_isIn [z0, z1, z2] h (fun q h1 => GC sp sc [68, 100, 109, 148, 220] (d + 1) mX12_thaw n 25 L q r h h1 Q))) ∧
  (∀ (n d : Nat) (L : List (Option iV)) (a : Int) (r : List iV) (h : iH) (Q : Option iV → iH → Prop), G sp sc [68, 100, 109, 148, 220] d mX12_thaw (n + 1) 25 L (.inl a :: r) h Q = (inI a = true ∧ (a = 0 → G sp sc [68, 100, 109, 148, 220] d mX12_thaw n 34 L r h Q) ∧ (¬ (a = 0) → G sp sc [68, 100, 109, 148, 220] d mX12_thaw n 28 L r h Q))) ∧
  (∀ (n d : Nat) (L : List (Option iV)) (st : List iV) (h : iH) (Q : Option iV → iH → Prop), G sp sc [68, 100, 109, 148, 220] d mX12_thaw (n + 1) 28 L st h Q = (match ld L 4 with | some (.inl x) => G sp sc [68, 100, 109, 148, 220] d mX12_thaw n 30 L (.inl x :: st) h Q | _ => False)) ∧
  (∀ (n d : Nat) (L : List (Option iV)) (st : List iV) (h : iH) (Q : Option iV → iH → Prop), G sp sc [68, 100, 109, 148, 220] d mX12_thaw (n + 1) 30 L st h Q = G sp sc [68, 100, 109, 148, 220] d mX12_thaw n 31 L (.inl (-1) :: st) h Q) ∧
  (∀ (n d : Nat) (L : List (Option iV)) (a : Int) (b : Int) (r : List iV) (h : iH) (Q : Option iV → iH → Prop), G sp sc [68, 100, 109, 148, 220] d mX12_thaw (n + 1) 31 L (.inl b :: .inl a :: r) h Q = ((inI a = true ∧ inI b = true) ∧ (b ≤ a → G sp sc [68, 100, 109, 148, 220] d mX12_thaw n 36 L r h Q) ∧ (¬ (b ≤ a) → G sp sc [68, 100, 109, 148, 220] d mX12_thaw n 34 L r h Q))) ∧
  (∀ (n d : Nat) (L : List (Option iV)) (st : List iV) (h : iH) (Q : Option iV → iH → Prop), G sp sc [68, 100, 109, 148, 220] d mX12_thaw (n + 1) 34 L st h Q = G sp sc [68, 100, 109, 148, 220] d mX12_thaw n 35 L (.inl (-1) :: st) h Q) ∧
  (∀ (n d : Nat) (L : List (Option iV)) (a : Int) (h : iH) (Q : Option iV → iH → Prop), G sp sc [68, 100, 109, 148, 220] d mX12_thaw (n + 1) 35 L [.inl a] h Q = Q (some (.inl a)) h) ∧
  (∀ (n d : Nat) (L : List (Option iV)) (st : List iV) (h : iH) (Q : Option iV → iH → Prop), G sp sc [68, 100, 109, 148, 220] d mX12_thaw (n + 1) 36 L st h Q = (match ld L 0 with | some (.inr (.inr (r + 1))) => G sp sc [68, 100, 109, 148, 220] d mX12_thaw n 37 L (.inr (.inr (r + 1)) :: st) h Q | _ => False)) ∧
  (∀ (n d : Nat) (L : List (Option iV)) (r : List iV) (m : Nat) (h : iH) (Q : Option iV → iH → Prop), G sp sc [68, 100, 109, 148, 220] d mX12_thaw (n + 1) 37 L (.inr (.inr (m + 2)) :: r) h Q = (match h.1[m]? with | some (.inl (ci, fs)) => (match lkF 12 9 ci with | some k => (match fs[k]? with | some v => G sp sc [68, 100, 109, 148, 220] d mX12_thaw n 40 L (v :: r) h Q | none => False) | none => False) | _ => False)) ∧
  (∀ (n d : Nat) (L : List (Option iV)) (st : List iV) (h : iH) (Q : Option iV → iH → Prop), G sp sc [68, 100, 109, 148, 220] d mX12_thaw (n + 1) 40 L st h Q = (match ld L 1 with | some (.inl x) => G sp sc [68, 100, 109, 148, 220] d mX12_thaw n 41 L (.inl x :: st) h Q | _ => False)) ∧
  (∀ (n d : Nat) (L : List (Option iV)) (r : List iV) (z0 : iV) (z1 : iV) (h : iH) (Q : Option iV → iH → Prop), G sp sc [68, 100, 109, 148, 220] (d + 1) mX12_thaw (n + 1) 41 L (z1 :: z0 :: r) h Q = (cs r ≤ 8 ∧ Call sp sc d mX12_goesOn [z0, z1] h (fun q h1 => GC sp sc [68, 100, 109, 148, 220] (d + 1) mX12_thaw n 44 L q r h h1 Q))) ∧
  (∀ (n d : Nat) (L : List (Option iV)) (a : Int) (r : List iV) (h : iH) (Q : Option iV → iH → Prop), G sp sc [68, 100, 109, 148, 220] d mX12_thaw (n + 1) 44 L (.inl a :: r) h Q = (inI a = true ∧ (¬ a = 0 → G sp sc [68, 100, 109, 148, 220] d mX12_thaw n 50 L r h Q) ∧ (¬ (¬ a = 0) → G sp sc [68, 100, 109, 148, 220] d mX12_thaw n 47 L r h Q))) ∧
  (∀ (n d : Nat) (L : List (Option iV)) (st : List iV) (h : iH) (Q : Option iV → iH → Prop), G sp sc [68, 100, 109, 148, 220] d mX12_thaw (n + 1) 47 L st h Q = ((-128 ≤ ((-3) : Int) ∧ ((-3) : Int) < 128) ∧ G sp sc [68, 100, 109, 148, 220] d mX12_thaw n 49 L (.inl (-3) :: st) h Q)) ∧
  (∀ (n d : Nat) (L : List (Option iV)) (a : Int) (h : iH) (Q : Option iV → iH → Prop), G sp sc [68, 100, 109, 148, 220] d mX12_thaw (n + 1) 49 L [.inl a] h Q = Q (some (.inl a)) h) ∧
  (∀ (n d : Nat) (L : List (Option iV)) (st : List iV) (h : iH) (Q : Option iV → iH → Prop), G sp sc [68, 100, 109, 148, 220] d mX12_thaw (n + 1) 50 L st h Q = ((-128 ≤ (6 : Int) ∧ (6 : Int) < 128) ∧ G sp sc [68, 100, 109, 148, 220] d mX12_thaw n 52 L (.inl 6 :: st) h Q)) ∧
  (∀ (n d : Nat) (L : List (Option iV)) (st : List iV) (h : iH) (Q : Option iV → iH → Prop), G sp sc [68, 100, 109, 148, 220] d mX12_thaw (n + 1) 52 L st h Q = (match ld L 0 with | some (.inr (.inr (r + 1))) => G sp sc [68, 100, 109, 148, 220] d mX12_thaw n 53 L (.inr (.inr (r + 1)) :: st) h Q | _ => False)) ∧
  (∀ (n d : Nat) (L : List (Option iV)) (r : List iV) (m : Nat) (h : iH) (Q : Option iV → iH → Prop), G sp sc [68, 100, 109, 148, 220] d mX12_thaw (n + 1) 53 L (.inr (.inr (m + 2)) :: r) h Q = (match h.1[m]? with | some (.inl (ci, fs)) => (match lkF 12 9 ci with | some k => (match fs[k]? with | some v => G sp sc [68, 100, 109, 148, 220] d mX12_thaw n 56 L (v :: r) h Q | none => False) | none => False) | _ => False)) ∧
  (∀ (n d : Nat) (L : List (Option iV)) (st : List iV) (h : iH) (Q : Option iV → iH → Prop), G sp sc [68, 100, 109, 148, 220] d mX12_thaw (n + 1) 56 L st h Q = (match ld L 1 with | some (.inl x) => G sp sc [68, 100, 109, 148, 220] d mX12_thaw n 57 L (.inl x :: st) h Q | _ => False)) ∧
  (∀ (n d : Nat) (L : List (Option iV)) (st : List iV) (h : iH) (Q : Option iV → iH → Prop), G sp sc [68, 100, 109, 148, 220] d mX12_thaw (n + 1) 57 L st h Q = G sp sc [68, 100, 109, 148, 220] d mX12_thaw n 58 L (.inl 3 :: st) h Q) ∧
  (∀ (n d : Nat) (L : List (Option iV)) (r : List iV) (z0 : iV) (z1 : iV) (h : iH) (Q : Option iV → iH → Prop), G sp sc [68, 100, 109, 148, 220] (d + 1) mX12_thaw (n + 1) 58 L (z1 :: z0 :: r) h Q = (cs r ≤ 8 ∧ Call sp sc d mX12_atCouple [z0, z1] h (fun q h1 => GC sp sc [68, 100, 109, 148, 220] (d + 1) mX12_thaw n 61 L q r h h1 Q))) ∧
  (∀ (n d : Nat) (L : List (Option iV)) (r : List iV) (j : Int) (m : Nat) (h : iH) (Q : Option iV → iH → Prop), G sp sc [68, 100, 109, 148, 220] d mX12_thaw (n + 1) 61 L (.inl j :: .inr (.inr (m + 2)) :: r) h Q = (match h.1[m]? with | some (.inr (.inl (0, xs))) => inA j xs.length = true ∧ G sp sc [68, 100, 109, 148, 220] d mX12_thaw n 62 L (.inl (xs.getD j.toNat 0) :: r) h Q | _ => False)) ∧
  (∀ (n d : Nat) (L : List (Option iV)) (a : Int) (b : Int) (r : List iV) (h : iH) (Q : Option iV → iH → Prop), G sp sc [68, 100, 109, 148, 220] d mX12_thaw (n + 1) 62 L (.inl b :: .inl a :: r) h Q = G sp sc [68, 100, 109, 148, 220] d mX12_thaw n 63 L (.inl (a - b) :: r) h Q) ∧
  (∀ (n d : Nat) (L : List (Option iV)) (r : List iV) (x : Int) (h : iH) (Q : Option iV → iH → Prop), G sp sc [68, 100, 109, 148, 220] d mX12_thaw (n + 1) 63 L (.inl x :: r) h Q = (match st1 L 5 (.inl x) with | some L' => G sp sc [68, 100, 109, 148, 220] d mX12_thaw n 65 L' r h Q | none => False)) ∧
  (∀ (n d : Nat) (L : List (Option iV)) (st : List iV) (h : iH) (Q : Option iV → iH → Prop), G sp sc [68, 100, 109, 148, 220] d mX12_thaw (n + 1) 65 L st h Q = G sp sc [68, 100, 109, 148, 220] d mX12_thaw n 66 L (.inl 0 :: st) h Q) ∧
  (∀ (n d : Nat) (L : List (Option iV)) (r : List iV) (x : Int) (h : iH) (Q : Option iV → iH → Prop), G sp sc [68, 100, 109, 148, 220] d mX12_thaw (n + 1) 66 L (.inl x :: r) h Q = (match st1 L 6 (.inl x) with | some L' => Run sp sc d mX12_thaw 68 L' r h Q | none => False)) ∧
  (∀ (n d : Nat) (L : List (Option iV)) (st : List iV) (h : iH) (Q : Option iV → iH → Prop), G sp sc [68, 100, 109, 148, 220] d mX12_thaw (n + 1) 68 L st h Q = (match ld L 6 with | some (.inl x) => G sp sc [68, 100, 109, 148, 220] d mX12_thaw n 70 L (.inl x :: st) h Q | _ => False)) ∧
  (∀ (n d : Nat) (L : List (Option iV)) (st : List iV) (h : iH) (Q : Option iV → iH → Prop), G sp sc [68, 100, 109, 148, 220] d mX12_thaw (n + 1) 70 L st h Q = ((-32768 ≤ (448 : Int) ∧ (448 : Int) < 32768) ∧ G sp sc [68, 100, 109, 148, 220] d mX12_thaw n 73 L (.inl 448 :: st) h Q)) ∧
  (∀ (n d : Nat) (L : List (Option iV)) (a : Int) (b : Int) (r : List iV) (h : iH) (Q : Option iV → iH → Prop), G sp sc [68, 100, 109, 148, 220] d mX12_thaw (n + 1) 73 L (.inl b :: .inl a :: r) h Q = ((inI a = true ∧ inI b = true) ∧ (b ≤ a → G sp sc [68, 100, 109, 148, 220] d mX12_thaw n 90 L r h Q) ∧ (¬ (b ≤ a) → G sp sc [68, 100, 109, 148, 220] d mX12_thaw n 76 L r h Q))) ∧
  (∀ (n d : Nat) (L : List (Option iV)) (st : List iV) (h : iH) (Q : Option iV → iH → Prop), G sp sc [68, 100, 109, 148, 220] d mX12_thaw (n + 1) 76 L st h Q = (match ld L 0 with | some (.inr (.inr (r + 1))) => G sp sc [68, 100, 109, 148, 220] d mX12_thaw n 77 L (.inr (.inr (r + 1)) :: st) h Q | _ => False)) ∧
  (∀ (n d : Nat) (L : List (Option iV)) (r : List iV) (m : Nat) (h : iH) (Q : Option iV → iH → Prop), G sp sc [68, 100, 109, 148, 220] d mX12_thaw (n + 1) 77 L (.inr (.inr (m + 2)) :: r) h Q = (match h.1[m]? with | some (.inl (ci, fs)) => (match lkF 12 43 ci with | some k => (match fs[k]? with | some v => G sp sc [68, 100, 109, 148, 220] d mX12_thaw n 80 L (v :: r) h Q | none => False) | none => False) | _ => False)) ∧
  (∀ (n d : Nat) (L : List (Option iV)) (st : List iV) (h : iH) (Q : Option iV → iH → Prop), G sp sc [68, 100, 109, 148, 220] d mX12_thaw (n + 1) 80 L st h Q = (match ld L 6 with | some (.inl x) => G sp sc [68, 100, 109, 148, 220] d mX12_thaw n 82 L (.inl x :: st) h Q | _ => False)) ∧
  (∀ (n d : Nat) (L : List (Option iV)) (st : List iV) (h : iH) (Q : Option iV → iH → Prop), G sp sc [68, 100, 109, 148, 220] d mX12_thaw (n + 1) 82 L st h Q = G sp sc [68, 100, 109, 148, 220] d mX12_thaw n 83 L (.inl 0 :: st) h Q) ∧
  (∀ (n d : Nat) (L : List (Option iV)) (r : List iV) (v : Int) (j : Int) (m : Nat) (h : iH) (Q : Option iV → iH → Prop), G sp sc [68, 100, 109, 148, 220] d mX12_thaw (n + 1) 83 L (.inl v :: .inl j :: .inr (.inr (m + 2)) :: r) h Q = (match h.1[m]? with | some (.inr (.inl (0, xs))) => inA j xs.length = true ∧ G sp sc [68, 100, 109, 148, 220] d mX12_thaw n 84 L r (h.1.set m (.inr (.inl (0, xs.set j.toNat v))), h.2) Q | _ => False)) ∧
  (∀ (n d : Nat) (L : List (Option iV)) (st : List iV) (h : iH) (Q : Option iV → iH → Prop), G sp sc [68, 100, 109, 148, 220] d mX12_thaw (n + 1) 84 L st h Q = (match ld L 6 with | some (.inl x) => (match st1 L 6 (.inl (x + 1)) with | some L' => G sp sc [68, 100, 109, 148, 220] d mX12_thaw n 87 L' st h Q | none => False) | _ => False)) ∧
  (∀ (n d : Nat) (L : List (Option iV)) (st : List iV) (h : iH) (Q : Option iV → iH → Prop), G sp sc [68, 100, 109, 148, 220] d mX12_thaw (n + 1) 87 L st h Q = Run sp sc d mX12_thaw 68 L st h Q) ∧
  (∀ (n d : Nat) (L : List (Option iV)) (st : List iV) (h : iH) (Q : Option iV → iH → Prop), G sp sc [68, 100, 109, 148, 220] d mX12_thaw (n + 1) 90 L st h Q = (match ld L 0 with | some (.inr (.inr (r + 1))) => G sp sc [68, 100, 109, 148, 220] d mX12_thaw n 91 L (.inr (.inr (r + 1)) :: st) h Q | _ => False)) ∧
  (∀ (n d : Nat) (L : List (Option iV)) (r : List iV) (m : Nat) (h : iH) (Q : Option iV → iH → Prop), G sp sc [68, 100, 109, 148, 220] d mX12_thaw (n + 1) 91 L (.inr (.inr (m + 2)) :: r) h Q = (match h.1[m]? with | some (.inl (ci, fs)) => (match lkF 12 43 ci with | some k => (match fs[k]? with | some v => G sp sc [68, 100, 109, 148, 220] d mX12_thaw n 94 L (v :: r) h Q | none => False) | none => False) | _ => False)) ∧
  (∀ (n d : Nat) (L : List (Option iV)) (st : List iV) (h : iH) (Q : Option iV → iH → Prop), G sp sc [68, 100, 109, 148, 220] d mX12_thaw (n + 1) 94 L st h Q = G sp sc [68, 100, 109, 148, 220] d mX12_thaw n 95 L (.inl 0 :: st) h Q) ∧
  (∀ (n d : Nat) (L : List (Option iV)) (st : List iV) (h : iH) (Q : Option iV → iH → Prop), G sp sc [68, 100, 109, 148, 220] d mX12_thaw (n + 1) 95 L st h Q = G sp sc [68, 100, 109, 148, 220] d mX12_thaw n 96 L (.inl 1 :: st) h Q) ∧
  (∀ (n d : Nat) (L : List (Option iV)) (r : List iV) (v : Int) (j : Int) (m : Nat) (h : iH) (Q : Option iV → iH → Prop), G sp sc [68, 100, 109, 148, 220] d mX12_thaw (n + 1) 96 L (.inl v :: .inl j :: .inr (.inr (m + 2)) :: r) h Q = (match h.1[m]? with | some (.inr (.inl (0, xs))) => inA j xs.length = true ∧ G sp sc [68, 100, 109, 148, 220] d mX12_thaw n 97 L r (h.1.set m (.inr (.inl (0, xs.set j.toNat v))), h.2) Q | _ => False)) ∧
  (∀ (n d : Nat) (L : List (Option iV)) (st : List iV) (h : iH) (Q : Option iV → iH → Prop), G sp sc [68, 100, 109, 148, 220] d mX12_thaw (n + 1) 97 L st h Q = G sp sc [68, 100, 109, 148, 220] d mX12_thaw n 98 L (.inl 0 :: st) h Q) ∧
  (∀ (n d : Nat) (L : List (Option iV)) (r : List iV) (x : Int) (h : iH) (Q : Option iV → iH → Prop), G sp sc [68, 100, 109, 148, 220] d mX12_thaw (n + 1) 98 L (.inl x :: r) h Q = (match st1 L 6 (.inl x) with | some L' => Run sp sc d mX12_thaw 100 L' r h Q | none => False)) ∧
  (∀ (n d : Nat) (L : List (Option iV)) (st : List iV) (h : iH) (Q : Option iV → iH → Prop), G sp sc [68, 100, 109, 148, 220] d mX12_thaw (n + 1) 100 L st h Q = (match ld L 6 with | some (.inl x) => G sp sc [68, 100, 109, 148, 220] d mX12_thaw n 102 L (.inl x :: st) h Q | _ => False)) ∧
  (∀ (n d : Nat) (L : List (Option iV)) (st : List iV) (h : iH) (Q : Option iV → iH → Prop), G sp sc [68, 100, 109, 148, 220] d mX12_thaw (n + 1) 102 L st h Q = (match ld L 2 with | some (.inl x) => G sp sc [68, 100, 109, 148, 220] d mX12_thaw n 103 L (.inl x :: st) h Q | _ => False)) ∧
  (∀ (n d : Nat) (L : List (Option iV)) (a : Int) (b : Int) (r : List iV) (h : iH) (Q : Option iV → iH → Prop), G sp sc [68, 100, 109, 148, 220] d mX12_thaw (n + 1) 103 L (.inl b :: .inl a :: r) h Q = ((inI a = true ∧ inI b = true) ∧ (b ≤ a → G sp sc [68, 100, 109, 148, 220] d mX12_thaw n 186 L r h Q) ∧ (¬ (b ≤ a) → G sp sc [68, 100, 109, 148, 220] d mX12_thaw n 106 L r h Q))) ∧
  (∀ (n d : Nat) (L : List (Option iV)) (st : List iV) (h : iH) (Q : Option iV → iH → Prop), G sp sc [68, 100, 109, 148, 220] d mX12_thaw (n + 1) 106 L st h Q = G sp sc [68, 100, 109, 148, 220] d mX12_thaw n 107 L (.inl 0 :: st) h Q) ∧
  (∀ (n d : Nat) (L : List (Option iV)) (r : List iV) (x : Int) (h : iH) (Q : Option iV → iH → Prop), G sp sc [68, 100, 109, 148, 220] d mX12_thaw (n + 1) 107 L (.inl x :: r) h Q = (match st1 L 7 (.inl x) with | some L' => Run sp sc d mX12_thaw 109 L' r h Q | none => False)) ∧
  (∀ (n d : Nat) (L : List (Option iV)) (st : List iV) (h : iH) (Q : Option iV → iH → Prop), G sp sc [68, 100, 109, 148, 220] d mX12_thaw (n + 1) 109 L st h Q = (match ld L 7 with | some (.inl x) => G sp sc [68, 100, 109, 148, 220] d mX12_thaw n 111 L (.inl x :: st) h Q | _ => False)) ∧
  (∀ (n d : Nat) (L : List (Option iV)) (st : List iV) (h : iH) (Q : Option iV → iH → Prop), G sp sc [68, 100, 109, 148, 220] d mX12_thaw (n + 1) 111 L st h Q = (match ld L 5 with | some (.inl x) => G sp sc [68, 100, 109, 148, 220] d mX12_thaw n 113 L (.inl x :: st) h Q | _ => False)) ∧
  (∀ (n d : Nat) (L : List (Option iV)) (a : Int) (b : Int) (r : List iV) (h : iH) (Q : Option iV → iH → Prop), G sp sc [68, 100, 109, 148, 220] d mX12_thaw (n + 1) 113 L (.inl b :: .inl a :: r) h Q = ((inI a = true ∧ inI b = true) ∧ (b < a → G sp sc [68, 100, 109, 148, 220] d mX12_thaw n 145 L r h Q) ∧ (¬ (b < a) → G sp sc [68, 100, 109, 148, 220] d mX12_thaw n 116 L r h Q))) ∧
  (∀ (n d : Nat) (L : List (Option iV)) (st : List iV) (h : iH) (Q : Option iV → iH → Prop), G sp sc [68, 100, 109, 148, 220] d mX12_thaw (n + 1) 116 L st h Q = (match ld L 0 with | some (.inr (.inr (r + 1))) => G sp sc [68, 100, 109, 148, 220] d mX12_thaw n 117 L (.inr (.inr (r + 1)) :: st) h Q | _ => False)) ∧
  (∀ (n d : Nat) (L : List (Option iV)) (st : List iV) (h : iH) (Q : Option iV → iH → Prop), G sp sc [68, 100, 109, 148, 220] d mX12_thaw (n + 1) 117 L st h Q = (match ld L 7 with | some (.inl x) => G sp sc [68, 100, 109, 148, 220] d mX12_thaw n 119 L (.inl x :: st) h Q | _ => False)) ∧
  (∀ (n d : Nat) (L : List (Option iV)) (st : List iV) (h : iH) (Q : Option iV → iH → Prop), G sp sc [68, 100, 109, 148, 220] d mX12_thaw (n + 1) 119 L st h Q = (match ld L 7 with | some (.inl x) => G sp sc [68, 100, 109, 148, 220] d mX12_thaw n 121 L (.inl x :: st) h Q | _ => False)) ∧
  (∀ (n d : Nat) (L : List (Option iV)) (st : List iV) (h : iH) (Q : Option iV → iH → Prop), G sp sc [68, 100, 109, 148, 220] d mX12_thaw (n + 1) 121 L st h Q = (match ld L 5 with | some (.inl x) => G sp sc [68, 100, 109, 148, 220] d mX12_thaw n 123 L (.inl x :: st) h Q | _ => False)) ∧
  (∀ (n d : Nat) (L : List (Option iV)) (a : Int) (b : Int) (r : List iV) (h : iH) (Q : Option iV → iH → Prop), G sp sc [68, 100, 109, 148, 220] d mX12_thaw (n + 1) 123 L (.inl b :: .inl a :: r) h Q = ((inI a = true ∧ inI b = true) ∧ (¬ a = b → G sp sc [68, 100, 109, 148, 220] d mX12_thaw n 131 L r h Q) ∧ (¬ (¬ a = b) → G sp sc [68, 100, 109, 148, 220] d mX12_thaw n 126 L r h Q))) ∧
  (∀ (n d : Nat) (L : List (Option iV)) (st : List iV) (h : iH) (Q : Option iV → iH → Prop), G sp sc [68, 100, 109, 148, 220] d mX12_thaw (n + 1) 126 L st h Q = ((-128 ≤ (10 : Int) ∧ (10 : Int) < 128) ∧ G sp sc [68, 100, 109, 148, 220] d mX12_thaw n 128 L (.inl 10 :: st) h Q)) ∧
  (∀ (n d : Nat) (L : List (Option iV)) (st : List iV) (h : iH) (Q : Option iV → iH → Prop), G sp sc [68, 100, 109, 148, 220] d mX12_thaw (n + 1) 128 L st h Q = G sp sc [68, 100, 109, 148, 220] d mX12_thaw n 135 L st h Q) ∧
  (∀ (n d : Nat) (L : List (Option iV)) (st : List iV) (h : iH) (Q : Option iV → iH → Prop), G sp sc [68, 100, 109, 148, 220] d mX12_thaw (n + 1) 131 L st h Q = ((-128 ≤ (10 : Int) ∧ (10 : Int) < 128) ∧ G sp sc [68, 100, 109, 148, 220] d mX12_thaw n 133 L (.inl 10 :: st) h Q)) ∧
  (∀ (n d : Nat) (L : List (Option iV)) (st : List iV) (h : iH) (Q : Option iV → iH → Prop), G sp sc [68, 100, 109, 148, 220] d mX12_thaw (n + 1) 133 L st h Q = (match ld L 3 with | some (.inl x) => G sp sc [68, 100, 109, 148, 220] d mX12_thaw n 134 L (.inl x :: st) h Q | _ => False)) ∧
  (∀ (n d : Nat) (L : List (Option iV)) (a : Int) (b : Int) (r : List iV) (h : iH) (Q : Option iV → iH → Prop), G sp sc [68, 100, 109, 148, 220] d mX12_thaw (n + 1) 134 L (.inl b :: .inl a :: r) h Q = G sp sc [68, 100, 109, 148, 220] d mX12_thaw n 135 L (.inl (a - b) :: r) h Q) ∧
  (∀ (n d : Nat) (L : List (Option iV)) (st : List iV) (h : iH) (Q : Option iV → iH → Prop), G sp sc [68, 100, 109, 148, 220] d mX12_thaw (n + 1) 135 L st h Q = (match ld L 3 with | some (.inl x) => G sp sc [68, 100, 109, 148, 220] d mX12_thaw n 136 L (.inl x :: st) h Q | _ => False)) ∧
  (∀ (n d : Nat) (L : List (Option iV)) (r : List iV) (m : Nat) (z0 : iV) (z1 : iV) (z2 : iV) (h : iH) (Q : Option iV → iH → Prop), G sp sc [68, 100, 109, 148, 220] (d + 1) mX12_thaw (n + 1) 136 L (z2 :: z1 :: z0 :: .inr (.inr (m + 2)) :: r) h Q = (match h.1[m]? with | some (.inl (ci, _)) => (match lkC 12 275 ci with | some (y1, n1, kd) => (n1 = 3 ∧ (kd = 2 ∨ kd = 3 ∨ kd = 8) ∧ cs r ≤ 8) ∧ Call sp sc d y1 [.inr (.inr (m + 2)), z0, z1, z2] h (fun q h1 => GC sp sc [68, 100, 109, 148, 220] (d + 1) mX12_thaw n 139 L q r h h1 Q) | none => False) | _ => False)) ∧
  (∀ (n d : Nat) (L : List (Option iV)) (st : List iV) (h : iH) (Q : Option iV → iH → Prop), G sp sc [68, 100, 109, 148, 220] d mX12_thaw (n + 1) 139 L st h Q = (match ld L 7 with | some (.inl x) => (match st1 L 7 (.inl (x + 1)) with | some L' => G sp sc [68, 100, 109, 148, 220] d mX12_thaw n 142 L' st h Q | none => False) | _ => False)) ∧
  (∀ (n d : Nat) (L : List (Option iV)) (st : List iV) (h : iH) (Q : Option iV → iH → Prop), G sp sc [68, 100, 109, 148, 220] d mX12_thaw (n + 1) 142 L st h Q = Run sp sc d mX12_thaw 109 L st h Q) ∧
  (∀ (n d : Nat) (L : List (Option iV)) (st : List iV) (h : iH) (Q : Option iV → iH → Prop), G sp sc [68, 100, 109, 148, 220] d mX12_thaw (n + 1) 145 L st h Q = G sp sc [68, 100, 109, 148, 220] d mX12_thaw n 146 L (.inl 0 :: st) h Q) ∧
  (∀ (n d : Nat) (L : List (Option iV)) (r : List iV) (x : Int) (h : iH) (Q : Option iV → iH → Prop), G sp sc [68, 100, 109, 148, 220] d mX12_thaw (n + 1) 146 L (.inl x :: r) h Q = (match st1 L 7 (.inl x) with | some L' => Run sp sc d mX12_thaw 148 L' r h Q | none => False)) ∧
  (∀ (n d : Nat) (L : List (Option iV)) (st : List iV) (h : iH) (Q : Option iV → iH → Prop), G sp sc [68, 100, 109, 148, 220] d mX12_thaw (n + 1) 148 L st h Q = (match ld L 7 with | some (.inl x) => G sp sc [68, 100, 109, 148, 220] d mX12_thaw n 150 L (.inl x :: st) h Q | _ => False)) ∧
  (∀ (n d : Nat) (L : List (Option iV)) (st : List iV) (h : iH) (Q : Option iV → iH → Prop), G sp sc [68, 100, 109, 148, 220] d mX12_thaw (n + 1) 150 L st h Q = (match ld L 5 with | some (.inl x) => G sp sc [68, 100, 109, 148, 220] d mX12_thaw n 152 L (.inl x :: st) h Q | _ => False)) ∧
  (∀ (n d : Nat) (L : List (Option iV)) (st : List iV) (h : iH) (Q : Option iV → iH → Prop), G sp sc [68, 100, 109, 148, 220] d mX12_thaw (n + 1) 152 L st h Q = G sp sc [68, 100, 109, 148, 220] d mX12_thaw n 153 L (.inl 1 :: st) h Q) ∧
  (∀ (n d : Nat) (L : List (Option iV)) (a : Int) (b : Int) (r : List iV) (h : iH) (Q : Option iV → iH → Prop), G sp sc [68, 100, 109, 148, 220] d mX12_thaw (n + 1) 153 L (.inl b :: .inl a :: r) h Q = G sp sc [68, 100, 109, 148, 220] d mX12_thaw n 154 L (.inl (a + b) :: r) h Q) ∧
  (∀ (n d : Nat) (L : List (Option iV)) (st : List iV) (h : iH) (Q : Option iV → iH → Prop), G sp sc [68, 100, 109, 148, 220] d mX12_thaw (n + 1) 154 L st h Q = ((-128 ≤ (64 : Int) ∧ (64 : Int) < 128) ∧ G sp sc [68, 100, 109, 148, 220] d mX12_thaw n 156 L (.inl 64 :: st) h Q)) ∧
  (∀ (n d : Nat) (L : List (Option iV)) (a : Int) (b : Int) (r : List iV) (h : iH) (Q : Option iV → iH → Prop), G sp sc [68, 100, 109, 148, 220] d mX12_thaw (n + 1) 156 L (.inl b :: .inl a :: r) h Q = G sp sc [68, 100, 109, 148, 220] d mX12_thaw n 157 L (.inl (a * b) :: r) h Q) ∧
  (∀ (n d : Nat) (L : List (Option iV)) (a : Int) (b : Int) (r : List iV) (h : iH) (Q : Option iV → iH → Prop), G sp sc [68, 100, 109, 148, 220] d mX12_thaw (n + 1) 157 L (.inl b :: .inl a :: r) h Q = ((inI a = true ∧ inI b = true) ∧ (b ≤ a → G sp sc [68, 100, 109, 148, 220] d mX12_thaw n 180 L r h Q) ∧ (¬ (b ≤ a) → G sp sc [68, 100, 109, 148, 220] d mX12_thaw n 160 L r h Q))) ∧
  (∀ (n d : Nat) (L : List (Option iV)) (st : List iV) (h : iH) (Q : Option iV → iH → Prop), G sp sc [68, 100, 109, 148, 220] d mX12_thaw (n + 1) 160 L st h Q = (match ld L 0 with | some (.inr (.inr (r + 1))) => G sp sc [68, 100, 109, 148, 220] d mX12_thaw n 161 L (.inr (.inr (r + 1)) :: st) h Q | _ => False)) ∧
  (∀ (n d : Nat) (L : List (Option iV)) (r : List iV) (m : Nat) (h : iH) (Q : Option iV → iH → Prop), G sp sc [68, 100, 109, 148, 220] d mX12_thaw (n + 1) 161 L (.inr (.inr (m + 2)) :: r) h Q = (match h.1[m]? with | some (.inl (ci, fs)) => (match lkF 12 43 ci with | some k => (match fs[k]? with | some v => G sp sc [68, 100, 109, 148, 220] d mX12_thaw n 164 L (v :: r) h Q | none => False) | none => False) | _ => False)) ∧
  (∀ (n d : Nat) (L : List (Option iV)) (st : List iV) (h : iH) (Q : Option iV → iH → Prop), G sp sc [68, 100, 109, 148, 220] d mX12_thaw (n + 1) 164 L st h Q = (match ld L 7 with | some (.inl x) => G sp sc [68, 100, 109, 148, 220] d mX12_thaw n 166 L (.inl x :: st) h Q | _ => False)) ∧
  (∀ (n d : Nat) (L : List (Option iV)) (st : List iV) (h : iH) (Q : Option iV → iH → Prop), G sp sc [68, 100, 109, 148, 220] d mX12_thaw (n + 1) 166 L st h Q = (match ld L 0 with | some (.inr (.inr (r + 1))) => G sp sc [68, 100, 109, 148, 220] d mX12_thaw n 167 L (.inr (.inr (r + 1)) :: st) h Q | _ => False)) ∧
  (∀ (n d : Nat) (L : List (Option iV)) (r : List iV) (m : Nat) (h : iH) (Q : Option iV → iH → Prop), G sp sc [68, 100, 109, 148, 220] d mX12_thaw (n + 1) 167 L (.inr (.inr (m + 2)) :: r) h Q = (match h.1[m]? with | some (.inl (ci, fs)) => (match lkF 12 46 ci with | some k => (match fs[k]? with | some v => G sp sc [68, 100, 109, 148, 220] d mX12_thaw n 170 L (v :: r) h Q | none => False) | none => False) | _ => False)) ∧
  (∀ (n d : Nat) (L : List (Option iV)) (st : List iV) (h : iH) (Q : Option iV → iH → Prop), G sp sc [68, 100, 109, 148, 220] d mX12_thaw (n + 1) 170 L st h Q = (match ld L 7 with | some (.inl x) => G sp sc [68, 100, 109, 148, 220] d mX12_thaw n 172 L (.inl x :: st) h Q | _ => False)) ∧
  (∀ (n d : Nat) (L : List (Option iV)) (r : List iV) (j : Int) (m : Nat) (h : iH) (Q : Option iV → iH → Prop), G sp sc [68, 100, 109, 148, 220] d mX12_thaw (n + 1) 172 L (.inl j :: .inr (.inr (m + 2)) :: r) h Q = (match h.1[m]? with | some (.inr (.inl (0, xs))) => inA j xs.length = true ∧ G sp sc [68, 100, 109, 148, 220] d mX12_thaw n 173 L (.inl (xs.getD j.toNat 0) :: r) h Q | _ => False)) ∧
  (∀ (n d : Nat) (L : List (Option iV)) (r : List iV) (v : Int) (j : Int) (m : Nat) (h : iH) (Q : Option iV → iH → Prop), G sp sc [68, 100, 109, 148, 220] d mX12_thaw (n + 1) 173 L (.inl v :: .inl j :: .inr (.inr (m + 2)) :: r) h Q = (match h.1[m]? with | some (.inr (.inl (0, xs))) => inA j xs.length = true ∧ G sp sc [68, 100, 109, 148, 220] d mX12_thaw n 174 L r (h.1.set m (.inr (.inl (0, xs.set j.toNat v))), h.2) Q | _ => False)) ∧
  (∀ (n d : Nat) (L : List (Option iV)) (st : List iV) (h : iH) (Q : Option iV → iH → Prop), G sp sc [68, 100, 109, 148, 220] d mX12_thaw (n + 1) 174 L st h Q = (match ld L 7 with | some (.inl x) => (match st1 L 7 (.inl (x + 1)) with | some L' => G sp sc [68, 100, 109, 148, 220] d mX12_thaw n 177 L' st h Q | none => False) | _ => False)) ∧
  (∀ (n d : Nat) (L : List (Option iV)) (st : List iV) (h : iH) (Q : Option iV → iH → Prop), G sp sc [68, 100, 109, 148, 220] d mX12_thaw (n + 1) 177 L st h Q = Run sp sc d mX12_thaw 148 L st h Q) ∧
  (∀ (n d : Nat) (L : List (Option iV)) (st : List iV) (h : iH) (Q : Option iV → iH → Prop), G sp sc [68, 100, 109, 148, 220] d mX12_thaw (n + 1) 180 L st h Q = (match ld L 6 with | some (.inl x) => (match st1 L 6 (.inl (x + 1)) with | some L' => G sp sc [68, 100, 109, 148, 220] d mX12_thaw n 183 L' st h Q | none => False) | _ => False)) ∧
  (∀ (n d : Nat) (L : List (Option iV)) (st : List iV) (h : iH) (Q : Option iV → iH → Prop), G sp sc [68, 100, 109, 148, 220] d mX12_thaw (n + 1) 183 L st h Q = Run sp sc d mX12_thaw 100 L st h Q) ∧
  (∀ (n d : Nat) (L : List (Option iV)) (st : List iV) (h : iH) (Q : Option iV → iH → Prop), G sp sc [68, 100, 109, 148, 220] d mX12_thaw (n + 1) 186 L st h Q = (match ld L 4 with | some (.inl x) => G sp sc [68, 100, 109, 148, 220] d mX12_thaw n 188 L (.inl x :: st) h Q | _ => False)) ∧
  (∀ (n d : Nat) (L : List (Option iV)) (a : Int) (r : List iV) (h : iH) (Q : Option iV → iH → Prop), G sp sc [68, 100, 109, 148, 220] d mX12_thaw (n + 1) 188 L (.inl a :: r) h Q = (inI a = true ∧ (a < 0 → G sp sc [68, 100, 109, 148, 220] d mX12_thaw n 216 L r h Q) ∧ (¬ (a < 0) → G sp sc [68, 100, 109, 148, 220] d mX12_thaw n 191 L r h Q))) ∧
  (∀ (n d : Nat) (L : List (Option iV)) (st : List iV) (h : iH) (Q : Option iV → iH → Prop), G sp sc [68, 100, 109, 148, 220] d mX12_thaw (n + 1) 191 L st h Q = (match ld L 4 with | some (.inl x) => G sp sc [68, 100, 109, 148, 220] d mX12_thaw n 193 L (.inl x :: st) h Q | _ => False)) ∧
  (∀ (n d : Nat) (L : List (Option iV)) (st : List iV) (h : iH) (Q : Option iV → iH → Prop), G sp sc [68, 100, 109, 148, 220] d mX12_thaw (n + 1) 193 L st h Q = ((-128 ≤ (64 : Int) ∧ (64 : Int) < 128) ∧ G sp sc [68, 100, 109, 148, 220] d mX12_thaw n 195 L (.inl 64 :: st) h Q)) ∧
  (∀ (n d : Nat) (L : List (Option iV)) (a : Int) (b : Int) (r : List iV) (h : iH) (Q : Option iV → iH → Prop), G sp sc [68, 100, 109, 148, 220] d mX12_thaw (n + 1) 195 L (.inl b :: .inl a :: r) h Q = ((inI a = true ∧ inI b = true) ∧ (b ≤ a → G sp sc [68, 100, 109, 148, 220] d mX12_thaw n 214 L r h Q) ∧ (¬ (b ≤ a) → G sp sc [68, 100, 109, 148, 220] d mX12_thaw n 198 L r h Q))) ∧
  (∀ (n d : Nat) (L : List (Option iV)) (st : List iV) (h : iH) (Q : Option iV → iH → Prop), G sp sc [68, 100, 109, 148, 220] d mX12_thaw (n + 1) 198 L st h Q = (match ld L 0 with | some (.inr (.inr (r + 1))) => G sp sc [68, 100, 109, 148, 220] d mX12_thaw n 199 L (.inr (.inr (r + 1)) :: st) h Q | _ => False)) ∧
  (∀ (n d : Nat) (L : List (Option iV)) (r : List iV) (m : Nat) (h : iH) (Q : Option iV → iH → Prop), G sp sc [68, 100, 109, 148, 220] d mX12_thaw (n + 1) 199 L (.inr (.inr (m + 2)) :: r) h Q = (match h.1[m]? with | some (.inl (ci, fs)) => (match lkF 12 43 ci with | some k => (match fs[k]? with | some v => G sp sc [68, 100, 109, 148, 220] d mX12_thaw n 202 L (v :: r) h Q | none => False) | none => False) | _ => False)) ∧
  (∀ (n d : Nat) (L : List (Option iV)) (st : List iV) (h : iH) (Q : Option iV → iH → Prop), G sp sc [68, 100, 109, 148, 220] d mX12_thaw (n + 1) 202 L st h Q = ((-128 ≤ (64 : Int) ∧ (64 : Int) < 128) ∧ G sp sc [68, 100, 109, 148, 220] d mX12_thaw n 204 L (.inl 64 :: st) h Q)) ∧
  (∀ (n d : Nat) (L : List (Option iV)) (st : List iV) (h : iH) (Q : Option iV → iH → Prop), G sp sc [68, 100, 109, 148, 220] d mX12_thaw (n + 1) 204 L st h Q = (match ld L 5 with | some (.inl x) => G sp sc [68, 100, 109, 148, 220] d mX12_thaw n 206 L (.inl x :: st) h Q | _ => False)) ∧
  (∀ (n d : Nat) (L : List (Option iV)) (a : Int) (b : Int) (r : List iV) (h : iH) (Q : Option iV → iH → Prop), G sp sc [68, 100, 109, 148, 220] d mX12_thaw (n + 1) 206 L (.inl b :: .inl a :: r) h Q = G sp sc [68, 100, 109, 148, 220] d mX12_thaw n 207 L (.inl (a * b) :: r) h Q) ∧
  (∀ (n d : Nat) (L : List (Option iV)) (st : List iV) (h : iH) (Q : Option iV → iH → Prop), G sp sc [68, 100, 109, 148, 220] d mX12_thaw (n + 1) 207 L st h Q = (match ld L 4 with | some (.inl x) => G sp sc [68, 100, 109, 148, 220] d mX12_thaw n 209 L (.inl x :: st) h Q | _ => False)) ∧
  (∀ (n d : Nat) (L : List (Option iV)) (a : Int) (b : Int) (r : List iV) (h : iH) (Q : Option iV → iH → Prop), G sp sc [68, 100, 109, 148, 220] d mX12_thaw (n + 1) 209 L (.inl b :: .inl a :: r) h Q = G sp sc [68, 100, 109, 148, 220] d mX12_thaw n 210 L (.inl (a + b) :: r) h Q) ∧
  (∀ (n d : Nat) (L : List (Option iV)) (r : List iV) (j : Int) (m : Nat) (h : iH) (Q : Option iV → iH → Prop), G sp sc [68, 100, 109, 148, 220] d mX12_thaw (n + 1) 210 L (.inl j :: .inr (.inr (m + 2)) :: r) h Q = (match h.1[m]? with | some (.inr (.inl (0, xs))) => inA j xs.length = true ∧ G sp sc [68, 100, 109, 148, 220] d mX12_thaw n 211 L (.inl (xs.getD j.toNat 0) :: r) h Q | _ => False)) ∧
  (∀ (n d : Nat) (L : List (Option iV)) (st : List iV) (h : iH) (Q : Option iV → iH → Prop), G sp sc [68, 100, 109, 148, 220] d mX12_thaw (n + 1) 211 L st h Q = G sp sc [68, 100, 109, 148, 220] d mX12_thaw n 215 L st h Q) ∧
  (∀ (n d : Nat) (L : List (Option iV)) (st : List iV) (h : iH) (Q : Option iV → iH → Prop), G sp sc [68, 100, 109, 148, 220] d mX12_thaw (n + 1) 214 L st h Q = G sp sc [68, 100, 109, 148, 220] d mX12_thaw n 215 L (.inl 0 :: st) h Q) ∧
  (∀ (n d : Nat) (L : List (Option iV)) (a : Int) (h : iH) (Q : Option iV → iH → Prop), G sp sc [68, 100, 109, 148, 220] d mX12_thaw (n + 1) 215 L [.inl a] h Q = Q (some (.inl a)) h) ∧
  (∀ (n d : Nat) (L : List (Option iV)) (st : List iV) (h : iH) (Q : Option iV → iH → Prop), G sp sc [68, 100, 109, 148, 220] d mX12_thaw (n + 1) 216 L st h Q = ((-128 ≤ (64 : Int) ∧ (64 : Int) < 128) ∧ G sp sc [68, 100, 109, 148, 220] d mX12_thaw n 218 L (.inl 64 :: st) h Q)) ∧
  (∀ (n d : Nat) (L : List (Option iV)) (r : List iV) (x : Int) (h : iH) (Q : Option iV → iH → Prop), G sp sc [68, 100, 109, 148, 220] d mX12_thaw (n + 1) 218 L (.inl x :: r) h Q = (match st1 L 6 (.inl x) with | some L' => Run sp sc d mX12_thaw 220 L' r h Q | none => False)) ∧
  (∀ (n d : Nat) (L : List (Option iV)) (st : List iV) (h : iH) (Q : Option iV → iH → Prop), G sp sc [68, 100, 109, 148, 220] d mX12_thaw (n + 1) 220 L st h Q = (match ld L 6 with | some (.inl x) => G sp sc [68, 100, 109, 148, 220] d mX12_thaw n 222 L (.inl x :: st) h Q | _ => False)) ∧
  (∀ (n d : Nat) (L : List (Option iV)) (st : List iV) (h : iH) (Q : Option iV → iH → Prop), G sp sc [68, 100, 109, 148, 220] d mX12_thaw (n + 1) 222 L st h Q = G sp sc [68, 100, 109, 148, 220] d mX12_thaw n 223 L (.inl 1 :: st) h Q) ∧
  (∀ (n d : Nat) (L : List (Option iV)) (a : Int) (b : Int) (r : List iV) (h : iH) (Q : Option iV → iH → Prop), G sp sc [68, 100, 109, 148, 220] d mX12_thaw (n + 1) 223 L (.inl b :: .inl a :: r) h Q = ((inI a = true ∧ inI b = true) ∧ (a ≤ b → G sp sc [68, 100, 109, 148, 220] d mX12_thaw n 250 L r h Q) ∧ (¬ (a ≤ b) → G sp sc [68, 100, 109, 148, 220] d mX12_thaw n 226 L r h Q))) ∧
  (∀ (n d : Nat) (L : List (Option iV)) (st : List iV) (h : iH) (Q : Option iV → iH → Prop), G sp sc [68, 100, 109, 148, 220] d mX12_thaw (n + 1) 226 L st h Q = (match ld L 0 with | some (.inr (.inr (r + 1))) => G sp sc [68, 100, 109, 148, 220] d mX12_thaw n 227 L (.inr (.inr (r + 1)) :: st) h Q | _ => False)) ∧
  (∀ (n d : Nat) (L : List (Option iV)) (r : List iV) (m : Nat) (h : iH) (Q : Option iV → iH → Prop), G sp sc [68, 100, 109, 148, 220] d mX12_thaw (n + 1) 227 L (.inr (.inr (m + 2)) :: r) h Q = (match h.1[m]? with | some (.inl (ci, fs)) => (match lkF 12 43 ci with | some k => (match fs[k]? with | some v => G sp sc [68, 100, 109, 148, 220] d mX12_thaw n 230 L (v :: r) h Q | none => False) | none => False) | _ => False)) ∧
  (∀ (n d : Nat) (L : List (Option iV)) (st : List iV) (h : iH) (Q : Option iV → iH → Prop), G sp sc [68, 100, 109, 148, 220] d mX12_thaw (n + 1) 230 L st h Q = ((-128 ≤ (64 : Int) ∧ (64 : Int) < 128) ∧ G sp sc [68, 100, 109, 148, 220] d mX12_thaw n 232 L (.inl 64 :: st) h Q)) ∧
  (∀ (n d : Nat) (L : List (Option iV)) (st : List iV) (h : iH) (Q : Option iV → iH → Prop), G sp sc [68, 100, 109, 148, 220] d mX12_thaw (n + 1) 232 L st h Q = (match ld L 5 with | some (.inl x) => G sp sc [68, 100, 109, 148, 220] d mX12_thaw n 234 L (.inl x :: st) h Q | _ => False)) ∧
  (∀ (n d : Nat) (L : List (Option iV)) (a : Int) (b : Int) (r : List iV) (h : iH) (Q : Option iV → iH → Prop), G sp sc [68, 100, 109, 148, 220] d mX12_thaw (n + 1) 234 L (.inl b :: .inl a :: r) h Q = G sp sc [68, 100, 109, 148, 220] d mX12_thaw n 235 L (.inl (a * b) :: r) h Q) ∧
  (∀ (n d : Nat) (L : List (Option iV)) (st : List iV) (h : iH) (Q : Option iV → iH → Prop), G sp sc [68, 100, 109, 148, 220] d mX12_thaw (n + 1) 235 L st h Q = (match ld L 6 with | some (.inl x) => G sp sc [68, 100, 109, 148, 220] d mX12_thaw n 237 L (.inl x :: st) h Q | _ => False)) ∧
  (∀ (n d : Nat) (L : List (Option iV)) (a : Int) (b : Int) (r : List iV) (h : iH) (Q : Option iV → iH → Prop), G sp sc [68, 100, 109, 148, 220] d mX12_thaw (n + 1) 237 L (.inl b :: .inl a :: r) h Q = G sp sc [68, 100, 109, 148, 220] d mX12_thaw n 238 L (.inl (a + b) :: r) h Q) ∧
  (∀ (n d : Nat) (L : List (Option iV)) (st : List iV) (h : iH) (Q : Option iV → iH → Prop), G sp sc [68, 100, 109, 148, 220] d mX12_thaw (n + 1) 238 L st h Q = G sp sc [68, 100, 109, 148, 220] d mX12_thaw n 239 L (.inl 1 :: st) h Q) ∧
  (∀ (n d : Nat) (L : List (Option iV)) (a : Int) (b : Int) (r : List iV) (h : iH) (Q : Option iV → iH → Prop), G sp sc [68, 100, 109, 148, 220] d mX12_thaw (n + 1) 239 L (.inl b :: .inl a :: r) h Q = G sp sc [68, 100, 109, 148, 220] d mX12_thaw n 240 L (.inl (a - b) :: r) h Q) ∧
  (∀ (n d : Nat) (L : List (Option iV)) (r : List iV) (j : Int) (m : Nat) (h : iH) (Q : Option iV → iH → Prop), G sp sc [68, 100, 109, 148, 220] d mX12_thaw (n + 1) 240 L (.inl j :: .inr (.inr (m + 2)) :: r) h Q = (match h.1[m]? with | some (.inr (.inl (0, xs))) => inA j xs.length = true ∧ G sp sc [68, 100, 109, 148, 220] d mX12_thaw n 241 L (.inl (xs.getD j.toNat 0) :: r) h Q | _ => False)) ∧
  (∀ (n d : Nat) (L : List (Option iV)) (a : Int) (r : List iV) (h : iH) (Q : Option iV → iH → Prop), G sp sc [68, 100, 109, 148, 220] d mX12_thaw (n + 1) 241 L (.inl a :: r) h Q = (inI a = true ∧ (¬ a = 0 → G sp sc [68, 100, 109, 148, 220] d mX12_thaw n 250 L r h Q) ∧ (¬ (¬ a = 0) → G sp sc [68, 100, 109, 148, 220] d mX12_thaw n 244 L r h Q))) ∧
  (∀ (n d : Nat) (L : List (Option iV)) (st : List iV) (h : iH) (Q : Option iV → iH → Prop), G sp sc [68, 100, 109, 148, 220] d mX12_thaw (n + 1) 244 L st h Q = (match ld L 6 with | some (.inl x) => (match st1 L 6 (.inl (x + (-1))) with | some L' => G sp sc [68, 100, 109, 148, 220] d mX12_thaw n 247 L' st h Q | none => False) | _ => False)) ∧
  (∀ (n d : Nat) (L : List (Option iV)) (st : List iV) (h : iH) (Q : Option iV → iH → Prop), G sp sc [68, 100, 109, 148, 220] d mX12_thaw (n + 1) 247 L st h Q = Run sp sc d mX12_thaw 220 L st h Q) ∧
  (∀ (n d : Nat) (L : List (Option iV)) (st : List iV) (h : iH) (Q : Option iV → iH → Prop), G sp sc [68, 100, 109, 148, 220] d mX12_thaw (n + 1) 250 L st h Q = (match ld L 6 with | some (.inl x) => G sp sc [68, 100, 109, 148, 220] d mX12_thaw n 252 L (.inl x :: st) h Q | _ => False)) ∧
  (∀ (n d : Nat) (L : List (Option iV)) (a : Int) (h : iH) (Q : Option iV → iH → Prop), G sp sc [68, 100, 109, 148, 220] d mX12_thaw (n + 1) 252 L [.inl a] h Q = Q (some (.inl a)) h) ∧
  lkC 12 208 12 = some (mX12_isCouple, 1, 2) ∧
  lkC 12 275 12 = some (mX12_thaws, 3, 2) ∧
  lkF 12 43 12 = some 23 ∧
  lkF 12 46 12 = some 24 ∧
  lkF 12 9 12 = some 0 := ⟨by intros; exact G_at (by decide +kernel : fetch mX12_thaw 0 = some (.aload_n 0)),
  by intros; exact G_at (by decide +kernel : fetch mX12_thaw 1 = some (.iload_n 1)),
  by intros; exact G_callV (by decide +kernel : fetch mX12_thaw 2 = some (.invokevirtual 208)) (by decide +kernel) (by decide +kernel) rfl,
  by intros; exact G_at (by decide +kernel : fetch mX12_thaw 5 = some (.ifCond .eq 29)),
  by intros; exact G_at (by decide +kernel : fetch mX12_thaw 8 = some (.iload_n 2)),
  by intros; exact G_at (by decide +kernel : fetch mX12_thaw 9 = some (.iconst 0)),
  by intros; exact G_at (by decide +kernel : fetch mX12_thaw 10 = some (.bipush 60)),
  by intros; exact G_callS (k := 3) (kd := 0) (by decide +kernel : fetch mX12_thaw 12 = some (.invokestatic 67)) (by decide +kernel) (by decide +kernel) (by decide +kernel) rfl (by decide),
  by intros; exact G_at (by decide +kernel : fetch mX12_thaw 15 = some (.ifCond .eq 19)),
  by intros; exact G_at (by decide +kernel : fetch mX12_thaw 18 = some (.iload_n 3)),
  by intros; exact G_at (by decide +kernel : fetch mX12_thaw 19 = some (.iconst 1)),
  by intros; exact G_at (by decide +kernel : fetch mX12_thaw 20 = some (.bipush 9)),
  by intros; exact G_callS (k := 3) (kd := 0) (by decide +kernel : fetch mX12_thaw 22 = some (.invokestatic 67)) (by decide +kernel) (by decide +kernel) (by decide +kernel) rfl (by decide),
  by intros; exact G_at (by decide +kernel : fetch mX12_thaw 25 = some (.ifCond .eq 9)),
  by intros; exact G_at (by decide +kernel : fetch mX12_thaw 28 = some (.iload 4)),
  by intros; exact G_at (by decide +kernel : fetch mX12_thaw 30 = some (.iconst (-1))),
  by intros; exact G_at (by decide +kernel : fetch mX12_thaw 31 = some (.if_icmp .ge 5)),
  by intros; exact G_at (by decide +kernel : fetch mX12_thaw 34 = some (.iconst (-1))),
  by intros; exact G_reti (by decide +kernel : fetch mX12_thaw 35 = some (.ireturn)) (by decide +kernel),
  by intros; exact G_at (by decide +kernel : fetch mX12_thaw 36 = some (.aload_n 0)),
  by intros; exact G_own (by decide +kernel : fetch mX12_thaw 37 = some (.getfield 9)) (by decide +kernel),
  by intros; exact G_at (by decide +kernel : fetch mX12_thaw 40 = some (.iload_n 1)),
  by intros; exact G_callS (k := 2) (kd := 0) (by decide +kernel : fetch mX12_thaw 41 = some (.invokestatic 95)) (by decide +kernel) (by decide +kernel) (by decide +kernel) rfl (by decide),
  by intros; exact G_at (by decide +kernel : fetch mX12_thaw 44 = some (.ifCond .ne 6)),
  by intros; exact G_at (by decide +kernel : fetch mX12_thaw 47 = some (.bipush (-3))),
  by intros; exact G_reti (by decide +kernel : fetch mX12_thaw 49 = some (.ireturn)) (by decide +kernel),
  by intros; exact G_at (by decide +kernel : fetch mX12_thaw 50 = some (.bipush 6)),
  by intros; exact G_at (by decide +kernel : fetch mX12_thaw 52 = some (.aload_n 0)),
  by intros; exact G_own (by decide +kernel : fetch mX12_thaw 53 = some (.getfield 9)) (by decide +kernel),
  by intros; exact G_at (by decide +kernel : fetch mX12_thaw 56 = some (.iload_n 1)),
  by intros; exact G_at (by decide +kernel : fetch mX12_thaw 57 = some (.iconst 3)),
  by intros; exact G_callS (k := 2) (kd := 0) (by decide +kernel : fetch mX12_thaw 58 = some (.invokestatic 92)) (by decide +kernel) (by decide +kernel) (by decide +kernel) rfl (by decide),
  by intros; exact G_at (by decide +kernel : fetch mX12_thaw 61 = some (.iaload)),
  by intros; exact G_at (by decide +kernel : fetch mX12_thaw 62 = some (.isub)),
  by intros; exact G_at (by decide +kernel : fetch mX12_thaw 63 = some (.istore 5)),
  by intros; exact G_at (by decide +kernel : fetch mX12_thaw 65 = some (.iconst 0)),
  by intros; exact G_at (by decide +kernel : fetch mX12_thaw 66 = some (.istore 6)),
  by intros; exact G_at (by decide +kernel : fetch mX12_thaw 68 = some (.iload 6)),
  by intros; exact G_at (by decide +kernel : fetch mX12_thaw 70 = some (.sipush 448)),
  by intros; exact G_at (by decide +kernel : fetch mX12_thaw 73 = some (.if_icmp .ge 17)),
  by intros; exact G_at (by decide +kernel : fetch mX12_thaw 76 = some (.aload_n 0)),
  by intros; exact G_own (by decide +kernel : fetch mX12_thaw 77 = some (.getfield 43)) (by decide +kernel),
  by intros; exact G_at (by decide +kernel : fetch mX12_thaw 80 = some (.iload 6)),
  by intros; exact G_at (by decide +kernel : fetch mX12_thaw 82 = some (.iconst 0)),
  by intros; exact G_at (by decide +kernel : fetch mX12_thaw 83 = some (.iastore)),
  by intros; exact G_at (by decide +kernel : fetch mX12_thaw 84 = some (.iinc 6 1)),
  by intros; exact G_at (by decide +kernel : fetch mX12_thaw 87 = some (.goto (-19))),
  by intros; exact G_at (by decide +kernel : fetch mX12_thaw 90 = some (.aload_n 0)),
  by intros; exact G_own (by decide +kernel : fetch mX12_thaw 91 = some (.getfield 43)) (by decide +kernel),
  by intros; exact G_at (by decide +kernel : fetch mX12_thaw 94 = some (.iconst 0)),
  by intros; exact G_at (by decide +kernel : fetch mX12_thaw 95 = some (.iconst 1)),
  by intros; exact G_at (by decide +kernel : fetch mX12_thaw 96 = some (.iastore)),
  by intros; exact G_at (by decide +kernel : fetch mX12_thaw 97 = some (.iconst 0)),
  by intros; exact G_at (by decide +kernel : fetch mX12_thaw 98 = some (.istore 6)),
  by intros; exact G_at (by decide +kernel : fetch mX12_thaw 100 = some (.iload 6)),
  by intros; exact G_at (by decide +kernel : fetch mX12_thaw 102 = some (.iload_n 2)),
  by intros; exact G_at (by decide +kernel : fetch mX12_thaw 103 = some (.if_icmp .ge 83)),
  by intros; exact G_at (by decide +kernel : fetch mX12_thaw 106 = some (.iconst 0)),
  by intros; exact G_at (by decide +kernel : fetch mX12_thaw 107 = some (.istore 7)),
  by intros; exact G_at (by decide +kernel : fetch mX12_thaw 109 = some (.iload 7)),
  by intros; exact G_at (by decide +kernel : fetch mX12_thaw 111 = some (.iload 5)),
  by intros; exact G_at (by decide +kernel : fetch mX12_thaw 113 = some (.if_icmp .gt 32)),
  by intros; exact G_at (by decide +kernel : fetch mX12_thaw 116 = some (.aload_n 0)),
  by intros; exact G_at (by decide +kernel : fetch mX12_thaw 117 = some (.iload 7)),
  by intros; exact G_at (by decide +kernel : fetch mX12_thaw 119 = some (.iload 7)),
  by intros; exact G_at (by decide +kernel : fetch mX12_thaw 121 = some (.iload 5)),
  by intros; exact G_at (by decide +kernel : fetch mX12_thaw 123 = some (.if_icmp .ne 8)),
  by intros; exact G_at (by decide +kernel : fetch mX12_thaw 126 = some (.bipush 10)),
  by intros; exact G_at (by decide +kernel : fetch mX12_thaw 128 = some (.goto 7)),
  by intros; exact G_at (by decide +kernel : fetch mX12_thaw 131 = some (.bipush 10)),
  by intros; exact G_at (by decide +kernel : fetch mX12_thaw 133 = some (.iload_n 3)),
  by intros; exact G_at (by decide +kernel : fetch mX12_thaw 134 = some (.isub)),
  by intros; exact G_at (by decide +kernel : fetch mX12_thaw 135 = some (.iload_n 3)),
  by intros; exact G_callV (by decide +kernel : fetch mX12_thaw 136 = some (.invokevirtual 275)) (by decide +kernel) (by decide +kernel) rfl,
  by intros; exact G_at (by decide +kernel : fetch mX12_thaw 139 = some (.iinc 7 1)),
  by intros; exact G_at (by decide +kernel : fetch mX12_thaw 142 = some (.goto (-33))),
  by intros; exact G_at (by decide +kernel : fetch mX12_thaw 145 = some (.iconst 0)),
  by intros; exact G_at (by decide +kernel : fetch mX12_thaw 146 = some (.istore 7)),
  by intros; exact G_at (by decide +kernel : fetch mX12_thaw 148 = some (.iload 7)),
  by intros; exact G_at (by decide +kernel : fetch mX12_thaw 150 = some (.iload 5)),
  by intros; exact G_at (by decide +kernel : fetch mX12_thaw 152 = some (.iconst 1)),
  by intros; exact G_at (by decide +kernel : fetch mX12_thaw 153 = some (.iadd)),
  by intros; exact G_at (by decide +kernel : fetch mX12_thaw 154 = some (.bipush 64)),
  by intros; exact G_at (by decide +kernel : fetch mX12_thaw 156 = some (.imul)),
  by intros; exact G_at (by decide +kernel : fetch mX12_thaw 157 = some (.if_icmp .ge 23)),
  by intros; exact G_at (by decide +kernel : fetch mX12_thaw 160 = some (.aload_n 0)),
  by intros; exact G_own (by decide +kernel : fetch mX12_thaw 161 = some (.getfield 43)) (by decide +kernel),
  by intros; exact G_at (by decide +kernel : fetch mX12_thaw 164 = some (.iload 7)),
  by intros; exact G_at (by decide +kernel : fetch mX12_thaw 166 = some (.aload_n 0)),
  by intros; exact G_own (by decide +kernel : fetch mX12_thaw 167 = some (.getfield 46)) (by decide +kernel),
  by intros; exact G_at (by decide +kernel : fetch mX12_thaw 170 = some (.iload 7)),
  by intros; exact G_at (by decide +kernel : fetch mX12_thaw 172 = some (.iaload)),
  by intros; exact G_at (by decide +kernel : fetch mX12_thaw 173 = some (.iastore)),
  by intros; exact G_at (by decide +kernel : fetch mX12_thaw 174 = some (.iinc 7 1)),
  by intros; exact G_at (by decide +kernel : fetch mX12_thaw 177 = some (.goto (-29))),
  by intros; exact G_at (by decide +kernel : fetch mX12_thaw 180 = some (.iinc 6 1)),
  by intros; exact G_at (by decide +kernel : fetch mX12_thaw 183 = some (.goto (-83))),
  by intros; exact G_at (by decide +kernel : fetch mX12_thaw 186 = some (.iload 4)),
  by intros; exact G_at (by decide +kernel : fetch mX12_thaw 188 = some (.ifCond .lt 28)),
  by intros; exact G_at (by decide +kernel : fetch mX12_thaw 191 = some (.iload 4)),
  by intros; exact G_at (by decide +kernel : fetch mX12_thaw 193 = some (.bipush 64)),
  by intros; exact G_at (by decide +kernel : fetch mX12_thaw 195 = some (.if_icmp .ge 19)),
  by intros; exact G_at (by decide +kernel : fetch mX12_thaw 198 = some (.aload_n 0)),
  by intros; exact G_own (by decide +kernel : fetch mX12_thaw 199 = some (.getfield 43)) (by decide +kernel),
  by intros; exact G_at (by decide +kernel : fetch mX12_thaw 202 = some (.bipush 64)),
  by intros; exact G_at (by decide +kernel : fetch mX12_thaw 204 = some (.iload 5)),
  by intros; exact G_at (by decide +kernel : fetch mX12_thaw 206 = some (.imul)),
  by intros; exact G_at (by decide +kernel : fetch mX12_thaw 207 = some (.iload 4)),
  by intros; exact G_at (by decide +kernel : fetch mX12_thaw 209 = some (.iadd)),
  by intros; exact G_at (by decide +kernel : fetch mX12_thaw 210 = some (.iaload)),
  by intros; exact G_at (by decide +kernel : fetch mX12_thaw 211 = some (.goto 4)),
  by intros; exact G_at (by decide +kernel : fetch mX12_thaw 214 = some (.iconst 0)),
  by intros; exact G_reti (by decide +kernel : fetch mX12_thaw 215 = some (.ireturn)) (by decide +kernel),
  by intros; exact G_at (by decide +kernel : fetch mX12_thaw 216 = some (.bipush 64)),
  by intros; exact G_at (by decide +kernel : fetch mX12_thaw 218 = some (.istore 6)),
  by intros; exact G_at (by decide +kernel : fetch mX12_thaw 220 = some (.iload 6)),
  by intros; exact G_at (by decide +kernel : fetch mX12_thaw 222 = some (.iconst 1)),
  by intros; exact G_at (by decide +kernel : fetch mX12_thaw 223 = some (.if_icmp .le 27)),
  by intros; exact G_at (by decide +kernel : fetch mX12_thaw 226 = some (.aload_n 0)),
  by intros; exact G_own (by decide +kernel : fetch mX12_thaw 227 = some (.getfield 43)) (by decide +kernel),
  by intros; exact G_at (by decide +kernel : fetch mX12_thaw 230 = some (.bipush 64)),
  by intros; exact G_at (by decide +kernel : fetch mX12_thaw 232 = some (.iload 5)),
  by intros; exact G_at (by decide +kernel : fetch mX12_thaw 234 = some (.imul)),
  by intros; exact G_at (by decide +kernel : fetch mX12_thaw 235 = some (.iload 6)),
  by intros; exact G_at (by decide +kernel : fetch mX12_thaw 237 = some (.iadd)),
  by intros; exact G_at (by decide +kernel : fetch mX12_thaw 238 = some (.iconst 1)),
  by intros; exact G_at (by decide +kernel : fetch mX12_thaw 239 = some (.isub)),
  by intros; exact G_at (by decide +kernel : fetch mX12_thaw 240 = some (.iaload)),
  by intros; exact G_at (by decide +kernel : fetch mX12_thaw 241 = some (.ifCond .ne 9)),
  by intros; exact G_at (by decide +kernel : fetch mX12_thaw 244 = some (.iinc 6 (-1))),
  by intros; exact G_at (by decide +kernel : fetch mX12_thaw 247 = some (.goto (-27))),
  by intros; exact G_at (by decide +kernel : fetch mX12_thaw 250 = some (.iload 6)),
  by intros; exact G_reti (by decide +kernel : fetch mX12_thaw 252 = some (.ireturn)) (by decide +kernel),
  by decide +kernel,
  by decide +kernel,
  by decide +kernel,
  by decide +kernel,
  by decide +kernel⟩
end GG
