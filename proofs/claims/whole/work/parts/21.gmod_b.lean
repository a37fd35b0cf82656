section GG
variable {sp : Nat → List iV → iH → Option (Option iV × iH)} {sc : List Int}
theorem gX12_readsNumber : (∀ (n d : Nat) (L : List (Option iV)) (st : List iV) (h : iH) (Q : Option iV → iH → Prop), G sp sc [9] d mX12_readsNumber (n + 1) 0 L st h Q = (match ld L 0 with | some (.inr (.inr (r + 1))) => G sp sc [9] d mX12_readsNumber n 1 L (.inr (.inr (r + 1)) :: st) h Q | _ => False)) ∧
  (∀ (n d : Nat) (L : List (Option iV)) (r : List iV) (m : Nat) (h : iH) (Q : Option iV → iH → Prop), G sp sc [9] d mX12_readsNumber (n + 1) 1 L (.inr (.inr (m + 2)) :: r) h Q = (match h.1[m]? with | some (.inl (ci, fs)) => (match lkF 12 31 ci with | some k => (match fs[k]? with | some v => G sp sc [9] d mX12_readsNumber n 4 L (v :: r) h Q | none => False) | none => False) | _ => False)) ∧
  (∀ (n d : Nat) (L : List (Option iV)) (st : List iV) (h : iH) (Q : Option iV → iH → Prop), G sp sc [9] d mX12_readsNumber (n + 1) 4 L st h Q = (match ld L 1 with | some (.inl x) => G sp sc [9] d mX12_readsNumber n 5 L (.inl x :: st) h Q | _ => False)) ∧
  (∀ (n d : Nat) (L : List (Option iV)) (st : List iV) (h : iH) (Q : Option iV → iH → Prop), G sp sc [9] d mX12_readsNumber (n + 1) 5 L st h Q = G sp sc [9] d mX12_readsNumber n 6 L (.inl 0 :: st) h Q) ∧
  (∀ (n d : Nat) (L : List (Option iV)) (r : List iV) (v : Int) (j : Int) (m : Nat) (h : iH) (Q : Option iV → iH → Prop), G sp sc [9] d mX12_readsNumber (n + 1) 6 L (.inl v :: .inl j :: .inr (.inr (m + 2)) :: r) h Q = (match h.1[m]? with | some (.inr (.inl (0, xs))) => inA j xs.length = true ∧ G sp sc [9] d mX12_readsNumber n 7 L r (h.1.set m (.inr (.inl (0, xs.set j.toNat v))), h.2) Q | _ => False)) ∧
  (∀ (n d : Nat) (L : List (Option iV)) (st : List iV) (h : iH) (Q : Option iV → iH → Prop), G sp sc [9] d mX12_readsNumber (n + 1) 7 L st h Q = G sp sc [9] d mX12_readsNumber n 8 L (.inl 0 :: st) h Q) ∧
  (∀ (n d : Nat) (L : List (Option iV)) (r : List iV) (x : Int) (h : iH) (Q : Option iV → iH → Prop), G sp sc [9] d mX12_readsNumber (n + 1) 8 L (.inl x :: r) h Q = (match st1 L 3 (.inl x) with | some L' => Run sp sc d mX12_readsNumber 9 L' r h Q | none => False)) ∧
  (∀ (n d : Nat) (L : List (Option iV)) (st : List iV) (h : iH) (Q : Option iV → iH → Prop), G sp sc [9] d mX12_readsNumber (n + 1) 9 L st h Q = (match ld L 3 with | some (.inl x) => G sp sc [9] d mX12_readsNumber n 10 L (.inl x :: st) h Q | _ => False)) ∧
  (∀ (n d : Nat) (L : List (Option iV)) (st : List iV) (h : iH) (Q : Option iV → iH → Prop), G sp sc [9] d mX12_readsNumber (n + 1) 10 L st h Q = (match ld L 2 with | some (.inl x) => G sp sc [9] d mX12_readsNumber n 11 L (.inl x :: st) h Q | _ => False)) ∧
  (∀ (n d : Nat) (L : List (Option iV)) (a : Int) (b : Int) (r : List iV) (h : iH) (Q : Option iV → iH → Prop), G sp sc [9] d mX12_readsNumber (n + 1) 11 L (.inl b :: .inl a :: r) h Q = ((inI a = true ∧ inI b = true) ∧ (b ≤ a → G sp sc [9] d mX12_readsNumber n 69 L r h Q) ∧ (¬ (b ≤ a) → G sp sc [9] d mX12_readsNumber n 14 L r h Q))) ∧
  (∀ (n d : Nat) (L : List (Option iV)) (st : List iV) (h : iH) (Q : Option iV → iH → Prop), G sp sc [9] d mX12_readsNumber (n + 1) 14 L st h Q = (match ld L 0 with | some (.inr (.inr (r + 1))) => G sp sc [9] d mX12_readsNumber n 15 L (.inr (.inr (r + 1)) :: st) h Q | _ => False)) ∧
  (∀ (n d : Nat) (L : List (Option iV)) (r : List iV) (m : Nat) (h : iH) (Q : Option iV → iH → Prop), G sp sc [9] (d + 1) mX12_readsNumber (n + 1) 15 L (.inr (.inr (m + 2)) :: r) h Q = (match h.1[m]? with | some (.inl (ci, _)) => (match lkC 12 165 ci with | some (y1, n1, kd) => (n1 = 0 ∧ (kd = 2 ∨ kd = 3 ∨ kd = 8) ∧ cs r ≤ 8) ∧ Call sp sc d y1 [.inr (.inr (m + 2))] h (fun q h1 => GC sp sc [9] (d + 1) mX12_readsNumber n 18 L q r h h1 Q) | none => False) | _ => False)) ∧
  (∀ (n d : Nat) (L : List (Option iV)) (st : List iV) (h : iH) (Q : Option iV → iH → Prop), G sp sc [9] d mX12_readsNumber (n + 1) 18 L st h Q = ((-128 ≤ (48 : Int) ∧ (48 : Int) < 128) ∧ G sp sc [9] d mX12_readsNumber n 20 L (.inl 48 :: st) h Q)) ∧
  (∀ (n d : Nat) (L : List (Option iV)) (st : List iV) (h : iH) (Q : Option iV → iH → Prop), G sp sc [9] d mX12_readsNumber (n + 1) 20 L st h Q = ((-128 ≤ (57 : Int) ∧ (57 : Int) < 128) ∧ G sp sc [9] d mX12_readsNumber n 22 L (.inl 57 :: st) h Q)) ∧
  (∀ (n d : Nat) (L : List (Option iV)) (r : List iV) (z0 : iV) (z1 : iV) (z2 : iV) (h : iH) (Q : Option iV → iH → Prop), G sp sc [9] (d + 1) mX12_readsNumber (n + 1) 22 L (z2 :: z1 :: z0 :: r) h Q = (cs r ≤ 8 ∧ Call sp sc d mX12_isIn [z0, z1, z2] h (fun q h1 => GC sp sc [9] (d + 1) mX12_readsNumber n 25 L q r h h1 Q))) ∧
  (∀ (n d : Nat) (L : List (Option iV)) (a : Int) (r : List iV) (h : iH) (Q : Option iV → iH → Prop), G sp sc [9] d mX12_readsNumber (n + 1) 25 L (.inl a :: r) h Q = (inI a = true ∧ (¬ a = 0 → G sp sc [9] d mX12_readsNumber n 30 L r h Q) ∧ (¬ (¬ a = 0) → G sp sc [9] d mX12_readsNumber n 28 L r h Q))) ∧
  (∀ (n d : Nat) (L : List (Option iV)) (st : List iV) (h : iH) (Q : Option iV → iH → Prop), G sp sc [9] d mX12_readsNumber (n + 1) 28 L st h Q = G sp sc [9] d mX12_readsNumber n 29 L (.inl 0 :: st) h Q) ∧
  (∀ (n d : Nat) (L : List (Option iV)) (a : Int) (h : iH) (Q : Option iV → iH → Prop), G sp sc [9] d mX12_readsNumber (n + 1) 29 L [.inl a] h Q = ((a = 0 ∨ a = 1) ∧ Q (some (.inl a)) h)) ∧
  (∀ (n d : Nat) (L : List (Option iV)) (st : List iV) (h : iH) (Q : Option iV → iH → Prop), G sp sc [9] d mX12_readsNumber (n + 1) 30 L st h Q = (match ld L 0 with | some (.inr (.inr (r + 1))) => G sp sc [9] d mX12_readsNumber n 31 L (.inr (.inr (r + 1)) :: st) h Q | _ => False)) ∧
  (∀ (n d : Nat) (L : List (Option iV)) (r : List iV) (m : Nat) (h : iH) (Q : Option iV → iH → Prop), G sp sc [9] d mX12_readsNumber (n + 1) 31 L (.inr (.inr (m + 2)) :: r) h Q = (match h.1[m]? with | some (.inl (ci, fs)) => (match lkF 12 31 ci with | some k => (match fs[k]? with | some v => G sp sc [9] d mX12_readsNumber n 34 L (v :: r) h Q | none => False) | none => False) | _ => False)) ∧
  (∀ (n d : Nat) (L : List (Option iV)) (st : List iV) (h : iH) (Q : Option iV → iH → Prop), G sp sc [9] d mX12_readsNumber (n + 1) 34 L st h Q = (match ld L 1 with | some (.inl x) => G sp sc [9] d mX12_readsNumber n 35 L (.inl x :: st) h Q | _ => False)) ∧
  (∀ (n d : Nat) (L : List (Option iV)) (st : List iV) (h : iH) (Q : Option iV → iH → Prop), G sp sc [9] d mX12_readsNumber (n + 1) 35 L st h Q = ((-128 ≤ (10 : Int) ∧ (10 : Int) < 128) ∧ G sp sc [9] d mX12_readsNumber n 37 L (.inl 10 :: st) h Q)) ∧
  (∀ (n d : Nat) (L : List (Option iV)) (st : List iV) (h : iH) (Q : Option iV → iH → Prop), G sp sc [9] d mX12_readsNumber (n + 1) 37 L st h Q = (match ld L 0 with | some (.inr (.inr (r + 1))) => G sp sc [9] d mX12_readsNumber n 38 L (.inr (.inr (r + 1)) :: st) h Q | _ => False)) ∧
  (∀ (n d : Nat) (L : List (Option iV)) (r : List iV) (m : Nat) (h : iH) (Q : Option iV → iH → Prop), G sp sc [9] d mX12_readsNumber (n + 1) 38 L (.inr (.inr (m + 2)) :: r) h Q = (match h.1[m]? with | some (.inl (ci, fs)) => (match lkF 12 31 ci with | some k => (match fs[k]? with | some v => G sp sc [9] d mX12_readsNumber n 41 L (v :: r) h Q | none => False) | none => False) | _ => False)) ∧
  (∀ (n d : Nat) (L : List (Option iV)) (st : List iV) (h : iH) (Q : Option iV → iH → Prop), G sp sc [9] d mX12_readsNumber (n + 1) 41 L st h Q = (match ld L 1 with | some (.inl x) => G sp sc [9] d mX12_readsNumber n 42 L (.inl x :: st) h Q | _ => False)) ∧
  (∀ (n d : Nat) (L : List (Option iV)) (r : List iV) (j : Int) (m : Nat) (h : iH) (Q : Option iV → iH → Prop), G sp sc [9] d mX12_readsNumber (n + 1) 42 L (.inl j :: .inr (.inr (m + 2)) :: r) h Q = (match h.1[m]? with | some (.inr (.inl (0, xs))) => inA j xs.length = true ∧ G sp sc [9] d mX12_readsNumber n 43 L (.inl (xs.getD j.toNat 0) :: r) h Q | _ => False)) ∧
  (∀ (n d : Nat) (L : List (Option iV)) (a : Int) (b : Int) (r : List iV) (h : iH) (Q : Option iV → iH → Prop), G sp sc [9] d mX12_readsNumber (n + 1) 43 L (.inl b :: .inl a :: r) h Q = G sp sc [9] d mX12_readsNumber n 44 L (.inl (a * b) :: r) h Q) ∧
  (∀ (n d : Nat) (L : List (Option iV)) (st : List iV) (h : iH) (Q : Option iV → iH → Prop), G sp sc [9] d mX12_readsNumber (n + 1) 44 L st h Q = (match ld L 0 with | some (.inr (.inr (r + 1))) => G sp sc [9] d mX12_readsNumber n 45 L (.inr (.inr (r + 1)) :: st) h Q | _ => False)) ∧
  (∀ (n d : Nat) (L : List (Option iV)) (r : List iV) (m : Nat) (h : iH) (Q : Option iV → iH → Prop), G sp sc [9] (d + 1) mX12_readsNumber (n + 1) 45 L (.inr (.inr (m + 2)) :: r) h Q = (match h.1[m]? with | some (.inl (ci, _)) => (match lkC 12 165 ci with | some (y1, n1, kd) => (n1 = 0 ∧ (kd = 2 ∨ kd = 3 ∨ kd = 8) ∧ cs r ≤ 8) ∧ Call sp sc d y1 [.inr (.inr (m + 2))] h (fun q h1 => GC sp sc [9] (d + 1) mX12_readsNumber n 48 L q r h h1 Q) | none => False) | _ => False)) ∧
  (∀ (n d : Nat) (L : List (Option iV)) (a : Int) (b : Int) (r : List iV) (h : iH) (Q : Option iV → iH → Prop), G sp sc [9] d mX12_readsNumber (n + 1) 48 L (.inl b :: .inl a :: r) h Q = G sp sc [9] d mX12_readsNumber n 49 L (.inl (a + b) :: r) h Q) ∧
  (∀ (n d : Nat) (L : List (Option iV)) (st : List iV) (h : iH) (Q : Option iV → iH → Prop), G sp sc [9] d mX12_readsNumber (n + 1) 49 L st h Q = ((-128 ≤ (48 : Int) ∧ (48 : Int) < 128) ∧ G sp sc [9] d mX12_readsNumber n 51 L (.inl 48 :: st) h Q)) ∧
  (∀ (n d : Nat) (L : List (Option iV)) (a : Int) (b : Int) (r : List iV) (h : iH) (Q : Option iV → iH → Prop), G sp sc [9] d mX12_readsNumber (n + 1) 51 L (.inl b :: .inl a :: r) h Q = G sp sc [9] d mX12_readsNumber n 52 L (.inl (a - b) :: r) h Q) ∧
  (∀ (n d : Nat) (L : List (Option iV)) (r : List iV) (v : Int) (j : Int) (m : Nat) (h : iH) (Q : Option iV → iH → Prop), G sp sc [9] d mX12_readsNumber (n + 1) 52 L (.inl v :: .inl j :: .inr (.inr (m + 2)) :: r) h Q = (match h.1[m]? with | some (.inr (.inl (0, xs))) => inA j xs.length = true ∧ G sp sc [9] d mX12_readsNumber n 53 L r (h.1.set m (.inr (.inl (0, xs.set j.toNat v))), h.2) Q | _ => False)) ∧
  (∀ (n d : Nat) (L : List (Option iV)) (st : List iV) (h : iH) (Q : Option iV → iH → Prop), G sp sc [9] d mX12_readsNumber (n + 1) 53 L st h Q = (match ld L 0 with | some (.inr (.inr (r + 1))) => G sp sc [9] d mX12_readsNumber n 54 L (.inr (.inr (r + 1)) :: st) h Q | _ => False)) ∧
  (∀ (n d : Nat) (L : List (Option iV)) (a : Int) (r : List iV) (h : iH) (Q : Option iV → iH → Prop), G sp sc [9] d mX12_readsNumber (n + 1) 54 L (.inl a :: r) h Q = G sp sc [9] d mX12_readsNumber n 55 L (.inl a :: .inl a :: r) h Q) ∧
  (∀ (n d : Nat) (L : List (Option iV)) (a : Nat) (r : List iV) (h : iH) (Q : Option iV → iH → Prop), G sp sc [9] d mX12_readsNumber (n + 1) 54 L (.inr (.inr a) :: r) h Q = G sp sc [9] d mX12_readsNumber n 55 L (.inr (.inr a) :: .inr (.inr a) :: r) h Q) ∧
  (∀ (n d : Nat) (L : List (Option iV)) (r : List iV) (m : Nat) (h : iH) (Q : Option iV → iH → Prop), G sp sc [9] d mX12_readsNumber (n + 1) 55 L (.inr (.inr (m + 2)) :: r) h Q = (match h.1[m]? with | some (.inl (ci, fs)) => (match lkF 12 156 ci with | some k => (match fs[k]? with | some v => G sp sc [9] d mX12_readsNumber n 58 L (v :: r) h Q | none => False) | none => False) | _ => False)) ∧
  (∀ (n d : Nat) (L : List (Option iV)) (st : List iV) (h : iH) (Q : Option iV → iH → Prop), G sp sc [9] d mX12_readsNumber (n + 1) 58 L st h Q = G sp sc [9] d mX12_readsNumber n 59 L (.inl 1 :: st) h Q) ∧
  (∀ (n d : Nat) (L : List (Option iV)) (a : Int) (b : Int) (r : List iV) (h : iH) (Q : Option iV → iH → Prop), G sp sc [9] d mX12_readsNumber (n + 1) 59 L (.inl b :: .inl a :: r) h Q = G sp sc [9] d mX12_readsNumber n 60 L (.inl (a + b) :: r) h Q) ∧
  (∀ (n d : Nat) (L : List (Option iV)) (r : List iV) (v : iV) (m : Nat) (h : iH) (Q : Option iV → iH → Prop), G sp sc [9] d mX12_readsNumber (n + 1) 60 L (v :: .inr (.inr (m + 2)) :: r) h Q = (match h.1[m]? with | some (.inl (ci, fs)) => (match lkF 12 156 ci with | some k => (fitV (tyT ci k) v = true ∧ k < fs.length ∧ pOK 12 false ci k = true) ∧ G sp sc [9] d mX12_readsNumber n 63 L r (h.1.set m (.inl (ci, fs.set k v)), h.2) Q | none => False) | _ => False)) ∧
  (∀ (n d : Nat) (L : List (Option iV)) (st : List iV) (h : iH) (Q : Option iV → iH → Prop), G sp sc [9] d mX12_readsNumber (n + 1) 63 L st h Q = (match ld L 3 with | some (.inl x) => (match st1 L 3 (.inl (x + 1)) with | some L' => G sp sc [9] d mX12_readsNumber n 66 L' st h Q | none => False) | _ => False)) ∧
  (∀ (n d : Nat) (L : List (Option iV)) (st : List iV) (h : iH) (Q : Option iV → iH → Prop), G sp sc [9] d mX12_readsNumber (n + 1) 66 L st h Q = Run sp sc d mX12_readsNumber 9 L st h Q) ∧
  (∀ (n d : Nat) (L : List (Option iV)) (st : List iV) (h : iH) (Q : Option iV → iH → Prop), G sp sc [9] d mX12_readsNumber (n + 1) 69 L st h Q = G sp sc [9] d mX12_readsNumber n 70 L (.inl 1 :: st) h Q) ∧
  (∀ (n d : Nat) (L : List (Option iV)) (a : Int) (h : iH) (Q : Option iV → iH → Prop), G sp sc [9] d mX12_readsNumber (n + 1) 70 L [.inl a] h Q = ((a = 0 ∨ a = 1) ∧ Q (some (.inl a)) h)) ∧
  lkC 12 165 12 = some (mX12_here, 0, 2) ∧
  lkF 12 156 12 = some 12 ∧
  lkF 12 31 12 = some 15 ∧
  pOK 12 false 12 12 = true := ⟨by intros; exact G_at (by decide +kernel : fetch mX12_readsNumber 0 = some (.aload_n 0)),
  by intros; exact G_own (by decide +kernel : fetch mX12_readsNumber 1 = some (.getfield 31)) (by decide +kernel),
  by intros; exact G_at (by decide +kernel : fetch mX12_readsNumber 4 = some (.iload_n 1)),
  by intros; exact G_at (by decide +kernel : fetch mX12_readsNumber 5 = some (.iconst 0)),
  by intros; exact G_at (by decide +kernel : fetch mX12_readsNumber 6 = some (.iastore)),
  by intros; exact G_at (by decide +kernel : fetch mX12_readsNumber 7 = some (.iconst 0)),
  by intros; exact G_at (by decide +kernel : fetch mX12_readsNumber 8 = some (.istore_n 3)),
  by intros; exact G_at (by decide +kernel : fetch mX12_readsNumber 9 = some (.iload_n 3)),
  by intros; exact G_at (by decide +kernel : fetch mX12_readsNumber 10 = some (.iload_n 2)),
  by intros; exact G_at (by decide +kernel : fetch mX12_readsNumber 11 = some (.if_icmp .ge 58)),
  by intros; exact G_at (by decide +kernel : fetch mX12_readsNumber 14 = some (.aload_n 0)),
  by intros; exact G_callV (by decide +kernel : fetch mX12_readsNumber 15 = some (.invokevirtual 165)) (by decide +kernel) (by decide +kernel) rfl,
  by intros; exact G_at (by decide +kernel : fetch mX12_readsNumber 18 = some (.bipush 48)),
  by intros; exact G_at (by decide +kernel : fetch mX12_readsNumber 20 = some (.bipush 57)),
  by intros; exact G_callS (k := 3) (kd := 0) (by decide +kernel : fetch mX12_readsNumber 22 = some (.invokestatic 67)) (by decide +kernel) (by decide +kernel) (by decide +kernel) rfl (by decide),
  by intros; exact G_at (by decide +kernel : fetch mX12_readsNumber 25 = some (.ifCond .ne 5)),
  by intros; exact G_at (by decide +kernel : fetch mX12_readsNumber 28 = some (.iconst 0)),
  by intros; exact G_retz (by decide +kernel : fetch mX12_readsNumber 29 = some (.ireturn)) (by decide +kernel),
  by intros; exact G_at (by decide +kernel : fetch mX12_readsNumber 30 = some (.aload_n 0)),
  by intros; exact G_own (by decide +kernel : fetch mX12_readsNumber 31 = some (.getfield 31)) (by decide +kernel),
  by intros; exact G_at (by decide +kernel : fetch mX12_readsNumber 34 = some (.iload_n 1)),
  by intros; exact G_at (by decide +kernel : fetch mX12_readsNumber 35 = some (.bipush 10)),
  by intros; exact G_at (by decide +kernel : fetch mX12_readsNumber 37 = some (.aload_n 0)),
  by intros; exact G_own (by decide +kernel : fetch mX12_readsNumber 38 = some (.getfield 31)) (by decide +kernel),
  by intros; exact G_at (by decide +kernel : fetch mX12_readsNumber 41 = some (.iload_n 1)),
  by intros; exact G_at (by decide +kernel : fetch mX12_readsNumber 42 = some (.iaload)),
  by intros; exact G_at (by decide +kernel : fetch mX12_readsNumber 43 = some (.imul)),
  by intros; exact G_at (by decide +kernel : fetch mX12_readsNumber 44 = some (.aload_n 0)),
  by intros; exact G_callV (by decide +kernel : fetch mX12_readsNumber 45 = some (.invokevirtual 165)) (by decide +kernel) (by decide +kernel) rfl,
  by intros; exact G_at (by decide +kernel : fetch mX12_readsNumber 48 = some (.iadd)),
  by intros; exact G_at (by decide +kernel : fetch mX12_readsNumber 49 = some (.bipush 48)),
  by intros; exact G_at (by decide +kernel : fetch mX12_readsNumber 51 = some (.isub)),
  by intros; exact G_at (by decide +kernel : fetch mX12_readsNumber 52 = some (.iastore)),
  by intros; exact G_at (by decide +kernel : fetch mX12_readsNumber 53 = some (.aload_n 0)),
  by intros; exact G_at (by decide +kernel : fetch mX12_readsNumber 54 = some (.dup)),
  by intros; exact G_at (by decide +kernel : fetch mX12_readsNumber 54 = some (.dup)),
  by intros; exact G_own (by decide +kernel : fetch mX12_readsNumber 55 = some (.getfield 156)) (by decide +kernel),
  by intros; exact G_at (by decide +kernel : fetch mX12_readsNumber 58 = some (.iconst 1)),
  by intros; exact G_at (by decide +kernel : fetch mX12_readsNumber 59 = some (.iadd)),
  by intros; exact G_ownW (by decide +kernel : fetch mX12_readsNumber 60 = some (.putfield 156)) (by decide +kernel) (by decide +kernel),
  by intros; exact G_at (by decide +kernel : fetch mX12_readsNumber 63 = some (.iinc 3 1)),
  by intros; exact G_at (by decide +kernel : fetch mX12_readsNumber 66 = some (.goto (-57))),
  by intros; exact G_at (by decide +kernel : fetch mX12_readsNumber 69 = some (.iconst 1)),
  by intros; exact G_retz (by decide +kernel : fetch mX12_readsNumber 70 = some (.ireturn)) (by decide +kernel),
  by decide +kernel,
  by decide +kernel,
  by decide +kernel,
  by decide +kernel⟩
theorem gX12_readsStatement : (∀ (n d : Nat) (L : List (Option iV)) (st : List iV) (h : iH) (Q : Option iV → iH → Prop), G sp sc [] d mX12_readsStatement (n + 1) 0 L st h Q = (match ld L 0 with | some (.inr (.inr (r + 1))) => G sp sc [] d mX12_readsStatement n 1 L (.inr (.inr (r + 1)) :: st) h Q | _ => False)) ∧
  (∀ (n d : Nat) (L : List (Option iV)) (r : List iV) (m : Nat) (h : iH) (Q : Option iV → iH → Prop), G sp sc [] (d + 1) mX12_readsStatement (n + 1) 1 L (.inr (.inr (m + 2)) :: r) h Q = (match h.1[m]? with | some (.inl (ci, _)) => (match lkC 12 165 ci with | some (y1, n1, kd) => (n1 = 0 ∧ (kd = 2 ∨ kd = 3 ∨ kd = 8) ∧ cs r ≤ 8) ∧ Call sp sc d y1 [.inr (.inr (m + 2))] h (fun q h1 => GC sp sc [] (d + 1) mX12_readsStatement n 4 L q r h h1 Q) | none => False) | _ => False)) ∧
  (∀ (n d : Nat) (L : List (Option iV)) (r : List iV) (x : Int) (h : iH) (Q : Option iV → iH → Prop), G sp sc [] d mX12_readsStatement (n + 1) 4 L (.inl x :: r) h Q = (match st1 L 1 (.inl x) with | some L' => G sp sc [] d mX12_readsStatement n 5 L' r h Q | none => False)) ∧
  (∀ (n d : Nat) (L : List (Option iV)) (st : List iV) (h : iH) (Q : Option iV → iH → Prop), G sp sc [] d mX12_readsStatement (n + 1) 5 L st h Q = (match ld L 0 with | some (.inr (.inr (r + 1))) => G sp sc [] d mX12_readsStatement n 6 L (.inr (.inr (r + 1)) :: st) h Q | _ => False)) ∧
  (∀ (n d : Nat) (L : List (Option iV)) (a : Int) (r : List iV) (h : iH) (Q : Option iV → iH → Prop), G sp sc [] d mX12_readsStatement (n + 1) 6 L (.inl a :: r) h Q = G sp sc [] d mX12_readsStatement n 7 L (.inl a :: .inl a :: r) h Q) ∧
  (∀ (n d : Nat) (L : List (Option iV)) (a : Nat) (r : List iV) (h : iH) (Q : Option iV → iH → Prop), G sp sc [] d mX12_readsStatement (n + 1) 6 L (.inr (.inr a) :: r) h Q = G sp sc [] d mX12_readsStatement n 7 L (.inr (.inr a) :: .inr (.inr a) :: r) h Q) ∧
  (∀ (n d : Nat) (L : List (Option iV)) (r : List iV) (m : Nat) (h : iH) (Q : Option iV → iH → Prop), G sp sc [] d mX12_readsStatement (n + 1) 7 L (.inr (.inr (m + 2)) :: r) h Q = (match h.1[m]? with | some (.inl (ci, fs)) => (match lkF 12 156 ci with | some k => (match fs[k]? with | some v => G sp sc [] d mX12_readsStatement n 10 L (v :: r) h Q | none => False) | none => False) | _ => False)) ∧
  (∀ (n d : Nat) (L : List (Option iV)) (st : List iV) (h : iH) (Q : Option iV → iH → Prop), G sp sc [] d mX12_readsStatement (n + 1) 10 L st h Q = G sp sc [] d mX12_readsStatement n 11 L (.inl 1 :: st) h Q) ∧
  (∀ (n d : Nat) (L : List (Option iV)) (a : Int) (b : Int) (r : List iV) (h : iH) (Q : Option iV → iH → Prop), G sp sc [] d mX12_readsStatement (n + 1) 11 L (.inl b :: .inl a :: r) h Q = G sp sc [] d mX12_readsStatement n 12 L (.inl (a + b) :: r) h Q) ∧
  (∀ (n d : Nat) (L : List (Option iV)) (r : List iV) (v : iV) (m : Nat) (h : iH) (Q : Option iV → iH → Prop), G sp sc [] d mX12_readsStatement (n + 1) 12 L (v :: .inr (.inr (m + 2)) :: r) h Q = (match h.1[m]? with | some (.inl (ci, fs)) => (match lkF 12 156 ci with | some k => (fitV (tyT ci k) v = true ∧ k < fs.length ∧ pOK 12 false ci k = true) ∧ G sp sc [] d mX12_readsStatement n 15 L r (h.1.set m (.inl (ci, fs.set k v)), h.2) Q | none => False) | _ => False)) ∧
  (∀ (n d : Nat) (L : List (Option iV)) (st : List iV) (h : iH) (Q : Option iV → iH → Prop), G sp sc [] d mX12_readsStatement (n + 1) 15 L st h Q = (match ld L 1 with | some (.inl x) => G sp sc [] d mX12_readsStatement n 16 L (.inl x :: st) h Q | _ => False)) ∧
  (∀ (n d : Nat) (L : List (Option iV)) (a : Int) (r : List iV) (h : iH) (Q : Option iV → iH → Prop), G sp sc [] d mX12_readsStatement (n + 1) 16 L (.inl a :: r) h Q = (inI a = true ∧ ((a < 97 ∨ 121 < a) → G sp sc [] d mX12_readsStatement n 250 L r h Q) ∧ (¬ (a < 97 ∨ 121 < a) → (match (#[116, 234, 116, 188, 234, 234, 234, 234, 234, 234, 234, 143, 116, 234, 234, 234, 234, 234, 224, 234, 234, 234, 116, 234, 224] : Array Int)[(a - (97 : Int)).toNat]? with | some off => (match jmp 16 off with | some q => GK sp sc [] d mX12_readsStatement n q L r h Q | none => False) | none => False)))) ∧
  (∀ (n d : Nat) (L : List (Option iV)) (st : List iV) (h : iH) (Q : Option iV → iH → Prop), G sp sc [] d mX12_readsStatement (n + 1) 132 L st h Q = (match ld L 0 with | some (.inr (.inr (r + 1))) => G sp sc [] d mX12_readsStatement n 133 L (.inr (.inr (r + 1)) :: st) h Q | _ => False)) ∧
  (∀ (n d : Nat) (L : List (Option iV)) (st : List iV) (h : iH) (Q : Option iV → iH → Prop), G sp sc [] d mX12_readsStatement (n + 1) 133 L st h Q = G sp sc [] d mX12_readsStatement n 134 L (.inl 0 :: st) h Q) ∧
  (∀ (n d : Nat) (L : List (Option iV)) (st : List iV) (h : iH) (Q : Option iV → iH → Prop), G sp sc [] d mX12_readsStatement (n + 1) 134 L st h Q = G sp sc [] d mX12_readsStatement n 135 L (.inl 1 :: st) h Q) ∧
  (∀ (n d : Nat) (L : List (Option iV)) (r : List iV) (m : Nat) (z0 : iV) (z1 : iV) (h : iH) (Q : Option iV → iH → Prop), G sp sc [] (d + 1) mX12_readsStatement (n + 1) 135 L (z1 :: z0 :: .inr (.inr (m + 2)) :: r) h Q = (match h.1[m]? with | some (.inl (ci, _)) => (match lkC 12 169 ci with | some (y1, n1, kd) => (n1 = 2 ∧ (kd = 2 ∨ kd = 3 ∨ kd = 8) ∧ cs r ≤ 8) ∧ Call sp sc d y1 [.inr (.inr (m + 2)), z0, z1] h (fun q h1 => GC sp sc [] (d + 1) mX12_readsStatement n 138 L q r h h1 Q) | none => False) | _ => False)) ∧
  (∀ (n d : Nat) (L : List (Option iV)) (a : Int) (r : List iV) (h : iH) (Q : Option iV → iH → Prop), G sp sc [] d mX12_readsStatement (n + 1) 138 L (.inl a :: r) h Q = (inI a = true ∧ (a = 0 → G sp sc [] d mX12_readsStatement n 154 L r h Q) ∧ (¬ (a = 0) → G sp sc [] d mX12_readsStatement n 141 L r h Q))) ∧
  (∀ (n d : Nat) (L : List (Option iV)) (st : List iV) (h : iH) (Q : Option iV → iH → Prop), G sp sc [] d mX12_readsStatement (n + 1) 141 L st h Q = (match ld L 0 with | some (.inr (.inr (r + 1))) => G sp sc [] d mX12_readsStatement n 142 L (.inr (.inr (r + 1)) :: st) h Q | _ => False)) ∧
  (∀ (n d : Nat) (L : List (Option iV)) (st : List iV) (h : iH) (Q : Option iV → iH → Prop), G sp sc [] d mX12_readsStatement (n + 1) 142 L st h Q = G sp sc [] d mX12_readsStatement n 143 L (.inl 1 :: st) h Q) ∧
  (∀ (n d : Nat) (L : List (Option iV)) (st : List iV) (h : iH) (Q : Option iV → iH → Prop), G sp sc [] d mX12_readsStatement (n + 1) 143 L st h Q = G sp sc [] d mX12_readsStatement n 144 L (.inl 1 :: st) h Q) ∧
  (∀ (n d : Nat) (L : List (Option iV)) (r : List iV) (m : Nat) (z0 : iV) (z1 : iV) (h : iH) (Q : Option iV → iH → Prop), G sp sc [] (d + 1) mX12_readsStatement (n + 1) 144 L (z1 :: z0 :: .inr (.inr (m + 2)) :: r) h Q = (match h.1[m]? with | some (.inl (ci, _)) => (match lkC 12 169 ci with | some (y1, n1, kd) => (n1 = 2 ∧ (kd = 2 ∨ kd = 3 ∨ kd = 8) ∧ cs r ≤ 8) ∧ Call sp sc d y1 [.inr (.inr (m + 2)), z0, z1] h (fun q h1 => GC sp sc [] (d + 1) mX12_readsStatement n 147 L q r h h1 Q) | none => False) | _ => False)) ∧
  (∀ (n d : Nat) (L : List (Option iV)) (a : Int) (r : List iV) (h : iH) (Q : Option iV → iH → Prop), G sp sc [] d mX12_readsStatement (n + 1) 147 L (.inl a :: r) h Q = (inI a = true ∧ (a = 0 → G sp sc [] d mX12_readsStatement n 154 L r h Q) ∧ (¬ (a = 0) → G sp sc [] d mX12_readsStatement n 150 L r h Q))) ∧
  (∀ (n d : Nat) (L : List (Option iV)) (st : List iV) (h : iH) (Q : Option iV → iH → Prop), G sp sc [] d mX12_readsStatement (n + 1) 150 L st h Q = G sp sc [] d mX12_readsStatement n 151 L (.inl 1 :: st) h Q) ∧
  (∀ (n d : Nat) (L : List (Option iV)) (st : List iV) (h : iH) (Q : Option iV → iH → Prop), G sp sc [] d mX12_readsStatement (n + 1) 151 L st h Q = G sp sc [] d mX12_readsStatement n 155 L st h Q) ∧
  (∀ (n d : Nat) (L : List (Option iV)) (st : List iV) (h : iH) (Q : Option iV → iH → Prop), G sp sc [] d mX12_readsStatement (n + 1) 154 L st h Q = G sp sc [] d mX12_readsStatement n 155 L (.inl 0 :: st) h Q) ∧
  (∀ (n d : Nat) (L : List (Option iV)) (r : List iV) (x : Int) (h : iH) (Q : Option iV → iH → Prop), G sp sc [] d mX12_readsStatement (n + 1) 155 L (.inl x :: r) h Q = (match st1 L 2 (.inl x) with | some L' => G sp sc [] d mX12_readsStatement n 156 L' r h Q | none => False)) ∧
  (∀ (n d : Nat) (L : List (Option iV)) (st : List iV) (h : iH) (Q : Option iV → iH → Prop), G sp sc [] d mX12_readsStatement (n + 1) 156 L st h Q = G sp sc [] d mX12_readsStatement n 262 L st h Q) ∧
  (∀ (n d : Nat) (L : List (Option iV)) (st : List iV) (h : iH) (Q : Option iV → iH → Prop), G sp sc [] d mX12_readsStatement (n + 1) 159 L st h Q = (match ld L 0 with | some (.inr (.inr (r + 1))) => G sp sc [] d mX12_readsStatement n 160 L (.inr (.inr (r + 1)) :: st) h Q | _ => False)) ∧
  (∀ (n d : Nat) (L : List (Option iV)) (st : List iV) (h : iH) (Q : Option iV → iH → Prop), G sp sc [] d mX12_readsStatement (n + 1) 160 L st h Q = G sp sc [] d mX12_readsStatement n 161 L (.inl 0 :: st) h Q) ∧
  (∀ (n d : Nat) (L : List (Option iV)) (st : List iV) (h : iH) (Q : Option iV → iH → Prop), G sp sc [] d mX12_readsStatement (n + 1) 161 L st h Q = G sp sc [] d mX12_readsStatement n 162 L (.inl 1 :: st) h Q) ∧
  (∀ (n d : Nat) (L : List (Option iV)) (r : List iV) (m : Nat) (z0 : iV) (z1 : iV) (h : iH) (Q : Option iV → iH → Prop), G sp sc [] (d + 1) mX12_readsStatement (n + 1) 162 L (z1 :: z0 :: .inr (.inr (m + 2)) :: r) h Q = (match h.1[m]? with | some (.inl (ci, _)) => (match lkC 12 169 ci with | some (y1, n1, kd) => (n1 = 2 ∧ (kd = 2 ∨ kd = 3 ∨ kd = 8) ∧ cs r ≤ 8) ∧ Call sp sc d y1 [.inr (.inr (m + 2)), z0, z1] h (fun q h1 => GC sp sc [] (d + 1) mX12_readsStatement n 165 L q r h h1 Q) | none => False) | _ => False)) ∧
  (∀ (n d : Nat) (L : List (Option iV)) (a : Int) (r : List iV) (h : iH) (Q : Option iV → iH → Prop), G sp sc [] d mX12_readsStatement (n + 1) 165 L (.inl a :: r) h Q = (inI a = true ∧ (a = 0 → G sp sc [] d mX12_readsStatement n 199 L r h Q) ∧ (¬ (a = 0) → G sp sc [] d mX12_readsStatement n 168 L r h Q))) ∧
  (∀ (n d : Nat) (L : List (Option iV)) (st : List iV) (h : iH) (Q : Option iV → iH → Prop), G sp sc [] d mX12_readsStatement (n + 1) 168 L st h Q = (match ld L 0 with | some (.inr (.inr (r + 1))) => G sp sc [] d mX12_readsStatement n 169 L (.inr (.inr (r + 1)) :: st) h Q | _ => False)) ∧
  (∀ (n d : Nat) (L : List (Option iV)) (st : List iV) (h : iH) (Q : Option iV → iH → Prop), G sp sc [] d mX12_readsStatement (n + 1) 169 L st h Q = G sp sc [] d mX12_readsStatement n 170 L (.inl 1 :: st) h Q) ∧
  (∀ (n d : Nat) (L : List (Option iV)) (st : List iV) (h : iH) (Q : Option iV → iH → Prop), G sp sc [] d mX12_readsStatement (n + 1) 170 L st h Q = G sp sc [] d mX12_readsStatement n 171 L (.inl 1 :: st) h Q) ∧
  (∀ (n d : Nat) (L : List (Option iV)) (r : List iV) (m : Nat) (z0 : iV) (z1 : iV) (h : iH) (Q : Option iV → iH → Prop), G sp sc [] (d + 1) mX12_readsStatement (n + 1) 171 L (z1 :: z0 :: .inr (.inr (m + 2)) :: r) h Q = (match h.1[m]? with | some (.inl (ci, _)) => (match lkC 12 169 ci with | some (y1, n1, kd) => (n1 = 2 ∧ (kd = 2 ∨ kd = 3 ∨ kd = 8) ∧ cs r ≤ 8) ∧ Call sp sc d y1 [.inr (.inr (m + 2)), z0, z1] h (fun q h1 => GC sp sc [] (d + 1) mX12_readsStatement n 174 L q r h h1 Q) | none => False) | _ => False)) ∧
  (∀ (n d : Nat) (L : List (Option iV)) (a : Int) (r : List iV) (h : iH) (Q : Option iV → iH → Prop), G sp sc [] d mX12_readsStatement (n + 1) 174 L (.inl a :: r) h Q = (inI a = true ∧ (a = 0 → G sp sc [] d mX12_readsStatement n 199 L r h Q) ∧ (¬ (a = 0) → G sp sc [] d mX12_readsStatement n 177 L r h Q))) ∧
  (∀ (n d : Nat) (L : List (Option iV)) (st : List iV) (h : iH) (Q : Option iV → iH → Prop), G sp sc [] d mX12_readsStatement (n + 1) 177 L st h Q = (match ld L 0 with | some (.inr (.inr (r + 1))) => G sp sc [] d mX12_readsStatement n 178 L (.inr (.inr (r + 1)) :: st) h Q | _ => False)) ∧
  (∀ (n d : Nat) (L : List (Option iV)) (st : List iV) (h : iH) (Q : Option iV → iH → Prop), G sp sc [] d mX12_readsStatement (n + 1) 178 L st h Q = G sp sc [] d mX12_readsStatement n 179 L (.inl 2 :: st) h Q) ∧
  (∀ (n d : Nat) (L : List (Option iV)) (st : List iV) (h : iH) (Q : Option iV → iH → Prop), G sp sc [] d mX12_readsStatement (n + 1) 179 L st h Q = G sp sc [] d mX12_readsStatement n 180 L (.inl 1 :: st) h Q) ∧
  (∀ (n d : Nat) (L : List (Option iV)) (r : List iV) (m : Nat) (z0 : iV) (z1 : iV) (h : iH) (Q : Option iV → iH → Prop), G sp sc [] (d + 1) mX12_readsStatement (n + 1) 180 L (z1 :: z0 :: .inr (.inr (m + 2)) :: r) h Q = (match h.1[m]? with | some (.inl (ci, _)) => (match lkC 12 169 ci with | some (y1, n1, kd) => (n1 = 2 ∧ (kd = 2 ∨ kd = 3 ∨ kd = 8) ∧ cs r ≤ 8) ∧ Call sp sc d y1 [.inr (.inr (m + 2)), z0, z1] h (fun q h1 => GC sp sc [] (d + 1) mX12_readsStatement n 183 L q r h h1 Q) | none => False) | _ => False)) ∧
  (∀ (n d : Nat) (L : List (Option iV)) (a : Int) (r : List iV) (h : iH) (Q : Option iV → iH → Prop), G sp sc [] d mX12_readsStatement (n + 1) 183 L (.inl a :: r) h Q = (inI a = true ∧ (a = 0 → G sp sc [] d mX12_readsStatement n 199 L r h Q) ∧ (¬ (a = 0) → G sp sc [] d mX12_readsStatement n 186 L r h Q))) ∧
  (∀ (n d : Nat) (L : List (Option iV)) (st : List iV) (h : iH) (Q : Option iV → iH → Prop), G sp sc [] d mX12_readsStatement (n + 1) 186 L st h Q = (match ld L 0 with | some (.inr (.inr (r + 1))) => G sp sc [] d mX12_readsStatement n 187 L (.inr (.inr (r + 1)) :: st) h Q | _ => False)) ∧
  (∀ (n d : Nat) (L : List (Option iV)) (st : List iV) (h : iH) (Q : Option iV → iH → Prop), G sp sc [] d mX12_readsStatement (n + 1) 187 L st h Q = G sp sc [] d mX12_readsStatement n 188 L (.inl 3 :: st) h Q) ∧
  (∀ (n d : Nat) (L : List (Option iV)) (st : List iV) (h : iH) (Q : Option iV → iH → Prop), G sp sc [] d mX12_readsStatement (n + 1) 188 L st h Q = G sp sc [] d mX12_readsStatement n 189 L (.inl 2 :: st) h Q) ∧
  (∀ (n d : Nat) (L : List (Option iV)) (r : List iV) (m : Nat) (z0 : iV) (z1 : iV) (h : iH) (Q : Option iV → iH → Prop), G sp sc [] (d + 1) mX12_readsStatement (n + 1) 189 L (z1 :: z0 :: .inr (.inr (m + 2)) :: r) h Q = (match h.1[m]? with | some (.inl (ci, _)) => (match lkC 12 169 ci with | some (y1, n1, kd) => (n1 = 2 ∧ (kd = 2 ∨ kd = 3 ∨ kd = 8) ∧ cs r ≤ 8) ∧ Call sp sc d y1 [.inr (.inr (m + 2)), z0, z1] h (fun q h1 => GC sp sc [] (d + 1) mX12_readsStatement n 192 L q r h h1 Q) | none => False) | _ => False)) ∧
  (∀ (n d : Nat) (L : List (Option iV)) (a : Int) (r : List iV) (h : iH) (Q : Option iV → iH → Prop), G sp sc [] d mX12_readsStatement (n + 1) 192 L (.inl a :: r) h Q = (inI a = true ∧ (a = 0 → G sp sc [] d mX12_readsStatement n 199 L r h Q) ∧ (¬ (a = 0) → G sp sc [] d mX12_readsStatement n 195 L r h Q))) ∧
  (∀ (n d : Nat) (L : List (Option iV)) (st : List iV) (h : iH) (Q : Option iV → iH → Prop), G sp sc [] d mX12_readsStatement (n + 1) 195 L st h Q = G sp sc [] d mX12_readsStatement n 196 L (.inl 1 :: st) h Q) ∧
  (∀ (n d : Nat) (L : List (Option iV)) (st : List iV) (h : iH) (Q : Option iV → iH → Prop), G sp sc [] d mX12_readsStatement (n + 1) 196 L st h Q = G sp sc [] d mX12_readsStatement n 200 L st h Q) ∧
  (∀ (n d : Nat) (L : List (Option iV)) (st : List iV) (h : iH) (Q : Option iV → iH → Prop), G sp sc [] d mX12_readsStatement (n + 1) 199 L st h Q = G sp sc [] d mX12_readsStatement n 200 L (.inl 0 :: st) h Q) ∧
  (∀ (n d : Nat) (L : List (Option iV)) (r : List iV) (x : Int) (h : iH) (Q : Option iV → iH → Prop), G sp sc [] d mX12_readsStatement (n + 1) 200 L (.inl x :: r) h Q = (match st1 L 2 (.inl x) with | some L' => G sp sc [] d mX12_readsStatement n 201 L' r h Q | none => False)) ∧
  (∀ (n d : Nat) (L : List (Option iV)) (st : List iV) (h : iH) (Q : Option iV → iH → Prop), G sp sc [] d mX12_readsStatement (n + 1) 201 L st h Q = G sp sc [] d mX12_readsStatement n 262 L st h Q) ∧
  (∀ (n d : Nat) (L : List (Option iV)) (st : List iV) (h : iH) (Q : Option iV → iH → Prop), G sp sc [] d mX12_readsStatement (n + 1) 204 L st h Q = (match ld L 0 with | some (.inr (.inr (r + 1))) => G sp sc [] d mX12_readsStatement n 205 L (.inr (.inr (r + 1)) :: st) h Q | _ => False)) ∧
  (∀ (n d : Nat) (L : List (Option iV)) (st : List iV) (h : iH) (Q : Option iV → iH → Prop), G sp sc [] d mX12_readsStatement (n + 1) 205 L st h Q = G sp sc [] d mX12_readsStatement n 206 L (.inl 0 :: st) h Q) ∧
  (∀ (n d : Nat) (L : List (Option iV)) (st : List iV) (h : iH) (Q : Option iV → iH → Prop), G sp sc [] d mX12_readsStatement (n + 1) 206 L st h Q = G sp sc [] d mX12_readsStatement n 207 L (.inl 1 :: st) h Q) ∧
  (∀ (n d : Nat) (L : List (Option iV)) (r : List iV) (m : Nat) (z0 : iV) (z1 : iV) (h : iH) (Q : Option iV → iH → Prop), G sp sc [] (d + 1) mX12_readsStatement (n + 1) 207 L (z1 :: z0 :: .inr (.inr (m + 2)) :: r) h Q = (match h.1[m]? with | some (.inl (ci, _)) => (match lkC 12 169 ci with | some (y1, n1, kd) => (n1 = 2 ∧ (kd = 2 ∨ kd = 3 ∨ kd = 8) ∧ cs r ≤ 8) ∧ Call sp sc d y1 [.inr (.inr (m + 2)), z0, z1] h (fun q h1 => GC sp sc [] (d + 1) mX12_readsStatement n 210 L q r h h1 Q) | none => False) | _ => False)) ∧
  (∀ (n d : Nat) (L : List (Option iV)) (a : Int) (r : List iV) (h : iH) (Q : Option iV → iH → Prop), G sp sc [] d mX12_readsStatement (n + 1) 210 L (.inl a :: r) h Q = (inI a = true ∧ (a = 0 → G sp sc [] d mX12_readsStatement n 235 L r h Q) ∧ (¬ (a = 0) → G sp sc [] d mX12_readsStatement n 213 L r h Q))) ∧
  (∀ (n d : Nat) (L : List (Option iV)) (st : List iV) (h : iH) (Q : Option iV → iH → Prop), G sp sc [] d mX12_readsStatement (n + 1) 213 L st h Q = (match ld L 0 with | some (.inr (.inr (r + 1))) => G sp sc [] d mX12_readsStatement n 214 L (.inr (.inr (r + 1)) :: st) h Q | _ => False)) ∧
  (∀ (n d : Nat) (L : List (Option iV)) (st : List iV) (h : iH) (Q : Option iV → iH → Prop), G sp sc [] d mX12_readsStatement (n + 1) 214 L st h Q = G sp sc [] d mX12_readsStatement n 215 L (.inl 1 :: st) h Q) ∧
  (∀ (n d : Nat) (L : List (Option iV)) (st : List iV) (h : iH) (Q : Option iV → iH → Prop), G sp sc [] d mX12_readsStatement (n + 1) 215 L st h Q = G sp sc [] d mX12_readsStatement n 216 L (.inl 1 :: st) h Q) ∧
  (∀ (n d : Nat) (L : List (Option iV)) (r : List iV) (m : Nat) (z0 : iV) (z1 : iV) (h : iH) (Q : Option iV → iH → Prop), G sp sc [] (d + 1) mX12_readsStatement (n + 1) 216 L (z1 :: z0 :: .inr (.inr (m + 2)) :: r) h Q = (match h.1[m]? with | some (.inl (ci, _)) => (match lkC 12 169 ci with | some (y1, n1, kd) => (n1 = 2 ∧ (kd = 2 ∨ kd = 3 ∨ kd = 8) ∧ cs r ≤ 8) ∧ Call sp sc d y1 [.inr (.inr (m + 2)), z0, z1] h (fun q h1 => GC sp sc [] (d + 1) mX12_readsStatement n 219 L q r h h1 Q) | none => False) | _ => False)) ∧
  (∀ (n d : Nat) (L : List (Option iV)) (a : Int) (r : List iV) (h : iH) (Q : Option iV → iH → Prop), G sp sc [] d mX12_readsStatement (n + 1) 219 L (.inl a :: r) h Q = (inI a = true ∧ (a = 0 → G sp sc [] d mX12_readsStatement n 235 L r h Q) ∧ (¬ (a = 0) → G sp sc [] d mX12_readsStatement n 222 L r h Q))) ∧
  (∀ (n d : Nat) (L : List (Option iV)) (st : List iV) (h : iH) (Q : Option iV → iH → Prop), G sp sc [] d mX12_readsStatement (n + 1) 222 L st h Q = (match ld L 0 with | some (.inr (.inr (r + 1))) => G sp sc [] d mX12_readsStatement n 223 L (.inr (.inr (r + 1)) :: st) h Q | _ => False)) ∧
  (∀ (n d : Nat) (L : List (Option iV)) (st : List iV) (h : iH) (Q : Option iV → iH → Prop), G sp sc [] d mX12_readsStatement (n + 1) 223 L st h Q = G sp sc [] d mX12_readsStatement n 224 L (.inl 2 :: st) h Q) ∧
  (∀ (n d : Nat) (L : List (Option iV)) (st : List iV) (h : iH) (Q : Option iV → iH → Prop), G sp sc [] d mX12_readsStatement (n + 1) 224 L st h Q = G sp sc [] d mX12_readsStatement n 225 L (.inl 1 :: st) h Q) ∧
  (∀ (n d : Nat) (L : List (Option iV)) (r : List iV) (m : Nat) (z0 : iV) (z1 : iV) (h : iH) (Q : Option iV → iH → Prop), G sp sc [] (d + 1) mX12_readsStatement (n + 1) 225 L (z1 :: z0 :: .inr (.inr (m + 2)) :: r) h Q = (match h.1[m]? with | some (.inl (ci, _)) => (match lkC 12 169 ci with | some (y1, n1, kd) => (n1 = 2 ∧ (kd = 2 ∨ kd = 3 ∨ kd = 8) ∧ cs r ≤ 8) ∧ Call sp sc d y1 [.inr (.inr (m + 2)), z0, z1] h (fun q h1 => GC sp sc [] (d + 1) mX12_readsStatement n 228 L q r h h1 Q) | none => False) | _ => False)) ∧
  (∀ (n d : Nat) (L : List (Option iV)) (a : Int) (r : List iV) (h : iH) (Q : Option iV → iH → Prop), G sp sc [] d mX12_readsStatement (n + 1) 228 L (.inl a :: r) h Q = (inI a = true ∧ (a = 0 → G sp sc [] d mX12_readsStatement n 235 L r h Q) ∧ (¬ (a = 0) → G sp sc [] d mX12_readsStatement n 231 L r h Q))) ∧
  (∀ (n d : Nat) (L : List (Option iV)) (st : List iV) (h : iH) (Q : Option iV → iH → Prop), G sp sc [] d mX12_readsStatement (n + 1) 231 L st h Q = G sp sc [] d mX12_readsStatement n 232 L (.inl 1 :: st) h Q) ∧
  (∀ (n d : Nat) (L : List (Option iV)) (st : List iV) (h : iH) (Q : Option iV → iH → Prop), G sp sc [] d mX12_readsStatement (n + 1) 232 L st h Q = G sp sc [] d mX12_readsStatement n 236 L st h Q) ∧
  (∀ (n d : Nat) (L : List (Option iV)) (st : List iV) (h : iH) (Q : Option iV → iH → Prop), G sp sc [] d mX12_readsStatement (n + 1) 235 L st h Q = G sp sc [] d mX12_readsStatement n 236 L (.inl 0 :: st) h Q) ∧
  (∀ (n d : Nat) (L : List (Option iV)) (r : List iV) (x : Int) (h : iH) (Q : Option iV → iH → Prop), G sp sc [] d mX12_readsStatement (n + 1) 236 L (.inl x :: r) h Q = (match st1 L 2 (.inl x) with | some L' => G sp sc [] d mX12_readsStatement n 237 L' r h Q | none => False)) ∧
  (∀ (n d : Nat) (L : List (Option iV)) (st : List iV) (h : iH) (Q : Option iV → iH → Prop), G sp sc [] d mX12_readsStatement (n + 1) 237 L st h Q = G sp sc [] d mX12_readsStatement n 262 L st h Q) ∧
  (∀ (n d : Nat) (L : List (Option iV)) (st : List iV) (h : iH) (Q : Option iV → iH → Prop), G sp sc [] d mX12_readsStatement (n + 1) 240 L st h Q = (match ld L 0 with | some (.inr (.inr (r + 1))) => G sp sc [] d mX12_readsStatement n 241 L (.inr (.inr (r + 1)) :: st) h Q | _ => False)) ∧
  (∀ (n d : Nat) (L : List (Option iV)) (st : List iV) (h : iH) (Q : Option iV → iH → Prop), G sp sc [] d mX12_readsStatement (n + 1) 241 L st h Q = G sp sc [] d mX12_readsStatement n 242 L (.inl 0 :: st) h Q) ∧
  (∀ (n d : Nat) (L : List (Option iV)) (st : List iV) (h : iH) (Q : Option iV → iH → Prop), G sp sc [] d mX12_readsStatement (n + 1) 242 L st h Q = G sp sc [] d mX12_readsStatement n 243 L (.inl 2 :: st) h Q) ∧
  (∀ (n d : Nat) (L : List (Option iV)) (r : List iV) (m : Nat) (z0 : iV) (z1 : iV) (h : iH) (Q : Option iV → iH → Prop), G sp sc [] (d + 1) mX12_readsStatement (n + 1) 243 L (z1 :: z0 :: .inr (.inr (m + 2)) :: r) h Q = (match h.1[m]? with | some (.inl (ci, _)) => (match lkC 12 169 ci with | some (y1, n1, kd) => (n1 = 2 ∧ (kd = 2 ∨ kd = 3 ∨ kd = 8) ∧ cs r ≤ 8) ∧ Call sp sc d y1 [.inr (.inr (m + 2)), z0, z1] h (fun q h1 => GC sp sc [] (d + 1) mX12_readsStatement n 246 L q r h h1 Q) | none => False) | _ => False)) ∧
  (∀ (n d : Nat) (L : List (Option iV)) (r : List iV) (x : Int) (h : iH) (Q : Option iV → iH → Prop), G sp sc [] d mX12_readsStatement (n + 1) 246 L (.inl x :: r) h Q = (match st1 L 2 (.inl x) with | some L' => G sp sc [] d mX12_readsStatement n 247 L' r h Q | none => False)) ∧
  (∀ (n d : Nat) (L : List (Option iV)) (st : List iV) (h : iH) (Q : Option iV → iH → Prop), G sp sc [] d mX12_readsStatement (n + 1) 247 L st h Q = G sp sc [] d mX12_readsStatement n 262 L st h Q) ∧
  (∀ (n d : Nat) (L : List (Option iV)) (st : List iV) (h : iH) (Q : Option iV → iH → Prop), G sp sc [] d mX12_readsStatement (n + 1) 250 L st h Q = (match ld L 0 with | some (.inr (.inr (r + 1))) => G sp sc [] d mX12_readsStatement n 251 L (.inr (.inr (r + 1)) :: st) h Q | _ => False)) ∧
  (∀ (n d : Nat) (L : List (Option iV)) (a : Int) (r : List iV) (h : iH) (Q : Option iV → iH → Prop), G sp sc [] d mX12_readsStatement (n + 1) 251 L (.inl a :: r) h Q = G sp sc [] d mX12_readsStatement n 252 L (.inl a :: .inl a :: r) h Q) ∧
  (∀ (n d : Nat) (L : List (Option iV)) (a : Nat) (r : List iV) (h : iH) (Q : Option iV → iH → Prop), G sp sc [] d mX12_readsStatement (n + 1) 251 L (.inr (.inr a) :: r) h Q = G sp sc [] d mX12_readsStatement n 252 L (.inr (.inr a) :: .inr (.inr a) :: r) h Q) ∧
  (∀ (n d : Nat) (L : List (Option iV)) (r : List iV) (m : Nat) (h : iH) (Q : Option iV → iH → Prop), G sp sc [] d mX12_readsStatement (n + 1) 252 L (.inr (.inr (m + 2)) :: r) h Q = (match h.1[m]? with | some (.inl (ci, fs)) => (match lkF 12 156 ci with | some k => (match fs[k]? with | some v => G sp sc [] d mX12_readsStatement n 255 L (v :: r) h Q | none => False) | none => False) | _ => False)) ∧
  (∀ (n d : Nat) (L : List (Option iV)) (st : List iV) (h : iH) (Q : Option iV → iH → Prop), G sp sc [] d mX12_readsStatement (n + 1) 255 L st h Q = G sp sc [] d mX12_readsStatement n 256 L (.inl 1 :: st) h Q) ∧
  (∀ (n d : Nat) (L : List (Option iV)) (a : Int) (b : Int) (r : List iV) (h : iH) (Q : Option iV → iH → Prop), G sp sc [] d mX12_readsStatement (n + 1) 256 L (.inl b :: .inl a :: r) h Q = G sp sc [] d mX12_readsStatement n 257 L (.inl (a - b) :: r) h Q) ∧
  (∀ (n d : Nat) (L : List (Option iV)) (r : List iV) (v : iV) (m : Nat) (h : iH) (Q : Option iV → iH → Prop), G sp sc [] d mX12_readsStatement (n + 1) 257 L (v :: .inr (.inr (m + 2)) :: r) h Q = (match h.1[m]? with | some (.inl (ci, fs)) => (match lkF 12 156 ci with | some k => (fitV (tyT ci k) v = true ∧ k < fs.length ∧ pOK 12 false ci k = true) ∧ G sp sc [] d mX12_readsStatement n 260 L r (h.1.set m (.inl (ci, fs.set k v)), h.2) Q | none => False) | _ => False)) ∧
  (∀ (n d : Nat) (L : List (Option iV)) (st : List iV) (h : iH) (Q : Option iV → iH → Prop), G sp sc [] d mX12_readsStatement (n + 1) 260 L st h Q = G sp sc [] d mX12_readsStatement n 261 L (.inl 0 :: st) h Q) ∧
  (∀ (n d : Nat) (L : List (Option iV)) (a : Int) (h : iH) (Q : Option iV → iH → Prop), G sp sc [] d mX12_readsStatement (n + 1) 261 L [.inl a] h Q = ((a = 0 ∨ a = 1) ∧ Q (some (.inl a)) h)) ∧
  (∀ (n d : Nat) (L : List (Option iV)) (st : List iV) (h : iH) (Q : Option iV → iH → Prop), G sp sc [] d mX12_readsStatement (n + 1) 262 L st h Q = (match ld L 2 with | some (.inl x) => G sp sc [] d mX12_readsStatement n 263 L (.inl x :: st) h Q | _ => False)) ∧
  (∀ (n d : Nat) (L : List (Option iV)) (a : Int) (r : List iV) (h : iH) (Q : Option iV → iH → Prop), G sp sc [] d mX12_readsStatement (n + 1) 263 L (.inl a :: r) h Q = (inI a = true ∧ (a = 0 → G sp sc [] d mX12_readsStatement n 275 L r h Q) ∧ (¬ (a = 0) → G sp sc [] d mX12_readsStatement n 266 L r h Q))) ∧
  (∀ (n d : Nat) (L : List (Option iV)) (st : List iV) (h : iH) (Q : Option iV → iH → Prop), G sp sc [] d mX12_readsStatement (n + 1) 266 L st h Q = (match ld L 0 with | some (.inr (.inr (r + 1))) => G sp sc [] d mX12_readsStatement n 267 L (.inr (.inr (r + 1)) :: st) h Q | _ => False)) ∧
  (∀ (n d : Nat) (L : List (Option iV)) (r : List iV) (m : Nat) (h : iH) (Q : Option iV → iH → Prop), G sp sc [] (d + 1) mX12_readsStatement (n + 1) 267 L (.inr (.inr (m + 2)) :: r) h Q = (match h.1[m]? with | some (.inl (ci, _)) => (match lkC 12 165 ci with | some (y1, n1, kd) => (n1 = 0 ∧ (kd = 2 ∨ kd = 3 ∨ kd = 8) ∧ cs r ≤ 8) ∧ Call sp sc d y1 [.inr (.inr (m + 2))] h (fun q h1 => GC sp sc [] (d + 1) mX12_readsStatement n 270 L q r h h1 Q) | none => False) | _ => False)) ∧
  (∀ (n d : Nat) (L : List (Option iV)) (st : List iV) (h : iH) (Q : Option iV → iH → Prop), G sp sc [] d mX12_readsStatement (n + 1) 270 L st h Q = ((-128 ≤ (59 : Int) ∧ (59 : Int) < 128) ∧ G sp sc [] d mX12_readsStatement n 272 L (.inl 59 :: st) h Q)) ∧
  (∀ (n d : Nat) (L : List (Option iV)) (a : Int) (b : Int) (r : List iV) (h : iH) (Q : Option iV → iH → Prop), G sp sc [] d mX12_readsStatement (n + 1) 272 L (.inl b :: .inl a :: r) h Q = ((inI a = true ∧ inI b = true) ∧ (a = b → G sp sc [] d mX12_readsStatement n 277 L r h Q) ∧ (¬ (a = b) → G sp sc [] d mX12_readsStatement n 275 L r h Q))) ∧
  (∀ (n d : Nat) (L : List (Option iV)) (st : List iV) (h : iH) (Q : Option iV → iH → Prop), G sp sc [] d mX12_readsStatement (n + 1) 275 L st h Q = G sp sc [] d mX12_readsStatement n 276 L (.inl 0 :: st) h Q) ∧
  (∀ (n d : Nat) (L : List (Option iV)) (a : Int) (h : iH) (Q : Option iV → iH → Prop), G sp sc [] d mX12_readsStatement (n + 1) 276 L [.inl a] h Q = ((a = 0 ∨ a = 1) ∧ Q (some (.inl a)) h)) ∧
  (∀ (n d : Nat) (L : List (Option iV)) (st : List iV) (h : iH) (Q : Option iV → iH → Prop), G sp sc [] d mX12_readsStatement (n + 1) 277 L st h Q = (match ld L 0 with | some (.inr (.inr (r + 1))) => G sp sc [] d mX12_readsStatement n 278 L (.inr (.inr (r + 1)) :: st) h Q | _ => False)) ∧
  (∀ (n d : Nat) (L : List (Option iV)) (a : Int) (r : List iV) (h : iH) (Q : Option iV → iH → Prop), G sp sc [] d mX12_readsStatement (n + 1) 278 L (.inl a :: r) h Q = G sp sc [] d mX12_readsStatement n 279 L (.inl a :: .inl a :: r) h Q) ∧
  (∀ (n d : Nat) (L : List (Option iV)) (a : Nat) (r : List iV) (h : iH) (Q : Option iV → iH → Prop), G sp sc [] d mX12_readsStatement (n + 1) 278 L (.inr (.inr a) :: r) h Q = G sp sc [] d mX12_readsStatement n 279 L (.inr (.inr a) :: .inr (.inr a) :: r) h Q) ∧
  (∀ (n d : Nat) (L : List (Option iV)) (r : List iV) (m : Nat) (h : iH) (Q : Option iV → iH → Prop), G sp sc [] d mX12_readsStatement (n + 1) 279 L (.inr (.inr (m + 2)) :: r) h Q = (match h.1[m]? with | some (.inl (ci, fs)) => (match lkF 12 156 ci with | some k => (match fs[k]? with | some v => G sp sc [] d mX12_readsStatement n 282 L (v :: r) h Q | none => False) | none => False) | _ => False)) ∧
  (∀ (n d : Nat) (L : List (Option iV)) (st : List iV) (h : iH) (Q : Option iV → iH → Prop), G sp sc [] d mX12_readsStatement (n + 1) 282 L st h Q = G sp sc [] d mX12_readsStatement n 283 L (.inl 1 :: st) h Q) ∧
  (∀ (n d : Nat) (L : List (Option iV)) (a : Int) (b : Int) (r : List iV) (h : iH) (Q : Option iV → iH → Prop), G sp sc [] d mX12_readsStatement (n + 1) 283 L (.inl b :: .inl a :: r) h Q = G sp sc [] d mX12_readsStatement n 284 L (.inl (a + b) :: r) h Q) ∧
  (∀ (n d : Nat) (L : List (Option iV)) (r : List iV) (v : iV) (m : Nat) (h : iH) (Q : Option iV → iH → Prop), G sp sc [] d mX12_readsStatement (n + 1) 284 L (v :: .inr (.inr (m + 2)) :: r) h Q = (match h.1[m]? with | some (.inl (ci, fs)) => (match lkF 12 156 ci with | some k => (fitV (tyT ci k) v = true ∧ k < fs.length ∧ pOK 12 false ci k = true) ∧ G sp sc [] d mX12_readsStatement n 287 L r (h.1.set m (.inl (ci, fs.set k v)), h.2) Q | none => False) | _ => False)) ∧
  (∀ (n d : Nat) (L : List (Option iV)) (st : List iV) (h : iH) (Q : Option iV → iH → Prop), G sp sc [] d mX12_readsStatement (n + 1) 287 L st h Q = G sp sc [] d mX12_readsStatement n 288 L (.inl 1 :: st) h Q) ∧
  (∀ (n d : Nat) (L : List (Option iV)) (a : Int) (h : iH) (Q : Option iV → iH → Prop), G sp sc [] d mX12_readsStatement (n + 1) 288 L [.inl a] h Q = ((a = 0 ∨ a = 1) ∧ Q (some (.inl a)) h)) ∧
  lkC 12 165 12 = some (mX12_here, 0, 2) ∧
  lkC 12 169 12 = some (mX12_readsNumber, 2, 2) ∧
  lkF 12 156 12 = some 12 ∧
  pOK 12 false 12 12 = true := ⟨by intros; exact G_at (by decide +kernel : fetch mX12_readsStatement 0 = some (.aload_n 0)),
  by intros; exact G_callV (by decide +kernel : fetch mX12_readsStatement 1 = some (.invokevirtual 165)) (by decide +kernel) (by decide +kernel) rfl,
  by intros; exact G_at (by decide +kernel : fetch mX12_readsStatement 4 = some (.istore_n 1)),
  by intros; exact G_at (by decide +kernel : fetch mX12_readsStatement 5 = some (.aload_n 0)),
  by intros; exact G_at (by decide +kernel : fetch mX12_readsStatement 6 = some (.dup)),
  by intros; exact G_at (by decide +kernel : fetch mX12_readsStatement 6 = some (.dup)),
  by intros; exact G_own (by decide +kernel : fetch mX12_readsStatement 7 = some (.getfield 156)) (by decide +kernel),
  by intros; exact G_at (by decide +kernel : fetch mX12_readsStatement 10 = some (.iconst 1)),
  by intros; exact G_at (by decide +kernel : fetch mX12_readsStatement 11 = some (.iadd)),
  by intros; exact G_ownW (by decide +kernel : fetch mX12_readsStatement 12 = some (.putfield 156)) (by decide +kernel) (by decide +kernel),
  by intros; exact G_at (by decide +kernel : fetch mX12_readsStatement 15 = some (.iload_n 1)),
  by intros; exact G_at (by decide +kernel : fetch mX12_readsStatement 16 = some (.tableswitch 234 97 121 #[116, 234, 116, 188, 234, 234, 234, 234, 234, 234, 234, 143, 116, 234, 234, 234, 234, 234, 224, 234, 234, 234, 116, 234, 224])),
  by intros; exact G_at (by decide +kernel : fetch mX12_readsStatement 132 = some (.aload_n 0)),
  by intros; exact G_at (by decide +kernel : fetch mX12_readsStatement 133 = some (.iconst 0)),
  by intros; exact G_at (by decide +kernel : fetch mX12_readsStatement 134 = some (.iconst 1)),
  by intros; exact G_callV (by decide +kernel : fetch mX12_readsStatement 135 = some (.invokevirtual 169)) (by decide +kernel) (by decide +kernel) rfl,
  by intros; exact G_at (by decide +kernel : fetch mX12_readsStatement 138 = some (.ifCond .eq 16)),
  by intros; exact G_at (by decide +kernel : fetch mX12_readsStatement 141 = some (.aload_n 0)),
  by intros; exact G_at (by decide +kernel : fetch mX12_readsStatement 142 = some (.iconst 1)),
  by intros; exact G_at (by decide +kernel : fetch mX12_readsStatement 143 = some (.iconst 1)),
  by intros; exact G_callV (by decide +kernel : fetch mX12_readsStatement 144 = some (.invokevirtual 169)) (by decide +kernel) (by decide +kernel) rfl,
  by intros; exact G_at (by decide +kernel : fetch mX12_readsStatement 147 = some (.ifCond .eq 7)),
  by intros; exact G_at (by decide +kernel : fetch mX12_readsStatement 150 = some (.iconst 1)),
  by intros; exact G_at (by decide +kernel : fetch mX12_readsStatement 151 = some (.goto 4)),
  by intros; exact G_at (by decide +kernel : fetch mX12_readsStatement 154 = some (.iconst 0)),
  by intros; exact G_at (by decide +kernel : fetch mX12_readsStatement 155 = some (.istore_n 2)),
  by intros; exact G_at (by decide +kernel : fetch mX12_readsStatement 156 = some (.goto 106)),
  by intros; exact G_at (by decide +kernel : fetch mX12_readsStatement 159 = some (.aload_n 0)),
  by intros; exact G_at (by decide +kernel : fetch mX12_readsStatement 160 = some (.iconst 0)),
  by intros; exact G_at (by decide +kernel : fetch mX12_readsStatement 161 = some (.iconst 1)),
  by intros; exact G_callV (by decide +kernel : fetch mX12_readsStatement 162 = some (.invokevirtual 169)) (by decide +kernel) (by decide +kernel) rfl,
  by intros; exact G_at (by decide +kernel : fetch mX12_readsStatement 165 = some (.ifCond .eq 34)),
  by intros; exact G_at (by decide +kernel : fetch mX12_readsStatement 168 = some (.aload_n 0)),
  by intros; exact G_at (by decide +kernel : fetch mX12_readsStatement 169 = some (.iconst 1)),
  by intros; exact G_at (by decide +kernel : fetch mX12_readsStatement 170 = some (.iconst 1)),
  by intros; exact G_callV (by decide +kernel : fetch mX12_readsStatement 171 = some (.invokevirtual 169)) (by decide +kernel) (by decide +kernel) rfl,
  by intros; exact G_at (by decide +kernel : fetch mX12_readsStatement 174 = some (.ifCond .eq 25)),
  by intros; exact G_at (by decide +kernel : fetch mX12_readsStatement 177 = some (.aload_n 0)),
  by intros; exact G_at (by decide +kernel : fetch mX12_readsStatement 178 = some (.iconst 2)),
  by intros; exact G_at (by decide +kernel : fetch mX12_readsStatement 179 = some (.iconst 1)),
  by intros; exact G_callV (by decide +kernel : fetch mX12_readsStatement 180 = some (.invokevirtual 169)) (by decide +kernel) (by decide +kernel) rfl,
  by intros; exact G_at (by decide +kernel : fetch mX12_readsStatement 183 = some (.ifCond .eq 16)),
  by intros; exact G_at (by decide +kernel : fetch mX12_readsStatement 186 = some (.aload_n 0)),
  by intros; exact G_at (by decide +kernel : fetch mX12_readsStatement 187 = some (.iconst 3)),
  by intros; exact G_at (by decide +kernel : fetch mX12_readsStatement 188 = some (.iconst 2)),
  by intros; exact G_callV (by decide +kernel : fetch mX12_readsStatement 189 = some (.invokevirtual 169)) (by decide +kernel) (by decide +kernel) rfl,
  by intros; exact G_at (by decide +kernel : fetch mX12_readsStatement 192 = some (.ifCond .eq 7)),
  by intros; exact G_at (by decide +kernel : fetch mX12_readsStatement 195 = some (.iconst 1)),
  by intros; exact G_at (by decide +kernel : fetch mX12_readsStatement 196 = some (.goto 4)),
  by intros; exact G_at (by decide +kernel : fetch mX12_readsStatement 199 = some (.iconst 0)),
  by intros; exact G_at (by decide +kernel : fetch mX12_readsStatement 200 = some (.istore_n 2)),
  by intros; exact G_at (by decide +kernel : fetch mX12_readsStatement 201 = some (.goto 61)),
  by intros; exact G_at (by decide +kernel : fetch mX12_readsStatement 204 = some (.aload_n 0)),
  by intros; exact G_at (by decide +kernel : fetch mX12_readsStatement 205 = some (.iconst 0)),
  by intros; exact G_at (by decide +kernel : fetch mX12_readsStatement 206 = some (.iconst 1)),
  by intros; exact G_callV (by decide +kernel : fetch mX12_readsStatement 207 = some (.invokevirtual 169)) (by decide +kernel) (by decide +kernel) rfl,
  by intros; exact G_at (by decide +kernel : fetch mX12_readsStatement 210 = some (.ifCond .eq 25)),
  by intros; exact G_at (by decide +kernel : fetch mX12_readsStatement 213 = some (.aload_n 0)),
  by intros; exact G_at (by decide +kernel : fetch mX12_readsStatement 214 = some (.iconst 1)),
  by intros; exact G_at (by decide +kernel : fetch mX12_readsStatement 215 = some (.iconst 1)),
  by intros; exact G_callV (by decide +kernel : fetch mX12_readsStatement 216 = some (.invokevirtual 169)) (by decide +kernel) (by decide +kernel) rfl,
  by intros; exact G_at (by decide +kernel : fetch mX12_readsStatement 219 = some (.ifCond .eq 16)),
  by intros; exact G_at (by decide +kernel : fetch mX12_readsStatement 222 = some (.aload_n 0)),
  by intros; exact G_at (by decide +kernel : fetch mX12_readsStatement 223 = some (.iconst 2)),
  by intros; exact G_at (by decide +kernel : fetch mX12_readsStatement 224 = some (.iconst 1)),
  by intros; exact G_callV (by decide +kernel : fetch mX12_readsStatement 225 = some (.invokevirtual 169)) (by decide +kernel) (by decide +kernel) rfl,
  by intros; exact G_at (by decide +kernel : fetch mX12_readsStatement 228 = some (.ifCond .eq 7)),
  by intros; exact G_at (by decide +kernel : fetch mX12_readsStatement 231 = some (.iconst 1)),
  by intros; exact G_at (by decide +kernel : fetch mX12_readsStatement 232 = some (.goto 4)),
  by intros; exact G_at (by decide +kernel : fetch mX12_readsStatement 235 = some (.iconst 0)),
  by intros; exact G_at (by decide +kernel : fetch mX12_readsStatement 236 = some (.istore_n 2)),
  by intros; exact G_at (by decide +kernel : fetch mX12_readsStatement 237 = some (.goto 25)),
  by intros; exact G_at (by decide +kernel : fetch mX12_readsStatement 240 = some (.aload_n 0)),
  by intros; exact G_at (by decide +kernel : fetch mX12_readsStatement 241 = some (.iconst 0)),
  by intros; exact G_at (by decide +kernel : fetch mX12_readsStatement 242 = some (.iconst 2)),
  by intros; exact G_callV (by decide +kernel : fetch mX12_readsStatement 243 = some (.invokevirtual 169)) (by decide +kernel) (by decide +kernel) rfl,
  by intros; exact G_at (by decide +kernel : fetch mX12_readsStatement 246 = some (.istore_n 2)),
  by intros; exact G_at (by decide +kernel : fetch mX12_readsStatement 247 = some (.goto 15)),
  by intros; exact G_at (by decide +kernel : fetch mX12_readsStatement 250 = some (.aload_n 0)),
  by intros; exact G_at (by decide +kernel : fetch mX12_readsStatement 251 = some (.dup)),
  by intros; exact G_at (by decide +kernel : fetch mX12_readsStatement 251 = some (.dup)),
  by intros; exact G_own (by decide +kernel : fetch mX12_readsStatement 252 = some (.getfield 156)) (by decide +kernel),
  by intros; exact G_at (by decide +kernel : fetch mX12_readsStatement 255 = some (.iconst 1)),
  by intros; exact G_at (by decide +kernel : fetch mX12_readsStatement 256 = some (.isub)),
  by intros; exact G_ownW (by decide +kernel : fetch mX12_readsStatement 257 = some (.putfield 156)) (by decide +kernel) (by decide +kernel),
  by intros; exact G_at (by decide +kernel : fetch mX12_readsStatement 260 = some (.iconst 0)),
  by intros; exact G_retz (by decide +kernel : fetch mX12_readsStatement 261 = some (.ireturn)) (by decide +kernel),
  by intros; exact G_at (by decide +kernel : fetch mX12_readsStatement 262 = some (.iload_n 2)),
  by intros; exact G_at (by decide +kernel : fetch mX12_readsStatement 263 = some (.ifCond .eq 12)),
  by intros; exact G_at (by decide +kernel : fetch mX12_readsStatement 266 = some (.aload_n 0)),
  by intros; exact G_callV (by decide +kernel : fetch mX12_readsStatement 267 = some (.invokevirtual 165)) (by decide +kernel) (by decide +kernel) rfl,
  by intros; exact G_at (by decide +kernel : fetch mX12_readsStatement 270 = some (.bipush 59)),
  by intros; exact G_at (by decide +kernel : fetch mX12_readsStatement 272 = some (.if_icmp .eq 5)),
  by intros; exact G_at (by decide +kernel : fetch mX12_readsStatement 275 = some (.iconst 0)),
  by intros; exact G_retz (by decide +kernel : fetch mX12_readsStatement 276 = some (.ireturn)) (by decide +kernel),
  by intros; exact G_at (by decide +kernel : fetch mX12_readsStatement 277 = some (.aload_n 0)),
  by intros; exact G_at (by decide +kernel : fetch mX12_readsStatement 278 = some (.dup)),
  by intros; exact G_at (by decide +kernel : fetch mX12_readsStatement 278 = some (.dup)),
  by intros; exact G_own (by decide +kernel : fetch mX12_readsStatement 279 = some (.getfield 156)) (by decide +kernel),
  by intros; exact G_at (by decide +kernel : fetch mX12_readsStatement 282 = some (.iconst 1)),
  by intros; exact G_at (by decide +kernel : fetch mX12_readsStatement 283 = some (.iadd)),
  by intros; exact G_ownW (by decide +kernel : fetch mX12_readsStatement 284 = some (.putfield 156)) (by decide +kernel) (by decide +kernel),
  by intros; exact G_at (by decide +kernel : fetch mX12_readsStatement 287 = some (.iconst 1)),
  by intros; exact G_retz (by decide +kernel : fetch mX12_readsStatement 288 = some (.ireturn)) (by decide +kernel),
  by decide +kernel,
  by decide +kernel,
  by decide +kernel,
  by decide +kernel⟩
theorem gX12_addsOne : (∀ (n d : Nat) (L : List (Option iV)) (st : List iV) (h : iH) (Q : Option iV → iH → Prop), G sp sc [65] d mX12_addsOne (n + 1) 0 L st h Q = (match ld L 0 with | some (.inr (.inr (r + 1))) => G sp sc [65] d mX12_addsOne n 1 L (.inr (.inr (r + 1)) :: st) h Q | _ => False)) ∧
  (∀ (n d : Nat) (L : List (Option iV)) (r : List iV) (m : Nat) (h : iH) (Q : Option iV → iH → Prop), G sp sc [65] d mX12_addsOne (n + 1) 1 L (.inr (.inr (m + 2)) :: r) h Q = (match h.1[m]? with | some (.inl (ci, fs)) => (match lkF 12 9 ci with | some k => (match fs[k]? with | some v => G sp sc [65] d mX12_addsOne n 4 L (v :: r) h Q | none => False) | none => False) | _ => False)) ∧
  (∀ (n d : Nat) (L : List (Option iV)) (st : List iV) (h : iH) (Q : Option iV → iH → Prop), G sp sc [65] d mX12_addsOne (n + 1) 4 L st h Q = G sp sc [65] d mX12_addsOne n 5 L (.inl 0 :: st) h Q) ∧
  (∀ (n d : Nat) (L : List (Option iV)) (st : List iV) (h : iH) (Q : Option iV → iH → Prop), G sp sc [65] d mX12_addsOne (n + 1) 5 L st h Q = (match ld L 1 with | some (.inl x) => G sp sc [65] d mX12_addsOne n 6 L (.inl x :: st) h Q | _ => False)) ∧
  (∀ (n d : Nat) (L : List (Option iV)) (a : Int) (b : Int) (r : List iV) (h : iH) (Q : Option iV → iH → Prop), G sp sc [65] d mX12_addsOne (n + 1) 6 L (.inl b :: .inl a :: r) h Q = G sp sc [65] d mX12_addsOne n 7 L (.inl (a + b) :: r) h Q) ∧
  (∀ (n d : Nat) (L : List (Option iV)) (r : List iV) (j : Int) (m : Nat) (h : iH) (Q : Option iV → iH → Prop), G sp sc [65] d mX12_addsOne (n + 1) 7 L (.inl j :: .inr (.inr (m + 2)) :: r) h Q = (match h.1[m]? with | some (.inr (.inl (0, xs))) => inA j xs.length = true ∧ G sp sc [65] d mX12_addsOne n 8 L (.inl (xs.getD j.toNat 0) :: r) h Q | _ => False)) ∧
  (∀ (n d : Nat) (L : List (Option iV)) (r : List iV) (x : Int) (h : iH) (Q : Option iV → iH → Prop), G sp sc [65] d mX12_addsOne (n + 1) 8 L (.inl x :: r) h Q = (match st1 L 4 (.inl x) with | some L' => G sp sc [65] d mX12_addsOne n 10 L' r h Q | none => False)) ∧
  (∀ (n d : Nat) (L : List (Option iV)) (st : List iV) (h : iH) (Q : Option iV → iH → Prop), G sp sc [65] d mX12_addsOne (n + 1) 10 L st h Q = (match ld L 0 with | some (.inr (.inr (r + 1))) => G sp sc [65] d mX12_addsOne n 11 L (.inr (.inr (r + 1)) :: st) h Q | _ => False)) ∧
  (∀ (n d : Nat) (L : List (Option iV)) (r : List iV) (m : Nat) (h : iH) (Q : Option iV → iH → Prop), G sp sc [65] d mX12_addsOne (n + 1) 11 L (.inr (.inr (m + 2)) :: r) h Q = (match h.1[m]? with | some (.inl (ci, fs)) => (match lkF 12 9 ci with | some k => (match fs[k]? with | some v => G sp sc [65] d mX12_addsOne n 14 L (v :: r) h Q | none => False) | none => False) | _ => False)) ∧
  (∀ (n d : Nat) (L : List (Option iV)) (st : List iV) (h : iH) (Q : Option iV → iH → Prop), G sp sc [65] d mX12_addsOne (n + 1) 14 L st h Q = (match ld L 1 with | some (.inl x) => G sp sc [65] d mX12_addsOne n 15 L (.inl x :: st) h Q | _ => False)) ∧
  (∀ (n d : Nat) (L : List (Option iV)) (st : List iV) (h : iH) (Q : Option iV → iH → Prop), G sp sc [65] d mX12_addsOne (n + 1) 15 L st h Q = (match ld L 4 with | some (.inl x) => G sp sc [65] d mX12_addsOne n 17 L (.inl x :: st) h Q | _ => False)) ∧
  (∀ (n d : Nat) (L : List (Option iV)) (st : List iV) (h : iH) (Q : Option iV → iH → Prop), G sp sc [65] d mX12_addsOne (n + 1) 17 L st h Q = G sp sc [65] d mX12_addsOne n 18 L (.inl 0 :: st) h Q) ∧
  (∀ (n d : Nat) (L : List (Option iV)) (r : List iV) (z0 : iV) (z1 : iV) (z2 : iV) (h : iH) (Q : Option iV → iH → Prop), G sp sc [65] (d + 1) mX12_addsOne (n + 1) 18 L (z2 :: z1 :: z0 :: r) h Q = (cs r ≤ 8 ∧ Call sp sc d mX12_atOne [z0, z1, z2] h (fun q h1 => GC sp sc [65] (d + 1) mX12_addsOne n 21 L q r h h1 Q))) ∧
  (∀ (n d : Nat) (L : List (Option iV)) (st : List iV) (h : iH) (Q : Option iV → iH → Prop), G sp sc [65] d mX12_addsOne (n + 1) 21 L st h Q = (match ld L 2 with | some (.inl x) => G sp sc [65] d mX12_addsOne n 22 L (.inl x :: st) h Q | _ => False)) ∧
  (∀ (n d : Nat) (L : List (Option iV)) (r : List iV) (v : Int) (j : Int) (m : Nat) (h : iH) (Q : Option iV → iH → Prop), G sp sc [65] d mX12_addsOne (n + 1) 22 L (.inl v :: .inl j :: .inr (.inr (m + 2)) :: r) h Q = (match h.1[m]? with | some (.inr (.inl (0, xs))) => inA j xs.length = true ∧ G sp sc [65] d mX12_addsOne n 23 L r (h.1.set m (.inr (.inl (0, xs.set j.toNat v))), h.2) Q | _ => False)) ∧
  (∀ (n d : Nat) (L : List (Option iV)) (st : List iV) (h : iH) (Q : Option iV → iH → Prop), G sp sc [65] d mX12_addsOne (n + 1) 23 L st h Q = (match ld L 0 with | some (.inr (.inr (r + 1))) => G sp sc [65] d mX12_addsOne n 24 L (.inr (.inr (r + 1)) :: st) h Q | _ => False)) ∧
  (∀ (n d : Nat) (L : List (Option iV)) (r : List iV) (m : Nat) (h : iH) (Q : Option iV → iH → Prop), G sp sc [65] d mX12_addsOne (n + 1) 24 L (.inr (.inr (m + 2)) :: r) h Q = (match h.1[m]? with | some (.inl (ci, fs)) => (match lkF 12 9 ci with | some k => (match fs[k]? with | some v => G sp sc [65] d mX12_addsOne n 27 L (v :: r) h Q | none => False) | none => False) | _ => False)) ∧
  (∀ (n d : Nat) (L : List (Option iV)) (st : List iV) (h : iH) (Q : Option iV → iH → Prop), G sp sc [65] d mX12_addsOne (n + 1) 27 L st h Q = (match ld L 1 with | some (.inl x) => G sp sc [65] d mX12_addsOne n 28 L (.inl x :: st) h Q | _ => False)) ∧
  (∀ (n d : Nat) (L : List (Option iV)) (st : List iV) (h : iH) (Q : Option iV → iH → Prop), G sp sc [65] d mX12_addsOne (n + 1) 28 L st h Q = (match ld L 4 with | some (.inl x) => G sp sc [65] d mX12_addsOne n 30 L (.inl x :: st) h Q | _ => False)) ∧
  (∀ (n d : Nat) (L : List (Option iV)) (st : List iV) (h : iH) (Q : Option iV → iH → Prop), G sp sc [65] d mX12_addsOne (n + 1) 30 L st h Q = G sp sc [65] d mX12_addsOne n 31 L (.inl 1 :: st) h Q) ∧
  (∀ (n d : Nat) (L : List (Option iV)) (r : List iV) (z0 : iV) (z1 : iV) (z2 : iV) (h : iH) (Q : Option iV → iH → Prop), G sp sc [65] (d + 1) mX12_addsOne (n + 1) 31 L (z2 :: z1 :: z0 :: r) h Q = (cs r ≤ 8 ∧ Call sp sc d mX12_atOne [z0, z1, z2] h (fun q h1 => GC sp sc [65] (d + 1) mX12_addsOne n 34 L q r h h1 Q))) ∧
  (∀ (n d : Nat) (L : List (Option iV)) (st : List iV) (h : iH) (Q : Option iV → iH → Prop), G sp sc [65] d mX12_addsOne (n + 1) 34 L st h Q = (match ld L 3 with | some (.inl x) => G sp sc [65] d mX12_addsOne n 35 L (.inl x :: st) h Q | _ => False)) ∧
  (∀ (n d : Nat) (L : List (Option iV)) (r : List iV) (v : Int) (j : Int) (m : Nat) (h : iH) (Q : Option iV → iH → Prop), G sp sc [65] d mX12_addsOne (n + 1) 35 L (.inl v :: .inl j :: .inr (.inr (m + 2)) :: r) h Q = (match h.1[m]? with | some (.inr (.inl (0, xs))) => inA j xs.length = true ∧ G sp sc [65] d mX12_addsOne n 36 L r (h.1.set m (.inr (.inl (0, xs.set j.toNat v))), h.2) Q | _ => False)) ∧
  (∀ (n d : Nat) (L : List (Option iV)) (st : List iV) (h : iH) (Q : Option iV → iH → Prop), G sp sc [65] d mX12_addsOne (n + 1) 36 L st h Q = (match ld L 0 with | some (.inr (.inr (r + 1))) => G sp sc [65] d mX12_addsOne n 37 L (.inr (.inr (r + 1)) :: st) h Q | _ => False)) ∧
  (∀ (n d : Nat) (L : List (Option iV)) (r : List iV) (m : Nat) (h : iH) (Q : Option iV → iH → Prop), G sp sc [65] d mX12_addsOne (n + 1) 37 L (.inr (.inr (m + 2)) :: r) h Q = (match h.1[m]? with | some (.inl (ci, fs)) => (match lkF 12 9 ci with | some k => (match fs[k]? with | some v => G sp sc [65] d mX12_addsOne n 40 L (v :: r) h Q | none => False) | none => False) | _ => False)) ∧
  (∀ (n d : Nat) (L : List (Option iV)) (st : List iV) (h : iH) (Q : Option iV → iH → Prop), G sp sc [65] d mX12_addsOne (n + 1) 40 L st h Q = (match ld L 1 with | some (.inl x) => G sp sc [65] d mX12_addsOne n 41 L (.inl x :: st) h Q | _ => False)) ∧
  (∀ (n d : Nat) (L : List (Option iV)) (st : List iV) (h : iH) (Q : Option iV → iH → Prop), G sp sc [65] d mX12_addsOne (n + 1) 41 L st h Q = (match ld L 4 with | some (.inl x) => G sp sc [65] d mX12_addsOne n 43 L (.inl x :: st) h Q | _ => False)) ∧
  (∀ (n d : Nat) (L : List (Option iV)) (st : List iV) (h : iH) (Q : Option iV → iH → Prop), G sp sc [65] d mX12_addsOne (n + 1) 43 L st h Q = G sp sc [65] d mX12_addsOne n 44 L (.inl 2 :: st) h Q) ∧
  (∀ (n d : Nat) (L : List (Option iV)) (r : List iV) (z0 : iV) (z1 : iV) (z2 : iV) (h : iH) (Q : Option iV → iH → Prop), G sp sc [65] (d + 1) mX12_addsOne (n + 1) 44 L (z2 :: z1 :: z0 :: r) h Q = (cs r ≤ 8 ∧ Call sp sc d mX12_atOne [z0, z1, z2] h (fun q h1 => GC sp sc [65] (d + 1) mX12_addsOne n 47 L q r h h1 Q))) ∧
  (∀ (n d : Nat) (L : List (Option iV)) (st : List iV) (h : iH) (Q : Option iV → iH → Prop), G sp sc [65] d mX12_addsOne (n + 1) 47 L st h Q = G sp sc [65] d mX12_addsOne n 48 L (.inl (-1) :: st) h Q) ∧
  (∀ (n d : Nat) (L : List (Option iV)) (r : List iV) (v : Int) (j : Int) (m : Nat) (h : iH) (Q : Option iV → iH → Prop), G sp sc [65] d mX12_addsOne (n + 1) 48 L (.inl v :: .inl j :: .inr (.inr (m + 2)) :: r) h Q = (match h.1[m]? with | some (.inr (.inl (0, xs))) => inA j xs.length = true ∧ G sp sc [65] d mX12_addsOne n 49 L r (h.1.set m (.inr (.inl (0, xs.set j.toNat v))), h.2) Q | _ => False)) ∧
  (∀ (n d : Nat) (L : List (Option iV)) (st : List iV) (h : iH) (Q : Option iV → iH → Prop), G sp sc [65] d mX12_addsOne (n + 1) 49 L st h Q = (match ld L 0 with | some (.inr (.inr (r + 1))) => G sp sc [65] d mX12_addsOne n 50 L (.inr (.inr (r + 1)) :: st) h Q | _ => False)) ∧
  (∀ (n d : Nat) (L : List (Option iV)) (r : List iV) (m : Nat) (h : iH) (Q : Option iV → iH → Prop), G sp sc [65] d mX12_addsOne (n + 1) 50 L (.inr (.inr (m + 2)) :: r) h Q = (match h.1[m]? with | some (.inl (ci, fs)) => (match lkF 12 9 ci with | some k => (match fs[k]? with | some v => G sp sc [65] d mX12_addsOne n 53 L (v :: r) h Q | none => False) | none => False) | _ => False)) ∧
  (∀ (n d : Nat) (L : List (Option iV)) (st : List iV) (h : iH) (Q : Option iV → iH → Prop), G sp sc [65] d mX12_addsOne (n + 1) 53 L st h Q = (match ld L 1 with | some (.inl x) => G sp sc [65] d mX12_addsOne n 54 L (.inl x :: st) h Q | _ => False)) ∧
  (∀ (n d : Nat) (L : List (Option iV)) (st : List iV) (h : iH) (Q : Option iV → iH → Prop), G sp sc [65] d mX12_addsOne (n + 1) 54 L st h Q = (match ld L 4 with | some (.inl x) => G sp sc [65] d mX12_addsOne n 56 L (.inl x :: st) h Q | _ => False)) ∧
  (∀ (n d : Nat) (L : List (Option iV)) (st : List iV) (h : iH) (Q : Option iV → iH → Prop), G sp sc [65] d mX12_addsOne (n + 1) 56 L st h Q = G sp sc [65] d mX12_addsOne n 57 L (.inl 3 :: st) h Q) ∧
  (∀ (n d : Nat) (L : List (Option iV)) (r : List iV) (z0 : iV) (z1 : iV) (z2 : iV) (h : iH) (Q : Option iV → iH → Prop), G sp sc [65] (d + 1) mX12_addsOne (n + 1) 57 L (z2 :: z1 :: z0 :: r) h Q = (cs r ≤ 8 ∧ Call sp sc d mX12_atOne [z0, z1, z2] h (fun q h1 => GC sp sc [65] (d + 1) mX12_addsOne n 60 L q r h h1 Q))) ∧
  (∀ (n d : Nat) (L : List (Option iV)) (st : List iV) (h : iH) (Q : Option iV → iH → Prop), G sp sc [65] d mX12_addsOne (n + 1) 60 L st h Q = G sp sc [65] d mX12_addsOne n 61 L (.inl (-1) :: st) h Q) ∧
  (∀ (n d : Nat) (L : List (Option iV)) (r : List iV) (v : Int) (j : Int) (m : Nat) (h : iH) (Q : Option iV → iH → Prop), G sp sc [65] d mX12_addsOne (n + 1) 61 L (.inl v :: .inl j :: .inr (.inr (m + 2)) :: r) h Q = (match h.1[m]? with | some (.inr (.inl (0, xs))) => inA j xs.length = true ∧ G sp sc [65] d mX12_addsOne n 62 L r (h.1.set m (.inr (.inl (0, xs.set j.toNat v))), h.2) Q | _ => False)) ∧
  (∀ (n d : Nat) (L : List (Option iV)) (st : List iV) (h : iH) (Q : Option iV → iH → Prop), G sp sc [65] d mX12_addsOne (n + 1) 62 L st h Q = G sp sc [65] d mX12_addsOne n 63 L (.inl 0 :: st) h Q) ∧
  (∀ (n d : Nat) (L : List (Option iV)) (r : List iV) (x : Int) (h : iH) (Q : Option iV → iH → Prop), G sp sc [65] d mX12_addsOne (n + 1) 63 L (.inl x :: r) h Q = (match st1 L 5 (.inl x) with | some L' => Run sp sc d mX12_addsOne 65 L' r h Q | none => False)) ∧
  (∀ (n d : Nat) (L : List (Option iV)) (st : List iV) (h : iH) (Q : Option iV → iH → Prop), G sp sc [65] d mX12_addsOne (n + 1) 65 L st h Q = (match ld L 5 with | some (.inl x) => G sp sc [65] d mX12_addsOne n 67 L (.inl x :: st) h Q | _ => False)) ∧
  (∀ (n d : Nat) (L : List (Option iV)) (st : List iV) (h : iH) (Q : Option iV → iH → Prop), G sp sc [65] d mX12_addsOne (n + 1) 67 L st h Q = G sp sc [65] d mX12_addsOne n 68 L (.inl 5 :: st) h Q) ∧
  (∀ (n d : Nat) (L : List (Option iV)) (a : Int) (b : Int) (r : List iV) (h : iH) (Q : Option iV → iH → Prop), G sp sc [65] d mX12_addsOne (n + 1) 68 L (.inl b :: .inl a :: r) h Q = ((inI a = true ∧ inI b = true) ∧ (b ≤ a → G sp sc [65] d mX12_addsOne n 109 L r h Q) ∧ (¬ (b ≤ a) → G sp sc [65] d mX12_addsOne n 71 L r h Q))) ∧
  (∀ (n d : Nat) (L : List (Option iV)) (st : List iV) (h : iH) (Q : Option iV → iH → Prop), G sp sc [65] d mX12_addsOne (n + 1) 71 L st h Q = (match ld L 0 with | some (.inr (.inr (r + 1))) => G sp sc [65] d mX12_addsOne n 72 L (.inr (.inr (r + 1)) :: st) h Q | _ => False)) ∧
  (∀ (n d : Nat) (L : List (Option iV)) (r : List iV) (m : Nat) (h : iH) (Q : Option iV → iH → Prop), G sp sc [65] d mX12_addsOne (n + 1) 72 L (.inr (.inr (m + 2)) :: r) h Q = (match h.1[m]? with | some (.inl (ci, fs)) => (match lkF 12 9 ci with | some k => (match fs[k]? with | some v => G sp sc [65] d mX12_addsOne n 75 L (v :: r) h Q | none => False) | none => False) | _ => False)) ∧
  (∀ (n d : Nat) (L : List (Option iV)) (st : List iV) (h : iH) (Q : Option iV → iH → Prop), G sp sc [65] d mX12_addsOne (n + 1) 75 L st h Q = (match ld L 1 with | some (.inl x) => G sp sc [65] d mX12_addsOne n 76 L (.inl x :: st) h Q | _ => False)) ∧
  (∀ (n d : Nat) (L : List (Option iV)) (st : List iV) (h : iH) (Q : Option iV → iH → Prop), G sp sc [65] d mX12_addsOne (n + 1) 76 L st h Q = (match ld L 4 with | some (.inl x) => G sp sc [65] d mX12_addsOne n 78 L (.inl x :: st) h Q | _ => False)) ∧
  (∀ (n d : Nat) (L : List (Option iV)) (st : List iV) (h : iH) (Q : Option iV → iH → Prop), G sp sc [65] d mX12_addsOne (n + 1) 78 L st h Q = (match ld L 5 with | some (.inl x) => G sp sc [65] d mX12_addsOne n 80 L (.inl x :: st) h Q | _ => False)) ∧
  (∀ (n d : Nat) (L : List (Option iV)) (r : List iV) (z0 : iV) (z1 : iV) (z2 : iV) (h : iH) (Q : Option iV → iH → Prop), G sp sc [65] (d + 1) mX12_addsOne (n + 1) 80 L (z2 :: z1 :: z0 :: r) h Q = (cs r ≤ 8 ∧ Call sp sc d mX12_atLike [z0, z1, z2] h (fun q h1 => GC sp sc [65] (d + 1) mX12_addsOne n 83 L q r h h1 Q))) ∧
  (∀ (n d : Nat) (L : List (Option iV)) (st : List iV) (h : iH) (Q : Option iV → iH → Prop), G sp sc [65] d mX12_addsOne (n + 1) 83 L st h Q = ((-128 ≤ (10 : Int) ∧ (10 : Int) < 128) ∧ G sp sc [65] d mX12_addsOne n 85 L (.inl 10 :: st) h Q)) ∧
  (∀ (n d : Nat) (L : List (Option iV)) (r : List iV) (v : Int) (j : Int) (m : Nat) (h : iH) (Q : Option iV → iH → Prop), G sp sc [65] d mX12_addsOne (n + 1) 85 L (.inl v :: .inl j :: .inr (.inr (m + 2)) :: r) h Q = (match h.1[m]? with | some (.inr (.inl (0, xs))) => inA j xs.length = true ∧ G sp sc [65] d mX12_addsOne n 86 L r (h.1.set m (.inr (.inl (0, xs.set j.toNat v))), h.2) Q | _ => False)) ∧
  (∀ (n d : Nat) (L : List (Option iV)) (st : List iV) (h : iH) (Q : Option iV → iH → Prop), G sp sc [65] d mX12_addsOne (n + 1) 86 L st h Q = (match ld L 0 with | some (.inr (.inr (r + 1))) => G sp sc [65] d mX12_addsOne n 87 L (.inr (.inr (r + 1)) :: st) h Q | _ => False)) ∧
  (∀ (n d : Nat) (L : List (Option iV)) (r : List iV) (m : Nat) (h : iH) (Q : Option iV → iH → Prop), G sp sc [65] d mX12_addsOne (n + 1) 87 L (.inr (.inr (m + 2)) :: r) h Q = (match h.1[m]? with | some (.inl (ci, fs)) => (match lkF 12 9 ci with | some k => (match fs[k]? with | some v => G sp sc [65] d mX12_addsOne n 90 L (v :: r) h Q | none => False) | none => False) | _ => False)) ∧
  (∀ (n d : Nat) (L : List (Option iV)) (st : List iV) (h : iH) (Q : Option iV → iH → Prop), G sp sc [65] d mX12_addsOne (n + 1) 90 L st h Q = G sp sc [65] d mX12_addsOne n 91 L (.inl 1 :: st) h Q) ∧
  (∀ (n d : Nat) (L : List (Option iV)) (st : List iV) (h : iH) (Q : Option iV → iH → Prop), G sp sc [65] d mX12_addsOne (n + 1) 91 L st h Q = (match ld L 1 with | some (.inl x) => G sp sc [65] d mX12_addsOne n 92 L (.inl x :: st) h Q | _ => False)) ∧
  (∀ (n d : Nat) (L : List (Option iV)) (a : Int) (b : Int) (r : List iV) (h : iH) (Q : Option iV → iH → Prop), G sp sc [65] d mX12_addsOne (n + 1) 92 L (.inl b :: .inl a :: r) h Q = G sp sc [65] d mX12_addsOne n 93 L (.inl (a - b) :: r) h Q) ∧
  (∀ (n d : Nat) (L : List (Option iV)) (st : List iV) (h : iH) (Q : Option iV → iH → Prop), G sp sc [65] d mX12_addsOne (n + 1) 93 L st h Q = (match ld L 5 with | some (.inl x) => G sp sc [65] d mX12_addsOne n 95 L (.inl x :: st) h Q | _ => False)) ∧
  (∀ (n d : Nat) (L : List (Option iV)) (st : List iV) (h : iH) (Q : Option iV → iH → Prop), G sp sc [65] d mX12_addsOne (n + 1) 95 L st h Q = (match ld L 4 with | some (.inl x) => G sp sc [65] d mX12_addsOne n 97 L (.inl x :: st) h Q | _ => False)) ∧
  (∀ (n d : Nat) (L : List (Option iV)) (r : List iV) (z0 : iV) (z1 : iV) (z2 : iV) (h : iH) (Q : Option iV → iH → Prop), G sp sc [65] (d + 1) mX12_addsOne (n + 1) 97 L (z2 :: z1 :: z0 :: r) h Q = (cs r ≤ 8 ∧ Call sp sc d mX12_atLike [z0, z1, z2] h (fun q h1 => GC sp sc [65] (d + 1) mX12_addsOne n 100 L q r h h1 Q))) ∧
  (∀ (n d : Nat) (L : List (Option iV)) (st : List iV) (h : iH) (Q : Option iV → iH → Prop), G sp sc [65] d mX12_addsOne (n + 1) 100 L st h Q = ((-128 ≤ (10 : Int) ∧ (10 : Int) < 128) ∧ G sp sc [65] d mX12_addsOne n 102 L (.inl 10 :: st) h Q)) ∧
  (∀ (n d : Nat) (L : List (Option iV)) (r : List iV) (v : Int) (j : Int) (m : Nat) (h : iH) (Q : Option iV → iH → Prop), G sp sc [65] d mX12_addsOne (n + 1) 102 L (.inl v :: .inl j :: .inr (.inr (m + 2)) :: r) h Q = (match h.1[m]? with | some (.inr (.inl (0, xs))) => inA j xs.length = true ∧ G sp sc [65] d mX12_addsOne n 103 L r (h.1.set m (.inr (.inl (0, xs.set j.toNat v))), h.2) Q | _ => False)) ∧
  (∀ (n d : Nat) (L : List (Option iV)) (st : List iV) (h : iH) (Q : Option iV → iH → Prop), G sp sc [65] d mX12_addsOne (n + 1) 103 L st h Q = (match ld L 5 with | some (.inl x) => (match st1 L 5 (.inl (x + 1)) with | some L' => G sp sc [65] d mX12_addsOne n 106 L' st h Q | none => False) | _ => False)) ∧
  (∀ (n d : Nat) (L : List (Option iV)) (st : List iV) (h : iH) (Q : Option iV → iH → Prop), G sp sc [65] d mX12_addsOne (n + 1) 106 L st h Q = Run sp sc d mX12_addsOne 65 L st h Q) ∧
  (∀ (n d : Nat) (L : List (Option iV)) (st : List iV) (h : iH) (Q : Option iV → iH → Prop), G sp sc [65] d mX12_addsOne (n + 1) 109 L st h Q = (match ld L 0 with | some (.inr (.inr (r + 1))) => G sp sc [65] d mX12_addsOne n 110 L (.inr (.inr (r + 1)) :: st) h Q | _ => False)) ∧
  (∀ (n d : Nat) (L : List (Option iV)) (r : List iV) (m : Nat) (h : iH) (Q : Option iV → iH → Prop), G sp sc [65] d mX12_addsOne (n + 1) 110 L (.inr (.inr (m + 2)) :: r) h Q = (match h.1[m]? with | some (.inl (ci, fs)) => (match lkF 12 9 ci with | some k => (match fs[k]? with | some v => G sp sc [65] d mX12_addsOne n 113 L (v :: r) h Q | none => False) | none => False) | _ => False)) ∧
  (∀ (n d : Nat) (L : List (Option iV)) (st : List iV) (h : iH) (Q : Option iV → iH → Prop), G sp sc [65] d mX12_addsOne (n + 1) 113 L st h Q = G sp sc [65] d mX12_addsOne n 114 L (.inl 0 :: st) h Q) ∧
  (∀ (n d : Nat) (L : List (Option iV)) (st : List iV) (h : iH) (Q : Option iV → iH → Prop), G sp sc [65] d mX12_addsOne (n + 1) 114 L st h Q = (match ld L 1 with | some (.inl x) => G sp sc [65] d mX12_addsOne n 115 L (.inl x :: st) h Q | _ => False)) ∧
  (∀ (n d : Nat) (L : List (Option iV)) (a : Int) (b : Int) (r : List iV) (h : iH) (Q : Option iV → iH → Prop), G sp sc [65] d mX12_addsOne (n + 1) 115 L (.inl b :: .inl a :: r) h Q = G sp sc [65] d mX12_addsOne n 116 L (.inl (a + b) :: r) h Q) ∧
  (∀ (n d : Nat) (L : List (Option iV)) (a : Int) (b : Nat) (r : List iV) (h : iH) (Q : Option iV → iH → Prop), G sp sc [65] d mX12_addsOne (n + 1) 116 L (.inl a :: .inr (.inr b) :: r) h Q = G sp sc [65] d mX12_addsOne n 117 L (.inl a :: .inr (.inr b) :: .inl a :: .inr (.inr b) :: r) h Q) ∧
  (∀ (n d : Nat) (L : List (Option iV)) (r : List iV) (j : Int) (m : Nat) (h : iH) (Q : Option iV → iH → Prop), G sp sc [65] d mX12_addsOne (n + 1) 117 L (.inl j :: .inr (.inr (m + 2)) :: r) h Q = (match h.1[m]? with | some (.inr (.inl (0, xs))) => inA j xs.length = true ∧ G sp sc [65] d mX12_addsOne n 118 L (.inl (xs.getD j.toNat 0) :: r) h Q | _ => False)) ∧
  (∀ (n d : Nat) (L : List (Option iV)) (st : List iV) (h : iH) (Q : Option iV → iH → Prop), G sp sc [65] d mX12_addsOne (n + 1) 118 L st h Q = G sp sc [65] d mX12_addsOne n 119 L (.inl 1 :: st) h Q) ∧
  (∀ (n d : Nat) (L : List (Option iV)) (a : Int) (b : Int) (r : List iV) (h : iH) (Q : Option iV → iH → Prop), G sp sc [65] d mX12_addsOne (n + 1) 119 L (.inl b :: .inl a :: r) h Q = G sp sc [65] d mX12_addsOne n 120 L (.inl (a + b) :: r) h Q) ∧
  (∀ (n d : Nat) (L : List (Option iV)) (r : List iV) (v : Int) (j : Int) (m : Nat) (h : iH) (Q : Option iV → iH → Prop), G sp sc [65] d mX12_addsOne (n + 1) 120 L (.inl v :: .inl j :: .inr (.inr (m + 2)) :: r) h Q = (match h.1[m]? with | some (.inr (.inl (0, xs))) => inA j xs.length = true ∧ G sp sc [65] d mX12_addsOne n 121 L r (h.1.set m (.inr (.inl (0, xs.set j.toNat v))), h.2) Q | _ => False)) ∧
  (∀ (n d : Nat) (L : List (Option iV)) (st : List iV) (h : iH) (Q : Option iV → iH → Prop), G sp sc [65] d mX12_addsOne (n + 1) 121 L st h Q = (match ld L 4 with | some (.inl x) => G sp sc [65] d mX12_addsOne n 123 L (.inl x :: st) h Q | _ => False)) ∧
  (∀ (n d : Nat) (L : List (Option iV)) (a : Int) (h : iH) (Q : Option iV → iH → Prop), G sp sc [65] d mX12_addsOne (n + 1) 123 L [.inl a] h Q = Q (some (.inl a)) h) ∧
  lkF 12 9 12 = some 0 := ⟨by intros; exact G_at (by decide +kernel : fetch mX12_addsOne 0 = some (.aload_n 0)),
  by intros; exact G_own (by decide +kernel : fetch mX12_addsOne 1 = some (.getfield 9)) (by decide +kernel),
  by intros; exact G_at (by decide +kernel : fetch mX12_addsOne 4 = some (.iconst 0)),
  by intros; exact G_at (by decide +kernel : fetch mX12_addsOne 5 = some (.iload_n 1)),
  by intros; exact G_at (by decide +kernel : fetch mX12_addsOne 6 = some (.iadd)),
  by intros; exact G_at (by decide +kernel : fetch mX12_addsOne 7 = some (.iaload)),
  by intros; exact G_at (by decide +kernel : fetch mX12_addsOne 8 = some (.istore 4)),
  by intros; exact G_at (by decide +kernel : fetch mX12_addsOne 10 = some (.aload_n 0)),
  by intros; exact G_own (by decide +kernel : fetch mX12_addsOne 11 = some (.getfield 9)) (by decide +kernel),
  by intros; exact G_at (by decide +kernel : fetch mX12_addsOne 14 = some (.iload_n 1)),
  by intros; exact G_at (by decide +kernel : fetch mX12_addsOne 15 = some (.iload 4)),
  by intros; exact G_at (by decide +kernel : fetch mX12_addsOne 17 = some (.iconst 0)),
  by intros; exact G_callS (k := 3) (kd := 0) (by decide +kernel : fetch mX12_addsOne 18 = some (.invokestatic 88)) (by decide +kernel) (by decide +kernel) (by decide +kernel) rfl (by decide),
  by intros; exact G_at (by decide +kernel : fetch mX12_addsOne 21 = some (.iload_n 2)),
  by intros; exact G_at (by decide +kernel : fetch mX12_addsOne 22 = some (.iastore)),
  by intros; exact G_at (by decide +kernel : fetch mX12_addsOne 23 = some (.aload_n 0)),
  by intros; exact G_own (by decide +kernel : fetch mX12_addsOne 24 = some (.getfield 9)) (by decide +kernel),
  by intros; exact G_at (by decide +kernel : fetch mX12_addsOne 27 = some (.iload_n 1)),
  by intros; exact G_at (by decide +kernel : fetch mX12_addsOne 28 = some (.iload 4)),
  by intros; exact G_at (by decide +kernel : fetch mX12_addsOne 30 = some (.iconst 1)),
  by intros; exact G_callS (k := 3) (kd := 0) (by decide +kernel : fetch mX12_addsOne 31 = some (.invokestatic 88)) (by decide +kernel) (by decide +kernel) (by decide +kernel) rfl (by decide),
  by intros; exact G_at (by decide +kernel : fetch mX12_addsOne 34 = some (.iload_n 3)),
  by intros; exact G_at (by decide +kernel : fetch mX12_addsOne 35 = some (.iastore)),
  by intros; exact G_at (by decide +kernel : fetch mX12_addsOne 36 = some (.aload_n 0)),
  by intros; exact G_own (by decide +kernel : fetch mX12_addsOne 37 = some (.getfield 9)) (by decide +kernel),
  by intros; exact G_at (by decide +kernel : fetch mX12_addsOne 40 = some (.iload_n 1)),
  by intros; exact G_at (by decide +kernel : fetch mX12_addsOne 41 = some (.iload 4)),
  by intros; exact G_at (by decide +kernel : fetch mX12_addsOne 43 = some (.iconst 2)),
  by intros; exact G_callS (k := 3) (kd := 0) (by decide +kernel : fetch mX12_addsOne 44 = some (.invokestatic 88)) (by decide +kernel) (by decide +kernel) (by decide +kernel) rfl (by decide),
  by intros; exact G_at (by decide +kernel : fetch mX12_addsOne 47 = some (.iconst (-1))),
  by intros; exact G_at (by decide +kernel : fetch mX12_addsOne 48 = some (.iastore)),
  by intros; exact G_at (by decide +kernel : fetch mX12_addsOne 49 = some (.aload_n 0)),
  by intros; exact G_own (by decide +kernel : fetch mX12_addsOne 50 = some (.getfield 9)) (by decide +kernel),
  by intros; exact G_at (by decide +kernel : fetch mX12_addsOne 53 = some (.iload_n 1)),
  by intros; exact G_at (by decide +kernel : fetch mX12_addsOne 54 = some (.iload 4)),
  by intros; exact G_at (by decide +kernel : fetch mX12_addsOne 56 = some (.iconst 3)),
  by intros; exact G_callS (k := 3) (kd := 0) (by decide +kernel : fetch mX12_addsOne 57 = some (.invokestatic 88)) (by decide +kernel) (by decide +kernel) (by decide +kernel) rfl (by decide),
  by intros; exact G_at (by decide +kernel : fetch mX12_addsOne 60 = some (.iconst (-1))),
  by intros; exact G_at (by decide +kernel : fetch mX12_addsOne 61 = some (.iastore)),
  by intros; exact G_at (by decide +kernel : fetch mX12_addsOne 62 = some (.iconst 0)),
  by intros; exact G_at (by decide +kernel : fetch mX12_addsOne 63 = some (.istore 5)),
  by intros; exact G_at (by decide +kernel : fetch mX12_addsOne 65 = some (.iload 5)),
  by intros; exact G_at (by decide +kernel : fetch mX12_addsOne 67 = some (.iconst 5)),
  by intros; exact G_at (by decide +kernel : fetch mX12_addsOne 68 = some (.if_icmp .ge 41)),
  by intros; exact G_at (by decide +kernel : fetch mX12_addsOne 71 = some (.aload_n 0)),
  by intros; exact G_own (by decide +kernel : fetch mX12_addsOne 72 = some (.getfield 9)) (by decide +kernel),
  by intros; exact G_at (by decide +kernel : fetch mX12_addsOne 75 = some (.iload_n 1)),
  by intros; exact G_at (by decide +kernel : fetch mX12_addsOne 76 = some (.iload 4)),
  by intros; exact G_at (by decide +kernel : fetch mX12_addsOne 78 = some (.iload 5)),
  by intros; exact G_callS (k := 3) (kd := 0) (by decide +kernel : fetch mX12_addsOne 80 = some (.invokestatic 109)) (by decide +kernel) (by decide +kernel) (by decide +kernel) rfl (by decide),
  by intros; exact G_at (by decide +kernel : fetch mX12_addsOne 83 = some (.bipush 10)),
  by intros; exact G_at (by decide +kernel : fetch mX12_addsOne 85 = some (.iastore)),
  by intros; exact G_at (by decide +kernel : fetch mX12_addsOne 86 = some (.aload_n 0)),
  by intros; exact G_own (by decide +kernel : fetch mX12_addsOne 87 = some (.getfield 9)) (by decide +kernel),
  by intros; exact G_at (by decide +kernel : fetch mX12_addsOne 90 = some (.iconst 1)),
  by intros; exact G_at (by decide +kernel : fetch mX12_addsOne 91 = some (.iload_n 1)),
  by intros; exact G_at (by decide +kernel : fetch mX12_addsOne 92 = some (.isub)),
  by intros; exact G_at (by decide +kernel : fetch mX12_addsOne 93 = some (.iload 5)),
  by intros; exact G_at (by decide +kernel : fetch mX12_addsOne 95 = some (.iload 4)),
  by intros; exact G_callS (k := 3) (kd := 0) (by decide +kernel : fetch mX12_addsOne 97 = some (.invokestatic 109)) (by decide +kernel) (by decide +kernel) (by decide +kernel) rfl (by decide),
  by intros; exact G_at (by decide +kernel : fetch mX12_addsOne 100 = some (.bipush 10)),
  by intros; exact G_at (by decide +kernel : fetch mX12_addsOne 102 = some (.iastore)),
  by intros; exact G_at (by decide +kernel : fetch mX12_addsOne 103 = some (.iinc 5 1)),
  by intros; exact G_at (by decide +kernel : fetch mX12_addsOne 106 = some (.goto (-41))),
  by intros; exact G_at (by decide +kernel : fetch mX12_addsOne 109 = some (.aload_n 0)),
  by intros; exact G_own (by decide +kernel : fetch mX12_addsOne 110 = some (.getfield 9)) (by decide +kernel),
  by intros; exact G_at (by decide +kernel : fetch mX12_addsOne 113 = some (.iconst 0)),
  by intros; exact G_at (by decide +kernel : fetch mX12_addsOne 114 = some (.iload_n 1)),
  by intros; exact G_at (by decide +kernel : fetch mX12_addsOne 115 = some (.iadd)),
  by intros; exact G_at (by decide +kernel : fetch mX12_addsOne 116 = some (.dup2)),
  by intros; exact G_at (by decide +kernel : fetch mX12_addsOne 117 = some (.iaload)),
  by intros; exact G_at (by decide +kernel : fetch mX12_addsOne 118 = some (.iconst 1)),
  by intros; exact G_at (by decide +kernel : fetch mX12_addsOne 119 = some (.iadd)),
  by intros; exact G_at (by decide +kernel : fetch mX12_addsOne 120 = some (.iastore)),
  by intros; exact G_at (by decide +kernel : fetch mX12_addsOne 121 = some (.iload 4)),
  by intros; exact G_reti (by decide +kernel : fetch mX12_addsOne 123 = some (.ireturn)) (by decide +kernel),
  by decide +kernel⟩
theorem gX12_canNotBe : (∀ (n d : Nat) (L : List (Option iV)) (st : List iV) (h : iH) (Q : Option iV → iH → Prop), G sp sc [32] d mX12_canNotBe (n + 1) 0 L st h Q = (match ld L 0 with | some (.inr (.inr (r + 1))) => G sp sc [32] d mX12_canNotBe n 1 L (.inr (.inr (r + 1)) :: st) h Q | _ => False)) ∧
  (∀ (n d : Nat) (L : List (Option iV)) (r : List iV) (m : Nat) (h : iH) (Q : Option iV → iH → Prop), G sp sc [32] d mX12_canNotBe (n + 1) 1 L (.inr (.inr (m + 2)) :: r) h Q = (match h.1[m]? with | some (.inl (ci, fs)) => (match lkF 12 9 ci with | some k => (match fs[k]? with | some v => G sp sc [32] d mX12_canNotBe n 4 L (v :: r) h Q | none => False) | none => False) | _ => False)) ∧
  (∀ (n d : Nat) (L : List (Option iV)) (st : List iV) (h : iH) (Q : Option iV → iH → Prop), G sp sc [32] d mX12_canNotBe (n + 1) 4 L st h Q = G sp sc [32] d mX12_canNotBe n 5 L (.inl 0 :: st) h Q) ∧
  (∀ (n d : Nat) (L : List (Option iV)) (st : List iV) (h : iH) (Q : Option iV → iH → Prop), G sp sc [32] d mX12_canNotBe (n + 1) 5 L st h Q = (match ld L 1 with | some (.inl x) => G sp sc [32] d mX12_canNotBe n 6 L (.inl x :: st) h Q | _ => False)) ∧
  (∀ (n d : Nat) (L : List (Option iV)) (st : List iV) (h : iH) (Q : Option iV → iH → Prop), G sp sc [32] d mX12_canNotBe (n + 1) 6 L st h Q = G sp sc [32] d mX12_canNotBe n 7 L (.inl 3 :: st) h Q) ∧
  (∀ (n d : Nat) (L : List (Option iV)) (r : List iV) (z0 : iV) (z1 : iV) (z2 : iV) (h : iH) (Q : Option iV → iH → Prop), G sp sc [32] (d + 1) mX12_canNotBe (n + 1) 7 L (z2 :: z1 :: z0 :: r) h Q = (cs r ≤ 8 ∧ Call sp sc d mX12_atOne [z0, z1, z2] h (fun q h1 => GC sp sc [32] (d + 1) mX12_canNotBe n 10 L q r h h1 Q))) ∧
  (∀ (n d : Nat) (L : List (Option iV)) (r : List iV) (j : Int) (m : Nat) (h : iH) (Q : Option iV → iH → Prop), G sp sc [32] d mX12_canNotBe (n + 1) 10 L (.inl j :: .inr (.inr (m + 2)) :: r) h Q = (match h.1[m]? with | some (.inr (.inl (0, xs))) => inA j xs.length = true ∧ G sp sc [32] d mX12_canNotBe n 11 L (.inl (xs.getD j.toNat 0) :: r) h Q | _ => False)) ∧
  (∀ (n d : Nat) (L : List (Option iV)) (a : Int) (r : List iV) (h : iH) (Q : Option iV → iH → Prop), G sp sc [32] d mX12_canNotBe (n + 1) 11 L (.inl a :: r) h Q = (inI a = true ∧ (0 ≤ a → G sp sc [32] d mX12_canNotBe n 28 L r h Q) ∧ (¬ (0 ≤ a) → G sp sc [32] d mX12_canNotBe n 14 L r h Q))) ∧
  (∀ (n d : Nat) (L : List (Option iV)) (st : List iV) (h : iH) (Q : Option iV → iH → Prop), G sp sc [32] d mX12_canNotBe (n + 1) 14 L st h Q = (match ld L 0 with | some (.inr (.inr (r + 1))) => G sp sc [32] d mX12_canNotBe n 15 L (.inr (.inr (r + 1)) :: st) h Q | _ => False)) ∧
  (∀ (n d : Nat) (L : List (Option iV)) (r : List iV) (m : Nat) (h : iH) (Q : Option iV → iH → Prop), G sp sc [32] d mX12_canNotBe (n + 1) 15 L (.inr (.inr (m + 2)) :: r) h Q = (match h.1[m]? with | some (.inl (ci, fs)) => (match lkF 12 9 ci with | some k => (match fs[k]? with | some v => G sp sc [32] d mX12_canNotBe n 18 L (v :: r) h Q | none => False) | none => False) | _ => False)) ∧
  (∀ (n d : Nat) (L : List (Option iV)) (st : List iV) (h : iH) (Q : Option iV → iH → Prop), G sp sc [32] d mX12_canNotBe (n + 1) 18 L st h Q = G sp sc [32] d mX12_canNotBe n 19 L (.inl 1 :: st) h Q) ∧
  (∀ (n d : Nat) (L : List (Option iV)) (st : List iV) (h : iH) (Q : Option iV → iH → Prop), G sp sc [32] d mX12_canNotBe (n + 1) 19 L st h Q = (match ld L 2 with | some (.inl x) => G sp sc [32] d mX12_canNotBe n 20 L (.inl x :: st) h Q | _ => False)) ∧
  (∀ (n d : Nat) (L : List (Option iV)) (st : List iV) (h : iH) (Q : Option iV → iH → Prop), G sp sc [32] d mX12_canNotBe (n + 1) 20 L st h Q = G sp sc [32] d mX12_canNotBe n 21 L (.inl 3 :: st) h Q) ∧
  (∀ (n d : Nat) (L : List (Option iV)) (r : List iV) (z0 : iV) (z1 : iV) (z2 : iV) (h : iH) (Q : Option iV → iH → Prop), G sp sc [32] (d + 1) mX12_canNotBe (n + 1) 21 L (z2 :: z1 :: z0 :: r) h Q = (cs r ≤ 8 ∧ Call sp sc d mX12_atOne [z0, z1, z2] h (fun q h1 => GC sp sc [32] (d + 1) mX12_canNotBe n 24 L q r h h1 Q))) ∧
  (∀ (n d : Nat) (L : List (Option iV)) (r : List iV) (j : Int) (m : Nat) (h : iH) (Q : Option iV → iH → Prop), G sp sc [32] d mX12_canNotBe (n + 1) 24 L (.inl j :: .inr (.inr (m + 2)) :: r) h Q = (match h.1[m]? with | some (.inr (.inl (0, xs))) => inA j xs.length = true ∧ G sp sc [32] d mX12_canNotBe n 25 L (.inl (xs.getD j.toNat 0) :: r) h Q | _ => False)) ∧
  (∀ (n d : Nat) (L : List (Option iV)) (a : Int) (r : List iV) (h : iH) (Q : Option iV → iH → Prop), G sp sc [32] d mX12_canNotBe (n + 1) 25 L (.inl a :: r) h Q = (inI a = true ∧ (a < 0 → G sp sc [32] d mX12_canNotBe n 30 L r h Q) ∧ (¬ (a < 0) → G sp sc [32] d mX12_canNotBe n 28 L r h Q))) ∧
  (∀ (n d : Nat) (L : List (Option iV)) (st : List iV) (h : iH) (Q : Option iV → iH → Prop), G sp sc [32] d mX12_canNotBe (n + 1) 28 L st h Q = G sp sc [32] d mX12_canNotBe n 29 L (.inl 1 :: st) h Q) ∧
  (∀ (n d : Nat) (L : List (Option iV)) (a : Int) (h : iH) (Q : Option iV → iH → Prop), G sp sc [32] d mX12_canNotBe (n + 1) 29 L [.inl a] h Q = ((a = 0 ∨ a = 1) ∧ Q (some (.inl a)) h)) ∧
  (∀ (n d : Nat) (L : List (Option iV)) (st : List iV) (h : iH) (Q : Option iV → iH → Prop), G sp sc [32] d mX12_canNotBe (n + 1) 30 L st h Q = G sp sc [32] d mX12_canNotBe n 31 L (.inl 0 :: st) h Q) ∧
  (∀ (n d : Nat) (L : List (Option iV)) (r : List iV) (x : Int) (h : iH) (Q : Option iV → iH → Prop), G sp sc [32] d mX12_canNotBe (n + 1) 31 L (.inl x :: r) h Q = (match st1 L 3 (.inl x) with | some L' => Run sp sc d mX12_canNotBe 32 L' r h Q | none => False)) ∧
  (∀ (n d : Nat) (L : List (Option iV)) (st : List iV) (h : iH) (Q : Option iV → iH → Prop), G sp sc [32] d mX12_canNotBe (n + 1) 32 L st h Q = (match ld L 3 with | some (.inl x) => G sp sc [32] d mX12_canNotBe n 33 L (.inl x :: st) h Q | _ => False)) ∧
  (∀ (n d : Nat) (L : List (Option iV)) (st : List iV) (h : iH) (Q : Option iV → iH → Prop), G sp sc [32] d mX12_canNotBe (n + 1) 33 L st h Q = (match ld L 0 with | some (.inr (.inr (r + 1))) => G sp sc [32] d mX12_canNotBe n 34 L (.inr (.inr (r + 1)) :: st) h Q | _ => False)) ∧
  (∀ (n d : Nat) (L : List (Option iV)) (r : List iV) (m : Nat) (h : iH) (Q : Option iV → iH → Prop), G sp sc [32] d mX12_canNotBe (n + 1) 34 L (.inr (.inr (m + 2)) :: r) h Q = (match h.1[m]? with | some (.inl (ci, fs)) => (match lkF 12 9 ci with | some k => (match fs[k]? with | some v => G sp sc [32] d mX12_canNotBe n 37 L (v :: r) h Q | none => False) | none => False) | _ => False)) ∧
  (∀ (n d : Nat) (L : List (Option iV)) (st : List iV) (h : iH) (Q : Option iV → iH → Prop), G sp sc [32] d mX12_canNotBe (n + 1) 37 L st h Q = G sp sc [32] d mX12_canNotBe n 38 L (.inl 2 :: st) h Q) ∧
  (∀ (n d : Nat) (L : List (Option iV)) (r : List iV) (j : Int) (m : Nat) (h : iH) (Q : Option iV → iH → Prop), G sp sc [32] d mX12_canNotBe (n + 1) 38 L (.inl j :: .inr (.inr (m + 2)) :: r) h Q = (match h.1[m]? with | some (.inr (.inl (0, xs))) => inA j xs.length = true ∧ G sp sc [32] d mX12_canNotBe n 39 L (.inl (xs.getD j.toNat 0) :: r) h Q | _ => False)) ∧
  (∀ (n d : Nat) (L : List (Option iV)) (a : Int) (b : Int) (r : List iV) (h : iH) (Q : Option iV → iH → Prop), G sp sc [32] d mX12_canNotBe (n + 1) 39 L (.inl b :: .inl a :: r) h Q = ((inI a = true ∧ inI b = true) ∧ (b ≤ a → G sp sc [32] d mX12_canNotBe n 78 L r h Q) ∧ (¬ (b ≤ a) → G sp sc [32] d mX12_canNotBe n 42 L r h Q))) ∧
  (∀ (n d : Nat) (L : List (Option iV)) (st : List iV) (h : iH) (Q : Option iV → iH → Prop), G sp sc [32] d mX12_canNotBe (n + 1) 42 L st h Q = (match ld L 0 with | some (.inr (.inr (r + 1))) => G sp sc [32] d mX12_canNotBe n 43 L (.inr (.inr (r + 1)) :: st) h Q | _ => False)) ∧
  (∀ (n d : Nat) (L : List (Option iV)) (r : List iV) (m : Nat) (h : iH) (Q : Option iV → iH → Prop), G sp sc [32] d mX12_canNotBe (n + 1) 43 L (.inr (.inr (m + 2)) :: r) h Q = (match h.1[m]? with | some (.inl (ci, fs)) => (match lkF 12 9 ci with | some k => (match fs[k]? with | some v => G sp sc [32] d mX12_canNotBe n 46 L (v :: r) h Q | none => False) | none => False) | _ => False)) ∧
  (∀ (n d : Nat) (L : List (Option iV)) (st : List iV) (h : iH) (Q : Option iV → iH → Prop), G sp sc [32] d mX12_canNotBe (n + 1) 46 L st h Q = (match ld L 3 with | some (.inl x) => G sp sc [32] d mX12_canNotBe n 47 L (.inl x :: st) h Q | _ => False)) ∧
  (∀ (n d : Nat) (L : List (Option iV)) (st : List iV) (h : iH) (Q : Option iV → iH → Prop), G sp sc [32] d mX12_canNotBe (n + 1) 47 L st h Q = G sp sc [32] d mX12_canNotBe n 48 L (.inl 0 :: st) h Q) ∧
  (∀ (n d : Nat) (L : List (Option iV)) (r : List iV) (z0 : iV) (z1 : iV) (h : iH) (Q : Option iV → iH → Prop), G sp sc [32] (d + 1) mX12_canNotBe (n + 1) 48 L (z1 :: z0 :: r) h Q = (cs r ≤ 8 ∧ Call sp sc d mX12_atCouple [z0, z1] h (fun q h1 => GC sp sc [32] (d + 1) mX12_canNotBe n 51 L q r h h1 Q))) ∧
  (∀ (n d : Nat) (L : List (Option iV)) (r : List iV) (j : Int) (m : Nat) (h : iH) (Q : Option iV → iH → Prop), G sp sc [32] d mX12_canNotBe (n + 1) 51 L (.inl j :: .inr (.inr (m + 2)) :: r) h Q = (match h.1[m]? with | some (.inr (.inl (0, xs))) => inA j xs.length = true ∧ G sp sc [32] d mX12_canNotBe n 52 L (.inl (xs.getD j.toNat 0) :: r) h Q | _ => False)) ∧
  (∀ (n d : Nat) (L : List (Option iV)) (st : List iV) (h : iH) (Q : Option iV → iH → Prop), G sp sc [32] d mX12_canNotBe (n + 1) 52 L st h Q = (match ld L 1 with | some (.inl x) => G sp sc [32] d mX12_canNotBe n 53 L (.inl x :: st) h Q | _ => False)) ∧
  (∀ (n d : Nat) (L : List (Option iV)) (a : Int) (b : Int) (r : List iV) (h : iH) (Q : Option iV → iH → Prop), G sp sc [32] d mX12_canNotBe (n + 1) 53 L (.inl b :: .inl a :: r) h Q = ((inI a = true ∧ inI b = true) ∧ (¬ a = b → G sp sc [32] d mX12_canNotBe n 72 L r h Q) ∧ (¬ (¬ a = b) → G sp sc [32] d mX12_canNotBe n 56 L r h Q))) ∧
  (∀ (n d : Nat) (L : List (Option iV)) (st : List iV) (h : iH) (Q : Option iV → iH → Prop), G sp sc [32] d mX12_canNotBe (n + 1) 56 L st h Q = (match ld L 0 with | some (.inr (.inr (r + 1))) => G sp sc [32] d mX12_canNotBe n 57 L (.inr (.inr (r + 1)) :: st) h Q | _ => False)) ∧
  (∀ (n d : Nat) (L : List (Option iV)) (r : List iV) (m : Nat) (h : iH) (Q : Option iV → iH → Prop), G sp sc [32] d mX12_canNotBe (n + 1) 57 L (.inr (.inr (m + 2)) :: r) h Q = (match h.1[m]? with | some (.inl (ci, fs)) => (match lkF 12 9 ci with | some k => (match fs[k]? with | some v => G sp sc [32] d mX12_canNotBe n 60 L (v :: r) h Q | none => False) | none => False) | _ => False)) ∧
  (∀ (n d : Nat) (L : List (Option iV)) (st : List iV) (h : iH) (Q : Option iV → iH → Prop), G sp sc [32] d mX12_canNotBe (n + 1) 60 L st h Q = (match ld L 3 with | some (.inl x) => G sp sc [32] d mX12_canNotBe n 61 L (.inl x :: st) h Q | _ => False)) ∧
  (∀ (n d : Nat) (L : List (Option iV)) (st : List iV) (h : iH) (Q : Option iV → iH → Prop), G sp sc [32] d mX12_canNotBe (n + 1) 61 L st h Q = G sp sc [32] d mX12_canNotBe n 62 L (.inl 1 :: st) h Q) ∧
  (∀ (n d : Nat) (L : List (Option iV)) (r : List iV) (z0 : iV) (z1 : iV) (h : iH) (Q : Option iV → iH → Prop), G sp sc [32] (d + 1) mX12_canNotBe (n + 1) 62 L (z1 :: z0 :: r) h Q = (cs r ≤ 8 ∧ Call sp sc d mX12_atCouple [z0, z1] h (fun q h1 => GC sp sc [32] (d + 1) mX12_canNotBe n 65 L q r h h1 Q))) ∧
  (∀ (n d : Nat) (L : List (Option iV)) (r : List iV) (j : Int) (m : Nat) (h : iH) (Q : Option iV → iH → Prop), G sp sc [32] d mX12_canNotBe (n + 1) 65 L (.inl j :: .inr (.inr (m + 2)) :: r) h Q = (match h.1[m]? with | some (.inr (.inl (0, xs))) => inA j xs.length = true ∧ G sp sc [32] d mX12_canNotBe n 66 L (.inl (xs.getD j.toNat 0) :: r) h Q | _ => False)) ∧
  (∀ (n d : Nat) (L : List (Option iV)) (st : List iV) (h : iH) (Q : Option iV → iH → Prop), G sp sc [32] d mX12_canNotBe (n + 1) 66 L st h Q = (match ld L 2 with | some (.inl x) => G sp sc [32] d mX12_canNotBe n 67 L (.inl x :: st) h Q | _ => False)) ∧
  (∀ (n d : Nat) (L : List (Option iV)) (a : Int) (b : Int) (r : List iV) (h : iH) (Q : Option iV → iH → Prop), G sp sc [32] d mX12_canNotBe (n + 1) 67 L (.inl b :: .inl a :: r) h Q = ((inI a = true ∧ inI b = true) ∧ (¬ a = b → G sp sc [32] d mX12_canNotBe n 72 L r h Q) ∧ (¬ (¬ a = b) → G sp sc [32] d mX12_canNotBe n 70 L r h Q))) ∧
  (∀ (n d : Nat) (L : List (Option iV)) (st : List iV) (h : iH) (Q : Option iV → iH → Prop), G sp sc [32] d mX12_canNotBe (n + 1) 70 L st h Q = G sp sc [32] d mX12_canNotBe n 71 L (.inl 1 :: st) h Q) ∧
  (∀ (n d : Nat) (L : List (Option iV)) (a : Int) (h : iH) (Q : Option iV → iH → Prop), G sp sc [32] d mX12_canNotBe (n + 1) 71 L [.inl a] h Q = ((a = 0 ∨ a = 1) ∧ Q (some (.inl a)) h)) ∧
  (∀ (n d : Nat) (L : List (Option iV)) (st : List iV) (h : iH) (Q : Option iV → iH → Prop), G sp sc [32] d mX12_canNotBe (n + 1) 72 L st h Q = (match ld L 3 with | some (.inl x) => (match st1 L 3 (.inl (x + 1)) with | some L' => G sp sc [32] d mX12_canNotBe n 75 L' st h Q | none => False) | _ => False)) ∧
  (∀ (n d : Nat) (L : List (Option iV)) (st : List iV) (h : iH) (Q : Option iV → iH → Prop), G sp sc [32] d mX12_canNotBe (n + 1) 75 L st h Q = Run sp sc d mX12_canNotBe 32 L st h Q) ∧
  (∀ (n d : Nat) (L : List (Option iV)) (st : List iV) (h : iH) (Q : Option iV → iH → Prop), G sp sc [32] d mX12_canNotBe (n + 1) 78 L st h Q = G sp sc [32] d mX12_canNotBe n 79 L (.inl 0 :: st) h Q) ∧
  (∀ (n d : Nat) (L : List (Option iV)) (a : Int) (h : iH) (Q : Option iV → iH → Prop), G sp sc [32] d mX12_canNotBe (n + 1) 79 L [.inl a] h Q = ((a = 0 ∨ a = 1) ∧ Q (some (.inl a)) h)) ∧
  lkF 12 9 12 = some 0 := ⟨by intros; exact G_at (by decide +kernel : fetch mX12_canNotBe 0 = some (.aload_n 0)),
  by intros; exact G_own (by decide +kernel : fetch mX12_canNotBe 1 = some (.getfield 9)) (by decide +kernel),
  by intros; exact G_at (by decide +kernel : fetch mX12_canNotBe 4 = some (.iconst 0)),
  by intros; exact G_at (by decide +kernel : fetch mX12_canNotBe 5 = some (.iload_n 1)),
  by intros; exact G_at (by decide +kernel : fetch mX12_canNotBe 6 = some (.iconst 3)),
  by intros; exact G_callS (k := 3) (kd := 0) (by decide +kernel : fetch mX12_canNotBe 7 = some (.invokestatic 88)) (by decide +kernel) (by decide +kernel) (by decide +kernel) rfl (by decide),
  by intros; exact G_at (by decide +kernel : fetch mX12_canNotBe 10 = some (.iaload)),
  by intros; exact G_at (by decide +kernel : fetch mX12_canNotBe 11 = some (.ifCond .ge 17)),
  by intros; exact G_at (by decide +kernel : fetch mX12_canNotBe 14 = some (.aload_n 0)),
  by intros; exact G_own (by decide +kernel : fetch mX12_canNotBe 15 = some (.getfield 9)) (by decide +kernel),
  by intros; exact G_at (by decide +kernel : fetch mX12_canNotBe 18 = some (.iconst 1)),
  by intros; exact G_at (by decide +kernel : fetch mX12_canNotBe 19 = some (.iload_n 2)),
  by intros; exact G_at (by decide +kernel : fetch mX12_canNotBe 20 = some (.iconst 3)),
  by intros; exact G_callS (k := 3) (kd := 0) (by decide +kernel : fetch mX12_canNotBe 21 = some (.invokestatic 88)) (by decide +kernel) (by decide +kernel) (by decide +kernel) rfl (by decide),
  by intros; exact G_at (by decide +kernel : fetch mX12_canNotBe 24 = some (.iaload)),
  by intros; exact G_at (by decide +kernel : fetch mX12_canNotBe 25 = some (.ifCond .lt 5)),
  by intros; exact G_at (by decide +kernel : fetch mX12_canNotBe 28 = some (.iconst 1)),
  by intros; exact G_retz (by decide +kernel : fetch mX12_canNotBe 29 = some (.ireturn)) (by decide +kernel),
  by intros; exact G_at (by decide +kernel : fetch mX12_canNotBe 30 = some (.iconst 0)),
  by intros; exact G_at (by decide +kernel : fetch mX12_canNotBe 31 = some (.istore_n 3)),
  by intros; exact G_at (by decide +kernel : fetch mX12_canNotBe 32 = some (.iload_n 3)),
  by intros; exact G_at (by decide +kernel : fetch mX12_canNotBe 33 = some (.aload_n 0)),
  by intros; exact G_own (by decide +kernel : fetch mX12_canNotBe 34 = some (.getfield 9)) (by decide +kernel),
  by intros; exact G_at (by decide +kernel : fetch mX12_canNotBe 37 = some (.iconst 2)),
  by intros; exact G_at (by decide +kernel : fetch mX12_canNotBe 38 = some (.iaload)),
  by intros; exact G_at (by decide +kernel : fetch mX12_canNotBe 39 = some (.if_icmp .ge 39)),
  by intros; exact G_at (by decide +kernel : fetch mX12_canNotBe 42 = some (.aload_n 0)),
  by intros; exact G_own (by decide +kernel : fetch mX12_canNotBe 43 = some (.getfield 9)) (by decide +kernel),
  by intros; exact G_at (by decide +kernel : fetch mX12_canNotBe 46 = some (.iload_n 3)),
  by intros; exact G_at (by decide +kernel : fetch mX12_canNotBe 47 = some (.iconst 0)),
  by intros; exact G_callS (k := 2) (kd := 0) (by decide +kernel : fetch mX12_canNotBe 48 = some (.invokestatic 92)) (by decide +kernel) (by decide +kernel) (by decide +kernel) rfl (by decide),
  by intros; exact G_at (by decide +kernel : fetch mX12_canNotBe 51 = some (.iaload)),
  by intros; exact G_at (by decide +kernel : fetch mX12_canNotBe 52 = some (.iload_n 1)),
  by intros; exact G_at (by decide +kernel : fetch mX12_canNotBe 53 = some (.if_icmp .ne 19)),
  by intros; exact G_at (by decide +kernel : fetch mX12_canNotBe 56 = some (.aload_n 0)),
  by intros; exact G_own (by decide +kernel : fetch mX12_canNotBe 57 = some (.getfield 9)) (by decide +kernel),
  by intros; exact G_at (by decide +kernel : fetch mX12_canNotBe 60 = some (.iload_n 3)),
  by intros; exact G_at (by decide +kernel : fetch mX12_canNotBe 61 = some (.iconst 1)),
  by intros; exact G_callS (k := 2) (kd := 0) (by decide +kernel : fetch mX12_canNotBe 62 = some (.invokestatic 92)) (by decide +kernel) (by decide +kernel) (by decide +kernel) rfl (by decide),
  by intros; exact G_at (by decide +kernel : fetch mX12_canNotBe 65 = some (.iaload)),
  by intros; exact G_at (by decide +kernel : fetch mX12_canNotBe 66 = some (.iload_n 2)),
  by intros; exact G_at (by decide +kernel : fetch mX12_canNotBe 67 = some (.if_icmp .ne 5)),
  by intros; exact G_at (by decide +kernel : fetch mX12_canNotBe 70 = some (.iconst 1)),
  by intros; exact G_retz (by decide +kernel : fetch mX12_canNotBe 71 = some (.ireturn)) (by decide +kernel),
  by intros; exact G_at (by decide +kernel : fetch mX12_canNotBe 72 = some (.iinc 3 1)),
  by intros; exact G_at (by decide +kernel : fetch mX12_canNotBe 75 = some (.goto (-43))),
  by intros; exact G_at (by decide +kernel : fetch mX12_canNotBe 78 = some (.iconst 0)),
  by intros; exact G_retz (by decide +kernel : fetch mX12_canNotBe 79 = some (.ireturn)) (by decide +kernel),
  by decide +kernel⟩
theorem gX12_addsCouple : (∀ (n d : Nat) (L : List (Option iV)) (st : List iV) (h : iH) (Q : Option iV → iH → Prop), G sp sc [] d mX12_addsCouple (n + 1) 0 L st h Q = (match ld L 0 with | some (.inr (.inr (r + 1))) => G sp sc [] d mX12_addsCouple n 1 L (.inr (.inr (r + 1)) :: st) h Q | _ => False)) ∧
  (∀ (n d : Nat) (L : List (Option iV)) (r : List iV) (m : Nat) (h : iH) (Q : Option iV → iH → Prop), G sp sc [] d mX12_addsCouple (n + 1) 1 L (.inr (.inr (m + 2)) :: r) h Q = (match h.1[m]? with | some (.inl (ci, fs)) => (match lkF 12 9 ci with | some k => (match fs[k]? with | some v => G sp sc [] d mX12_addsCouple n 4 L (v :: r) h Q | none => False) | none => False) | _ => False)) ∧
  (∀ (n d : Nat) (L : List (Option iV)) (st : List iV) (h : iH) (Q : Option iV → iH → Prop), G sp sc [] d mX12_addsCouple (n + 1) 4 L st h Q = G sp sc [] d mX12_addsCouple n 5 L (.inl 2 :: st) h Q) ∧
  (∀ (n d : Nat) (L : List (Option iV)) (r : List iV) (j : Int) (m : Nat) (h : iH) (Q : Option iV → iH → Prop), G sp sc [] d mX12_addsCouple (n + 1) 5 L (.inl j :: .inr (.inr (m + 2)) :: r) h Q = (match h.1[m]? with | some (.inr (.inl (0, xs))) => inA j xs.length = true ∧ G sp sc [] d mX12_addsCouple n 6 L (.inl (xs.getD j.toNat 0) :: r) h Q | _ => False)) ∧
  (∀ (n d : Nat) (L : List (Option iV)) (r : List iV) (x : Int) (h : iH) (Q : Option iV → iH → Prop), G sp sc [] d mX12_addsCouple (n + 1) 6 L (.inl x :: r) h Q = (match st1 L 3 (.inl x) with | some L' => G sp sc [] d mX12_addsCouple n 7 L' r h Q | none => False)) ∧
  (∀ (n d : Nat) (L : List (Option iV)) (st : List iV) (h : iH) (Q : Option iV → iH → Prop), G sp sc [] d mX12_addsCouple (n + 1) 7 L st h Q = (match ld L 0 with | some (.inr (.inr (r + 1))) => G sp sc [] d mX12_addsCouple n 8 L (.inr (.inr (r + 1)) :: st) h Q | _ => False)) ∧
  (∀ (n d : Nat) (L : List (Option iV)) (r : List iV) (m : Nat) (h : iH) (Q : Option iV → iH → Prop), G sp sc [] d mX12_addsCouple (n + 1) 8 L (.inr (.inr (m + 2)) :: r) h Q = (match h.1[m]? with | some (.inl (ci, fs)) => (match lkF 12 9 ci with | some k => (match fs[k]? with | some v => G sp sc [] d mX12_addsCouple n 11 L (v :: r) h Q | none => False) | none => False) | _ => False)) ∧
  (∀ (n d : Nat) (L : List (Option iV)) (st : List iV) (h : iH) (Q : Option iV → iH → Prop), G sp sc [] d mX12_addsCouple (n + 1) 11 L st h Q = (match ld L 3 with | some (.inl x) => G sp sc [] d mX12_addsCouple n 12 L (.inl x :: st) h Q | _ => False)) ∧
  (∀ (n d : Nat) (L : List (Option iV)) (st : List iV) (h : iH) (Q : Option iV → iH → Prop), G sp sc [] d mX12_addsCouple (n + 1) 12 L st h Q = G sp sc [] d mX12_addsCouple n 13 L (.inl 0 :: st) h Q) ∧
  (∀ (n d : Nat) (L : List (Option iV)) (r : List iV) (z0 : iV) (z1 : iV) (h : iH) (Q : Option iV → iH → Prop), G sp sc [] (d + 1) mX12_addsCouple (n + 1) 13 L (z1 :: z0 :: r) h Q = (cs r ≤ 8 ∧ Call sp sc d mX12_atCouple [z0, z1] h (fun q h1 => GC sp sc [] (d + 1) mX12_addsCouple n 16 L q r h h1 Q))) ∧
  (∀ (n d : Nat) (L : List (Option iV)) (st : List iV) (h : iH) (Q : Option iV → iH → Prop), G sp sc [] d mX12_addsCouple (n + 1) 16 L st h Q = (match ld L 1 with | some (.inl x) => G sp sc [] d mX12_addsCouple n 17 L (.inl x :: st) h Q | _ => False)) ∧
  (∀ (n d : Nat) (L : List (Option iV)) (r : List iV) (v : Int) (j : Int) (m : Nat) (h : iH) (Q : Option iV → iH → Prop), G sp sc [] d mX12_addsCouple (n + 1) 17 L (.inl v :: .inl j :: .inr (.inr (m + 2)) :: r) h Q = (match h.1[m]? with | some (.inr (.inl (0, xs))) => inA j xs.length = true ∧ G sp sc [] d mX12_addsCouple n 18 L r (h.1.set m (.inr (.inl (0, xs.set j.toNat v))), h.2) Q | _ => False)) ∧
  (∀ (n d : Nat) (L : List (Option iV)) (st : List iV) (h : iH) (Q : Option iV → iH → Prop), G sp sc [] d mX12_addsCouple (n + 1) 18 L st h Q = (match ld L 0 with | some (.inr (.inr (r + 1))) => G sp sc [] d mX12_addsCouple n 19 L (.inr (.inr (r + 1)) :: st) h Q | _ => False)) ∧
  (∀ (n d : Nat) (L : List (Option iV)) (r : List iV) (m : Nat) (h : iH) (Q : Option iV → iH → Prop), G sp sc [] d mX12_addsCouple (n + 1) 19 L (.inr (.inr (m + 2)) :: r) h Q = (match h.1[m]? with | some (.inl (ci, fs)) => (match lkF 12 9 ci with | some k => (match fs[k]? with | some v => G sp sc [] d mX12_addsCouple n 22 L (v :: r) h Q | none => False) | none => False) | _ => False)) ∧
  (∀ (n d : Nat) (L : List (Option iV)) (st : List iV) (h : iH) (Q : Option iV → iH → Prop), G sp sc [] d mX12_addsCouple (n + 1) 22 L st h Q = (match ld L 3 with | some (.inl x) => G sp sc [] d mX12_addsCouple n 23 L (.inl x :: st) h Q | _ => False)) ∧
  (∀ (n d : Nat) (L : List (Option iV)) (st : List iV) (h : iH) (Q : Option iV → iH → Prop), G sp sc [] d mX12_addsCouple (n + 1) 23 L st h Q = G sp sc [] d mX12_addsCouple n 24 L (.inl 1 :: st) h Q) ∧
  (∀ (n d : Nat) (L : List (Option iV)) (r : List iV) (z0 : iV) (z1 : iV) (h : iH) (Q : Option iV → iH → Prop), G sp sc [] (d + 1) mX12_addsCouple (n + 1) 24 L (z1 :: z0 :: r) h Q = (cs r ≤ 8 ∧ Call sp sc d mX12_atCouple [z0, z1] h (fun q h1 => GC sp sc [] (d + 1) mX12_addsCouple n 27 L q r h h1 Q))) ∧
  (∀ (n d : Nat) (L : List (Option iV)) (st : List iV) (h : iH) (Q : Option iV → iH → Prop), G sp sc [] d mX12_addsCouple (n + 1) 27 L st h Q = (match ld L 2 with | some (.inl x) => G sp sc [] d mX12_addsCouple n 28 L (.inl x :: st) h Q | _ => False)) ∧
  (∀ (n d : Nat) (L : List (Option iV)) (r : List iV) (v : Int) (j : Int) (m : Nat) (h : iH) (Q : Option iV → iH → Prop), G sp sc [] d mX12_addsCouple (n + 1) 28 L (.inl v :: .inl j :: .inr (.inr (m + 2)) :: r) h Q = (match h.1[m]? with | some (.inr (.inl (0, xs))) => inA j xs.length = true ∧ G sp sc [] d mX12_addsCouple n 29 L r (h.1.set m (.inr (.inl (0, xs.set j.toNat v))), h.2) Q | _ => False)) ∧
  (∀ (n d : Nat) (L : List (Option iV)) (st : List iV) (h : iH) (Q : Option iV → iH → Prop), G sp sc [] d mX12_addsCouple (n + 1) 29 L st h Q = (match ld L 0 with | some (.inr (.inr (r + 1))) => G sp sc [] d mX12_addsCouple n 30 L (.inr (.inr (r + 1)) :: st) h Q | _ => False)) ∧
  (∀ (n d : Nat) (L : List (Option iV)) (r : List iV) (m : Nat) (h : iH) (Q : Option iV → iH → Prop), G sp sc [] d mX12_addsCouple (n + 1) 30 L (.inr (.inr (m + 2)) :: r) h Q = (match h.1[m]? with | some (.inl (ci, fs)) => (match lkF 12 9 ci with | some k => (match fs[k]? with | some v => G sp sc [] d mX12_addsCouple n 33 L (v :: r) h Q | none => False) | none => False) | _ => False)) ∧
  (∀ (n d : Nat) (L : List (Option iV)) (st : List iV) (h : iH) (Q : Option iV → iH → Prop), G sp sc [] d mX12_addsCouple (n + 1) 33 L st h Q = (match ld L 3 with | some (.inl x) => G sp sc [] d mX12_addsCouple n 34 L (.inl x :: st) h Q | _ => False)) ∧
  (∀ (n d : Nat) (L : List (Option iV)) (st : List iV) (h : iH) (Q : Option iV → iH → Prop), G sp sc [] d mX12_addsCouple (n + 1) 34 L st h Q = G sp sc [] d mX12_addsCouple n 35 L (.inl 2 :: st) h Q) ∧
  (∀ (n d : Nat) (L : List (Option iV)) (r : List iV) (z0 : iV) (z1 : iV) (h : iH) (Q : Option iV → iH → Prop), G sp sc [] (d + 1) mX12_addsCouple (n + 1) 35 L (z1 :: z0 :: r) h Q = (cs r ≤ 8 ∧ Call sp sc d mX12_atCouple [z0, z1] h (fun q h1 => GC sp sc [] (d + 1) mX12_addsCouple n 38 L q r h h1 Q))) ∧
  (∀ (n d : Nat) (L : List (Option iV)) (st : List iV) (h : iH) (Q : Option iV → iH → Prop), G sp sc [] d mX12_addsCouple (n + 1) 38 L st h Q = G sp sc [] d mX12_addsCouple n 39 L (.inl 0 :: st) h Q) ∧
  (∀ (n d : Nat) (L : List (Option iV)) (r : List iV) (v : Int) (j : Int) (m : Nat) (h : iH) (Q : Option iV → iH → Prop), G sp sc [] d mX12_addsCouple (n + 1) 39 L (.inl v :: .inl j :: .inr (.inr (m + 2)) :: r) h Q = (match h.1[m]? with | some (.inr (.inl (0, xs))) => inA j xs.length = true ∧ G sp sc [] d mX12_addsCouple n 40 L r (h.1.set m (.inr (.inl (0, xs.set j.toNat v))), h.2) Q | _ => False)) ∧
  (∀ (n d : Nat) (L : List (Option iV)) (st : List iV) (h : iH) (Q : Option iV → iH → Prop), G sp sc [] d mX12_addsCouple (n + 1) 40 L st h Q = (match ld L 0 with | some (.inr (.inr (r + 1))) => G sp sc [] d mX12_addsCouple n 41 L (.inr (.inr (r + 1)) :: st) h Q | _ => False)) ∧
  (∀ (n d : Nat) (L : List (Option iV)) (r : List iV) (m : Nat) (h : iH) (Q : Option iV → iH → Prop), G sp sc [] d mX12_addsCouple (n + 1) 41 L (.inr (.inr (m + 2)) :: r) h Q = (match h.1[m]? with | some (.inl (ci, fs)) => (match lkF 12 9 ci with | some k => (match fs[k]? with | some v => G sp sc [] d mX12_addsCouple n 44 L (v :: r) h Q | none => False) | none => False) | _ => False)) ∧
  (∀ (n d : Nat) (L : List (Option iV)) (st : List iV) (h : iH) (Q : Option iV → iH → Prop), G sp sc [] d mX12_addsCouple (n + 1) 44 L st h Q = (match ld L 3 with | some (.inl x) => G sp sc [] d mX12_addsCouple n 45 L (.inl x :: st) h Q | _ => False)) ∧
  (∀ (n d : Nat) (L : List (Option iV)) (st : List iV) (h : iH) (Q : Option iV → iH → Prop), G sp sc [] d mX12_addsCouple (n + 1) 45 L st h Q = G sp sc [] d mX12_addsCouple n 46 L (.inl 3 :: st) h Q) ∧
  (∀ (n d : Nat) (L : List (Option iV)) (r : List iV) (z0 : iV) (z1 : iV) (h : iH) (Q : Option iV → iH → Prop), G sp sc [] (d + 1) mX12_addsCouple (n + 1) 46 L (z1 :: z0 :: r) h Q = (cs r ≤ 8 ∧ Call sp sc d mX12_atCouple [z0, z1] h (fun q h1 => GC sp sc [] (d + 1) mX12_addsCouple n 49 L q r h h1 Q))) ∧
  (∀ (n d : Nat) (L : List (Option iV)) (st : List iV) (h : iH) (Q : Option iV → iH → Prop), G sp sc [] d mX12_addsCouple (n + 1) 49 L st h Q = G sp sc [] d mX12_addsCouple n 50 L (.inl 0 :: st) h Q) ∧
  (∀ (n d : Nat) (L : List (Option iV)) (r : List iV) (v : Int) (j : Int) (m : Nat) (h : iH) (Q : Option iV → iH → Prop), G sp sc [] d mX12_addsCouple (n + 1) 50 L (.inl v :: .inl j :: .inr (.inr (m + 2)) :: r) h Q = (match h.1[m]? with | some (.inr (.inl (0, xs))) => inA j xs.length = true ∧ G sp sc [] d mX12_addsCouple n 51 L r (h.1.set m (.inr (.inl (0, xs.set j.toNat v))), h.2) Q | _ => False)) ∧
  (∀ (n d : Nat) (L : List (Option iV)) (st : List iV) (h : iH) (Q : Option iV → iH → Prop), G sp sc [] d mX12_addsCouple (n + 1) 51 L st h Q = (match ld L 0 with | some (.inr (.inr (r + 1))) => G sp sc [] d mX12_addsCouple n 52 L (.inr (.inr (r + 1)) :: st) h Q | _ => False)) ∧
  (∀ (n d : Nat) (L : List (Option iV)) (r : List iV) (m : Nat) (h : iH) (Q : Option iV → iH → Prop), G sp sc [] d mX12_addsCouple (n + 1) 52 L (.inr (.inr (m + 2)) :: r) h Q = (match h.1[m]? with | some (.inl (ci, fs)) => (match lkF 12 9 ci with | some k => (match fs[k]? with | some v => G sp sc [] d mX12_addsCouple n 55 L (v :: r) h Q | none => False) | none => False) | _ => False)) ∧
  (∀ (n d : Nat) (L : List (Option iV)) (st : List iV) (h : iH) (Q : Option iV → iH → Prop), G sp sc [] d mX12_addsCouple (n + 1) 55 L st h Q = G sp sc [] d mX12_addsCouple n 56 L (.inl 2 :: st) h Q) ∧
  (∀ (n d : Nat) (L : List (Option iV)) (a : Int) (b : Nat) (r : List iV) (h : iH) (Q : Option iV → iH → Prop), G sp sc [] d mX12_addsCouple (n + 1) 56 L (.inl a :: .inr (.inr b) :: r) h Q = G sp sc [] d mX12_addsCouple n 57 L (.inl a :: .inr (.inr b) :: .inl a :: .inr (.inr b) :: r) h Q) ∧
  (∀ (n d : Nat) (L : List (Option iV)) (r : List iV) (j : Int) (m : Nat) (h : iH) (Q : Option iV → iH → Prop), G sp sc [] d mX12_addsCouple (n + 1) 57 L (.inl j :: .inr (.inr (m + 2)) :: r) h Q = (match h.1[m]? with | some (.inr (.inl (0, xs))) => inA j xs.length = true ∧ G sp sc [] d mX12_addsCouple n 58 L (.inl (xs.getD j.toNat 0) :: r) h Q | _ => False)) ∧
  (∀ (n d : Nat) (L : List (Option iV)) (st : List iV) (h : iH) (Q : Option iV → iH → Prop), G sp sc [] d mX12_addsCouple (n + 1) 58 L st h Q = G sp sc [] d mX12_addsCouple n 59 L (.inl 1 :: st) h Q) ∧
  (∀ (n d : Nat) (L : List (Option iV)) (a : Int) (b : Int) (r : List iV) (h : iH) (Q : Option iV → iH → Prop), G sp sc [] d mX12_addsCouple (n + 1) 59 L (.inl b :: .inl a :: r) h Q = G sp sc [] d mX12_addsCouple n 60 L (.inl (a + b) :: r) h Q) ∧
  (∀ (n d : Nat) (L : List (Option iV)) (r : List iV) (v : Int) (j : Int) (m : Nat) (h : iH) (Q : Option iV → iH → Prop), G sp sc [] d mX12_addsCouple (n + 1) 60 L (.inl v :: .inl j :: .inr (.inr (m + 2)) :: r) h Q = (match h.1[m]? with | some (.inr (.inl (0, xs))) => inA j xs.length = true ∧ G sp sc [] d mX12_addsCouple n 61 L r (h.1.set m (.inr (.inl (0, xs.set j.toNat v))), h.2) Q | _ => False)) ∧
  (∀ (n d : Nat) (L : List (Option iV)) (st : List iV) (h : iH) (Q : Option iV → iH → Prop), G sp sc [] d mX12_addsCouple (n + 1) 61 L st h Q = (match ld L 3 with | some (.inl x) => G sp sc [] d mX12_addsCouple n 62 L (.inl x :: st) h Q | _ => False)) ∧
  (∀ (n d : Nat) (L : List (Option iV)) (a : Int) (h : iH) (Q : Option iV → iH → Prop), G sp sc [] d mX12_addsCouple (n + 1) 62 L [.inl a] h Q = Q (some (.inl a)) h) ∧
  lkF 12 9 12 = some 0 := ⟨by intros; exact G_at (by decide +kernel : fetch mX12_addsCouple 0 = some (.aload_n 0)),
  by intros; exact G_own (by decide +kernel : fetch mX12_addsCouple 1 = some (.getfield 9)) (by decide +kernel),
  by intros; exact G_at (by decide +kernel : fetch mX12_addsCouple 4 = some (.iconst 2)),
  by intros; exact G_at (by decide +kernel : fetch mX12_addsCouple 5 = some (.iaload)),
  by intros; exact G_at (by decide +kernel : fetch mX12_addsCouple 6 = some (.istore_n 3)),
  by intros; exact G_at (by decide +kernel : fetch mX12_addsCouple 7 = some (.aload_n 0)),
  by intros; exact G_own (by decide +kernel : fetch mX12_addsCouple 8 = some (.getfield 9)) (by decide +kernel),
  by intros; exact G_at (by decide +kernel : fetch mX12_addsCouple 11 = some (.iload_n 3)),
  by intros; exact G_at (by decide +kernel : fetch mX12_addsCouple 12 = some (.iconst 0)),
  by intros; exact G_callS (k := 2) (kd := 0) (by decide +kernel : fetch mX12_addsCouple 13 = some (.invokestatic 92)) (by decide +kernel) (by decide +kernel) (by decide +kernel) rfl (by decide),
  by intros; exact G_at (by decide +kernel : fetch mX12_addsCouple 16 = some (.iload_n 1)),
  by intros; exact G_at (by decide +kernel : fetch mX12_addsCouple 17 = some (.iastore)),
  by intros; exact G_at (by decide +kernel : fetch mX12_addsCouple 18 = some (.aload_n 0)),
  by intros; exact G_own (by decide +kernel : fetch mX12_addsCouple 19 = some (.getfield 9)) (by decide +kernel),
  by intros; exact G_at (by decide +kernel : fetch mX12_addsCouple 22 = some (.iload_n 3)),
  by intros; exact G_at (by decide +kernel : fetch mX12_addsCouple 23 = some (.iconst 1)),
  by intros; exact G_callS (k := 2) (kd := 0) (by decide +kernel : fetch mX12_addsCouple 24 = some (.invokestatic 92)) (by decide +kernel) (by decide +kernel) (by decide +kernel) rfl (by decide),
  by intros; exact G_at (by decide +kernel : fetch mX12_addsCouple 27 = some (.iload_n 2)),
  by intros; exact G_at (by decide +kernel : fetch mX12_addsCouple 28 = some (.iastore)),
  by intros; exact G_at (by decide +kernel : fetch mX12_addsCouple 29 = some (.aload_n 0)),
  by intros; exact G_own (by decide +kernel : fetch mX12_addsCouple 30 = some (.getfield 9)) (by decide +kernel),
  by intros; exact G_at (by decide +kernel : fetch mX12_addsCouple 33 = some (.iload_n 3)),
  by intros; exact G_at (by decide +kernel : fetch mX12_addsCouple 34 = some (.iconst 2)),
  by intros; exact G_callS (k := 2) (kd := 0) (by decide +kernel : fetch mX12_addsCouple 35 = some (.invokestatic 92)) (by decide +kernel) (by decide +kernel) (by decide +kernel) rfl (by decide),
  by intros; exact G_at (by decide +kernel : fetch mX12_addsCouple 38 = some (.iconst 0)),
  by intros; exact G_at (by decide +kernel : fetch mX12_addsCouple 39 = some (.iastore)),
  by intros; exact G_at (by decide +kernel : fetch mX12_addsCouple 40 = some (.aload_n 0)),
  by intros; exact G_own (by decide +kernel : fetch mX12_addsCouple 41 = some (.getfield 9)) (by decide +kernel),
  by intros; exact G_at (by decide +kernel : fetch mX12_addsCouple 44 = some (.iload_n 3)),
  by intros; exact G_at (by decide +kernel : fetch mX12_addsCouple 45 = some (.iconst 3)),
  by intros; exact G_callS (k := 2) (kd := 0) (by decide +kernel : fetch mX12_addsCouple 46 = some (.invokestatic 92)) (by decide +kernel) (by decide +kernel) (by decide +kernel) rfl (by decide),
  by intros; exact G_at (by decide +kernel : fetch mX12_addsCouple 49 = some (.iconst 0)),
  by intros; exact G_at (by decide +kernel : fetch mX12_addsCouple 50 = some (.iastore)),
  by intros; exact G_at (by decide +kernel : fetch mX12_addsCouple 51 = some (.aload_n 0)),
  by intros; exact G_own (by decide +kernel : fetch mX12_addsCouple 52 = some (.getfield 9)) (by decide +kernel),
  by intros; exact G_at (by decide +kernel : fetch mX12_addsCouple 55 = some (.iconst 2)),
  by intros; exact G_at (by decide +kernel : fetch mX12_addsCouple 56 = some (.dup2)),
  by intros; exact G_at (by decide +kernel : fetch mX12_addsCouple 57 = some (.iaload)),
  by intros; exact G_at (by decide +kernel : fetch mX12_addsCouple 58 = some (.iconst 1)),
  by intros; exact G_at (by decide +kernel : fetch mX12_addsCouple 59 = some (.iadd)),
  by intros; exact G_at (by decide +kernel : fetch mX12_addsCouple 60 = some (.iastore)),
  by intros; exact G_at (by decide +kernel : fetch mX12_addsCouple 61 = some (.iload_n 3)),
  by intros; exact G_reti (by decide +kernel : fetch mX12_addsCouple 62 = some (.ireturn)) (by decide +kernel),
  by decide +kernel⟩
theorem gX12_isDone : (∀ (n d : Nat) (L : List (Option iV)) (st : List iV) (h : iH) (Q : Option iV → iH → Prop), G sp sc [390] d mX12_isDone (n + 1) 0 L st h Q = (match ld L 0 with | some (.inr (.inr (r + 1))) => G sp sc [390] d mX12_isDone n 1 L (.inr (.inr (r + 1)) :: st) h Q | _ => False)) ∧
  (∀ (n d : Nat) (L : List (Option iV)) (r : List iV) (m : Nat) (h : iH) (Q : Option iV → iH → Prop), G sp sc [390] d mX12_isDone (n + 1) 1 L (.inr (.inr (m + 2)) :: r) h Q = (match h.1[m]? with | some (.inl (ci, fs)) => (match lkF 12 31 ci with | some k => (match fs[k]? with | some v => G sp sc [390] d mX12_isDone n 4 L (v :: r) h Q | none => False) | none => False) | _ => False)) ∧
  (∀ (n d : Nat) (L : List (Option iV)) (st : List iV) (h : iH) (Q : Option iV → iH → Prop), G sp sc [390] d mX12_isDone (n + 1) 4 L st h Q = G sp sc [390] d mX12_isDone n 5 L (.inl 0 :: st) h Q) ∧
  (∀ (n d : Nat) (L : List (Option iV)) (r : List iV) (j : Int) (m : Nat) (h : iH) (Q : Option iV → iH → Prop), G sp sc [390] d mX12_isDone (n + 1) 5 L (.inl j :: .inr (.inr (m + 2)) :: r) h Q = (match h.1[m]? with | some (.inr (.inl (0, xs))) => inA j xs.length = true ∧ G sp sc [390] d mX12_isDone n 6 L (.inl (xs.getD j.toNat 0) :: r) h Q | _ => False)) ∧
  (∀ (n d : Nat) (L : List (Option iV)) (r : List iV) (x : Int) (h : iH) (Q : Option iV → iH → Prop), G sp sc [390] d mX12_isDone (n + 1) 6 L (.inl x :: r) h Q = (match st1 L 2 (.inl x) with | some L' => G sp sc [390] d mX12_isDone n 7 L' r h Q | none => False)) ∧
  (∀ (n d : Nat) (L : List (Option iV)) (st : List iV) (h : iH) (Q : Option iV → iH → Prop), G sp sc [390] d mX12_isDone (n + 1) 7 L st h Q = (match ld L 0 with | some (.inr (.inr (r + 1))) => G sp sc [390] d mX12_isDone n 8 L (.inr (.inr (r + 1)) :: st) h Q | _ => False)) ∧
  (∀ (n d : Nat) (L : List (Option iV)) (r : List iV) (m : Nat) (h : iH) (Q : Option iV → iH → Prop), G sp sc [390] d mX12_isDone (n + 1) 8 L (.inr (.inr (m + 2)) :: r) h Q = (match h.1[m]? with | some (.inl (ci, fs)) => (match lkF 12 31 ci with | some k => (match fs[k]? with | some v => G sp sc [390] d mX12_isDone n 11 L (v :: r) h Q | none => False) | none => False) | _ => False)) ∧
  (∀ (n d : Nat) (L : List (Option iV)) (st : List iV) (h : iH) (Q : Option iV → iH → Prop), G sp sc [390] d mX12_isDone (n + 1) 11 L st h Q = G sp sc [390] d mX12_isDone n 12 L (.inl 1 :: st) h Q) ∧
  (∀ (n d : Nat) (L : List (Option iV)) (r : List iV) (j : Int) (m : Nat) (h : iH) (Q : Option iV → iH → Prop), G sp sc [390] d mX12_isDone (n + 1) 12 L (.inl j :: .inr (.inr (m + 2)) :: r) h Q = (match h.1[m]? with | some (.inr (.inl (0, xs))) => inA j xs.length = true ∧ G sp sc [390] d mX12_isDone n 13 L (.inl (xs.getD j.toNat 0) :: r) h Q | _ => False)) ∧
  (∀ (n d : Nat) (L : List (Option iV)) (r : List iV) (x : Int) (h : iH) (Q : Option iV → iH → Prop), G sp sc [390] d mX12_isDone (n + 1) 13 L (.inl x :: r) h Q = (match st1 L 3 (.inl x) with | some L' => G sp sc [390] d mX12_isDone n 14 L' r h Q | none => False)) ∧
  (∀ (n d : Nat) (L : List (Option iV)) (st : List iV) (h : iH) (Q : Option iV → iH → Prop), G sp sc [390] d mX12_isDone (n + 1) 14 L st h Q = (match ld L 1 with | some (.inl x) => G sp sc [390] d mX12_isDone n 15 L (.inl x :: st) h Q | _ => False)) ∧
  (∀ (n d : Nat) (L : List (Option iV)) (a : Int) (r : List iV) (h : iH) (Q : Option iV → iH → Prop), G sp sc [390] d mX12_isDone (n + 1) 15 L (.inl a :: r) h Q = (inI a = true ∧ ((a < 97 ∨ 119 < a) → G sp sc [390] d mX12_isDone n 357 L r h Q) ∧ (¬ (a < 97 ∨ 119 < a) → (match (#[309, 342, 260, 202, 342, 342, 342, 342, 342, 342, 342, 151, 105, 342, 342, 342, 342, 342, 333, 342, 342, 342, 105] : Array Int)[(a - (97 : Int)).toNat]? with | some off => (match jmp 15 off with | some q => GK sp sc [390] d mX12_isDone n q L r h Q | none => False) | none => False)))) ∧
  (∀ (n d : Nat) (L : List (Option iV)) (st : List iV) (h : iH) (Q : Option iV → iH → Prop), G sp sc [390] d mX12_isDone (n + 1) 120 L st h Q = (match ld L 1 with | some (.inl x) => G sp sc [390] d mX12_isDone n 121 L (.inl x :: st) h Q | _ => False)) ∧
  (∀ (n d : Nat) (L : List (Option iV)) (st : List iV) (h : iH) (Q : Option iV → iH → Prop), G sp sc [390] d mX12_isDone (n + 1) 121 L st h Q = ((-128 ≤ (109 : Int) ∧ (109 : Int) < 128) ∧ G sp sc [390] d mX12_isDone n 123 L (.inl 109 :: st) h Q)) ∧
  (∀ (n d : Nat) (L : List (Option iV)) (a : Int) (b : Int) (r : List iV) (h : iH) (Q : Option iV → iH → Prop), G sp sc [390] d mX12_isDone (n + 1) 123 L (.inl b :: .inl a :: r) h Q = ((inI a = true ∧ inI b = true) ∧ (¬ a = b → G sp sc [390] d mX12_isDone n 130 L r h Q) ∧ (¬ (¬ a = b) → G sp sc [390] d mX12_isDone n 126 L r h Q))) ∧
  (∀ (n d : Nat) (L : List (Option iV)) (st : List iV) (h : iH) (Q : Option iV → iH → Prop), G sp sc [390] d mX12_isDone (n + 1) 126 L st h Q = G sp sc [390] d mX12_isDone n 127 L (.inl 0 :: st) h Q) ∧
  (∀ (n d : Nat) (L : List (Option iV)) (st : List iV) (h : iH) (Q : Option iV → iH → Prop), G sp sc [390] d mX12_isDone (n + 1) 127 L st h Q = G sp sc [390] d mX12_isDone n 131 L st h Q) ∧
  (∀ (n d : Nat) (L : List (Option iV)) (st : List iV) (h : iH) (Q : Option iV → iH → Prop), G sp sc [390] d mX12_isDone (n + 1) 130 L st h Q = G sp sc [390] d mX12_isDone n 131 L (.inl 1 :: st) h Q) ∧
  (∀ (n d : Nat) (L : List (Option iV)) (r : List iV) (x : Int) (h : iH) (Q : Option iV → iH → Prop), G sp sc [390] d mX12_isDone (n + 1) 131 L (.inl x :: r) h Q = (match st1 L 4 (.inl x) with | some L' => G sp sc [390] d mX12_isDone n 133 L' r h Q | none => False)) ∧
  (∀ (n d : Nat) (L : List (Option iV)) (st : List iV) (h : iH) (Q : Option iV → iH → Prop), G sp sc [390] d mX12_isDone (n + 1) 133 L st h Q = (match ld L 2 with | some (.inl x) => G sp sc [390] d mX12_isDone n 134 L (.inl x :: st) h Q | _ => False)) ∧
  (∀ (n d : Nat) (L : List (Option iV)) (st : List iV) (h : iH) (Q : Option iV → iH → Prop), G sp sc [390] d mX12_isDone (n + 1) 134 L st h Q = ((-128 ≤ (6 : Int) ∧ (6 : Int) < 128) ∧ G sp sc [390] d mX12_isDone n 136 L (.inl 6 :: st) h Q)) ∧
  (∀ (n d : Nat) (L : List (Option iV)) (a : Int) (b : Int) (r : List iV) (h : iH) (Q : Option iV → iH → Prop), G sp sc [390] d mX12_isDone (n + 1) 136 L (.inl b :: .inl a :: r) h Q = ((inI a = true ∧ inI b = true) ∧ (b ≤ a → G sp sc [390] d mX12_isDone n 152 L r h Q) ∧ (¬ (b ≤ a) → G sp sc [390] d mX12_isDone n 139 L r h Q))) ∧
  (∀ (n d : Nat) (L : List (Option iV)) (st : List iV) (h : iH) (Q : Option iV → iH → Prop), G sp sc [390] d mX12_isDone (n + 1) 139 L st h Q = (match ld L 0 with | some (.inr (.inr (r + 1))) => G sp sc [390] d mX12_isDone n 140 L (.inr (.inr (r + 1)) :: st) h Q | _ => False)) ∧
  (∀ (n d : Nat) (L : List (Option iV)) (r : List iV) (m : Nat) (h : iH) (Q : Option iV → iH → Prop), G sp sc [390] d mX12_isDone (n + 1) 140 L (.inr (.inr (m + 2)) :: r) h Q = (match h.1[m]? with | some (.inl (ci, fs)) => (match lkF 12 9 ci with | some k => (match fs[k]? with | some v => G sp sc [390] d mX12_isDone n 143 L (v :: r) h Q | none => False) | none => False) | _ => False)) ∧
  (∀ (n d : Nat) (L : List (Option iV)) (st : List iV) (h : iH) (Q : Option iV → iH → Prop), G sp sc [390] d mX12_isDone (n + 1) 143 L st h Q = G sp sc [390] d mX12_isDone n 144 L (.inl 0 :: st) h Q) ∧
  (∀ (n d : Nat) (L : List (Option iV)) (st : List iV) (h : iH) (Q : Option iV → iH → Prop), G sp sc [390] d mX12_isDone (n + 1) 144 L st h Q = (match ld L 4 with | some (.inl x) => G sp sc [390] d mX12_isDone n 146 L (.inl x :: st) h Q | _ => False)) ∧
  (∀ (n d : Nat) (L : List (Option iV)) (a : Int) (b : Int) (r : List iV) (h : iH) (Q : Option iV → iH → Prop), G sp sc [390] d mX12_isDone (n + 1) 146 L (.inl b :: .inl a :: r) h Q = G sp sc [390] d mX12_isDone n 147 L (.inl (a + b) :: r) h Q) ∧
  (∀ (n d : Nat) (L : List (Option iV)) (r : List iV) (j : Int) (m : Nat) (h : iH) (Q : Option iV → iH → Prop), G sp sc [390] d mX12_isDone (n + 1) 147 L (.inl j :: .inr (.inr (m + 2)) :: r) h Q = (match h.1[m]? with | some (.inr (.inl (0, xs))) => inA j xs.length = true ∧ G sp sc [390] d mX12_isDone n 148 L (.inl (xs.getD j.toNat 0) :: r) h Q | _ => False)) ∧
  (∀ (n d : Nat) (L : List (Option iV)) (st : List iV) (h : iH) (Q : Option iV → iH → Prop), G sp sc [390] d mX12_isDone (n + 1) 148 L st h Q = G sp sc [390] d mX12_isDone n 149 L (.inl 5 :: st) h Q) ∧
  (∀ (n d : Nat) (L : List (Option iV)) (a : Int) (b : Int) (r : List iV) (h : iH) (Q : Option iV → iH → Prop), G sp sc [390] d mX12_isDone (n + 1) 149 L (.inl b :: .inl a :: r) h Q = ((inI a = true ∧ inI b = true) ∧ (¬ a = b → G sp sc [390] d mX12_isDone n 154 L r h Q) ∧ (¬ (¬ a = b) → G sp sc [390] d mX12_isDone n 152 L r h Q))) ∧
  (∀ (n d : Nat) (L : List (Option iV)) (st : List iV) (h : iH) (Q : Option iV → iH → Prop), G sp sc [390] d mX12_isDone (n + 1) 152 L st h Q = G sp sc [390] d mX12_isDone n 153 L (.inl 0 :: st) h Q) ∧
  (∀ (n d : Nat) (L : List (Option iV)) (a : Int) (h : iH) (Q : Option iV → iH → Prop), G sp sc [390] d mX12_isDone (n + 1) 153 L [.inl a] h Q = ((a = 0 ∨ a = 1) ∧ Q (some (.inl a)) h)) ∧
  (∀ (n d : Nat) (L : List (Option iV)) (st : List iV) (h : iH) (Q : Option iV → iH → Prop), G sp sc [390] d mX12_isDone (n + 1) 154 L st h Q = (match ld L 0 with | some (.inr (.inr (r + 1))) => G sp sc [390] d mX12_isDone n 155 L (.inr (.inr (r + 1)) :: st) h Q | _ => False)) ∧
  (∀ (n d : Nat) (L : List (Option iV)) (st : List iV) (h : iH) (Q : Option iV → iH → Prop), G sp sc [390] d mX12_isDone (n + 1) 155 L st h Q = (match ld L 4 with | some (.inl x) => G sp sc [390] d mX12_isDone n 157 L (.inl x :: st) h Q | _ => False)) ∧
  (∀ (n d : Nat) (L : List (Option iV)) (st : List iV) (h : iH) (Q : Option iV → iH → Prop), G sp sc [390] d mX12_isDone (n + 1) 157 L st h Q = (match ld L 2 with | some (.inl x) => G sp sc [390] d mX12_isDone n 158 L (.inl x :: st) h Q | _ => False)) ∧
  (∀ (n d : Nat) (L : List (Option iV)) (st : List iV) (h : iH) (Q : Option iV → iH → Prop), G sp sc [390] d mX12_isDone (n + 1) 158 L st h Q = (match ld L 3 with | some (.inl x) => G sp sc [390] d mX12_isDone n 159 L (.inl x :: st) h Q | _ => False)) ∧
  (∀ (n d : Nat) (L : List (Option iV)) (r : List iV) (m : Nat) (z0 : iV) (z1 : iV) (z2 : iV) (h : iH) (Q : Option iV → iH → Prop), G sp sc [390] (d + 1) mX12_isDone (n + 1) 159 L (z2 :: z1 :: z0 :: .inr (.inr (m + 2)) :: r) h Q = (match h.1[m]? with | some (.inl (ci, _)) => (match lkC 12 172 ci with | some (y1, n1, kd) => (n1 = 3 ∧ (kd = 2 ∨ kd = 3 ∨ kd = 8) ∧ cs r ≤ 8) ∧ Call sp sc d y1 [.inr (.inr (m + 2)), z0, z1, z2] h (fun q h1 => GC sp sc [390] (d + 1) mX12_isDone n 162 L q r h h1 Q) | none => False) | _ => False)) ∧
  (∀ (n d : Nat) (L : List (Option iV)) (r : List iV) (x : Int) (h : iH) (Q : Option iV → iH → Prop), G sp sc [390] d mX12_isDone (n + 1) 162 L (.inl x :: r) h Q = (match st1 L 5 (.inl x) with | some L' => G sp sc [390] d mX12_isDone n 164 L' r h Q | none => False)) ∧
  (∀ (n d : Nat) (L : List (Option iV)) (st : List iV) (h : iH) (Q : Option iV → iH → Prop), G sp sc [390] d mX12_isDone (n + 1) 164 L st h Q = G sp sc [390] d mX12_isDone n 165 L (.inl 1 :: st) h Q) ∧
  (∀ (n d : Nat) (L : List (Option iV)) (a : Int) (h : iH) (Q : Option iV → iH → Prop), G sp sc [390] d mX12_isDone (n + 1) 165 L [.inl a] h Q = ((a = 0 ∨ a = 1) ∧ Q (some (.inl a)) h)) ∧
  (∀ (n d : Nat) (L : List (Option iV)) (st : List iV) (h : iH) (Q : Option iV → iH → Prop), G sp sc [390] d mX12_isDone (n + 1) 166 L st h Q = (match ld L 0 with | some (.inr (.inr (r + 1))) => G sp sc [390] d mX12_isDone n 167 L (.inr (.inr (r + 1)) :: st) h Q | _ => False)) ∧
  (∀ (n d : Nat) (L : List (Option iV)) (st : List iV) (h : iH) (Q : Option iV → iH → Prop), G sp sc [390] d mX12_isDone (n + 1) 167 L st h Q = (match ld L 2 with | some (.inl x) => G sp sc [390] d mX12_isDone n 168 L (.inl x :: st) h Q | _ => False)) ∧
  (∀ (n d : Nat) (L : List (Option iV)) (st : List iV) (h : iH) (Q : Option iV → iH → Prop), G sp sc [390] d mX12_isDone (n + 1) 168 L st h Q = (match ld L 3 with | some (.inl x) => G sp sc [390] d mX12_isDone n 169 L (.inl x :: st) h Q | _ => False)) ∧
  (∀ (n d : Nat) (L : List (Option iV)) (r : List iV) (m : Nat) (z0 : iV) (z1 : iV) (h : iH) (Q : Option iV → iH → Prop), G sp sc [390] (d + 1) mX12_isDone (n + 1) 169 L (z1 :: z0 :: .inr (.inr (m + 2)) :: r) h Q = (match h.1[m]? with | some (.inl (ci, _)) => (match lkC 12 175 ci with | some (y1, n1, kd) => (n1 = 2 ∧ (kd = 2 ∨ kd = 3 ∨ kd = 8) ∧ cs r ≤ 8) ∧ Call sp sc d y1 [.inr (.inr (m + 2)), z0, z1] h (fun q h1 => GC sp sc [390] (d + 1) mX12_isDone n 172 L q r h h1 Q) | none => False) | _ => False)) ∧
  (∀ (n d : Nat) (L : List (Option iV)) (a : Int) (r : List iV) (h : iH) (Q : Option iV → iH → Prop), G sp sc [390] d mX12_isDone (n + 1) 172 L (.inl a :: r) h Q = (inI a = true ∧ (a = 0 → G sp sc [390] d mX12_isDone n 191 L r h Q) ∧ (¬ (a = 0) → G sp sc [390] d mX12_isDone n 175 L r h Q))) ∧
  (∀ (n d : Nat) (L : List (Option iV)) (st : List iV) (h : iH) (Q : Option iV → iH → Prop), G sp sc [390] d mX12_isDone (n + 1) 175 L st h Q = (match ld L 0 with | some (.inr (.inr (r + 1))) => G sp sc [390] d mX12_isDone n 176 L (.inr (.inr (r + 1)) :: st) h Q | _ => False)) ∧
  (∀ (n d : Nat) (L : List (Option iV)) (st : List iV) (h : iH) (Q : Option iV → iH → Prop), G sp sc [390] d mX12_isDone (n + 1) 176 L st h Q = G sp sc [390] d mX12_isDone n 177 L (.inl 1 :: st) h Q) ∧
  (∀ (n d : Nat) (L : List (Option iV)) (st : List iV) (h : iH) (Q : Option iV → iH → Prop), G sp sc [390] d mX12_isDone (n + 1) 177 L st h Q = (match ld L 2 with | some (.inl x) => G sp sc [390] d mX12_isDone n 178 L (.inl x :: st) h Q | _ => False)) ∧
  (∀ (n d : Nat) (L : List (Option iV)) (a : Int) (b : Int) (r : List iV) (h : iH) (Q : Option iV → iH → Prop), G sp sc [390] d mX12_isDone (n + 1) 178 L (.inl b :: .inl a :: r) h Q = G sp sc [390] d mX12_isDone n 179 L (.inl (a - b) :: r) h Q) ∧
  (∀ (n d : Nat) (L : List (Option iV)) (st : List iV) (h : iH) (Q : Option iV → iH → Prop), G sp sc [390] d mX12_isDone (n + 1) 179 L st h Q = (match ld L 0 with | some (.inr (.inr (r + 1))) => G sp sc [390] d mX12_isDone n 180 L (.inr (.inr (r + 1)) :: st) h Q | _ => False)) ∧
  (∀ (n d : Nat) (L : List (Option iV)) (r : List iV) (m : Nat) (h : iH) (Q : Option iV → iH → Prop), G sp sc [390] d mX12_isDone (n + 1) 180 L (.inr (.inr (m + 2)) :: r) h Q = (match h.1[m]? with | some (.inl (ci, fs)) => (match lkF 12 31 ci with | some k => (match fs[k]? with | some v => G sp sc [390] d mX12_isDone n 183 L (v :: r) h Q | none => False) | none => False) | _ => False)) ∧
  (∀ (n d : Nat) (L : List (Option iV)) (st : List iV) (h : iH) (Q : Option iV → iH → Prop), G sp sc [390] d mX12_isDone (n + 1) 183 L st h Q = G sp sc [390] d mX12_isDone n 184 L (.inl 2 :: st) h Q) ∧
  (∀ (n d : Nat) (L : List (Option iV)) (r : List iV) (j : Int) (m : Nat) (h : iH) (Q : Option iV → iH → Prop), G sp sc [390] d mX12_isDone (n + 1) 184 L (.inl j :: .inr (.inr (m + 2)) :: r) h Q = (match h.1[m]? with | some (.inr (.inl (0, xs))) => inA j xs.length = true ∧ G sp sc [390] d mX12_isDone n 185 L (.inl (xs.getD j.toNat 0) :: r) h Q | _ => False)) ∧
  (∀ (n d : Nat) (L : List (Option iV)) (r : List iV) (m : Nat) (z0 : iV) (z1 : iV) (h : iH) (Q : Option iV → iH → Prop), G sp sc [390] (d + 1) mX12_isDone (n + 1) 185 L (z1 :: z0 :: .inr (.inr (m + 2)) :: r) h Q = (match h.1[m]? with | some (.inl (ci, _)) => (match lkC 12 175 ci with | some (y1, n1, kd) => (n1 = 2 ∧ (kd = 2 ∨ kd = 3 ∨ kd = 8) ∧ cs r ≤ 8) ∧ Call sp sc d y1 [.inr (.inr (m + 2)), z0, z1] h (fun q h1 => GC sp sc [390] (d + 1) mX12_isDone n 188 L q r h h1 Q) | none => False) | _ => False)) ∧
  (∀ (n d : Nat) (L : List (Option iV)) (a : Int) (r : List iV) (h : iH) (Q : Option iV → iH → Prop), G sp sc [390] d mX12_isDone (n + 1) 188 L (.inl a :: r) h Q = (inI a = true ∧ (¬ a = 0 → G sp sc [390] d mX12_isDone n 193 L r h Q) ∧ (¬ (¬ a = 0) → G sp sc [390] d mX12_isDone n 191 L r h Q))) ∧
  (∀ (n d : Nat) (L : List (Option iV)) (st : List iV) (h : iH) (Q : Option iV → iH → Prop), G sp sc [390] d mX12_isDone (n + 1) 191 L st h Q = G sp sc [390] d mX12_isDone n 192 L (.inl 0 :: st) h Q) ∧
  (∀ (n d : Nat) (L : List (Option iV)) (a : Int) (h : iH) (Q : Option iV → iH → Prop), G sp sc [390] d mX12_isDone (n + 1) 192 L [.inl a] h Q = ((a = 0 ∨ a = 1) ∧ Q (some (.inl a)) h)) ∧
  (∀ (n d : Nat) (L : List (Option iV)) (st : List iV) (h : iH) (Q : Option iV → iH → Prop), G sp sc [390] d mX12_isDone (n + 1) 193 L st h Q = (match ld L 0 with | some (.inr (.inr (r + 1))) => G sp sc [390] d mX12_isDone n 194 L (.inr (.inr (r + 1)) :: st) h Q | _ => False)) ∧
  (∀ (n d : Nat) (L : List (Option iV)) (r : List iV) (m : Nat) (h : iH) (Q : Option iV → iH → Prop), G sp sc [390] d mX12_isDone (n + 1) 194 L (.inr (.inr (m + 2)) :: r) h Q = (match h.1[m]? with | some (.inl (ci, fs)) => (match lkF 12 9 ci with | some k => (match fs[k]? with | some v => G sp sc [390] d mX12_isDone n 197 L (v :: r) h Q | none => False) | none => False) | _ => False)) ∧
  (∀ (n d : Nat) (L : List (Option iV)) (st : List iV) (h : iH) (Q : Option iV → iH → Prop), G sp sc [390] d mX12_isDone (n + 1) 197 L st h Q = (match ld L 2 with | some (.inl x) => G sp sc [390] d mX12_isDone n 198 L (.inl x :: st) h Q | _ => False)) ∧
  (∀ (n d : Nat) (L : List (Option iV)) (st : List iV) (h : iH) (Q : Option iV → iH → Prop), G sp sc [390] d mX12_isDone (n + 1) 198 L st h Q = (match ld L 3 with | some (.inl x) => G sp sc [390] d mX12_isDone n 199 L (.inl x :: st) h Q | _ => False)) ∧
  (∀ (n d : Nat) (L : List (Option iV)) (st : List iV) (h : iH) (Q : Option iV → iH → Prop), G sp sc [390] d mX12_isDone (n + 1) 199 L st h Q = (match ld L 0 with | some (.inr (.inr (r + 1))) => G sp sc [390] d mX12_isDone n 200 L (.inr (.inr (r + 1)) :: st) h Q | _ => False)) ∧
  (∀ (n d : Nat) (L : List (Option iV)) (r : List iV) (m : Nat) (h : iH) (Q : Option iV → iH → Prop), G sp sc [390] d mX12_isDone (n + 1) 200 L (.inr (.inr (m + 2)) :: r) h Q = (match h.1[m]? with | some (.inl (ci, fs)) => (match lkF 12 31 ci with | some k => (match fs[k]? with | some v => G sp sc [390] d mX12_isDone n 203 L (v :: r) h Q | none => False) | none => False) | _ => False)) ∧
  (∀ (n d : Nat) (L : List (Option iV)) (st : List iV) (h : iH) (Q : Option iV → iH → Prop), G sp sc [390] d mX12_isDone (n + 1) 203 L st h Q = G sp sc [390] d mX12_isDone n 204 L (.inl 2 :: st) h Q) ∧
  (∀ (n d : Nat) (L : List (Option iV)) (r : List iV) (j : Int) (m : Nat) (h : iH) (Q : Option iV → iH → Prop), G sp sc [390] d mX12_isDone (n + 1) 204 L (.inl j :: .inr (.inr (m + 2)) :: r) h Q = (match h.1[m]? with | some (.inr (.inl (0, xs))) => inA j xs.length = true ∧ G sp sc [390] d mX12_isDone n 205 L (.inl (xs.getD j.toNat 0) :: r) h Q | _ => False)) ∧
  (∀ (n d : Nat) (L : List (Option iV)) (r : List iV) (z0 : iV) (z1 : iV) (z2 : iV) (h : iH) (Q : Option iV → iH → Prop), G sp sc [390] (d + 1) mX12_isDone (n + 1) 205 L (z2 :: z1 :: z0 :: r) h Q = (cs r ≤ 8 ∧ Call sp sc d mX12_atLike [z0, z1, z2] h (fun q h1 => GC sp sc [390] (d + 1) mX12_isDone n 208 L q r h h1 Q))) ∧
  (∀ (n d : Nat) (L : List (Option iV)) (st : List iV) (h : iH) (Q : Option iV → iH → Prop), G sp sc [390] d mX12_isDone (n + 1) 208 L st h Q = (match ld L 0 with | some (.inr (.inr (r + 1))) => G sp sc [390] d mX12_isDone n 209 L (.inr (.inr (r + 1)) :: st) h Q | _ => False)) ∧
  (∀ (n d : Nat) (L : List (Option iV)) (r : List iV) (m : Nat) (h : iH) (Q : Option iV → iH → Prop), G sp sc [390] d mX12_isDone (n + 1) 209 L (.inr (.inr (m + 2)) :: r) h Q = (match h.1[m]? with | some (.inl (ci, fs)) => (match lkF 12 31 ci with | some k => (match fs[k]? with | some v => G sp sc [390] d mX12_isDone n 212 L (v :: r) h Q | none => False) | none => False) | _ => False)) ∧
  (∀ (n d : Nat) (L : List (Option iV)) (st : List iV) (h : iH) (Q : Option iV → iH → Prop), G sp sc [390] d mX12_isDone (n + 1) 212 L st h Q = G sp sc [390] d mX12_isDone n 213 L (.inl 3 :: st) h Q) ∧
  (∀ (n d : Nat) (L : List (Option iV)) (r : List iV) (j : Int) (m : Nat) (h : iH) (Q : Option iV → iH → Prop), G sp sc [390] d mX12_isDone (n + 1) 213 L (.inl j :: .inr (.inr (m + 2)) :: r) h Q = (match h.1[m]? with | some (.inr (.inl (0, xs))) => inA j xs.length = true ∧ G sp sc [390] d mX12_isDone n 214 L (.inl (xs.getD j.toNat 0) :: r) h Q | _ => False)) ∧
  (∀ (n d : Nat) (L : List (Option iV)) (r : List iV) (v : Int) (j : Int) (m : Nat) (h : iH) (Q : Option iV → iH → Prop), G sp sc [390] d mX12_isDone (n + 1) 214 L (.inl v :: .inl j :: .inr (.inr (m + 2)) :: r) h Q = (match h.1[m]? with | some (.inr (.inl (0, xs))) => inA j xs.length = true ∧ G sp sc [390] d mX12_isDone n 215 L r (h.1.set m (.inr (.inl (0, xs.set j.toNat v))), h.2) Q | _ => False)) ∧
  (∀ (n d : Nat) (L : List (Option iV)) (st : List iV) (h : iH) (Q : Option iV → iH → Prop), G sp sc [390] d mX12_isDone (n + 1) 215 L st h Q = G sp sc [390] d mX12_isDone n 216 L (.inl 1 :: st) h Q) ∧
  (∀ (n d : Nat) (L : List (Option iV)) (a : Int) (h : iH) (Q : Option iV → iH → Prop), G sp sc [390] d mX12_isDone (n + 1) 216 L [.inl a] h Q = ((a = 0 ∨ a = 1) ∧ Q (some (.inl a)) h)) ∧
  (∀ (n d : Nat) (L : List (Option iV)) (st : List iV) (h : iH) (Q : Option iV → iH → Prop), G sp sc [390] d mX12_isDone (n + 1) 217 L st h Q = (match ld L 0 with | some (.inr (.inr (r + 1))) => G sp sc [390] d mX12_isDone n 218 L (.inr (.inr (r + 1)) :: st) h Q | _ => False)) ∧
  (∀ (n d : Nat) (L : List (Option iV)) (st : List iV) (h : iH) (Q : Option iV → iH → Prop), G sp sc [390] d mX12_isDone (n + 1) 218 L st h Q = (match ld L 2 with | some (.inl x) => G sp sc [390] d mX12_isDone n 219 L (.inl x :: st) h Q | _ => False)) ∧
  (∀ (n d : Nat) (L : List (Option iV)) (st : List iV) (h : iH) (Q : Option iV → iH → Prop), G sp sc [390] d mX12_isDone (n + 1) 219 L st h Q = (match ld L 3 with | some (.inl x) => G sp sc [390] d mX12_isDone n 220 L (.inl x :: st) h Q | _ => False)) ∧
  (∀ (n d : Nat) (L : List (Option iV)) (r : List iV) (m : Nat) (z0 : iV) (z1 : iV) (h : iH) (Q : Option iV → iH → Prop), G sp sc [390] (d + 1) mX12_isDone (n + 1) 220 L (z1 :: z0 :: .inr (.inr (m + 2)) :: r) h Q = (match h.1[m]? with | some (.inl (ci, _)) => (match lkC 12 175 ci with | some (y1, n1, kd) => (n1 = 2 ∧ (kd = 2 ∨ kd = 3 ∨ kd = 8) ∧ cs r ≤ 8) ∧ Call sp sc d y1 [.inr (.inr (m + 2)), z0, z1] h (fun q h1 => GC sp sc [390] (d + 1) mX12_isDone n 223 L q r h h1 Q) | none => False) | _ => False)) ∧
  (∀ (n d : Nat) (L : List (Option iV)) (a : Int) (r : List iV) (h : iH) (Q : Option iV → iH → Prop), G sp sc [390] d mX12_isDone (n + 1) 223 L (.inl a :: r) h Q = (inI a = true ∧ (a = 0 → G sp sc [390] d mX12_isDone n 240 L r h Q) ∧ (¬ (a = 0) → G sp sc [390] d mX12_isDone n 226 L r h Q))) ∧
  (∀ (n d : Nat) (L : List (Option iV)) (st : List iV) (h : iH) (Q : Option iV → iH → Prop), G sp sc [390] d mX12_isDone (n + 1) 226 L st h Q = (match ld L 0 with | some (.inr (.inr (r + 1))) => G sp sc [390] d mX12_isDone n 227 L (.inr (.inr (r + 1)) :: st) h Q | _ => False)) ∧
  (∀ (n d : Nat) (L : List (Option iV)) (st : List iV) (h : iH) (Q : Option iV → iH → Prop), G sp sc [390] d mX12_isDone (n + 1) 227 L st h Q = (match ld L 2 with | some (.inl x) => G sp sc [390] d mX12_isDone n 228 L (.inl x :: st) h Q | _ => False)) ∧
  (∀ (n d : Nat) (L : List (Option iV)) (st : List iV) (h : iH) (Q : Option iV → iH → Prop), G sp sc [390] d mX12_isDone (n + 1) 228 L st h Q = (match ld L 0 with | some (.inr (.inr (r + 1))) => G sp sc [390] d mX12_isDone n 229 L (.inr (.inr (r + 1)) :: st) h Q | _ => False)) ∧
  (∀ (n d : Nat) (L : List (Option iV)) (r : List iV) (m : Nat) (h : iH) (Q : Option iV → iH → Prop), G sp sc [390] d mX12_isDone (n + 1) 229 L (.inr (.inr (m + 2)) :: r) h Q = (match h.1[m]? with | some (.inl (ci, fs)) => (match lkF 12 31 ci with | some k => (match fs[k]? with | some v => G sp sc [390] d mX12_isDone n 232 L (v :: r) h Q | none => False) | none => False) | _ => False)) ∧
  (∀ (n d : Nat) (L : List (Option iV)) (st : List iV) (h : iH) (Q : Option iV → iH → Prop), G sp sc [390] d mX12_isDone (n + 1) 232 L st h Q = G sp sc [390] d mX12_isDone n 233 L (.inl 2 :: st) h Q) ∧
  (∀ (n d : Nat) (L : List (Option iV)) (r : List iV) (j : Int) (m : Nat) (h : iH) (Q : Option iV → iH → Prop), G sp sc [390] d mX12_isDone (n + 1) 233 L (.inl j :: .inr (.inr (m + 2)) :: r) h Q = (match h.1[m]? with | some (.inr (.inl (0, xs))) => inA j xs.length = true ∧ G sp sc [390] d mX12_isDone n 234 L (.inl (xs.getD j.toNat 0) :: r) h Q | _ => False)) ∧
  (∀ (n d : Nat) (L : List (Option iV)) (r : List iV) (m : Nat) (z0 : iV) (z1 : iV) (h : iH) (Q : Option iV → iH → Prop), G sp sc [390] (d + 1) mX12_isDone (n + 1) 234 L (z1 :: z0 :: .inr (.inr (m + 2)) :: r) h Q = (match h.1[m]? with | some (.inl (ci, _)) => (match lkC 12 175 ci with | some (y1, n1, kd) => (n1 = 2 ∧ (kd = 2 ∨ kd = 3 ∨ kd = 8) ∧ cs r ≤ 8) ∧ Call sp sc d y1 [.inr (.inr (m + 2)), z0, z1] h (fun q h1 => GC sp sc [390] (d + 1) mX12_isDone n 237 L q r h h1 Q) | none => False) | _ => False)) ∧
  (∀ (n d : Nat) (L : List (Option iV)) (a : Int) (r : List iV) (h : iH) (Q : Option iV → iH → Prop), G sp sc [390] d mX12_isDone (n + 1) 237 L (.inl a :: r) h Q = (inI a = true ∧ (¬ a = 0 → G sp sc [390] d mX12_isDone n 242 L r h Q) ∧ (¬ (¬ a = 0) → G sp sc [390] d mX12_isDone n 240 L r h Q))) ∧
  (∀ (n d : Nat) (L : List (Option iV)) (st : List iV) (h : iH) (Q : Option iV → iH → Prop), G sp sc [390] d mX12_isDone (n + 1) 240 L st h Q = G sp sc [390] d mX12_isDone n 241 L (.inl 0 :: st) h Q) ∧
  (∀ (n d : Nat) (L : List (Option iV)) (a : Int) (h : iH) (Q : Option iV → iH → Prop), G sp sc [390] d mX12_isDone (n + 1) 241 L [.inl a] h Q = ((a = 0 ∨ a = 1) ∧ Q (some (.inl a)) h)) ∧
  (∀ (n d : Nat) (L : List (Option iV)) (st : List iV) (h : iH) (Q : Option iV → iH → Prop), G sp sc [390] d mX12_isDone (n + 1) 242 L st h Q = (match ld L 0 with | some (.inr (.inr (r + 1))) => G sp sc [390] d mX12_isDone n 243 L (.inr (.inr (r + 1)) :: st) h Q | _ => False)) ∧
  (∀ (n d : Nat) (L : List (Option iV)) (r : List iV) (m : Nat) (h : iH) (Q : Option iV → iH → Prop), G sp sc [390] d mX12_isDone (n + 1) 243 L (.inr (.inr (m + 2)) :: r) h Q = (match h.1[m]? with | some (.inl (ci, fs)) => (match lkF 12 9 ci with | some k => (match fs[k]? with | some v => G sp sc [390] d mX12_isDone n 246 L (v :: r) h Q | none => False) | none => False) | _ => False)) ∧
  (∀ (n d : Nat) (L : List (Option iV)) (st : List iV) (h : iH) (Q : Option iV → iH → Prop), G sp sc [390] d mX12_isDone (n + 1) 246 L st h Q = (match ld L 2 with | some (.inl x) => G sp sc [390] d mX12_isDone n 247 L (.inl x :: st) h Q | _ => False)) ∧
  (∀ (n d : Nat) (L : List (Option iV)) (st : List iV) (h : iH) (Q : Option iV → iH → Prop), G sp sc [390] d mX12_isDone (n + 1) 247 L st h Q = (match ld L 3 with | some (.inl x) => G sp sc [390] d mX12_isDone n 248 L (.inl x :: st) h Q | _ => False)) ∧
  (∀ (n d : Nat) (L : List (Option iV)) (st : List iV) (h : iH) (Q : Option iV → iH → Prop), G sp sc [390] d mX12_isDone (n + 1) 248 L st h Q = G sp sc [390] d mX12_isDone n 249 L (.inl 2 :: st) h Q) ∧
  (∀ (n d : Nat) (L : List (Option iV)) (r : List iV) (z0 : iV) (z1 : iV) (z2 : iV) (h : iH) (Q : Option iV → iH → Prop), G sp sc [390] (d + 1) mX12_isDone (n + 1) 249 L (z2 :: z1 :: z0 :: r) h Q = (cs r ≤ 8 ∧ Call sp sc d mX12_atOne [z0, z1, z2] h (fun q h1 => GC sp sc [390] (d + 1) mX12_isDone n 252 L q r h h1 Q))) ∧
  (∀ (n d : Nat) (L : List (Option iV)) (st : List iV) (h : iH) (Q : Option iV → iH → Prop), G sp sc [390] d mX12_isDone (n + 1) 252 L st h Q = (match ld L 3 with | some (.inl x) => G sp sc [390] d mX12_isDone n 253 L (.inl x :: st) h Q | _ => False)) ∧
  (∀ (n d : Nat) (L : List (Option iV)) (st : List iV) (h : iH) (Q : Option iV → iH → Prop), G sp sc [390] d mX12_isDone (n + 1) 253 L st h Q = (match ld L 0 with | some (.inr (.inr (r + 1))) => G sp sc [390] d mX12_isDone n 254 L (.inr (.inr (r + 1)) :: st) h Q | _ => False)) ∧
  (∀ (n d : Nat) (L : List (Option iV)) (r : List iV) (m : Nat) (h : iH) (Q : Option iV → iH → Prop), G sp sc [390] d mX12_isDone (n + 1) 254 L (.inr (.inr (m + 2)) :: r) h Q = (match h.1[m]? with | some (.inl (ci, fs)) => (match lkF 12 31 ci with | some k => (match fs[k]? with | some v => G sp sc [390] d mX12_isDone n 257 L (v :: r) h Q | none => False) | none => False) | _ => False)) ∧
  (∀ (n d : Nat) (L : List (Option iV)) (st : List iV) (h : iH) (Q : Option iV → iH → Prop), G sp sc [390] d mX12_isDone (n + 1) 257 L st h Q = G sp sc [390] d mX12_isDone n 258 L (.inl 2 :: st) h Q) ∧
  (∀ (n d : Nat) (L : List (Option iV)) (r : List iV) (j : Int) (m : Nat) (h : iH) (Q : Option iV → iH → Prop), G sp sc [390] d mX12_isDone (n + 1) 258 L (.inl j :: .inr (.inr (m + 2)) :: r) h Q = (match h.1[m]? with | some (.inr (.inl (0, xs))) => inA j xs.length = true ∧ G sp sc [390] d mX12_isDone n 259 L (.inl (xs.getD j.toNat 0) :: r) h Q | _ => False)) ∧
  (∀ (n d : Nat) (L : List (Option iV)) (a : Int) (b : Int) (r : List iV) (h : iH) (Q : Option iV → iH → Prop), G sp sc [390] d mX12_isDone (n + 1) 259 L (.inl b :: .inl a :: r) h Q = ((inI a = true ∧ inI b = true) ∧ (¬ a = b → G sp sc [390] d mX12_isDone n 266 L r h Q) ∧ (¬ (¬ a = b) → G sp sc [390] d mX12_isDone n 262 L r h Q))) ∧
  (∀ (n d : Nat) (L : List (Option iV)) (st : List iV) (h : iH) (Q : Option iV → iH → Prop), G sp sc [390] d mX12_isDone (n + 1) 262 L st h Q = G sp sc [390] d mX12_isDone n 263 L (.inl (-1) :: st) h Q) ∧
  (∀ (n d : Nat) (L : List (Option iV)) (st : List iV) (h : iH) (Q : Option iV → iH → Prop), G sp sc [390] d mX12_isDone (n + 1) 263 L st h Q = G sp sc [390] d mX12_isDone n 272 L st h Q) ∧
  (∀ (n d : Nat) (L : List (Option iV)) (st : List iV) (h : iH) (Q : Option iV → iH → Prop), G sp sc [390] d mX12_isDone (n + 1) 266 L st h Q = (match ld L 0 with | some (.inr (.inr (r + 1))) => G sp sc [390] d mX12_isDone n 267 L (.inr (.inr (r + 1)) :: st) h Q | _ => False)) ∧
  (∀ (n d : Nat) (L : List (Option iV)) (r : List iV) (m : Nat) (h : iH) (Q : Option iV → iH → Prop), G sp sc [390] d mX12_isDone (n + 1) 267 L (.inr (.inr (m + 2)) :: r) h Q = (match h.1[m]? with | some (.inl (ci, fs)) => (match lkF 12 31 ci with | some k => (match fs[k]? with | some v => G sp sc [390] d mX12_isDone n 270 L (v :: r) h Q | none => False) | none => False) | _ => False)) ∧
  (∀ (n d : Nat) (L : List (Option iV)) (st : List iV) (h : iH) (Q : Option iV → iH → Prop), G sp sc [390] d mX12_isDone (n + 1) 270 L st h Q = G sp sc [390] d mX12_isDone n 271 L (.inl 2 :: st) h Q) ∧
  (∀ (n d : Nat) (L : List (Option iV)) (r : List iV) (j : Int) (m : Nat) (h : iH) (Q : Option iV → iH → Prop), G sp sc [390] d mX12_isDone (n + 1) 271 L (.inl j :: .inr (.inr (m + 2)) :: r) h Q = (match h.1[m]? with | some (.inr (.inl (0, xs))) => inA j xs.length = true ∧ G sp sc [390] d mX12_isDone n 272 L (.inl (xs.getD j.toNat 0) :: r) h Q | _ => False)) ∧
  (∀ (n d : Nat) (L : List (Option iV)) (r : List iV) (v : Int) (j : Int) (m : Nat) (h : iH) (Q : Option iV → iH → Prop), G sp sc [390] d mX12_isDone (n + 1) 272 L (.inl v :: .inl j :: .inr (.inr (m + 2)) :: r) h Q = (match h.1[m]? with | some (.inr (.inl (0, xs))) => inA j xs.length = true ∧ G sp sc [390] d mX12_isDone n 273 L r (h.1.set m (.inr (.inl (0, xs.set j.toNat v))), h.2) Q | _ => False)) ∧
  (∀ (n d : Nat) (L : List (Option iV)) (st : List iV) (h : iH) (Q : Option iV → iH → Prop), G sp sc [390] d mX12_isDone (n + 1) 273 L st h Q = G sp sc [390] d mX12_isDone n 274 L (.inl 1 :: st) h Q) ∧
  (∀ (n d : Nat) (L : List (Option iV)) (a : Int) (h : iH) (Q : Option iV → iH → Prop), G sp sc [390] d mX12_isDone (n + 1) 274 L [.inl a] h Q = ((a = 0 ∨ a = 1) ∧ Q (some (.inl a)) h)) ∧
  (∀ (n d : Nat) (L : List (Option iV)) (st : List iV) (h : iH) (Q : Option iV → iH → Prop), G sp sc [390] d mX12_isDone (n + 1) 275 L st h Q = (match ld L 0 with | some (.inr (.inr (r + 1))) => G sp sc [390] d mX12_isDone n 276 L (.inr (.inr (r + 1)) :: st) h Q | _ => False)) ∧
  (∀ (n d : Nat) (L : List (Option iV)) (st : List iV) (h : iH) (Q : Option iV → iH → Prop), G sp sc [390] d mX12_isDone (n + 1) 276 L st h Q = G sp sc [390] d mX12_isDone n 277 L (.inl 0 :: st) h Q) ∧
  (∀ (n d : Nat) (L : List (Option iV)) (st : List iV) (h : iH) (Q : Option iV → iH → Prop), G sp sc [390] d mX12_isDone (n + 1) 277 L st h Q = (match ld L 2 with | some (.inl x) => G sp sc [390] d mX12_isDone n 278 L (.inl x :: st) h Q | _ => False)) ∧
  (∀ (n d : Nat) (L : List (Option iV)) (r : List iV) (m : Nat) (z0 : iV) (z1 : iV) (h : iH) (Q : Option iV → iH → Prop), G sp sc [390] (d + 1) mX12_isDone (n + 1) 278 L (z1 :: z0 :: .inr (.inr (m + 2)) :: r) h Q = (match h.1[m]? with | some (.inl (ci, _)) => (match lkC 12 175 ci with | some (y1, n1, kd) => (n1 = 2 ∧ (kd = 2 ∨ kd = 3 ∨ kd = 8) ∧ cs r ≤ 8) ∧ Call sp sc d y1 [.inr (.inr (m + 2)), z0, z1] h (fun q h1 => GC sp sc [390] (d + 1) mX12_isDone n 281 L q r h h1 Q) | none => False) | _ => False)) ∧
  (∀ (n d : Nat) (L : List (Option iV)) (a : Int) (r : List iV) (h : iH) (Q : Option iV → iH → Prop), G sp sc [390] d mX12_isDone (n + 1) 281 L (.inl a :: r) h Q = (inI a = true ∧ (a = 0 → G sp sc [390] d mX12_isDone n 312 L r h Q) ∧ (¬ (a = 0) → G sp sc [390] d mX12_isDone n 284 L r h Q))) ∧
  (∀ (n d : Nat) (L : List (Option iV)) (st : List iV) (h : iH) (Q : Option iV → iH → Prop), G sp sc [390] d mX12_isDone (n + 1) 284 L st h Q = (match ld L 0 with | some (.inr (.inr (r + 1))) => G sp sc [390] d mX12_isDone n 285 L (.inr (.inr (r + 1)) :: st) h Q | _ => False)) ∧
  (∀ (n d : Nat) (L : List (Option iV)) (st : List iV) (h : iH) (Q : Option iV → iH → Prop), G sp sc [390] d mX12_isDone (n + 1) 285 L st h Q = G sp sc [390] d mX12_isDone n 286 L (.inl 1 :: st) h Q) ∧
  (∀ (n d : Nat) (L : List (Option iV)) (st : List iV) (h : iH) (Q : Option iV → iH → Prop), G sp sc [390] d mX12_isDone (n + 1) 286 L st h Q = (match ld L 3 with | some (.inl x) => G sp sc [390] d mX12_isDone n 287 L (.inl x :: st) h Q | _ => False)) ∧
  (∀ (n d : Nat) (L : List (Option iV)) (r : List iV) (m : Nat) (z0 : iV) (z1 : iV) (h : iH) (Q : Option iV → iH → Prop), G sp sc [390] (d + 1) mX12_isDone (n + 1) 287 L (z1 :: z0 :: .inr (.inr (m + 2)) :: r) h Q = (match h.1[m]? with | some (.inl (ci, _)) => (match lkC 12 175 ci with | some (y1, n1, kd) => (n1 = 2 ∧ (kd = 2 ∨ kd = 3 ∨ kd = 8) ∧ cs r ≤ 8) ∧ Call sp sc d y1 [.inr (.inr (m + 2)), z0, z1] h (fun q h1 => GC sp sc [390] (d + 1) mX12_isDone n 290 L q r h h1 Q) | none => False) | _ => False)) ∧
  (∀ (n d : Nat) (L : List (Option iV)) (a : Int) (r : List iV) (h : iH) (Q : Option iV → iH → Prop), G sp sc [390] d mX12_isDone (n + 1) 290 L (.inl a :: r) h Q = (inI a = true ∧ (a = 0 → G sp sc [390] d mX12_isDone n 312 L r h Q) ∧ (¬ (a = 0) → G sp sc [390] d mX12_isDone n 293 L r h Q))) ∧
  (∀ (n d : Nat) (L : List (Option iV)) (st : List iV) (h : iH) (Q : Option iV → iH → Prop), G sp sc [390] d mX12_isDone (n + 1) 293 L st h Q = (match ld L 0 with | some (.inr (.inr (r + 1))) => G sp sc [390] d mX12_isDone n 294 L (.inr (.inr (r + 1)) :: st) h Q | _ => False)) ∧
  (∀ (n d : Nat) (L : List (Option iV)) (st : List iV) (h : iH) (Q : Option iV → iH → Prop), G sp sc [390] d mX12_isDone (n + 1) 294 L st h Q = (match ld L 2 with | some (.inl x) => G sp sc [390] d mX12_isDone n 295 L (.inl x :: st) h Q | _ => False)) ∧
  (∀ (n d : Nat) (L : List (Option iV)) (st : List iV) (h : iH) (Q : Option iV → iH → Prop), G sp sc [390] d mX12_isDone (n + 1) 295 L st h Q = (match ld L 3 with | some (.inl x) => G sp sc [390] d mX12_isDone n 296 L (.inl x :: st) h Q | _ => False)) ∧
  (∀ (n d : Nat) (L : List (Option iV)) (r : List iV) (m : Nat) (z0 : iV) (z1 : iV) (h : iH) (Q : Option iV → iH → Prop), G sp sc [390] (d + 1) mX12_isDone (n + 1) 296 L (z1 :: z0 :: .inr (.inr (m + 2)) :: r) h Q = (match h.1[m]? with | some (.inl (ci, _)) => (match lkC 12 178 ci with | some (y1, n1, kd) => (n1 = 2 ∧ (kd = 2 ∨ kd = 3 ∨ kd = 8) ∧ cs r ≤ 8) ∧ Call sp sc d y1 [.inr (.inr (m + 2)), z0, z1] h (fun q h1 => GC sp sc [390] (d + 1) mX12_isDone n 299 L q r h h1 Q) | none => False) | _ => False)) ∧
  (∀ (n d : Nat) (L : List (Option iV)) (a : Int) (r : List iV) (h : iH) (Q : Option iV → iH → Prop), G sp sc [390] d mX12_isDone (n + 1) 299 L (.inl a :: r) h Q = (inI a = true ∧ (¬ a = 0 → G sp sc [390] d mX12_isDone n 312 L r h Q) ∧ (¬ (¬ a = 0) → G sp sc [390] d mX12_isDone n 302 L r h Q))) ∧
  (∀ (n d : Nat) (L : List (Option iV)) (st : List iV) (h : iH) (Q : Option iV → iH → Prop), G sp sc [390] d mX12_isDone (n + 1) 302 L st h Q = (match ld L 0 with | some (.inr (.inr (r + 1))) => G sp sc [390] d mX12_isDone n 303 L (.inr (.inr (r + 1)) :: st) h Q | _ => False)) ∧
  (∀ (n d : Nat) (L : List (Option iV)) (r : List iV) (m : Nat) (h : iH) (Q : Option iV → iH → Prop), G sp sc [390] d mX12_isDone (n + 1) 303 L (.inr (.inr (m + 2)) :: r) h Q = (match h.1[m]? with | some (.inl (ci, fs)) => (match lkF 12 9 ci with | some k => (match fs[k]? with | some v => G sp sc [390] d mX12_isDone n 306 L (v :: r) h Q | none => False) | none => False) | _ => False)) ∧
  (∀ (n d : Nat) (L : List (Option iV)) (st : List iV) (h : iH) (Q : Option iV → iH → Prop), G sp sc [390] d mX12_isDone (n + 1) 306 L st h Q = G sp sc [390] d mX12_isDone n 307 L (.inl 2 :: st) h Q) ∧
  (∀ (n d : Nat) (L : List (Option iV)) (r : List iV) (j : Int) (m : Nat) (h : iH) (Q : Option iV → iH → Prop), G sp sc [390] d mX12_isDone (n + 1) 307 L (.inl j :: .inr (.inr (m + 2)) :: r) h Q = (match h.1[m]? with | some (.inr (.inl (0, xs))) => inA j xs.length = true ∧ G sp sc [390] d mX12_isDone n 308 L (.inl (xs.getD j.toNat 0) :: r) h Q | _ => False)) ∧
  (∀ (n d : Nat) (L : List (Option iV)) (st : List iV) (h : iH) (Q : Option iV → iH → Prop), G sp sc [390] d mX12_isDone (n + 1) 308 L st h Q = G sp sc [390] d mX12_isDone n 309 L (.inl 4 :: st) h Q) ∧
  (∀ (n d : Nat) (L : List (Option iV)) (a : Int) (b : Int) (r : List iV) (h : iH) (Q : Option iV → iH → Prop), G sp sc [390] d mX12_isDone (n + 1) 309 L (.inl b :: .inl a :: r) h Q = ((inI a = true ∧ inI b = true) ∧ (¬ a = b → G sp sc [390] d mX12_isDone n 314 L r h Q) ∧ (¬ (¬ a = b) → G sp sc [390] d mX12_isDone n 312 L r h Q))) ∧
  (∀ (n d : Nat) (L : List (Option iV)) (st : List iV) (h : iH) (Q : Option iV → iH → Prop), G sp sc [390] d mX12_isDone (n + 1) 312 L st h Q = G sp sc [390] d mX12_isDone n 313 L (.inl 0 :: st) h Q) ∧
  (∀ (n d : Nat) (L : List (Option iV)) (a : Int) (h : iH) (Q : Option iV → iH → Prop), G sp sc [390] d mX12_isDone (n + 1) 313 L [.inl a] h Q = ((a = 0 ∨ a = 1) ∧ Q (some (.inl a)) h)) ∧
  (∀ (n d : Nat) (L : List (Option iV)) (st : List iV) (h : iH) (Q : Option iV → iH → Prop), G sp sc [390] d mX12_isDone (n + 1) 314 L st h Q = (match ld L 0 with | some (.inr (.inr (r + 1))) => G sp sc [390] d mX12_isDone n 315 L (.inr (.inr (r + 1)) :: st) h Q | _ => False)) ∧
  (∀ (n d : Nat) (L : List (Option iV)) (st : List iV) (h : iH) (Q : Option iV → iH → Prop), G sp sc [390] d mX12_isDone (n + 1) 315 L st h Q = (match ld L 2 with | some (.inl x) => G sp sc [390] d mX12_isDone n 316 L (.inl x :: st) h Q | _ => False)) ∧
  (∀ (n d : Nat) (L : List (Option iV)) (st : List iV) (h : iH) (Q : Option iV → iH → Prop), G sp sc [390] d mX12_isDone (n + 1) 316 L st h Q = (match ld L 3 with | some (.inl x) => G sp sc [390] d mX12_isDone n 317 L (.inl x :: st) h Q | _ => False)) ∧
  (∀ (n d : Nat) (L : List (Option iV)) (r : List iV) (m : Nat) (z0 : iV) (z1 : iV) (h : iH) (Q : Option iV → iH → Prop), G sp sc [390] (d + 1) mX12_isDone (n + 1) 317 L (z1 :: z0 :: .inr (.inr (m + 2)) :: r) h Q = (match h.1[m]? with | some (.inl (ci, _)) => (match lkC 12 181 ci with | some (y1, n1, kd) => (n1 = 2 ∧ (kd = 2 ∨ kd = 3 ∨ kd = 8) ∧ cs r ≤ 8) ∧ Call sp sc d y1 [.inr (.inr (m + 2)), z0, z1] h (fun q h1 => GC sp sc [390] (d + 1) mX12_isDone n 320 L q r h h1 Q) | none => False) | _ => False)) ∧
  (∀ (n d : Nat) (L : List (Option iV)) (r : List iV) (x : Int) (h : iH) (Q : Option iV → iH → Prop), G sp sc [390] d mX12_isDone (n + 1) 320 L (.inl x :: r) h Q = (match st1 L 4 (.inl x) with | some L' => G sp sc [390] d mX12_isDone n 322 L' r h Q | none => False)) ∧
  (∀ (n d : Nat) (L : List (Option iV)) (st : List iV) (h : iH) (Q : Option iV → iH → Prop), G sp sc [390] d mX12_isDone (n + 1) 322 L st h Q = G sp sc [390] d mX12_isDone n 323 L (.inl 1 :: st) h Q) ∧
  (∀ (n d : Nat) (L : List (Option iV)) (a : Int) (h : iH) (Q : Option iV → iH → Prop), G sp sc [390] d mX12_isDone (n + 1) 323 L [.inl a] h Q = ((a = 0 ∨ a = 1) ∧ Q (some (.inl a)) h)) ∧
  (∀ (n d : Nat) (L : List (Option iV)) (st : List iV) (h : iH) (Q : Option iV → iH → Prop), G sp sc [390] d mX12_isDone (n + 1) 324 L st h Q = (match ld L 2 with | some (.inl x) => G sp sc [390] d mX12_isDone n 325 L (.inl x :: st) h Q | _ => False)) ∧
  (∀ (n d : Nat) (L : List (Option iV)) (st : List iV) (h : iH) (Q : Option iV → iH → Prop), G sp sc [390] d mX12_isDone (n + 1) 325 L st h Q = ((-128 ≤ (6 : Int) ∧ (6 : Int) < 128) ∧ G sp sc [390] d mX12_isDone n 327 L (.inl 6 :: st) h Q)) ∧
  (∀ (n d : Nat) (L : List (Option iV)) (a : Int) (b : Int) (r : List iV) (h : iH) (Q : Option iV → iH → Prop), G sp sc [390] d mX12_isDone (n + 1) 327 L (.inl b :: .inl a :: r) h Q = ((inI a = true ∧ inI b = true) ∧ (b ≤ a → G sp sc [390] d mX12_isDone n 335 L r h Q) ∧ (¬ (b ≤ a) → G sp sc [390] d mX12_isDone n 330 L r h Q))) ∧
  (∀ (n d : Nat) (L : List (Option iV)) (st : List iV) (h : iH) (Q : Option iV → iH → Prop), G sp sc [390] d mX12_isDone (n + 1) 330 L st h Q = (match ld L 3 with | some (.inl x) => G sp sc [390] d mX12_isDone n 331 L (.inl x :: st) h Q | _ => False)) ∧
  (∀ (n d : Nat) (L : List (Option iV)) (st : List iV) (h : iH) (Q : Option iV → iH → Prop), G sp sc [390] d mX12_isDone (n + 1) 331 L st h Q = G sp sc [390] d mX12_isDone n 332 L (.inl 2 :: st) h Q) ∧
  (∀ (n d : Nat) (L : List (Option iV)) (a : Int) (b : Int) (r : List iV) (h : iH) (Q : Option iV → iH → Prop), G sp sc [390] d mX12_isDone (n + 1) 332 L (.inl b :: .inl a :: r) h Q = ((inI a = true ∧ inI b = true) ∧ (a ≤ b → G sp sc [390] d mX12_isDone n 337 L r h Q) ∧ (¬ (a ≤ b) → G sp sc [390] d mX12_isDone n 335 L r h Q))) ∧
  (∀ (n d : Nat) (L : List (Option iV)) (st : List iV) (h : iH) (Q : Option iV → iH → Prop), G sp sc [390] d mX12_isDone (n + 1) 335 L st h Q = G sp sc [390] d mX12_isDone n 336 L (.inl 0 :: st) h Q) ∧
  (∀ (n d : Nat) (L : List (Option iV)) (a : Int) (h : iH) (Q : Option iV → iH → Prop), G sp sc [390] d mX12_isDone (n + 1) 336 L [.inl a] h Q = ((a = 0 ∨ a = 1) ∧ Q (some (.inl a)) h)) ∧
  (∀ (n d : Nat) (L : List (Option iV)) (st : List iV) (h : iH) (Q : Option iV → iH → Prop), G sp sc [390] d mX12_isDone (n + 1) 337 L st h Q = (match ld L 0 with | some (.inr (.inr (r + 1))) => G sp sc [390] d mX12_isDone n 338 L (.inr (.inr (r + 1)) :: st) h Q | _ => False)) ∧
  (∀ (n d : Nat) (L : List (Option iV)) (r : List iV) (m : Nat) (h : iH) (Q : Option iV → iH → Prop), G sp sc [390] d mX12_isDone (n + 1) 338 L (.inr (.inr (m + 2)) :: r) h Q = (match h.1[m]? with | some (.inl (ci, fs)) => (match lkF 12 9 ci with | some k => (match fs[k]? with | some v => G sp sc [390] d mX12_isDone n 341 L (v :: r) h Q | none => False) | none => False) | _ => False)) ∧
  (∀ (n d : Nat) (L : List (Option iV)) (st : List iV) (h : iH) (Q : Option iV → iH → Prop), G sp sc [390] d mX12_isDone (n + 1) 341 L st h Q = G sp sc [390] d mX12_isDone n 342 L (.inl 5 :: st) h Q) ∧
  (∀ (n d : Nat) (L : List (Option iV)) (st : List iV) (h : iH) (Q : Option iV → iH → Prop), G sp sc [390] d mX12_isDone (n + 1) 342 L st h Q = (match ld L 2 with | some (.inl x) => G sp sc [390] d mX12_isDone n 343 L (.inl x :: st) h Q | _ => False)) ∧
  (∀ (n d : Nat) (L : List (Option iV)) (a : Int) (b : Int) (r : List iV) (h : iH) (Q : Option iV → iH → Prop), G sp sc [390] d mX12_isDone (n + 1) 343 L (.inl b :: .inl a :: r) h Q = G sp sc [390] d mX12_isDone n 344 L (.inl (a + b) :: r) h Q) ∧
  (∀ (n d : Nat) (L : List (Option iV)) (st : List iV) (h : iH) (Q : Option iV → iH → Prop), G sp sc [390] d mX12_isDone (n + 1) 344 L st h Q = (match ld L 3 with | some (.inl x) => G sp sc [390] d mX12_isDone n 345 L (.inl x :: st) h Q | _ => False)) ∧
  (∀ (n d : Nat) (L : List (Option iV)) (r : List iV) (v : Int) (j : Int) (m : Nat) (h : iH) (Q : Option iV → iH → Prop), G sp sc [390] d mX12_isDone (n + 1) 345 L (.inl v :: .inl j :: .inr (.inr (m + 2)) :: r) h Q = (match h.1[m]? with | some (.inr (.inl (0, xs))) => inA j xs.length = true ∧ G sp sc [390] d mX12_isDone n 346 L r (h.1.set m (.inr (.inl (0, xs.set j.toNat v))), h.2) Q | _ => False)) ∧
  (∀ (n d : Nat) (L : List (Option iV)) (st : List iV) (h : iH) (Q : Option iV → iH → Prop), G sp sc [390] d mX12_isDone (n + 1) 346 L st h Q = G sp sc [390] d mX12_isDone n 347 L (.inl 1 :: st) h Q) ∧
  (∀ (n d : Nat) (L : List (Option iV)) (a : Int) (h : iH) (Q : Option iV → iH → Prop), G sp sc [390] d mX12_isDone (n + 1) 347 L [.inl a] h Q = ((a = 0 ∨ a = 1) ∧ Q (some (.inl a)) h)) ∧
  (∀ (n d : Nat) (L : List (Option iV)) (st : List iV) (h : iH) (Q : Option iV → iH → Prop), G sp sc [390] d mX12_isDone (n + 1) 348 L st h Q = (match ld L 0 with | some (.inr (.inr (r + 1))) => G sp sc [390] d mX12_isDone n 349 L (.inr (.inr (r + 1)) :: st) h Q | _ => False)) ∧
  (∀ (n d : Nat) (L : List (Option iV)) (r : List iV) (m : Nat) (h : iH) (Q : Option iV → iH → Prop), G sp sc [390] d mX12_isDone (n + 1) 349 L (.inr (.inr (m + 2)) :: r) h Q = (match h.1[m]? with | some (.inl (ci, fs)) => (match lkF 12 9 ci with | some k => (match fs[k]? with | some v => G sp sc [390] d mX12_isDone n 352 L (v :: r) h Q | none => False) | none => False) | _ => False)) ∧
  (∀ (n d : Nat) (L : List (Option iV)) (st : List iV) (h : iH) (Q : Option iV → iH → Prop), G sp sc [390] d mX12_isDone (n + 1) 352 L st h Q = G sp sc [390] d mX12_isDone n 353 L (.inl 4 :: st) h Q) ∧
  (∀ (n d : Nat) (L : List (Option iV)) (st : List iV) (h : iH) (Q : Option iV → iH → Prop), G sp sc [390] d mX12_isDone (n + 1) 353 L st h Q = (match ld L 2 with | some (.inl x) => G sp sc [390] d mX12_isDone n 354 L (.inl x :: st) h Q | _ => False)) ∧
  (∀ (n d : Nat) (L : List (Option iV)) (r : List iV) (v : Int) (j : Int) (m : Nat) (h : iH) (Q : Option iV → iH → Prop), G sp sc [390] d mX12_isDone (n + 1) 354 L (.inl v :: .inl j :: .inr (.inr (m + 2)) :: r) h Q = (match h.1[m]? with | some (.inr (.inl (0, xs))) => inA j xs.length = true ∧ G sp sc [390] d mX12_isDone n 355 L r (h.1.set m (.inr (.inl (0, xs.set j.toNat v))), h.2) Q | _ => False)) ∧
  (∀ (n d : Nat) (L : List (Option iV)) (st : List iV) (h : iH) (Q : Option iV → iH → Prop), G sp sc [390] d mX12_isDone (n + 1) 355 L st h Q = G sp sc [390] d mX12_isDone n 356 L (.inl 1 :: st) h Q) ∧
  (∀ (n d : Nat) (L : List (Option iV)) (a : Int) (h : iH) (Q : Option iV → iH → Prop), G sp sc [390] d mX12_isDone (n + 1) 356 L [.inl a] h Q = ((a = 0 ∨ a = 1) ∧ Q (some (.inl a)) h)) ∧
  (∀ (n d : Nat) (L : List (Option iV)) (st : List iV) (h : iH) (Q : Option iV → iH → Prop), G sp sc [390] d mX12_isDone (n + 1) 357 L st h Q = (match ld L 2 with | some (.inl x) => G sp sc [390] d mX12_isDone n 358 L (.inl x :: st) h Q | _ => False)) ∧
  (∀ (n d : Nat) (L : List (Option iV)) (st : List iV) (h : iH) (Q : Option iV → iH → Prop), G sp sc [390] d mX12_isDone (n + 1) 358 L st h Q = G sp sc [390] d mX12_isDone n 359 L (.inl 1 :: st) h Q) ∧
  (∀ (n d : Nat) (L : List (Option iV)) (st : List iV) (h : iH) (Q : Option iV → iH → Prop), G sp sc [390] d mX12_isDone (n + 1) 359 L st h Q = ((-128 ≤ (60 : Int) ∧ (60 : Int) < 128) ∧ G sp sc [390] d mX12_isDone n 361 L (.inl 60 :: st) h Q)) ∧
  (∀ (n d : Nat) (L : List (Option iV)) (r : List iV) (z0 : iV) (z1 : iV) (z2 : iV) (h : iH) (Q : Option iV → iH → Prop), G sp sc [390] (d + 1) mX12_isDone (n + 1) 361 L (z2 :: z1 :: z0 :: r) h Q = (cs r ≤ 8 ∧ Call sp sc d mX12_isIn [z0, z1, z2] h (fun q h1 => GC sp sc [390] (d + 1) mX12_isDone n 364 L q r h h1 Q))) ∧
  (∀ (n d : Nat) (L : List (Option iV)) (a : Int) (r : List iV) (h : iH) (Q : Option iV → iH → Prop), G sp sc [390] d mX12_isDone (n + 1) 364 L (.inl a :: r) h Q = (inI a = true ∧ (a = 0 → G sp sc [390] d mX12_isDone n 381 L r h Q) ∧ (¬ (a = 0) → G sp sc [390] d mX12_isDone n 367 L r h Q))) ∧
  (∀ (n d : Nat) (L : List (Option iV)) (st : List iV) (h : iH) (Q : Option iV → iH → Prop), G sp sc [390] d mX12_isDone (n + 1) 367 L st h Q = (match ld L 0 with | some (.inr (.inr (r + 1))) => G sp sc [390] d mX12_isDone n 368 L (.inr (.inr (r + 1)) :: st) h Q | _ => False)) ∧
  (∀ (n d : Nat) (L : List (Option iV)) (r : List iV) (m : Nat) (h : iH) (Q : Option iV → iH → Prop), G sp sc [390] d mX12_isDone (n + 1) 368 L (.inr (.inr (m + 2)) :: r) h Q = (match h.1[m]? with | some (.inl (ci, fs)) => (match lkF 12 9 ci with | some k => (match fs[k]? with | some v => G sp sc [390] d mX12_isDone n 371 L (v :: r) h Q | none => False) | none => False) | _ => False)) ∧
  (∀ (n d : Nat) (L : List (Option iV)) (st : List iV) (h : iH) (Q : Option iV → iH → Prop), G sp sc [390] d mX12_isDone (n + 1) 371 L st h Q = G sp sc [390] d mX12_isDone n 372 L (.inl 3 :: st) h Q) ∧
  (∀ (n d : Nat) (L : List (Option iV)) (r : List iV) (j : Int) (m : Nat) (h : iH) (Q : Option iV → iH → Prop), G sp sc [390] d mX12_isDone (n + 1) 372 L (.inl j :: .inr (.inr (m + 2)) :: r) h Q = (match h.1[m]? with | some (.inr (.inl (0, xs))) => inA j xs.length = true ∧ G sp sc [390] d mX12_isDone n 373 L (.inl (xs.getD j.toNat 0) :: r) h Q | _ => False)) ∧
  (∀ (n d : Nat) (L : List (Option iV)) (st : List iV) (h : iH) (Q : Option iV → iH → Prop), G sp sc [390] d mX12_isDone (n + 1) 373 L st h Q = (match ld L 2 with | some (.inl x) => G sp sc [390] d mX12_isDone n 374 L (.inl x :: st) h Q | _ => False)) ∧
  (∀ (n d : Nat) (L : List (Option iV)) (a : Int) (b : Int) (r : List iV) (h : iH) (Q : Option iV → iH → Prop), G sp sc [390] d mX12_isDone (n + 1) 374 L (.inl b :: .inl a :: r) h Q = G sp sc [390] d mX12_isDone n 375 L (.inl (a + b) :: r) h Q) ∧
  (∀ (n d : Nat) (L : List (Option iV)) (st : List iV) (h : iH) (Q : Option iV → iH → Prop), G sp sc [390] d mX12_isDone (n + 1) 375 L st h Q = ((-32768 ≤ (999 : Int) ∧ (999 : Int) < 32768) ∧ G sp sc [390] d mX12_isDone n 378 L (.inl 999 :: st) h Q)) ∧
  (∀ (n d : Nat) (L : List (Option iV)) (a : Int) (b : Int) (r : List iV) (h : iH) (Q : Option iV → iH → Prop), G sp sc [390] d mX12_isDone (n + 1) 378 L (.inl b :: .inl a :: r) h Q = ((inI a = true ∧ inI b = true) ∧ (a ≤ b → G sp sc [390] d mX12_isDone n 383 L r h Q) ∧ (¬ (a ≤ b) → G sp sc [390] d mX12_isDone n 381 L r h Q))) ∧
  (∀ (n d : Nat) (L : List (Option iV)) (st : List iV) (h : iH) (Q : Option iV → iH → Prop), G sp sc [390] d mX12_isDone (n + 1) 381 L st h Q = G sp sc [390] d mX12_isDone n 382 L (.inl 0 :: st) h Q) ∧
  (∀ (n d : Nat) (L : List (Option iV)) (a : Int) (h : iH) (Q : Option iV → iH → Prop), G sp sc [390] d mX12_isDone (n + 1) 382 L [.inl a] h Q = ((a = 0 ∨ a = 1) ∧ Q (some (.inl a)) h)) ∧
  (∀ (n d : Nat) (L : List (Option iV)) (st : List iV) (h : iH) (Q : Option iV → iH → Prop), G sp sc [390] d mX12_isDone (n + 1) 383 L st h Q = (match ld L 0 with | some (.inr (.inr (r + 1))) => G sp sc [390] d mX12_isDone n 384 L (.inr (.inr (r + 1)) :: st) h Q | _ => False)) ∧
  (∀ (n d : Nat) (L : List (Option iV)) (r : List iV) (m : Nat) (h : iH) (Q : Option iV → iH → Prop), G sp sc [390] (d + 1) mX12_isDone (n + 1) 384 L (.inr (.inr (m + 2)) :: r) h Q = (match h.1[m]? with | some (.inl (ci, _)) => (match lkC 12 149 ci with | some (y1, n1, kd) => (n1 = 0 ∧ (kd = 2 ∨ kd = 3 ∨ kd = 8) ∧ cs r ≤ 8) ∧ Call sp sc d y1 [.inr (.inr (m + 2))] h (fun q h1 => GC sp sc [390] (d + 1) mX12_isDone n 387 L q r h h1 Q) | none => False) | _ => False)) ∧
  (∀ (n d : Nat) (L : List (Option iV)) (st : List iV) (h : iH) (Q : Option iV → iH → Prop), G sp sc [390] d mX12_isDone (n + 1) 387 L st h Q = G sp sc [390] d mX12_isDone n 388 L (.inl 0 :: st) h Q) ∧
  (∀ (n d : Nat) (L : List (Option iV)) (r : List iV) (x : Int) (h : iH) (Q : Option iV → iH → Prop), G sp sc [390] d mX12_isDone (n + 1) 388 L (.inl x :: r) h Q = (match st1 L 4 (.inl x) with | some L' => Run sp sc d mX12_isDone 390 L' r h Q | none => False)) ∧
  (∀ (n d : Nat) (L : List (Option iV)) (st : List iV) (h : iH) (Q : Option iV → iH → Prop), G sp sc [390] d mX12_isDone (n + 1) 390 L st h Q = (match ld L 4 with | some (.inl x) => G sp sc [390] d mX12_isDone n 392 L (.inl x :: st) h Q | _ => False)) ∧
  (∀ (n d : Nat) (L : List (Option iV)) (st : List iV) (h : iH) (Q : Option iV → iH → Prop), G sp sc [390] d mX12_isDone (n + 1) 392 L st h Q = (match ld L 2 with | some (.inl x) => G sp sc [390] d mX12_isDone n 393 L (.inl x :: st) h Q | _ => False)) ∧
  (∀ (n d : Nat) (L : List (Option iV)) (a : Int) (b : Int) (r : List iV) (h : iH) (Q : Option iV → iH → Prop), G sp sc [390] d mX12_isDone (n + 1) 393 L (.inl b :: .inl a :: r) h Q = ((inI a = true ∧ inI b = true) ∧ (b ≤ a → G sp sc [390] d mX12_isDone n 410 L r h Q) ∧ (¬ (b ≤ a) → G sp sc [390] d mX12_isDone n 396 L r h Q))) ∧
  (∀ (n d : Nat) (L : List (Option iV)) (st : List iV) (h : iH) (Q : Option iV → iH → Prop), G sp sc [390] d mX12_isDone (n + 1) 396 L st h Q = (match ld L 0 with | some (.inr (.inr (r + 1))) => G sp sc [390] d mX12_isDone n 397 L (.inr (.inr (r + 1)) :: st) h Q | _ => False)) ∧
  (∀ (n d : Nat) (L : List (Option iV)) (st : List iV) (h : iH) (Q : Option iV → iH → Prop), G sp sc [390] d mX12_isDone (n + 1) 397 L st h Q = (match ld L 0 with | some (.inr (.inr (r + 1))) => G sp sc [390] d mX12_isDone n 398 L (.inr (.inr (r + 1)) :: st) h Q | _ => False)) ∧
  (∀ (n d : Nat) (L : List (Option iV)) (r : List iV) (m : Nat) (h : iH) (Q : Option iV → iH → Prop), G sp sc [390] d mX12_isDone (n + 1) 398 L (.inr (.inr (m + 2)) :: r) h Q = (match h.1[m]? with | some (.inl (ci, fs)) => (match lkF 12 9 ci with | some k => (match fs[k]? with | some v => G sp sc [390] d mX12_isDone n 401 L (v :: r) h Q | none => False) | none => False) | _ => False)) ∧
  (∀ (n d : Nat) (L : List (Option iV)) (r : List iV) (m : Nat) (z0 : iV) (h : iH) (Q : Option iV → iH → Prop), G sp sc [390] (d + 1) mX12_isDone (n + 1) 401 L (z0 :: .inr (.inr (m + 2)) :: r) h Q = (match h.1[m]? with | some (.inl (ci, _)) => (match lkC 12 152 ci with | some (y1, n1, kd) => (n1 = 1 ∧ (kd = 2 ∨ kd = 3 ∨ kd = 8) ∧ cs r ≤ 8) ∧ Call sp sc d y1 [.inr (.inr (m + 2)), z0] h (fun q h1 => GC sp sc [390] (d + 1) mX12_isDone n 404 L q r h h1 Q) | none => False) | _ => False)) ∧
  (∀ (n d : Nat) (L : List (Option iV)) (st : List iV) (h : iH) (Q : Option iV → iH → Prop), G sp sc [390] d mX12_isDone (n + 1) 404 L st h Q = (match ld L 4 with | some (.inl x) => (match st1 L 4 (.inl (x + 1)) with | some L' => G sp sc [390] d mX12_isDone n 407 L' st h Q | none => False) | _ => False)) ∧
  (∀ (n d : Nat) (L : List (Option iV)) (st : List iV) (h : iH) (Q : Option iV → iH → Prop), G sp sc [390] d mX12_isDone (n + 1) 407 L st h Q = Run sp sc d mX12_isDone 390 L st h Q) ∧
  (∀ (n d : Nat) (L : List (Option iV)) (st : List iV) (h : iH) (Q : Option iV → iH → Prop), G sp sc [390] d mX12_isDone (n + 1) 410 L st h Q = G sp sc [390] d mX12_isDone n 411 L (.inl 1 :: st) h Q) ∧
  (∀ (n d : Nat) (L : List (Option iV)) (a : Int) (h : iH) (Q : Option iV → iH → Prop), G sp sc [390] d mX12_isDone (n + 1) 411 L [.inl a] h Q = ((a = 0 ∨ a = 1) ∧ Q (some (.inl a)) h)) ∧
  lkC 12 149 12 = some (mX12_begins, 0, 2) ∧
  lkC 12 152 12 = some (mX12_goes, 1, 2) ∧
  lkC 12 172 12 = some (mX12_addsOne, 3, 2) ∧
  lkC 12 175 12 = some (mX12_isOne, 2, 2) ∧
  lkC 12 178 12 = some (mX12_canNotBe, 2, 2) ∧
  lkC 12 181 12 = some (mX12_addsCouple, 2, 2) ∧
  lkF 12 31 12 = some 15 ∧
  lkF 12 9 12 = some 0 := ⟨by intros; exact G_at (by decide +kernel : fetch mX12_isDone 0 = some (.aload_n 0)),
  by intros; exact G_own (by decide +kernel : fetch mX12_isDone 1 = some (.getfield 31)) (by decide +kernel),
  by intros; exact G_at (by decide +kernel : fetch mX12_isDone 4 = some (.iconst 0)),
  by intros; exact G_at (by decide +kernel : fetch mX12_isDone 5 = some (.iaload)),
  by intros; exact G_at (by decide +kernel : fetch mX12_isDone 6 = some (.istore_n 2)),
  by intros; exact G_at (by decide +kernel : fetch mX12_isDone 7 = some (.aload_n 0)),
  by intros; exact G_own (by decide +kernel : fetch mX12_isDone 8 = some (.getfield 31)) (by decide +kernel),
  by intros; exact G_at (by decide +kernel : fetch mX12_isDone 11 = some (.iconst 1)),
  by intros; exact G_at (by decide +kernel : fetch mX12_isDone 12 = some (.iaload)),
  by intros; exact G_at (by decide +kernel : fetch mX12_isDone 13 = some (.istore_n 3)),
  by intros; exact G_at (by decide +kernel : fetch mX12_isDone 14 = some (.iload_n 1)),
  by intros; exact G_at (by decide +kernel : fetch mX12_isDone 15 = some (.tableswitch 342 97 119 #[309, 342, 260, 202, 342, 342, 342, 342, 342, 342, 342, 151, 105, 342, 342, 342, 342, 342, 333, 342, 342, 342, 105])),
  by intros; exact G_at (by decide +kernel : fetch mX12_isDone 120 = some (.iload_n 1)),
  by intros; exact G_at (by decide +kernel : fetch mX12_isDone 121 = some (.bipush 109)),
  by intros; exact G_at (by decide +kernel : fetch mX12_isDone 123 = some (.if_icmp .ne 7)),
  by intros; exact G_at (by decide +kernel : fetch mX12_isDone 126 = some (.iconst 0)),
  by intros; exact G_at (by decide +kernel : fetch mX12_isDone 127 = some (.goto 4)),
  by intros; exact G_at (by decide +kernel : fetch mX12_isDone 130 = some (.iconst 1)),
  by intros; exact G_at (by decide +kernel : fetch mX12_isDone 131 = some (.istore 4)),
  by intros; exact G_at (by decide +kernel : fetch mX12_isDone 133 = some (.iload_n 2)),
  by intros; exact G_at (by decide +kernel : fetch mX12_isDone 134 = some (.bipush 6)),
  by intros; exact G_at (by decide +kernel : fetch mX12_isDone 136 = some (.if_icmp .ge 16)),
  by intros; exact G_at (by decide +kernel : fetch mX12_isDone 139 = some (.aload_n 0)),
  by intros; exact G_own (by decide +kernel : fetch mX12_isDone 140 = some (.getfield 9)) (by decide +kernel),
  by intros; exact G_at (by decide +kernel : fetch mX12_isDone 143 = some (.iconst 0)),
  by intros; exact G_at (by decide +kernel : fetch mX12_isDone 144 = some (.iload 4)),
  by intros; exact G_at (by decide +kernel : fetch mX12_isDone 146 = some (.iadd)),
  by intros; exact G_at (by decide +kernel : fetch mX12_isDone 147 = some (.iaload)),
  by intros; exact G_at (by decide +kernel : fetch mX12_isDone 148 = some (.iconst 5)),
  by intros; exact G_at (by decide +kernel : fetch mX12_isDone 149 = some (.if_icmp .ne 5)),
  by intros; exact G_at (by decide +kernel : fetch mX12_isDone 152 = some (.iconst 0)),
  by intros; exact G_retz (by decide +kernel : fetch mX12_isDone 153 = some (.ireturn)) (by decide +kernel),
  by intros; exact G_at (by decide +kernel : fetch mX12_isDone 154 = some (.aload_n 0)),
  by intros; exact G_at (by decide +kernel : fetch mX12_isDone 155 = some (.iload 4)),
  by intros; exact G_at (by decide +kernel : fetch mX12_isDone 157 = some (.iload_n 2)),
  by intros; exact G_at (by decide +kernel : fetch mX12_isDone 158 = some (.iload_n 3)),
  by intros; exact G_callV (by decide +kernel : fetch mX12_isDone 159 = some (.invokevirtual 172)) (by decide +kernel) (by decide +kernel) rfl,
  by intros; exact G_at (by decide +kernel : fetch mX12_isDone 162 = some (.istore 5)),
  by intros; exact G_at (by decide +kernel : fetch mX12_isDone 164 = some (.iconst 1)),
  by intros; exact G_retz (by decide +kernel : fetch mX12_isDone 165 = some (.ireturn)) (by decide +kernel),
  by intros; exact G_at (by decide +kernel : fetch mX12_isDone 166 = some (.aload_n 0)),
  by intros; exact G_at (by decide +kernel : fetch mX12_isDone 167 = some (.iload_n 2)),
  by intros; exact G_at (by decide +kernel : fetch mX12_isDone 168 = some (.iload_n 3)),
  by intros; exact G_callV (by decide +kernel : fetch mX12_isDone 169 = some (.invokevirtual 175)) (by decide +kernel) (by decide +kernel) rfl,
  by intros; exact G_at (by decide +kernel : fetch mX12_isDone 172 = some (.ifCond .eq 19)),
  by intros; exact G_at (by decide +kernel : fetch mX12_isDone 175 = some (.aload_n 0)),
  by intros; exact G_at (by decide +kernel : fetch mX12_isDone 176 = some (.iconst 1)),
  by intros; exact G_at (by decide +kernel : fetch mX12_isDone 177 = some (.iload_n 2)),
  by intros; exact G_at (by decide +kernel : fetch mX12_isDone 178 = some (.isub)),
  by intros; exact G_at (by decide +kernel : fetch mX12_isDone 179 = some (.aload_n 0)),
  by intros; exact G_own (by decide +kernel : fetch mX12_isDone 180 = some (.getfield 31)) (by decide +kernel),
  by intros; exact G_at (by decide +kernel : fetch mX12_isDone 183 = some (.iconst 2)),
  by intros; exact G_at (by decide +kernel : fetch mX12_isDone 184 = some (.iaload)),
  by intros; exact G_callV (by decide +kernel : fetch mX12_isDone 185 = some (.invokevirtual 175)) (by decide +kernel) (by decide +kernel) rfl,
  by intros; exact G_at (by decide +kernel : fetch mX12_isDone 188 = some (.ifCond .ne 5)),
  by intros; exact G_at (by decide +kernel : fetch mX12_isDone 191 = some (.iconst 0)),
  by intros; exact G_retz (by decide +kernel : fetch mX12_isDone 192 = some (.ireturn)) (by decide +kernel),
  by intros; exact G_at (by decide +kernel : fetch mX12_isDone 193 = some (.aload_n 0)),
  by intros; exact G_own (by decide +kernel : fetch mX12_isDone 194 = some (.getfield 9)) (by decide +kernel),
  by intros; exact G_at (by decide +kernel : fetch mX12_isDone 197 = some (.iload_n 2)),
  by intros; exact G_at (by decide +kernel : fetch mX12_isDone 198 = some (.iload_n 3)),
  by intros; exact G_at (by decide +kernel : fetch mX12_isDone 199 = some (.aload_n 0)),
  by intros; exact G_own (by decide +kernel : fetch mX12_isDone 200 = some (.getfield 31)) (by decide +kernel),
  by intros; exact G_at (by decide +kernel : fetch mX12_isDone 203 = some (.iconst 2)),
  by intros; exact G_at (by decide +kernel : fetch mX12_isDone 204 = some (.iaload)),
  by intros; exact G_callS (k := 3) (kd := 0) (by decide +kernel : fetch mX12_isDone 205 = some (.invokestatic 109)) (by decide +kernel) (by decide +kernel) (by decide +kernel) rfl (by decide),
  by intros; exact G_at (by decide +kernel : fetch mX12_isDone 208 = some (.aload_n 0)),
  by intros; exact G_own (by decide +kernel : fetch mX12_isDone 209 = some (.getfield 31)) (by decide +kernel),
  by intros; exact G_at (by decide +kernel : fetch mX12_isDone 212 = some (.iconst 3)),
  by intros; exact G_at (by decide +kernel : fetch mX12_isDone 213 = some (.iaload)),
  by intros; exact G_at (by decide +kernel : fetch mX12_isDone 214 = some (.iastore)),
  by intros; exact G_at (by decide +kernel : fetch mX12_isDone 215 = some (.iconst 1)),
  by intros; exact G_retz (by decide +kernel : fetch mX12_isDone 216 = some (.ireturn)) (by decide +kernel),
  by intros; exact G_at (by decide +kernel : fetch mX12_isDone 217 = some (.aload_n 0)),
  by intros; exact G_at (by decide +kernel : fetch mX12_isDone 218 = some (.iload_n 2)),
  by intros; exact G_at (by decide +kernel : fetch mX12_isDone 219 = some (.iload_n 3)),
  by intros; exact G_callV (by decide +kernel : fetch mX12_isDone 220 = some (.invokevirtual 175)) (by decide +kernel) (by decide +kernel) rfl,
  by intros; exact G_at (by decide +kernel : fetch mX12_isDone 223 = some (.ifCond .eq 17)),
  by intros; exact G_at (by decide +kernel : fetch mX12_isDone 226 = some (.aload_n 0)),
  by intros; exact G_at (by decide +kernel : fetch mX12_isDone 227 = some (.iload_n 2)),
  by intros; exact G_at (by decide +kernel : fetch mX12_isDone 228 = some (.aload_n 0)),
  by intros; exact G_own (by decide +kernel : fetch mX12_isDone 229 = some (.getfield 31)) (by decide +kernel),
  by intros; exact G_at (by decide +kernel : fetch mX12_isDone 232 = some (.iconst 2)),
  by intros; exact G_at (by decide +kernel : fetch mX12_isDone 233 = some (.iaload)),
  by intros; exact G_callV (by decide +kernel : fetch mX12_isDone 234 = some (.invokevirtual 175)) (by decide +kernel) (by decide +kernel) rfl,
  by intros; exact G_at (by decide +kernel : fetch mX12_isDone 237 = some (.ifCond .ne 5)),
  by intros; exact G_at (by decide +kernel : fetch mX12_isDone 240 = some (.iconst 0)),
  by intros; exact G_retz (by decide +kernel : fetch mX12_isDone 241 = some (.ireturn)) (by decide +kernel),
  by intros; exact G_at (by decide +kernel : fetch mX12_isDone 242 = some (.aload_n 0)),
  by intros; exact G_own (by decide +kernel : fetch mX12_isDone 243 = some (.getfield 9)) (by decide +kernel),
  by intros; exact G_at (by decide +kernel : fetch mX12_isDone 246 = some (.iload_n 2)),
  by intros; exact G_at (by decide +kernel : fetch mX12_isDone 247 = some (.iload_n 3)),
  by intros; exact G_at (by decide +kernel : fetch mX12_isDone 248 = some (.iconst 2)),
  by intros; exact G_callS (k := 3) (kd := 0) (by decide +kernel : fetch mX12_isDone 249 = some (.invokestatic 88)) (by decide +kernel) (by decide +kernel) (by decide +kernel) rfl (by decide),
  by intros; exact G_at (by decide +kernel : fetch mX12_isDone 252 = some (.iload_n 3)),
  by intros; exact G_at (by decide +kernel : fetch mX12_isDone 253 = some (.aload_n 0)),
  by intros; exact G_own (by decide +kernel : fetch mX12_isDone 254 = some (.getfield 31)) (by decide +kernel),
  by intros; exact G_at (by decide +kernel : fetch mX12_isDone 257 = some (.iconst 2)),
  by intros; exact G_at (by decide +kernel : fetch mX12_isDone 258 = some (.iaload)),
  by intros; exact G_at (by decide +kernel : fetch mX12_isDone 259 = some (.if_icmp .ne 7)),
  by intros; exact G_at (by decide +kernel : fetch mX12_isDone 262 = some (.iconst (-1))),
  by intros; exact G_at (by decide +kernel : fetch mX12_isDone 263 = some (.goto 9)),
  by intros; exact G_at (by decide +kernel : fetch mX12_isDone 266 = some (.aload_n 0)),
  by intros; exact G_own (by decide +kernel : fetch mX12_isDone 267 = some (.getfield 31)) (by decide +kernel),
  by intros; exact G_at (by decide +kernel : fetch mX12_isDone 270 = some (.iconst 2)),
  by intros; exact G_at (by decide +kernel : fetch mX12_isDone 271 = some (.iaload)),
  by intros; exact G_at (by decide +kernel : fetch mX12_isDone 272 = some (.iastore)),
  by intros; exact G_at (by decide +kernel : fetch mX12_isDone 273 = some (.iconst 1)),
  by intros; exact G_retz (by decide +kernel : fetch mX12_isDone 274 = some (.ireturn)) (by decide +kernel),
  by intros; exact G_at (by decide +kernel : fetch mX12_isDone 275 = some (.aload_n 0)),
  by intros; exact G_at (by decide +kernel : fetch mX12_isDone 276 = some (.iconst 0)),
  by intros; exact G_at (by decide +kernel : fetch mX12_isDone 277 = some (.iload_n 2)),
  by intros; exact G_callV (by decide +kernel : fetch mX12_isDone 278 = some (.invokevirtual 175)) (by decide +kernel) (by decide +kernel) rfl,
  by intros; exact G_at (by decide +kernel : fetch mX12_isDone 281 = some (.ifCond .eq 31)),
  by intros; exact G_at (by decide +kernel : fetch mX12_isDone 284 = some (.aload_n 0)),
  by intros; exact G_at (by decide +kernel : fetch mX12_isDone 285 = some (.iconst 1)),
  by intros; exact G_at (by decide +kernel : fetch mX12_isDone 286 = some (.iload_n 3)),
  by intros; exact G_callV (by decide +kernel : fetch mX12_isDone 287 = some (.invokevirtual 175)) (by decide +kernel) (by decide +kernel) rfl,
  by intros; exact G_at (by decide +kernel : fetch mX12_isDone 290 = some (.ifCond .eq 22)),
  by intros; exact G_at (by decide +kernel : fetch mX12_isDone 293 = some (.aload_n 0)),
  by intros; exact G_at (by decide +kernel : fetch mX12_isDone 294 = some (.iload_n 2)),
  by intros; exact G_at (by decide +kernel : fetch mX12_isDone 295 = some (.iload_n 3)),
  by intros; exact G_callV (by decide +kernel : fetch mX12_isDone 296 = some (.invokevirtual 178)) (by decide +kernel) (by decide +kernel) rfl,
  by intros; exact G_at (by decide +kernel : fetch mX12_isDone 299 = some (.ifCond .ne 13)),
  by intros; exact G_at (by decide +kernel : fetch mX12_isDone 302 = some (.aload_n 0)),
  by intros; exact G_own (by decide +kernel : fetch mX12_isDone 303 = some (.getfield 9)) (by decide +kernel),
  by intros; exact G_at (by decide +kernel : fetch mX12_isDone 306 = some (.iconst 2)),
  by intros; exact G_at (by decide +kernel : fetch mX12_isDone 307 = some (.iaload)),
  by intros; exact G_at (by decide +kernel : fetch mX12_isDone 308 = some (.iconst 4)),
  by intros; exact G_at (by decide +kernel : fetch mX12_isDone 309 = some (.if_icmp .ne 5)),
  by intros; exact G_at (by decide +kernel : fetch mX12_isDone 312 = some (.iconst 0)),
  by intros; exact G_retz (by decide +kernel : fetch mX12_isDone 313 = some (.ireturn)) (by decide +kernel),
  by intros; exact G_at (by decide +kernel : fetch mX12_isDone 314 = some (.aload_n 0)),
  by intros; exact G_at (by decide +kernel : fetch mX12_isDone 315 = some (.iload_n 2)),
  by intros; exact G_at (by decide +kernel : fetch mX12_isDone 316 = some (.iload_n 3)),
  by intros; exact G_callV (by decide +kernel : fetch mX12_isDone 317 = some (.invokevirtual 181)) (by decide +kernel) (by decide +kernel) rfl,
  by intros; exact G_at (by decide +kernel : fetch mX12_isDone 320 = some (.istore 4)),
  by intros; exact G_at (by decide +kernel : fetch mX12_isDone 322 = some (.iconst 1)),
  by intros; exact G_retz (by decide +kernel : fetch mX12_isDone 323 = some (.ireturn)) (by decide +kernel),
  by intros; exact G_at (by decide +kernel : fetch mX12_isDone 324 = some (.iload_n 2)),
  by intros; exact G_at (by decide +kernel : fetch mX12_isDone 325 = some (.bipush 6)),
  by intros; exact G_at (by decide +kernel : fetch mX12_isDone 327 = some (.if_icmp .ge 8)),
  by intros; exact G_at (by decide +kernel : fetch mX12_isDone 330 = some (.iload_n 3)),
  by intros; exact G_at (by decide +kernel : fetch mX12_isDone 331 = some (.iconst 2)),
  by intros; exact G_at (by decide +kernel : fetch mX12_isDone 332 = some (.if_icmp .le 5)),
  by intros; exact G_at (by decide +kernel : fetch mX12_isDone 335 = some (.iconst 0)),
  by intros; exact G_retz (by decide +kernel : fetch mX12_isDone 336 = some (.ireturn)) (by decide +kernel),
  by intros; exact G_at (by decide +kernel : fetch mX12_isDone 337 = some (.aload_n 0)),
  by intros; exact G_own (by decide +kernel : fetch mX12_isDone 338 = some (.getfield 9)) (by decide +kernel),
  by intros; exact G_at (by decide +kernel : fetch mX12_isDone 341 = some (.iconst 5)),
  by intros; exact G_at (by decide +kernel : fetch mX12_isDone 342 = some (.iload_n 2)),
  by intros; exact G_at (by decide +kernel : fetch mX12_isDone 343 = some (.iadd)),
  by intros; exact G_at (by decide +kernel : fetch mX12_isDone 344 = some (.iload_n 3)),
  by intros; exact G_at (by decide +kernel : fetch mX12_isDone 345 = some (.iastore)),
  by intros; exact G_at (by decide +kernel : fetch mX12_isDone 346 = some (.iconst 1)),
  by intros; exact G_retz (by decide +kernel : fetch mX12_isDone 347 = some (.ireturn)) (by decide +kernel),
  by intros; exact G_at (by decide +kernel : fetch mX12_isDone 348 = some (.aload_n 0)),
  by intros; exact G_own (by decide +kernel : fetch mX12_isDone 349 = some (.getfield 9)) (by decide +kernel),
  by intros; exact G_at (by decide +kernel : fetch mX12_isDone 352 = some (.iconst 4)),
  by intros; exact G_at (by decide +kernel : fetch mX12_isDone 353 = some (.iload_n 2)),
  by intros; exact G_at (by decide +kernel : fetch mX12_isDone 354 = some (.iastore)),
  by intros; exact G_at (by decide +kernel : fetch mX12_isDone 355 = some (.iconst 1)),
  by intros; exact G_retz (by decide +kernel : fetch mX12_isDone 356 = some (.ireturn)) (by decide +kernel),
  by intros; exact G_at (by decide +kernel : fetch mX12_isDone 357 = some (.iload_n 2)),
  by intros; exact G_at (by decide +kernel : fetch mX12_isDone 358 = some (.iconst 1)),
  by intros; exact G_at (by decide +kernel : fetch mX12_isDone 359 = some (.bipush 60)),
  by intros; exact G_callS (k := 3) (kd := 0) (by decide +kernel : fetch mX12_isDone 361 = some (.invokestatic 67)) (by decide +kernel) (by decide +kernel) (by decide +kernel) rfl (by decide),
  by intros; exact G_at (by decide +kernel : fetch mX12_isDone 364 = some (.ifCond .eq 17)),
  by intros; exact G_at (by decide +kernel : fetch mX12_isDone 367 = some (.aload_n 0)),
  by intros; exact G_own (by decide +kernel : fetch mX12_isDone 368 = some (.getfield 9)) (by decide +kernel),
  by intros; exact G_at (by decide +kernel : fetch mX12_isDone 371 = some (.iconst 3)),
  by intros; exact G_at (by decide +kernel : fetch mX12_isDone 372 = some (.iaload)),
  by intros; exact G_at (by decide +kernel : fetch mX12_isDone 373 = some (.iload_n 2)),
  by intros; exact G_at (by decide +kernel : fetch mX12_isDone 374 = some (.iadd)),
  by intros; exact G_at (by decide +kernel : fetch mX12_isDone 375 = some (.sipush 999)),
  by intros; exact G_at (by decide +kernel : fetch mX12_isDone 378 = some (.if_icmp .le 5)),
  by intros; exact G_at (by decide +kernel : fetch mX12_isDone 381 = some (.iconst 0)),
  by intros; exact G_retz (by decide +kernel : fetch mX12_isDone 382 = some (.ireturn)) (by decide +kernel),
  by intros; exact G_at (by decide +kernel : fetch mX12_isDone 383 = some (.aload_n 0)),
  by intros; exact G_callV (by decide +kernel : fetch mX12_isDone 384 = some (.invokevirtual 149)) (by decide +kernel) (by decide +kernel) rfl,
  by intros; exact G_at (by decide +kernel : fetch mX12_isDone 387 = some (.iconst 0)),
  by intros; exact G_at (by decide +kernel : fetch mX12_isDone 388 = some (.istore 4)),
  by intros; exact G_at (by decide +kernel : fetch mX12_isDone 390 = some (.iload 4)),
  by intros; exact G_at (by decide +kernel : fetch mX12_isDone 392 = some (.iload_n 2)),
  by intros; exact G_at (by decide +kernel : fetch mX12_isDone 393 = some (.if_icmp .ge 17)),
  by intros; exact G_at (by decide +kernel : fetch mX12_isDone 396 = some (.aload_n 0)),
  by intros; exact G_at (by decide +kernel : fetch mX12_isDone 397 = some (.aload_n 0)),
  by intros; exact G_own (by decide +kernel : fetch mX12_isDone 398 = some (.getfield 9)) (by decide +kernel),
  by intros; exact G_callV (by decide +kernel : fetch mX12_isDone 401 = some (.invokevirtual 152)) (by decide +kernel) (by decide +kernel) rfl,
  by intros; exact G_at (by decide +kernel : fetch mX12_isDone 404 = some (.iinc 4 1)),
  by intros; exact G_at (by decide +kernel : fetch mX12_isDone 407 = some (.goto (-17))),
  by intros; exact G_at (by decide +kernel : fetch mX12_isDone 410 = some (.iconst 1)),
  by intros; exact G_retz (by decide +kernel : fetch mX12_isDone 411 = some (.ireturn)) (by decide +kernel),
  by decide +kernel,
  by decide +kernel,
  by decide +kernel,
  by decide +kernel,
  by decide +kernel,
  by decide +kernel,
  by decide +kernel,
  by decide +kernel⟩
theorem gX12_valley : (∀ (n d : Nat) (L : List (Option iV)) (st : List iV) (h : iH) (Q : Option iV → iH → Prop), G sp sc [41, 93] d mX12_valley (n + 1) 0 L st h Q = (match ld L 0 with | some (.inr (.inr (r + 1))) => G sp sc [41, 93] d mX12_valley n 1 L (.inr (.inr (r + 1)) :: st) h Q | _ => False)) ∧
  (∀ (n d : Nat) (L : List (Option iV)) (st : List iV) (h : iH) (Q : Option iV → iH → Prop), G sp sc [41, 93] d mX12_valley (n + 1) 1 L st h Q = (match ld L 1 with | some (.inl x) => G sp sc [41, 93] d mX12_valley n 2 L (.inl x :: st) h Q | _ => False)) ∧
  (∀ (n d : Nat) (L : List (Option iV)) (st : List iV) (h : iH) (Q : Option iV → iH → Prop), G sp sc [41, 93] d mX12_valley (n + 1) 2 L st h Q = G sp sc [41, 93] d mX12_valley n 3 L (.inl 0 :: st) h Q) ∧
  (∀ (n d : Nat) (L : List (Option iV)) (r : List iV) (m : Nat) (z0 : iV) (z1 : iV) (h : iH) (Q : Option iV → iH → Prop), G sp sc [41, 93] (d + 1) mX12_valley (n + 1) 3 L (z1 :: z0 :: .inr (.inr (m + 2)) :: r) h Q = (match h.1[m]? with | some (.inl (ci, _)) => (match lkC 12 184 ci with | some (y1, n1, kd) => (n1 = 2 ∧ (kd = 2 ∨ kd = 3 ∨ kd = 8) ∧ cs r ≤ 8) ∧ Call sp sc d y1 [.inr (.inr (m + 2)), z0, z1] h (fun q h1 => GC sp sc [41, 93] (d + 1) mX12_valley n 6 L q r h h1 Q) | none => False) | _ => False)) ∧
  (∀ (n d : Nat) (L : List (Option iV)) (r : List iV) (x : Int) (h : iH) (Q : Option iV → iH → Prop), G sp sc [41, 93] d mX12_valley (n + 1) 6 L (.inl x :: r) h Q = (match st1 L 2 (.inl x) with | some L' => G sp sc [41, 93] d mX12_valley n 7 L' r h Q | none => False)) ∧
  (∀ (n d : Nat) (L : List (Option iV)) (st : List iV) (h : iH) (Q : Option iV → iH → Prop), G sp sc [41, 93] d mX12_valley (n + 1) 7 L st h Q = (match ld L 2 with | some (.inl x) => G sp sc [41, 93] d mX12_valley n 8 L (.inl x :: st) h Q | _ => False)) ∧
  (∀ (n d : Nat) (L : List (Option iV)) (a : Int) (r : List iV) (h : iH) (Q : Option iV → iH → Prop), G sp sc [41, 93] d mX12_valley (n + 1) 8 L (.inl a :: r) h Q = (inI a = true ∧ (a = 0 → G sp sc [41, 93] d mX12_valley n 13 L r h Q) ∧ (¬ (a = 0) → G sp sc [41, 93] d mX12_valley n 11 L r h Q))) ∧
  (∀ (n d : Nat) (L : List (Option iV)) (st : List iV) (h : iH) (Q : Option iV → iH → Prop), G sp sc [41, 93] d mX12_valley (n + 1) 11 L st h Q = (match ld L 2 with | some (.inl x) => G sp sc [41, 93] d mX12_valley n 12 L (.inl x :: st) h Q | _ => False)) ∧
  (∀ (n d : Nat) (L : List (Option iV)) (a : Int) (h : iH) (Q : Option iV → iH → Prop), G sp sc [41, 93] d mX12_valley (n + 1) 12 L [.inl a] h Q = Q (some (.inl a)) h) ∧
  (∀ (n d : Nat) (L : List (Option iV)) (st : List iV) (h : iH) (Q : Option iV → iH → Prop), G sp sc [41, 93] d mX12_valley (n + 1) 13 L st h Q = (match ld L 0 with | some (.inr (.inr (r + 1))) => G sp sc [41, 93] d mX12_valley n 14 L (.inr (.inr (r + 1)) :: st) h Q | _ => False)) ∧
  (∀ (n d : Nat) (L : List (Option iV)) (st : List iV) (h : iH) (Q : Option iV → iH → Prop), G sp sc [41, 93] d mX12_valley (n + 1) 14 L st h Q = ((-128 ≤ (100 : Int) ∧ (100 : Int) < 128) ∧ G sp sc [41, 93] d mX12_valley n 16 L (.inl 100 :: st) h Q)) ∧
  (∀ (n d : Nat) (L : List (Option iV)) (st : List iV) (h : iH) (Q : Option iV → iH → Prop), G sp sc [41, 93] d mX12_valley (n + 1) 16 L st h Q = (match ld L 1 with | some (.inl x) => G sp sc [41, 93] d mX12_valley n 17 L (.inl x :: st) h Q | _ => False)) ∧
  (∀ (n d : Nat) (L : List (Option iV)) (a : Int) (b : Int) (r : List iV) (h : iH) (Q : Option iV → iH → Prop), G sp sc [41, 93] d mX12_valley (n + 1) 17 L (.inl b :: .inl a :: r) h Q = G sp sc [41, 93] d mX12_valley n 18 L (.inl (a * b) :: r) h Q) ∧
  (∀ (n d : Nat) (L : List (Option iV)) (r : List iV) (v : iV) (m : Nat) (h : iH) (Q : Option iV → iH → Prop), G sp sc [41, 93] d mX12_valley (n + 1) 18 L (v :: .inr (.inr (m + 2)) :: r) h Q = (match h.1[m]? with | some (.inl (ci, fs)) => (match lkF 12 162 ci with | some k => (fitV (tyT ci k) v = true ∧ k < fs.length ∧ pOK 12 false ci k = true) ∧ G sp sc [41, 93] d mX12_valley n 21 L r (h.1.set m (.inl (ci, fs.set k v)), h.2) Q | none => False) | _ => False)) ∧
  (∀ (n d : Nat) (L : List (Option iV)) (st : List iV) (h : iH) (Q : Option iV → iH → Prop), G sp sc [41, 93] d mX12_valley (n + 1) 21 L st h Q = (match ld L 0 with | some (.inr (.inr (r + 1))) => G sp sc [41, 93] d mX12_valley n 22 L (.inr (.inr (r + 1)) :: st) h Q | _ => False)) ∧
  (∀ (n d : Nat) (L : List (Option iV)) (st : List iV) (h : iH) (Q : Option iV → iH → Prop), G sp sc [41, 93] d mX12_valley (n + 1) 22 L st h Q = (match ld L 0 with | some (.inr (.inr (r + 1))) => G sp sc [41, 93] d mX12_valley n 23 L (.inr (.inr (r + 1)) :: st) h Q | _ => False)) ∧
  (∀ (n d : Nat) (L : List (Option iV)) (r : List iV) (m : Nat) (h : iH) (Q : Option iV → iH → Prop), G sp sc [41, 93] d mX12_valley (n + 1) 23 L (.inr (.inr (m + 2)) :: r) h Q = (match h.1[m]? with | some (.inl (ci, fs)) => (match lkF 12 61 ci with | some k => (match fs[k]? with | some v => G sp sc [41, 93] d mX12_valley n 26 L (v :: r) h Q | none => False) | none => False) | _ => False)) ∧
  (∀ (n d : Nat) (L : List (Option iV)) (st : List iV) (h : iH) (Q : Option iV → iH → Prop), G sp sc [41, 93] d mX12_valley (n + 1) 26 L st h Q = (match ld L 1 with | some (.inl x) => G sp sc [41, 93] d mX12_valley n 27 L (.inl x :: st) h Q | _ => False)) ∧
  (∀ (n d : Nat) (L : List (Option iV)) (r : List iV) (j : Int) (m : Nat) (h : iH) (Q : Option iV → iH → Prop), G sp sc [41, 93] d mX12_valley (n + 1) 27 L (.inl j :: .inr (.inr (m + 2)) :: r) h Q = (match h.1[m]? with | some (.inr (.inl (0, xs))) => inA j xs.length = true ∧ G sp sc [41, 93] d mX12_valley n 28 L (.inl (xs.getD j.toNat 0) :: r) h Q | _ => False)) ∧
  (∀ (n d : Nat) (L : List (Option iV)) (r : List iV) (v : iV) (m : Nat) (h : iH) (Q : Option iV → iH → Prop), G sp sc [41, 93] d mX12_valley (n + 1) 28 L (v :: .inr (.inr (m + 2)) :: r) h Q = (match h.1[m]? with | some (.inl (ci, fs)) => (match lkF 12 159 ci with | some k => (fitV (tyT ci k) v = true ∧ k < fs.length ∧ pOK 12 false ci k = true) ∧ G sp sc [41, 93] d mX12_valley n 31 L r (h.1.set m (.inl (ci, fs.set k v)), h.2) Q | none => False) | _ => False)) ∧
  (∀ (n d : Nat) (L : List (Option iV)) (st : List iV) (h : iH) (Q : Option iV → iH → Prop), G sp sc [41, 93] d mX12_valley (n + 1) 31 L st h Q = (match ld L 0 with | some (.inr (.inr (r + 1))) => G sp sc [41, 93] d mX12_valley n 32 L (.inr (.inr (r + 1)) :: st) h Q | _ => False)) ∧
  (∀ (n d : Nat) (L : List (Option iV)) (st : List iV) (h : iH) (Q : Option iV → iH → Prop), G sp sc [41, 93] d mX12_valley (n + 1) 32 L st h Q = G sp sc [41, 93] d mX12_valley n 33 L (.inl 0 :: st) h Q) ∧
  (∀ (n d : Nat) (L : List (Option iV)) (r : List iV) (v : iV) (m : Nat) (h : iH) (Q : Option iV → iH → Prop), G sp sc [41, 93] d mX12_valley (n + 1) 33 L (v :: .inr (.inr (m + 2)) :: r) h Q = (match h.1[m]? with | some (.inl (ci, fs)) => (match lkF 12 156 ci with | some k => (fitV (tyT ci k) v = true ∧ k < fs.length ∧ pOK 12 false ci k = true) ∧ G sp sc [41, 93] d mX12_valley n 36 L r (h.1.set m (.inl (ci, fs.set k v)), h.2) Q | none => False) | _ => False)) ∧
  (∀ (n d : Nat) (L : List (Option iV)) (st : List iV) (h : iH) (Q : Option iV → iH → Prop), G sp sc [41, 93] d mX12_valley (n + 1) 36 L st h Q = G sp sc [41, 93] d mX12_valley n 37 L (.inl 0 :: st) h Q) ∧
  (∀ (n d : Nat) (L : List (Option iV)) (r : List iV) (x : Int) (h : iH) (Q : Option iV → iH → Prop), G sp sc [41, 93] d mX12_valley (n + 1) 37 L (.inl x :: r) h Q = (match st1 L 3 (.inl x) with | some L' => G sp sc [41, 93] d mX12_valley n 38 L' r h Q | none => False)) ∧
  (∀ (n d : Nat) (L : List (Option iV)) (st : List iV) (h : iH) (Q : Option iV → iH → Prop), G sp sc [41, 93] d mX12_valley (n + 1) 38 L st h Q = G sp sc [41, 93] d mX12_valley n 39 L (.inl 0 :: st) h Q) ∧
  (∀ (n d : Nat) (L : List (Option iV)) (r : List iV) (x : Int) (h : iH) (Q : Option iV → iH → Prop), G sp sc [41, 93] d mX12_valley (n + 1) 39 L (.inl x :: r) h Q = (match st1 L 4 (.inl x) with | some L' => Run sp sc d mX12_valley 41 L' r h Q | none => False)) ∧
  (∀ (n d : Nat) (L : List (Option iV)) (st : List iV) (h : iH) (Q : Option iV → iH → Prop), G sp sc [41, 93] d mX12_valley (n + 1) 41 L st h Q = (match ld L 0 with | some (.inr (.inr (r + 1))) => G sp sc [41, 93] d mX12_valley n 42 L (.inr (.inr (r + 1)) :: st) h Q | _ => False)) ∧
  (∀ (n d : Nat) (L : List (Option iV)) (r : List iV) (m : Nat) (h : iH) (Q : Option iV → iH → Prop), G sp sc [41, 93] (d + 1) mX12_valley (n + 1) 42 L (.inr (.inr (m + 2)) :: r) h Q = (match h.1[m]? with | some (.inl (ci, _)) => (match lkC 12 187 ci with | some (y1, n1, kd) => (n1 = 0 ∧ (kd = 2 ∨ kd = 3 ∨ kd = 8) ∧ cs r ≤ 8) ∧ Call sp sc d y1 [.inr (.inr (m + 2))] h (fun q h1 => GC sp sc [41, 93] (d + 1) mX12_valley n 45 L q r h h1 Q) | none => False) | _ => False)) ∧
  (∀ (n d : Nat) (L : List (Option iV)) (a : Int) (r : List iV) (h : iH) (Q : Option iV → iH → Prop), G sp sc [41, 93] d mX12_valley (n + 1) 45 L (.inl a :: r) h Q = (inI a = true ∧ (¬ a = 0 → G sp sc [41, 93] d mX12_valley n 58 L r h Q) ∧ (¬ (¬ a = 0) → G sp sc [41, 93] d mX12_valley n 48 L r h Q))) ∧
  (∀ (n d : Nat) (L : List (Option iV)) (st : List iV) (h : iH) (Q : Option iV → iH → Prop), G sp sc [41, 93] d mX12_valley (n + 1) 48 L st h Q = ((-32768 ≤ ((-1000) : Int) ∧ ((-1000) : Int) < 32768) ∧ G sp sc [41, 93] d mX12_valley n 51 L (.inl (-1000) :: st) h Q)) ∧
  (∀ (n d : Nat) (L : List (Option iV)) (st : List iV) (h : iH) (Q : Option iV → iH → Prop), G sp sc [41, 93] d mX12_valley (n + 1) 51 L st h Q = (match ld L 0 with | some (.inr (.inr (r + 1))) => G sp sc [41, 93] d mX12_valley n 52 L (.inr (.inr (r + 1)) :: st) h Q | _ => False)) ∧
  (∀ (n d : Nat) (L : List (Option iV)) (r : List iV) (m : Nat) (h : iH) (Q : Option iV → iH → Prop), G sp sc [41, 93] d mX12_valley (n + 1) 52 L (.inr (.inr (m + 2)) :: r) h Q = (match h.1[m]? with | some (.inl (ci, fs)) => (match lkF 12 156 ci with | some k => (match fs[k]? with | some v => G sp sc [41, 93] d mX12_valley n 55 L (v :: r) h Q | none => False) | none => False) | _ => False)) ∧
  (∀ (n d : Nat) (L : List (Option iV)) (a : Int) (b : Int) (r : List iV) (h : iH) (Q : Option iV → iH → Prop), G sp sc [41, 93] d mX12_valley (n + 1) 55 L (.inl b :: .inl a :: r) h Q = G sp sc [41, 93] d mX12_valley n 56 L (.inl (a - b) :: r) h Q) ∧
  (∀ (n d : Nat) (L : List (Option iV)) (r : List iV) (x : Int) (h : iH) (Q : Option iV → iH → Prop), G sp sc [41, 93] d mX12_valley (n + 1) 56 L (.inl x :: r) h Q = (match st1 L 4 (.inl x) with | some L' => G sp sc [41, 93] d mX12_valley n 58 L' r h Q | none => False)) ∧
  (∀ (n d : Nat) (L : List (Option iV)) (st : List iV) (h : iH) (Q : Option iV → iH → Prop), G sp sc [41, 93] d mX12_valley (n + 1) 58 L st h Q = (match ld L 3 with | some (.inl x) => (match st1 L 3 (.inl (x + 1)) with | some L' => G sp sc [41, 93] d mX12_valley n 61 L' st h Q | none => False) | _ => False)) ∧
  (∀ (n d : Nat) (L : List (Option iV)) (st : List iV) (h : iH) (Q : Option iV → iH → Prop), G sp sc [41, 93] d mX12_valley (n + 1) 61 L st h Q = (match ld L 4 with | some (.inl x) => G sp sc [41, 93] d mX12_valley n 63 L (.inl x :: st) h Q | _ => False)) ∧
  (∀ (n d : Nat) (L : List (Option iV)) (a : Int) (r : List iV) (h : iH) (Q : Option iV → iH → Prop), G sp sc [41, 93] d mX12_valley (n + 1) 63 L (.inl a :: r) h Q = (inI a = true ∧ (¬ a = 0 → G sp sc [41, 93] d mX12_valley n 77 L r h Q) ∧ (¬ (¬ a = 0) → G sp sc [41, 93] d mX12_valley n 66 L r h Q))) ∧
  (∀ (n d : Nat) (L : List (Option iV)) (st : List iV) (h : iH) (Q : Option iV → iH → Prop), G sp sc [41, 93] d mX12_valley (n + 1) 66 L st h Q = (match ld L 0 with | some (.inr (.inr (r + 1))) => G sp sc [41, 93] d mX12_valley n 67 L (.inr (.inr (r + 1)) :: st) h Q | _ => False)) ∧
  (∀ (n d : Nat) (L : List (Option iV)) (r : List iV) (m : Nat) (h : iH) (Q : Option iV → iH → Prop), G sp sc [41, 93] d mX12_valley (n + 1) 67 L (.inr (.inr (m + 2)) :: r) h Q = (match h.1[m]? with | some (.inl (ci, fs)) => (match lkF 12 156 ci with | some k => (match fs[k]? with | some v => G sp sc [41, 93] d mX12_valley n 70 L (v :: r) h Q | none => False) | none => False) | _ => False)) ∧
  (∀ (n d : Nat) (L : List (Option iV)) (st : List iV) (h : iH) (Q : Option iV → iH → Prop), G sp sc [41, 93] d mX12_valley (n + 1) 70 L st h Q = (match ld L 0 with | some (.inr (.inr (r + 1))) => G sp sc [41, 93] d mX12_valley n 71 L (.inr (.inr (r + 1)) :: st) h Q | _ => False)) ∧
  (∀ (n d : Nat) (L : List (Option iV)) (r : List iV) (m : Nat) (h : iH) (Q : Option iV → iH → Prop), G sp sc [41, 93] d mX12_valley (n + 1) 71 L (.inr (.inr (m + 2)) :: r) h Q = (match h.1[m]? with | some (.inl (ci, fs)) => (match lkF 12 159 ci with | some k => (match fs[k]? with | some v => G sp sc [41, 93] d mX12_valley n 74 L (v :: r) h Q | none => False) | none => False) | _ => False)) ∧
  (∀ (n d : Nat) (L : List (Option iV)) (a : Int) (b : Int) (r : List iV) (h : iH) (Q : Option iV → iH → Prop), G sp sc [41, 93] d mX12_valley (n + 1) 74 L (.inl b :: .inl a :: r) h Q = ((inI a = true ∧ inI b = true) ∧ (a < b → Run sp sc d mX12_valley 41 L r h Q) ∧ (¬ (a < b) → G sp sc [41, 93] d mX12_valley n 77 L r h Q))) ∧
  (∀ (n d : Nat) (L : List (Option iV)) (st : List iV) (h : iH) (Q : Option iV → iH → Prop), G sp sc [41, 93] d mX12_valley (n + 1) 77 L st h Q = (match ld L 0 with | some (.inr (.inr (r + 1))) => G sp sc [41, 93] d mX12_valley n 78 L (.inr (.inr (r + 1)) :: st) h Q | _ => False)) ∧
  (∀ (n d : Nat) (L : List (Option iV)) (r : List iV) (m : Nat) (h : iH) (Q : Option iV → iH → Prop), G sp sc [41, 93] d mX12_valley (n + 1) 78 L (.inr (.inr (m + 2)) :: r) h Q = (match h.1[m]? with | some (.inl (ci, fs)) => (match lkF 12 9 ci with | some k => (match fs[k]? with | some v => G sp sc [41, 93] d mX12_valley n 81 L (v :: r) h Q | none => False) | none => False) | _ => False)) ∧
  (∀ (n d : Nat) (L : List (Option iV)) (st : List iV) (h : iH) (Q : Option iV → iH → Prop), G sp sc [41, 93] d mX12_valley (n + 1) 81 L st h Q = (match ld L 0 with | some (.inr (.inr (r + 1))) => G sp sc [41, 93] d mX12_valley n 82 L (.inr (.inr (r + 1)) :: st) h Q | _ => False)) ∧
  (∀ (n d : Nat) (L : List (Option iV)) (r : List iV) (m : Nat) (h : iH) (Q : Option iV → iH → Prop), G sp sc [41, 93] d mX12_valley (n + 1) 82 L (.inr (.inr (m + 2)) :: r) h Q = (match h.1[m]? with | some (.inl (ci, fs)) => (match lkF 12 19 ci with | some k => (match fs[k]? with | some v => G sp sc [41, 93] d mX12_valley n 85 L (v :: r) h Q | none => False) | none => False) | _ => False)) ∧
  (∀ (n d : Nat) (L : List (Option iV)) (r : List iV) (z0 : iV) (z1 : iV) (h : iH) (Q : Option iV → iH → Prop), G sp sc [41, 93] (d + 1) mX12_valley (n + 1) 85 L (z1 :: z0 :: r) h Q = (cs r ≤ 8 ∧ Call sp sc d mX12_lays [z0, z1] h (fun q h1 => GC sp sc [41, 93] (d + 1) mX12_valley n 88 L q r h h1 Q))) ∧
  (∀ (n d : Nat) (L : List (Option iV)) (st : List iV) (h : iH) (Q : Option iV → iH → Prop), G sp sc [41, 93] d mX12_valley (n + 1) 88 L st h Q = (match ld L 0 with | some (.inr (.inr (r + 1))) => G sp sc [41, 93] d mX12_valley n 89 L (.inr (.inr (r + 1)) :: st) h Q | _ => False)) ∧
  (∀ (n d : Nat) (L : List (Option iV)) (st : List iV) (h : iH) (Q : Option iV → iH → Prop), G sp sc [41, 93] d mX12_valley (n + 1) 89 L st h Q = G sp sc [41, 93] d mX12_valley n 90 L (.inl 0 :: st) h Q) ∧
  (∀ (n d : Nat) (L : List (Option iV)) (r : List iV) (v : iV) (m : Nat) (h : iH) (Q : Option iV → iH → Prop), G sp sc [41, 93] d mX12_valley (n + 1) 90 L (v :: .inr (.inr (m + 2)) :: r) h Q = (match h.1[m]? with | some (.inl (ci, fs)) => (match lkF 12 156 ci with | some k => (fitV (tyT ci k) v = true ∧ k < fs.length ∧ pOK 12 false ci k = true) ∧ Run sp sc d mX12_valley 93 L r (h.1.set m (.inl (ci, fs.set k v)), h.2) Q | none => False) | _ => False)) ∧
  (∀ (n d : Nat) (L : List (Option iV)) (st : List iV) (h : iH) (Q : Option iV → iH → Prop), G sp sc [41, 93] d mX12_valley (n + 1) 93 L st h Q = (match ld L 4 with | some (.inl x) => G sp sc [41, 93] d mX12_valley n 95 L (.inl x :: st) h Q | _ => False)) ∧
  (∀ (n d : Nat) (L : List (Option iV)) (a : Int) (r : List iV) (h : iH) (Q : Option iV → iH → Prop), G sp sc [41, 93] d mX12_valley (n + 1) 95 L (.inl a :: r) h Q = (inI a = true ∧ (¬ a = 0 → G sp sc [41, 93] d mX12_valley n 161 L r h Q) ∧ (¬ (¬ a = 0) → G sp sc [41, 93] d mX12_valley n 98 L r h Q))) ∧
  (∀ (n d : Nat) (L : List (Option iV)) (st : List iV) (h : iH) (Q : Option iV → iH → Prop), G sp sc [41, 93] d mX12_valley (n + 1) 98 L st h Q = (match ld L 0 with | some (.inr (.inr (r + 1))) => G sp sc [41, 93] d mX12_valley n 99 L (.inr (.inr (r + 1)) :: st) h Q | _ => False)) ∧
  (∀ (n d : Nat) (L : List (Option iV)) (r : List iV) (m : Nat) (h : iH) (Q : Option iV → iH → Prop), G sp sc [41, 93] d mX12_valley (n + 1) 99 L (.inr (.inr (m + 2)) :: r) h Q = (match h.1[m]? with | some (.inl (ci, fs)) => (match lkF 12 156 ci with | some k => (match fs[k]? with | some v => G sp sc [41, 93] d mX12_valley n 102 L (v :: r) h Q | none => False) | none => False) | _ => False)) ∧
  (∀ (n d : Nat) (L : List (Option iV)) (st : List iV) (h : iH) (Q : Option iV → iH → Prop), G sp sc [41, 93] d mX12_valley (n + 1) 102 L st h Q = (match ld L 0 with | some (.inr (.inr (r + 1))) => G sp sc [41, 93] d mX12_valley n 103 L (.inr (.inr (r + 1)) :: st) h Q | _ => False)) ∧
  (∀ (n d : Nat) (L : List (Option iV)) (r : List iV) (m : Nat) (h : iH) (Q : Option iV → iH → Prop), G sp sc [41, 93] d mX12_valley (n + 1) 103 L (.inr (.inr (m + 2)) :: r) h Q = (match h.1[m]? with | some (.inl (ci, fs)) => (match lkF 12 159 ci with | some k => (match fs[k]? with | some v => G sp sc [41, 93] d mX12_valley n 106 L (v :: r) h Q | none => False) | none => False) | _ => False)) ∧
  (∀ (n d : Nat) (L : List (Option iV)) (a : Int) (b : Int) (r : List iV) (h : iH) (Q : Option iV → iH → Prop), G sp sc [41, 93] d mX12_valley (n + 1) 106 L (.inl b :: .inl a :: r) h Q = ((inI a = true ∧ inI b = true) ∧ (b ≤ a → G sp sc [41, 93] d mX12_valley n 161 L r h Q) ∧ (¬ (b ≤ a) → G sp sc [41, 93] d mX12_valley n 109 L r h Q))) ∧
  (∀ (n d : Nat) (L : List (Option iV)) (st : List iV) (h : iH) (Q : Option iV → iH → Prop), G sp sc [41, 93] d mX12_valley (n + 1) 109 L st h Q = (match ld L 0 with | some (.inr (.inr (r + 1))) => G sp sc [41, 93] d mX12_valley n 110 L (.inr (.inr (r + 1)) :: st) h Q | _ => False)) ∧
  (∀ (n d : Nat) (L : List (Option iV)) (r : List iV) (m : Nat) (h : iH) (Q : Option iV → iH → Prop), G sp sc [41, 93] d mX12_valley (n + 1) 110 L (.inr (.inr (m + 2)) :: r) h Q = (match h.1[m]? with | some (.inl (ci, fs)) => (match lkF 12 156 ci with | some k => (match fs[k]? with | some v => G sp sc [41, 93] d mX12_valley n 113 L (v :: r) h Q | none => False) | none => False) | _ => False)) ∧
  (∀ (n d : Nat) (L : List (Option iV)) (r : List iV) (x : Int) (h : iH) (Q : Option iV → iH → Prop), G sp sc [41, 93] d mX12_valley (n + 1) 113 L (.inl x :: r) h Q = (match st1 L 5 (.inl x) with | some L' => G sp sc [41, 93] d mX12_valley n 115 L' r h Q | none => False)) ∧
  (∀ (n d : Nat) (L : List (Option iV)) (st : List iV) (h : iH) (Q : Option iV → iH → Prop), G sp sc [41, 93] d mX12_valley (n + 1) 115 L st h Q = (match ld L 0 with | some (.inr (.inr (r + 1))) => G sp sc [41, 93] d mX12_valley n 116 L (.inr (.inr (r + 1)) :: st) h Q | _ => False)) ∧
  (∀ (n d : Nat) (L : List (Option iV)) (r : List iV) (m : Nat) (h : iH) (Q : Option iV → iH → Prop), G sp sc [41, 93] (d + 1) mX12_valley (n + 1) 116 L (.inr (.inr (m + 2)) :: r) h Q = (match h.1[m]? with | some (.inl (ci, _)) => (match lkC 12 165 ci with | some (y1, n1, kd) => (n1 = 0 ∧ (kd = 2 ∨ kd = 3 ∨ kd = 8) ∧ cs r ≤ 8) ∧ Call sp sc d y1 [.inr (.inr (m + 2))] h (fun q h1 => GC sp sc [41, 93] (d + 1) mX12_valley n 119 L q r h h1 Q) | none => False) | _ => False)) ∧
  (∀ (n d : Nat) (L : List (Option iV)) (r : List iV) (x : Int) (h : iH) (Q : Option iV → iH → Prop), G sp sc [41, 93] d mX12_valley (n + 1) 119 L (.inl x :: r) h Q = (match st1 L 6 (.inl x) with | some L' => G sp sc [41, 93] d mX12_valley n 121 L' r h Q | none => False)) ∧
  (∀ (n d : Nat) (L : List (Option iV)) (st : List iV) (h : iH) (Q : Option iV → iH → Prop), G sp sc [41, 93] d mX12_valley (n + 1) 121 L st h Q = (match ld L 0 with | some (.inr (.inr (r + 1))) => G sp sc [41, 93] d mX12_valley n 122 L (.inr (.inr (r + 1)) :: st) h Q | _ => False)) ∧
  (∀ (n d : Nat) (L : List (Option iV)) (r : List iV) (m : Nat) (h : iH) (Q : Option iV → iH → Prop), G sp sc [41, 93] (d + 1) mX12_valley (n + 1) 122 L (.inr (.inr (m + 2)) :: r) h Q = (match h.1[m]? with | some (.inl (ci, _)) => (match lkC 12 187 ci with | some (y1, n1, kd) => (n1 = 0 ∧ (kd = 2 ∨ kd = 3 ∨ kd = 8) ∧ cs r ≤ 8) ∧ Call sp sc d y1 [.inr (.inr (m + 2))] h (fun q h1 => GC sp sc [41, 93] (d + 1) mX12_valley n 125 L q r h h1 Q) | none => False) | _ => False)) ∧
  (∀ (n d : Nat) (L : List (Option iV)) (r : List iV) (x : Int) (h : iH) (Q : Option iV → iH → Prop), G sp sc [41, 93] d mX12_valley (n + 1) 125 L (.inl x :: r) h Q = (match st1 L 7 (.inl x) with | some L' => G sp sc [41, 93] d mX12_valley n 127 L' r h Q | none => False)) ∧
  (∀ (n d : Nat) (L : List (Option iV)) (st : List iV) (h : iH) (Q : Option iV → iH → Prop), G sp sc [41, 93] d mX12_valley (n + 1) 127 L st h Q = (match ld L 0 with | some (.inr (.inr (r + 1))) => G sp sc [41, 93] d mX12_valley n 128 L (.inr (.inr (r + 1)) :: st) h Q | _ => False)) ∧
  (∀ (n d : Nat) (L : List (Option iV)) (st : List iV) (h : iH) (Q : Option iV → iH → Prop), G sp sc [41, 93] d mX12_valley (n + 1) 128 L st h Q = (match ld L 6 with | some (.inl x) => G sp sc [41, 93] d mX12_valley n 130 L (.inl x :: st) h Q | _ => False)) ∧
  (∀ (n d : Nat) (L : List (Option iV)) (r : List iV) (m : Nat) (z0 : iV) (h : iH) (Q : Option iV → iH → Prop), G sp sc [41, 93] (d + 1) mX12_valley (n + 1) 130 L (z0 :: .inr (.inr (m + 2)) :: r) h Q = (match h.1[m]? with | some (.inl (ci, _)) => (match lkC 12 191 ci with | some (y1, n1, kd) => (n1 = 1 ∧ (kd = 2 ∨ kd = 3 ∨ kd = 8) ∧ cs r ≤ 8) ∧ Call sp sc d y1 [.inr (.inr (m + 2)), z0] h (fun q h1 => GC sp sc [41, 93] (d + 1) mX12_valley n 133 L q r h h1 Q) | none => False) | _ => False)) ∧
  (∀ (n d : Nat) (L : List (Option iV)) (a : Int) (r : List iV) (h : iH) (Q : Option iV → iH → Prop), G sp sc [41, 93] d mX12_valley (n + 1) 133 L (.inl a :: r) h Q = (inI a = true ∧ (a = 0 → G sp sc [41, 93] d mX12_valley n 139 L r h Q) ∧ (¬ (a = 0) → G sp sc [41, 93] d mX12_valley n 136 L r h Q))) ∧
  (∀ (n d : Nat) (L : List (Option iV)) (st : List iV) (h : iH) (Q : Option iV → iH → Prop), G sp sc [41, 93] d mX12_valley (n + 1) 136 L st h Q = Run sp sc d mX12_valley 93 L st h Q) ∧
  (∀ (n d : Nat) (L : List (Option iV)) (st : List iV) (h : iH) (Q : Option iV → iH → Prop), G sp sc [41, 93] d mX12_valley (n + 1) 139 L st h Q = ((-32768 ≤ ((-2000) : Int) ∧ ((-2000) : Int) < 32768) ∧ G sp sc [41, 93] d mX12_valley n 142 L (.inl (-2000) :: st) h Q)) ∧
  (∀ (n d : Nat) (L : List (Option iV)) (st : List iV) (h : iH) (Q : Option iV → iH → Prop), G sp sc [41, 93] d mX12_valley (n + 1) 142 L st h Q = (match ld L 5 with | some (.inl x) => G sp sc [41, 93] d mX12_valley n 144 L (.inl x :: st) h Q | _ => False)) ∧
  (∀ (n d : Nat) (L : List (Option iV)) (a : Int) (b : Int) (r : List iV) (h : iH) (Q : Option iV → iH → Prop), G sp sc [41, 93] d mX12_valley (n + 1) 144 L (.inl b :: .inl a :: r) h Q = G sp sc [41, 93] d mX12_valley n 145 L (.inl (a - b) :: r) h Q) ∧
  (∀ (n d : Nat) (L : List (Option iV)) (r : List iV) (x : Int) (h : iH) (Q : Option iV → iH → Prop), G sp sc [41, 93] d mX12_valley (n + 1) 145 L (.inl x :: r) h Q = (match st1 L 4 (.inl x) with | some L' => G sp sc [41, 93] d mX12_valley n 147 L' r h Q | none => False)) ∧
  (∀ (n d : Nat) (L : List (Option iV)) (st : List iV) (h : iH) (Q : Option iV → iH → Prop), G sp sc [41, 93] d mX12_valley (n + 1) 147 L st h Q = (match ld L 0 with | some (.inr (.inr (r + 1))) => G sp sc [41, 93] d mX12_valley n 148 L (.inr (.inr (r + 1)) :: st) h Q | _ => False)) ∧
  (∀ (n d : Nat) (L : List (Option iV)) (r : List iV) (m : Nat) (h : iH) (Q : Option iV → iH → Prop), G sp sc [41, 93] d mX12_valley (n + 1) 148 L (.inr (.inr (m + 2)) :: r) h Q = (match h.1[m]? with | some (.inl (ci, fs)) => (match lkF 12 19 ci with | some k => (match fs[k]? with | some v => G sp sc [41, 93] d mX12_valley n 151 L (v :: r) h Q | none => False) | none => False) | _ => False)) ∧
  (∀ (n d : Nat) (L : List (Option iV)) (st : List iV) (h : iH) (Q : Option iV → iH → Prop), G sp sc [41, 93] d mX12_valley (n + 1) 151 L st h Q = (match ld L 0 with | some (.inr (.inr (r + 1))) => G sp sc [41, 93] d mX12_valley n 152 L (.inr (.inr (r + 1)) :: st) h Q | _ => False)) ∧
  (∀ (n d : Nat) (L : List (Option iV)) (r : List iV) (m : Nat) (h : iH) (Q : Option iV → iH → Prop), G sp sc [41, 93] d mX12_valley (n + 1) 152 L (.inr (.inr (m + 2)) :: r) h Q = (match h.1[m]? with | some (.inl (ci, fs)) => (match lkF 12 9 ci with | some k => (match fs[k]? with | some v => G sp sc [41, 93] d mX12_valley n 155 L (v :: r) h Q | none => False) | none => False) | _ => False)) ∧
  (∀ (n d : Nat) (L : List (Option iV)) (r : List iV) (z0 : iV) (z1 : iV) (h : iH) (Q : Option iV → iH → Prop), G sp sc [41, 93] (d + 1) mX12_valley (n + 1) 155 L (z1 :: z0 :: r) h Q = (cs r ≤ 8 ∧ Call sp sc d mX12_lays [z0, z1] h (fun q h1 => GC sp sc [41, 93] (d + 1) mX12_valley n 158 L q r h h1 Q))) ∧
  (∀ (n d : Nat) (L : List (Option iV)) (st : List iV) (h : iH) (Q : Option iV → iH → Prop), G sp sc [41, 93] d mX12_valley (n + 1) 158 L st h Q = Run sp sc d mX12_valley 93 L st h Q) ∧
  (∀ (n d : Nat) (L : List (Option iV)) (st : List iV) (h : iH) (Q : Option iV → iH → Prop), G sp sc [41, 93] d mX12_valley (n + 1) 161 L st h Q = (match ld L 4 with | some (.inl x) => G sp sc [41, 93] d mX12_valley n 163 L (.inl x :: st) h Q | _ => False)) ∧
  (∀ (n d : Nat) (L : List (Option iV)) (a : Int) (r : List iV) (h : iH) (Q : Option iV → iH → Prop), G sp sc [41, 93] d mX12_valley (n + 1) 163 L (.inl a :: r) h Q = (inI a = true ∧ (¬ a = 0 → G sp sc [41, 93] d mX12_valley n 170 L r h Q) ∧ (¬ (¬ a = 0) → G sp sc [41, 93] d mX12_valley n 166 L r h Q))) ∧
  (∀ (n d : Nat) (L : List (Option iV)) (st : List iV) (h : iH) (Q : Option iV → iH → Prop), G sp sc [41, 93] d mX12_valley (n + 1) 166 L st h Q = (match ld L 3 with | some (.inl x) => G sp sc [41, 93] d mX12_valley n 167 L (.inl x :: st) h Q | _ => False)) ∧
  (∀ (n d : Nat) (L : List (Option iV)) (st : List iV) (h : iH) (Q : Option iV → iH → Prop), G sp sc [41, 93] d mX12_valley (n + 1) 167 L st h Q = G sp sc [41, 93] d mX12_valley n 172 L st h Q) ∧
  (∀ (n d : Nat) (L : List (Option iV)) (st : List iV) (h : iH) (Q : Option iV → iH → Prop), G sp sc [41, 93] d mX12_valley (n + 1) 170 L st h Q = (match ld L 4 with | some (.inl x) => G sp sc [41, 93] d mX12_valley n 172 L (.inl x :: st) h Q | _ => False)) ∧
  (∀ (n d : Nat) (L : List (Option iV)) (a : Int) (h : iH) (Q : Option iV → iH → Prop), G sp sc [41, 93] d mX12_valley (n + 1) 172 L [.inl a] h Q = Q (some (.inl a)) h) ∧
  lkC 12 165 12 = some (mX12_here, 0, 2) ∧
  lkC 12 184 12 = some (mX12_wrongRow, 2, 2) ∧
  lkC 12 187 12 = some (mX12_readsStatement, 0, 2) ∧
  lkC 12 191 12 = some (mX12_isDone, 1, 2) ∧
  lkF 12 156 12 = some 12 ∧
  lkF 12 159 12 = some 14 ∧
  lkF 12 162 12 = some 13 ∧
  lkF 12 19 12 = some 3 ∧
  lkF 12 61 12 = some 30 ∧
  lkF 12 9 12 = some 0 ∧
  pOK 12 false 12 12 = true ∧
  pOK 12 false 12 13 = true ∧
  pOK 12 false 12 14 = true := ⟨by intros; exact G_at (by decide +kernel : fetch mX12_valley 0 = some (.aload_n 0)),
  by intros; exact G_at (by decide +kernel : fetch mX12_valley 1 = some (.iload_n 1)),
  by intros; exact G_at (by decide +kernel : fetch mX12_valley 2 = some (.iconst 0)),
  by intros; exact G_callV (by decide +kernel : fetch mX12_valley 3 = some (.invokevirtual 184)) (by decide +kernel) (by decide +kernel) rfl,
  by intros; exact G_at (by decide +kernel : fetch mX12_valley 6 = some (.istore_n 2)),
  by intros; exact G_at (by decide +kernel : fetch mX12_valley 7 = some (.iload_n 2)),
  by intros; exact G_at (by decide +kernel : fetch mX12_valley 8 = some (.ifCond .eq 5)),
  by intros; exact G_at (by decide +kernel : fetch mX12_valley 11 = some (.iload_n 2)),
  by intros; exact G_reti (by decide +kernel : fetch mX12_valley 12 = some (.ireturn)) (by decide +kernel),
  by intros; exact G_at (by decide +kernel : fetch mX12_valley 13 = some (.aload_n 0)),
  by intros; exact G_at (by decide +kernel : fetch mX12_valley 14 = some (.bipush 100)),
  by intros; exact G_at (by decide +kernel : fetch mX12_valley 16 = some (.iload_n 1)),
  by intros; exact G_at (by decide +kernel : fetch mX12_valley 17 = some (.imul)),
  by intros; exact G_ownW (by decide +kernel : fetch mX12_valley 18 = some (.putfield 162)) (by decide +kernel) (by decide +kernel),
  by intros; exact G_at (by decide +kernel : fetch mX12_valley 21 = some (.aload_n 0)),
  by intros; exact G_at (by decide +kernel : fetch mX12_valley 22 = some (.aload_n 0)),
  by intros; exact G_own (by decide +kernel : fetch mX12_valley 23 = some (.getfield 61)) (by decide +kernel),
  by intros; exact G_at (by decide +kernel : fetch mX12_valley 26 = some (.iload_n 1)),
  by intros; exact G_at (by decide +kernel : fetch mX12_valley 27 = some (.iaload)),
  by intros; exact G_ownW (by decide +kernel : fetch mX12_valley 28 = some (.putfield 159)) (by decide +kernel) (by decide +kernel),
  by intros; exact G_at (by decide +kernel : fetch mX12_valley 31 = some (.aload_n 0)),
  by intros; exact G_at (by decide +kernel : fetch mX12_valley 32 = some (.iconst 0)),
  by intros; exact G_ownW (by decide +kernel : fetch mX12_valley 33 = some (.putfield 156)) (by decide +kernel) (by decide +kernel),
  by intros; exact G_at (by decide +kernel : fetch mX12_valley 36 = some (.iconst 0)),
  by intros; exact G_at (by decide +kernel : fetch mX12_valley 37 = some (.istore_n 3)),
  by intros; exact G_at (by decide +kernel : fetch mX12_valley 38 = some (.iconst 0)),
  by intros; exact G_at (by decide +kernel : fetch mX12_valley 39 = some (.istore 4)),
  by intros; exact G_at (by decide +kernel : fetch mX12_valley 41 = some (.aload_n 0)),
  by intros; exact G_callV (by decide +kernel : fetch mX12_valley 42 = some (.invokevirtual 187)) (by decide +kernel) (by decide +kernel) rfl,
  by intros; exact G_at (by decide +kernel : fetch mX12_valley 45 = some (.ifCond .ne 13)),
  by intros; exact G_at (by decide +kernel : fetch mX12_valley 48 = some (.sipush (-1000))),
  by intros; exact G_at (by decide +kernel : fetch mX12_valley 51 = some (.aload_n 0)),
  by intros; exact G_own (by decide +kernel : fetch mX12_valley 52 = some (.getfield 156)) (by decide +kernel),
  by intros; exact G_at (by decide +kernel : fetch mX12_valley 55 = some (.isub)),
  by intros; exact G_at (by decide +kernel : fetch mX12_valley 56 = some (.istore 4)),
  by intros; exact G_at (by decide +kernel : fetch mX12_valley 58 = some (.iinc 3 1)),
  by intros; exact G_at (by decide +kernel : fetch mX12_valley 61 = some (.iload 4)),
  by intros; exact G_at (by decide +kernel : fetch mX12_valley 63 = some (.ifCond .ne 14)),
  by intros; exact G_at (by decide +kernel : fetch mX12_valley 66 = some (.aload_n 0)),
  by intros; exact G_own (by decide +kernel : fetch mX12_valley 67 = some (.getfield 156)) (by decide +kernel),
  by intros; exact G_at (by decide +kernel : fetch mX12_valley 70 = some (.aload_n 0)),
  by intros; exact G_own (by decide +kernel : fetch mX12_valley 71 = some (.getfield 159)) (by decide +kernel),
  by intros; exact G_at (by decide +kernel : fetch mX12_valley 74 = some (.if_icmp .lt (-33))),
  by intros; exact G_at (by decide +kernel : fetch mX12_valley 77 = some (.aload_n 0)),
  by intros; exact G_own (by decide +kernel : fetch mX12_valley 78 = some (.getfield 9)) (by decide +kernel),
  by intros; exact G_at (by decide +kernel : fetch mX12_valley 81 = some (.aload_n 0)),
  by intros; exact G_own (by decide +kernel : fetch mX12_valley 82 = some (.getfield 19)) (by decide +kernel),
  by intros; exact G_callS (k := 2) (kd := 0) (by decide +kernel : fetch mX12_valley 85 = some (.invokestatic 145)) (by decide +kernel) (by decide +kernel) (by decide +kernel) rfl (by decide),
  by intros; exact G_at (by decide +kernel : fetch mX12_valley 88 = some (.aload_n 0)),
  by intros; exact G_at (by decide +kernel : fetch mX12_valley 89 = some (.iconst 0)),
  by intros; exact G_ownW (by decide +kernel : fetch mX12_valley 90 = some (.putfield 156)) (by decide +kernel) (by decide +kernel),
  by intros; exact G_at (by decide +kernel : fetch mX12_valley 93 = some (.iload 4)),
  by intros; exact G_at (by decide +kernel : fetch mX12_valley 95 = some (.ifCond .ne 66)),
  by intros; exact G_at (by decide +kernel : fetch mX12_valley 98 = some (.aload_n 0)),
  by intros; exact G_own (by decide +kernel : fetch mX12_valley 99 = some (.getfield 156)) (by decide +kernel),
  by intros; exact G_at (by decide +kernel : fetch mX12_valley 102 = some (.aload_n 0)),
  by intros; exact G_own (by decide +kernel : fetch mX12_valley 103 = some (.getfield 159)) (by decide +kernel),
  by intros; exact G_at (by decide +kernel : fetch mX12_valley 106 = some (.if_icmp .ge 55)),
  by intros; exact G_at (by decide +kernel : fetch mX12_valley 109 = some (.aload_n 0)),
  by intros; exact G_own (by decide +kernel : fetch mX12_valley 110 = some (.getfield 156)) (by decide +kernel),
  by intros; exact G_at (by decide +kernel : fetch mX12_valley 113 = some (.istore 5)),
  by intros; exact G_at (by decide +kernel : fetch mX12_valley 115 = some (.aload_n 0)),
  by intros; exact G_callV (by decide +kernel : fetch mX12_valley 116 = some (.invokevirtual 165)) (by decide +kernel) (by decide +kernel) rfl,
  by intros; exact G_at (by decide +kernel : fetch mX12_valley 119 = some (.istore 6)),
  by intros; exact G_at (by decide +kernel : fetch mX12_valley 121 = some (.aload_n 0)),
  by intros; exact G_callV (by decide +kernel : fetch mX12_valley 122 = some (.invokevirtual 187)) (by decide +kernel) (by decide +kernel) rfl,
  by intros; exact G_at (by decide +kernel : fetch mX12_valley 125 = some (.istore 7)),
  by intros; exact G_at (by decide +kernel : fetch mX12_valley 127 = some (.aload_n 0)),
  by intros; exact G_at (by decide +kernel : fetch mX12_valley 128 = some (.iload 6)),
  by intros; exact G_callV (by decide +kernel : fetch mX12_valley 130 = some (.invokevirtual 191)) (by decide +kernel) (by decide +kernel) rfl,
  by intros; exact G_at (by decide +kernel : fetch mX12_valley 133 = some (.ifCond .eq 6)),
  by intros; exact G_at (by decide +kernel : fetch mX12_valley 136 = some (.goto (-43))),
  by intros; exact G_at (by decide +kernel : fetch mX12_valley 139 = some (.sipush (-2000))),
  by intros; exact G_at (by decide +kernel : fetch mX12_valley 142 = some (.iload 5)),
  by intros; exact G_at (by decide +kernel : fetch mX12_valley 144 = some (.isub)),
  by intros; exact G_at (by decide +kernel : fetch mX12_valley 145 = some (.istore 4)),
  by intros; exact G_at (by decide +kernel : fetch mX12_valley 147 = some (.aload_n 0)),
  by intros; exact G_own (by decide +kernel : fetch mX12_valley 148 = some (.getfield 19)) (by decide +kernel),
  by intros; exact G_at (by decide +kernel : fetch mX12_valley 151 = some (.aload_n 0)),
  by intros; exact G_own (by decide +kernel : fetch mX12_valley 152 = some (.getfield 9)) (by decide +kernel),
  by intros; exact G_callS (k := 2) (kd := 0) (by decide +kernel : fetch mX12_valley 155 = some (.invokestatic 145)) (by decide +kernel) (by decide +kernel) (by decide +kernel) rfl (by decide),
  by intros; exact G_at (by decide +kernel : fetch mX12_valley 158 = some (.goto (-65))),
  by intros; exact G_at (by decide +kernel : fetch mX12_valley 161 = some (.iload 4)),
  by intros; exact G_at (by decide +kernel : fetch mX12_valley 163 = some (.ifCond .ne 7)),
  by intros; exact G_at (by decide +kernel : fetch mX12_valley 166 = some (.iload_n 3)),
  by intros; exact G_at (by decide +kernel : fetch mX12_valley 167 = some (.goto 5)),
  by intros; exact G_at (by decide +kernel : fetch mX12_valley 170 = some (.iload 4)),
  by intros; exact G_reti (by decide +kernel : fetch mX12_valley 172 = some (.ireturn)) (by decide +kernel),
  by decide +kernel,
  by decide +kernel,
  by decide +kernel,
  by decide +kernel,
  by decide +kernel,
  by decide +kernel,
  by decide +kernel,
  by decide +kernel,
  by decide +kernel,
  by decide +kernel,
  by decide +kernel,
  by decide +kernel,
  by decide +kernel⟩
theorem gX12_orNone : (∀ (n d : Nat) (L : List (Option iV)) (st : List iV) (h : iH) (Q : Option iV → iH → Prop), G sp sc [] d mX12_orNone (n + 1) 0 L st h Q = (match ld L 0 with | some (.inl x) => G sp sc [] d mX12_orNone n 1 L (.inl x :: st) h Q | _ => False)) ∧
  (∀ (n d : Nat) (L : List (Option iV)) (a : Int) (r : List iV) (h : iH) (Q : Option iV → iH → Prop), G sp sc [] d mX12_orNone (n + 1) 1 L (.inl a :: r) h Q = (inI a = true ∧ (0 ≤ a → G sp sc [] d mX12_orNone n 9 L r h Q) ∧ (¬ (0 ≤ a) → G sp sc [] d mX12_orNone n 4 L r h Q))) ∧
  (∀ (n d : Nat) (L : List (Option iV)) (st : List iV) (h : iH) (Q : Option iV → iH → Prop), G sp sc [] d mX12_orNone (n + 1) 4 L st h Q = ((-128 ≤ ((-4) : Int) ∧ ((-4) : Int) < 128) ∧ G sp sc [] d mX12_orNone n 6 L (.inl (-4) :: st) h Q)) ∧
  (∀ (n d : Nat) (L : List (Option iV)) (st : List iV) (h : iH) (Q : Option iV → iH → Prop), G sp sc [] d mX12_orNone (n + 1) 6 L st h Q = G sp sc [] d mX12_orNone n 10 L st h Q) ∧
  (∀ (n d : Nat) (L : List (Option iV)) (st : List iV) (h : iH) (Q : Option iV → iH → Prop), G sp sc [] d mX12_orNone (n + 1) 9 L st h Q = (match ld L 0 with | some (.inl x) => G sp sc [] d mX12_orNone n 10 L (.inl x :: st) h Q | _ => False)) ∧
  (∀ (n d : Nat) (L : List (Option iV)) (a : Int) (h : iH) (Q : Option iV → iH → Prop), G sp sc [] d mX12_orNone (n + 1) 10 L [.inl a] h Q = Q (some (.inl a)) h) := ⟨by intros; exact G_at (by decide +kernel : fetch mX12_orNone 0 = some (.iload_n 0)),
  by intros; exact G_at (by decide +kernel : fetch mX12_orNone 1 = some (.ifCond .ge 8)),
  by intros; exact G_at (by decide +kernel : fetch mX12_orNone 4 = some (.bipush (-4))),
  by intros; exact G_at (by decide +kernel : fetch mX12_orNone 6 = some (.goto 4)),
  by intros; exact G_at (by decide +kernel : fetch mX12_orNone 9 = some (.iload_n 0)),
  by intros; exact G_reti (by decide +kernel : fetch mX12_orNone 10 = some (.ireturn)) (by decide +kernel)⟩
theorem gX12_one : (∀ (n d : Nat) (L : List (Option iV)) (st : List iV) (h : iH) (Q : Option iV → iH → Prop), G sp sc [] d mX12_one (n + 1) 0 L st h Q = (match ld L 0 with | some (.inr (.inr (r + 1))) => G sp sc [] d mX12_one n 1 L (.inr (.inr (r + 1)) :: st) h Q | _ => False)) ∧
  (∀ (n d : Nat) (L : List (Option iV)) (st : List iV) (h : iH) (Q : Option iV → iH → Prop), G sp sc [] d mX12_one (n + 1) 1 L st h Q = (match ld L 1 with | some (.inl x) => G sp sc [] d mX12_one n 2 L (.inl x :: st) h Q | _ => False)) ∧
  (∀ (n d : Nat) (L : List (Option iV)) (st : List iV) (h : iH) (Q : Option iV → iH → Prop), G sp sc [] d mX12_one (n + 1) 2 L st h Q = (match ld L 2 with | some (.inl x) => G sp sc [] d mX12_one n 3 L (.inl x :: st) h Q | _ => False)) ∧
  (∀ (n d : Nat) (L : List (Option iV)) (r : List iV) (m : Nat) (z0 : iV) (z1 : iV) (h : iH) (Q : Option iV → iH → Prop), G sp sc [] (d + 1) mX12_one (n + 1) 3 L (z1 :: z0 :: .inr (.inr (m + 2)) :: r) h Q = (match h.1[m]? with | some (.inl (ci, _)) => (match lkC 12 175 ci with | some (y1, n1, kd) => (n1 = 2 ∧ (kd = 2 ∨ kd = 3 ∨ kd = 8) ∧ cs r ≤ 8) ∧ Call sp sc d y1 [.inr (.inr (m + 2)), z0, z1] h (fun q h1 => GC sp sc [] (d + 1) mX12_one n 6 L q r h h1 Q) | none => False) | _ => False)) ∧
  (∀ (n d : Nat) (L : List (Option iV)) (a : Int) (r : List iV) (h : iH) (Q : Option iV → iH → Prop), G sp sc [] d mX12_one (n + 1) 6 L (.inl a :: r) h Q = (inI a = true ∧ (a = 0 → G sp sc [] d mX12_one n 18 L r h Q) ∧ (¬ (a = 0) → G sp sc [] d mX12_one n 9 L r h Q))) ∧
  (∀ (n d : Nat) (L : List (Option iV)) (st : List iV) (h : iH) (Q : Option iV → iH → Prop), G sp sc [] d mX12_one (n + 1) 9 L st h Q = (match ld L 3 with | some (.inl x) => G sp sc [] d mX12_one n 10 L (.inl x :: st) h Q | _ => False)) ∧
  (∀ (n d : Nat) (L : List (Option iV)) (st : List iV) (h : iH) (Q : Option iV → iH → Prop), G sp sc [] d mX12_one (n + 1) 10 L st h Q = G sp sc [] d mX12_one n 11 L (.inl 0 :: st) h Q) ∧
  (∀ (n d : Nat) (L : List (Option iV)) (st : List iV) (h : iH) (Q : Option iV → iH → Prop), G sp sc [] d mX12_one (n + 1) 11 L st h Q = G sp sc [] d mX12_one n 12 L (.inl 4 :: st) h Q) ∧
  (∀ (n d : Nat) (L : List (Option iV)) (r : List iV) (z0 : iV) (z1 : iV) (z2 : iV) (h : iH) (Q : Option iV → iH → Prop), G sp sc [] (d + 1) mX12_one (n + 1) 12 L (z2 :: z1 :: z0 :: r) h Q = (cs r ≤ 8 ∧ Call sp sc d mX12_isIn [z0, z1, z2] h (fun q h1 => GC sp sc [] (d + 1) mX12_one n 15 L q r h h1 Q))) ∧
  (∀ (n d : Nat) (L : List (Option iV)) (a : Int) (r : List iV) (h : iH) (Q : Option iV → iH → Prop), G sp sc [] d mX12_one (n + 1) 15 L (.inl a :: r) h Q = (inI a = true ∧ (¬ a = 0 → G sp sc [] d mX12_one n 20 L r h Q) ∧ (¬ (¬ a = 0) → G sp sc [] d mX12_one n 18 L r h Q))) ∧
  (∀ (n d : Nat) (L : List (Option iV)) (st : List iV) (h : iH) (Q : Option iV → iH → Prop), G sp sc [] d mX12_one (n + 1) 18 L st h Q = G sp sc [] d mX12_one n 19 L (.inl (-1) :: st) h Q) ∧
  (∀ (n d : Nat) (L : List (Option iV)) (a : Int) (h : iH) (Q : Option iV → iH → Prop), G sp sc [] d mX12_one (n + 1) 19 L [.inl a] h Q = Q (some (.inl a)) h) ∧
  (∀ (n d : Nat) (L : List (Option iV)) (st : List iV) (h : iH) (Q : Option iV → iH → Prop), G sp sc [] d mX12_one (n + 1) 20 L st h Q = (match ld L 3 with | some (.inl x) => G sp sc [] d mX12_one n 21 L (.inl x :: st) h Q | _ => False)) ∧
  (∀ (n d : Nat) (L : List (Option iV)) (st : List iV) (h : iH) (Q : Option iV → iH → Prop), G sp sc [] d mX12_one (n + 1) 21 L st h Q = G sp sc [] d mX12_one n 22 L (.inl 3 :: st) h Q) ∧
  (∀ (n d : Nat) (L : List (Option iV)) (a : Int) (b : Int) (r : List iV) (h : iH) (Q : Option iV → iH → Prop), G sp sc [] d mX12_one (n + 1) 22 L (.inl b :: .inl a :: r) h Q = ((inI a = true ∧ inI b = true) ∧ (¬ a = b → G sp sc [] d mX12_one n 51 L r h Q) ∧ (¬ (¬ a = b) → G sp sc [] d mX12_one n 25 L r h Q))) ∧
  (∀ (n d : Nat) (L : List (Option iV)) (st : List iV) (h : iH) (Q : Option iV → iH → Prop), G sp sc [] d mX12_one (n + 1) 25 L st h Q = (match ld L 0 with | some (.inr (.inr (r + 1))) => G sp sc [] d mX12_one n 26 L (.inr (.inr (r + 1)) :: st) h Q | _ => False)) ∧
  (∀ (n d : Nat) (L : List (Option iV)) (r : List iV) (m : Nat) (h : iH) (Q : Option iV → iH → Prop), G sp sc [] d mX12_one (n + 1) 26 L (.inr (.inr (m + 2)) :: r) h Q = (match h.1[m]? with | some (.inl (ci, fs)) => (match lkF 12 9 ci with | some k => (match fs[k]? with | some v => G sp sc [] d mX12_one n 29 L (v :: r) h Q | none => False) | none => False) | _ => False)) ∧
  (∀ (n d : Nat) (L : List (Option iV)) (st : List iV) (h : iH) (Q : Option iV → iH → Prop), G sp sc [] d mX12_one (n + 1) 29 L st h Q = (match ld L 1 with | some (.inl x) => G sp sc [] d mX12_one n 30 L (.inl x :: st) h Q | _ => False)) ∧
  (∀ (n d : Nat) (L : List (Option iV)) (st : List iV) (h : iH) (Q : Option iV → iH → Prop), G sp sc [] d mX12_one (n + 1) 30 L st h Q = (match ld L 2 with | some (.inl x) => G sp sc [] d mX12_one n 31 L (.inl x :: st) h Q | _ => False)) ∧
  (∀ (n d : Nat) (L : List (Option iV)) (st : List iV) (h : iH) (Q : Option iV → iH → Prop), G sp sc [] d mX12_one (n + 1) 31 L st h Q = G sp sc [] d mX12_one n 32 L (.inl 0 :: st) h Q) ∧
  (∀ (n d : Nat) (L : List (Option iV)) (r : List iV) (z0 : iV) (z1 : iV) (z2 : iV) (h : iH) (Q : Option iV → iH → Prop), G sp sc [] (d + 1) mX12_one (n + 1) 32 L (z2 :: z1 :: z0 :: r) h Q = (cs r ≤ 8 ∧ Call sp sc d mX12_atOne [z0, z1, z2] h (fun q h1 => GC sp sc [] (d + 1) mX12_one n 35 L q r h h1 Q))) ∧
  (∀ (n d : Nat) (L : List (Option iV)) (r : List iV) (j : Int) (m : Nat) (h : iH) (Q : Option iV → iH → Prop), G sp sc [] d mX12_one (n + 1) 35 L (.inl j :: .inr (.inr (m + 2)) :: r) h Q = (match h.1[m]? with | some (.inr (.inl (0, xs))) => inA j xs.length = true ∧ G sp sc [] d mX12_one n 36 L (.inl (xs.getD j.toNat 0) :: r) h Q | _ => False)) ∧
  (∀ (n d : Nat) (L : List (Option iV)) (st : List iV) (h : iH) (Q : Option iV → iH → Prop), G sp sc [] d mX12_one (n + 1) 36 L st h Q = (match ld L 0 with | some (.inr (.inr (r + 1))) => G sp sc [] d mX12_one n 37 L (.inr (.inr (r + 1)) :: st) h Q | _ => False)) ∧
  (∀ (n d : Nat) (L : List (Option iV)) (r : List iV) (m : Nat) (h : iH) (Q : Option iV → iH → Prop), G sp sc [] d mX12_one (n + 1) 37 L (.inr (.inr (m + 2)) :: r) h Q = (match h.1[m]? with | some (.inl (ci, fs)) => (match lkF 12 9 ci with | some k => (match fs[k]? with | some v => G sp sc [] d mX12_one n 40 L (v :: r) h Q | none => False) | none => False) | _ => False)) ∧
  (∀ (n d : Nat) (L : List (Option iV)) (st : List iV) (h : iH) (Q : Option iV → iH → Prop), G sp sc [] d mX12_one (n + 1) 40 L st h Q = (match ld L 1 with | some (.inl x) => G sp sc [] d mX12_one n 41 L (.inl x :: st) h Q | _ => False)) ∧
  (∀ (n d : Nat) (L : List (Option iV)) (st : List iV) (h : iH) (Q : Option iV → iH → Prop), G sp sc [] d mX12_one (n + 1) 41 L st h Q = (match ld L 2 with | some (.inl x) => G sp sc [] d mX12_one n 42 L (.inl x :: st) h Q | _ => False)) ∧
  (∀ (n d : Nat) (L : List (Option iV)) (st : List iV) (h : iH) (Q : Option iV → iH → Prop), G sp sc [] d mX12_one (n + 1) 42 L st h Q = G sp sc [] d mX12_one n 43 L (.inl 1 :: st) h Q) ∧
  (∀ (n d : Nat) (L : List (Option iV)) (r : List iV) (z0 : iV) (z1 : iV) (z2 : iV) (h : iH) (Q : Option iV → iH → Prop), G sp sc [] (d + 1) mX12_one (n + 1) 43 L (z2 :: z1 :: z0 :: r) h Q = (cs r ≤ 8 ∧ Call sp sc d mX12_atOne [z0, z1, z2] h (fun q h1 => GC sp sc [] (d + 1) mX12_one n 46 L q r h h1 Q))) ∧
  (∀ (n d : Nat) (L : List (Option iV)) (r : List iV) (j : Int) (m : Nat) (h : iH) (Q : Option iV → iH → Prop), G sp sc [] d mX12_one (n + 1) 46 L (.inl j :: .inr (.inr (m + 2)) :: r) h Q = (match h.1[m]? with | some (.inr (.inl (0, xs))) => inA j xs.length = true ∧ G sp sc [] d mX12_one n 47 L (.inl (xs.getD j.toNat 0) :: r) h Q | _ => False)) ∧
  (∀ (n d : Nat) (L : List (Option iV)) (r : List iV) (z0 : iV) (z1 : iV) (h : iH) (Q : Option iV → iH → Prop), G sp sc [] (d + 1) mX12_one (n + 1) 47 L (z1 :: z0 :: r) h Q = (cs r ≤ 8 ∧ Call sp sc d mX12_sulksBy [z0, z1] h (fun q h1 => GC sp sc [] (d + 1) mX12_one n 50 L q r h h1 Q))) ∧
  (∀ (n d : Nat) (L : List (Option iV)) (a : Int) (h : iH) (Q : Option iV → iH → Prop), G sp sc [] d mX12_one (n + 1) 50 L [.inl a] h Q = Q (some (.inl a)) h) ∧
  (∀ (n d : Nat) (L : List (Option iV)) (st : List iV) (h : iH) (Q : Option iV → iH → Prop), G sp sc [] d mX12_one (n + 1) 51 L st h Q = (match ld L 0 with | some (.inr (.inr (r + 1))) => G sp sc [] d mX12_one n 52 L (.inr (.inr (r + 1)) :: st) h Q | _ => False)) ∧
  (∀ (n d : Nat) (L : List (Option iV)) (r : List iV) (m : Nat) (h : iH) (Q : Option iV → iH → Prop), G sp sc [] d mX12_one (n + 1) 52 L (.inr (.inr (m + 2)) :: r) h Q = (match h.1[m]? with | some (.inl (ci, fs)) => (match lkF 12 9 ci with | some k => (match fs[k]? with | some v => G sp sc [] d mX12_one n 55 L (v :: r) h Q | none => False) | none => False) | _ => False)) ∧
  (∀ (n d : Nat) (L : List (Option iV)) (st : List iV) (h : iH) (Q : Option iV → iH → Prop), G sp sc [] d mX12_one (n + 1) 55 L st h Q = (match ld L 1 with | some (.inl x) => G sp sc [] d mX12_one n 56 L (.inl x :: st) h Q | _ => False)) ∧
  (∀ (n d : Nat) (L : List (Option iV)) (st : List iV) (h : iH) (Q : Option iV → iH → Prop), G sp sc [] d mX12_one (n + 1) 56 L st h Q = (match ld L 2 with | some (.inl x) => G sp sc [] d mX12_one n 57 L (.inl x :: st) h Q | _ => False)) ∧
  (∀ (n d : Nat) (L : List (Option iV)) (st : List iV) (h : iH) (Q : Option iV → iH → Prop), G sp sc [] d mX12_one (n + 1) 57 L st h Q = (match ld L 3 with | some (.inl x) => G sp sc [] d mX12_one n 58 L (.inl x :: st) h Q | _ => False)) ∧
  (∀ (n d : Nat) (L : List (Option iV)) (st : List iV) (h : iH) (Q : Option iV → iH → Prop), G sp sc [] d mX12_one (n + 1) 58 L st h Q = G sp sc [] d mX12_one n 59 L (.inl 4 :: st) h Q) ∧
  (∀ (n d : Nat) (L : List (Option iV)) (a : Int) (b : Int) (r : List iV) (h : iH) (Q : Option iV → iH → Prop), G sp sc [] d mX12_one (n + 1) 59 L (.inl b :: .inl a :: r) h Q = ((inI a = true ∧ inI b = true) ∧ (¬ a = b → G sp sc [] d mX12_one n 66 L r h Q) ∧ (¬ (¬ a = b) → G sp sc [] d mX12_one n 62 L r h Q))) ∧
  (∀ (n d : Nat) (L : List (Option iV)) (st : List iV) (h : iH) (Q : Option iV → iH → Prop), G sp sc [] d mX12_one (n + 1) 62 L st h Q = G sp sc [] d mX12_one n 63 L (.inl 3 :: st) h Q) ∧
  (∀ (n d : Nat) (L : List (Option iV)) (st : List iV) (h : iH) (Q : Option iV → iH → Prop), G sp sc [] d mX12_one (n + 1) 63 L st h Q = G sp sc [] d mX12_one n 67 L st h Q) ∧
  (∀ (n d : Nat) (L : List (Option iV)) (st : List iV) (h : iH) (Q : Option iV → iH → Prop), G sp sc [] d mX12_one (n + 1) 66 L st h Q = (match ld L 3 with | some (.inl x) => G sp sc [] d mX12_one n 67 L (.inl x :: st) h Q | _ => False)) ∧
  (∀ (n d : Nat) (L : List (Option iV)) (r : List iV) (z0 : iV) (z1 : iV) (z2 : iV) (h : iH) (Q : Option iV → iH → Prop), G sp sc [] (d + 1) mX12_one (n + 1) 67 L (z2 :: z1 :: z0 :: r) h Q = (cs r ≤ 8 ∧ Call sp sc d mX12_atOne [z0, z1, z2] h (fun q h1 => GC sp sc [] (d + 1) mX12_one n 70 L q r h h1 Q))) ∧
  (∀ (n d : Nat) (L : List (Option iV)) (r : List iV) (j : Int) (m : Nat) (h : iH) (Q : Option iV → iH → Prop), G sp sc [] d mX12_one (n + 1) 70 L (.inl j :: .inr (.inr (m + 2)) :: r) h Q = (match h.1[m]? with | some (.inr (.inl (0, xs))) => inA j xs.length = true ∧ G sp sc [] d mX12_one n 71 L (.inl (xs.getD j.toNat 0) :: r) h Q | _ => False)) ∧
  (∀ (n d : Nat) (L : List (Option iV)) (r : List iV) (z0 : iV) (h : iH) (Q : Option iV → iH → Prop), G sp sc [] (d + 1) mX12_one (n + 1) 71 L (z0 :: r) h Q = (cs r ≤ 8 ∧ Call sp sc d mX12_orNone [z0] h (fun q h1 => GC sp sc [] (d + 1) mX12_one n 74 L q r h h1 Q))) ∧
  (∀ (n d : Nat) (L : List (Option iV)) (a : Int) (h : iH) (Q : Option iV → iH → Prop), G sp sc [] d mX12_one (n + 1) 74 L [.inl a] h Q = Q (some (.inl a)) h) ∧
  lkC 12 175 12 = some (mX12_isOne, 2, 2) ∧
  lkF 12 9 12 = some 0 := ⟨by intros; exact G_at (by decide +kernel : fetch mX12_one 0 = some (.aload_n 0)),
  by intros; exact G_at (by decide +kernel : fetch mX12_one 1 = some (.iload_n 1)),
  by intros; exact G_at (by decide +kernel : fetch mX12_one 2 = some (.iload_n 2)),
  by intros; exact G_callV (by decide +kernel : fetch mX12_one 3 = some (.invokevirtual 175)) (by decide +kernel) (by decide +kernel) rfl,
  by intros; exact G_at (by decide +kernel : fetch mX12_one 6 = some (.ifCond .eq 12)),
  by intros; exact G_at (by decide +kernel : fetch mX12_one 9 = some (.iload_n 3)),
  by intros; exact G_at (by decide +kernel : fetch mX12_one 10 = some (.iconst 0)),
  by intros; exact G_at (by decide +kernel : fetch mX12_one 11 = some (.iconst 4)),
  by intros; exact G_callS (k := 3) (kd := 0) (by decide +kernel : fetch mX12_one 12 = some (.invokestatic 67)) (by decide +kernel) (by decide +kernel) (by decide +kernel) rfl (by decide),
  by intros; exact G_at (by decide +kernel : fetch mX12_one 15 = some (.ifCond .ne 5)),
  by intros; exact G_at (by decide +kernel : fetch mX12_one 18 = some (.iconst (-1))),
  by intros; exact G_reti (by decide +kernel : fetch mX12_one 19 = some (.ireturn)) (by decide +kernel),
  by intros; exact G_at (by decide +kernel : fetch mX12_one 20 = some (.iload_n 3)),
  by intros; exact G_at (by decide +kernel : fetch mX12_one 21 = some (.iconst 3)),
  by intros; exact G_at (by decide +kernel : fetch mX12_one 22 = some (.if_icmp .ne 29)),
  by intros; exact G_at (by decide +kernel : fetch mX12_one 25 = some (.aload_n 0)),
  by intros; exact G_own (by decide +kernel : fetch mX12_one 26 = some (.getfield 9)) (by decide +kernel),
  by intros; exact G_at (by decide +kernel : fetch mX12_one 29 = some (.iload_n 1)),
  by intros; exact G_at (by decide +kernel : fetch mX12_one 30 = some (.iload_n 2)),
  by intros; exact G_at (by decide +kernel : fetch mX12_one 31 = some (.iconst 0)),
  by intros; exact G_callS (k := 3) (kd := 0) (by decide +kernel : fetch mX12_one 32 = some (.invokestatic 88)) (by decide +kernel) (by decide +kernel) (by decide +kernel) rfl (by decide),
  by intros; exact G_at (by decide +kernel : fetch mX12_one 35 = some (.iaload)),
  by intros; exact G_at (by decide +kernel : fetch mX12_one 36 = some (.aload_n 0)),
  by intros; exact G_own (by decide +kernel : fetch mX12_one 37 = some (.getfield 9)) (by decide +kernel),
  by intros; exact G_at (by decide +kernel : fetch mX12_one 40 = some (.iload_n 1)),
  by intros; exact G_at (by decide +kernel : fetch mX12_one 41 = some (.iload_n 2)),
  by intros; exact G_at (by decide +kernel : fetch mX12_one 42 = some (.iconst 1)),
  by intros; exact G_callS (k := 3) (kd := 0) (by decide +kernel : fetch mX12_one 43 = some (.invokestatic 88)) (by decide +kernel) (by decide +kernel) (by decide +kernel) rfl (by decide),
  by intros; exact G_at (by decide +kernel : fetch mX12_one 46 = some (.iaload)),
  by intros; exact G_callS (k := 2) (kd := 0) (by decide +kernel : fetch mX12_one 47 = some (.invokestatic 102)) (by decide +kernel) (by decide +kernel) (by decide +kernel) rfl (by decide),
  by intros; exact G_reti (by decide +kernel : fetch mX12_one 50 = some (.ireturn)) (by decide +kernel),
  by intros; exact G_at (by decide +kernel : fetch mX12_one 51 = some (.aload_n 0)),
  by intros; exact G_own (by decide +kernel : fetch mX12_one 52 = some (.getfield 9)) (by decide +kernel),
  by intros; exact G_at (by decide +kernel : fetch mX12_one 55 = some (.iload_n 1)),
  by intros; exact G_at (by decide +kernel : fetch mX12_one 56 = some (.iload_n 2)),
  by intros; exact G_at (by decide +kernel : fetch mX12_one 57 = some (.iload_n 3)),
  by intros; exact G_at (by decide +kernel : fetch mX12_one 58 = some (.iconst 4)),
  by intros; exact G_at (by decide +kernel : fetch mX12_one 59 = some (.if_icmp .ne 7)),
  by intros; exact G_at (by decide +kernel : fetch mX12_one 62 = some (.iconst 3)),
  by intros; exact G_at (by decide +kernel : fetch mX12_one 63 = some (.goto 4)),
  by intros; exact G_at (by decide +kernel : fetch mX12_one 66 = some (.iload_n 3)),
  by intros; exact G_callS (k := 3) (kd := 0) (by decide +kernel : fetch mX12_one 67 = some (.invokestatic 88)) (by decide +kernel) (by decide +kernel) (by decide +kernel) rfl (by decide),
  by intros; exact G_at (by decide +kernel : fetch mX12_one 70 = some (.iaload)),
  by intros; exact G_callS (k := 1) (kd := 0) (by decide +kernel : fetch mX12_one 71 = some (.invokestatic 195)) (by decide +kernel) (by decide +kernel) (by decide +kernel) rfl (by decide),
  by intros; exact G_reti (by decide +kernel : fetch mX12_one 74 = some (.ireturn)) (by decide +kernel),
  by decide +kernel,
  by decide +kernel⟩
theorem gX12_grows : (∀ (n d : Nat) (L : List (Option iV)) (st : List iV) (h : iH) (Q : Option iV → iH → Prop), G sp sc [] d mX12_grows (n + 1) 0 L st h Q = (match ld L 0 with | some (.inr (.inr (r + 1))) => G sp sc [] d mX12_grows n 1 L (.inr (.inr (r + 1)) :: st) h Q | _ => False)) ∧
  (∀ (n d : Nat) (L : List (Option iV)) (st : List iV) (h : iH) (Q : Option iV → iH → Prop), G sp sc [] d mX12_grows (n + 1) 1 L st h Q = (match ld L 1 with | some (.inl x) => G sp sc [] d mX12_grows n 2 L (.inl x :: st) h Q | _ => False)) ∧
  (∀ (n d : Nat) (L : List (Option iV)) (st : List iV) (h : iH) (Q : Option iV → iH → Prop), G sp sc [] d mX12_grows (n + 1) 2 L st h Q = (match ld L 2 with | some (.inl x) => G sp sc [] d mX12_grows n 3 L (.inl x :: st) h Q | _ => False)) ∧
  (∀ (n d : Nat) (L : List (Option iV)) (r : List iV) (m : Nat) (z0 : iV) (z1 : iV) (h : iH) (Q : Option iV → iH → Prop), G sp sc [] (d + 1) mX12_grows (n + 1) 3 L (z1 :: z0 :: .inr (.inr (m + 2)) :: r) h Q = (match h.1[m]? with | some (.inl (ci, _)) => (match lkC 12 175 ci with | some (y1, n1, kd) => (n1 = 2 ∧ (kd = 2 ∨ kd = 3 ∨ kd = 8) ∧ cs r ≤ 8) ∧ Call sp sc d y1 [.inr (.inr (m + 2)), z0, z1] h (fun q h1 => GC sp sc [] (d + 1) mX12_grows n 6 L q r h h1 Q) | none => False) | _ => False)) ∧
  (∀ (n d : Nat) (L : List (Option iV)) (a : Int) (r : List iV) (h : iH) (Q : Option iV → iH → Prop), G sp sc [] d mX12_grows (n + 1) 6 L (.inl a :: r) h Q = (inI a = true ∧ (a = 0 → G sp sc [] d mX12_grows n 56 L r h Q) ∧ (¬ (a = 0) → G sp sc [] d mX12_grows n 9 L r h Q))) ∧
  (∀ (n d : Nat) (L : List (Option iV)) (st : List iV) (h : iH) (Q : Option iV → iH → Prop), G sp sc [] d mX12_grows (n + 1) 9 L st h Q = (match ld L 3 with | some (.inl x) => G sp sc [] d mX12_grows n 10 L (.inl x :: st) h Q | _ => False)) ∧
  (∀ (n d : Nat) (L : List (Option iV)) (st : List iV) (h : iH) (Q : Option iV → iH → Prop), G sp sc [] d mX12_grows (n + 1) 10 L st h Q = G sp sc [] d mX12_grows n 11 L (.inl 0 :: st) h Q) ∧
  (∀ (n d : Nat) (L : List (Option iV)) (st : List iV) (h : iH) (Q : Option iV → iH → Prop), G sp sc [] d mX12_grows (n + 1) 11 L st h Q = G sp sc [] d mX12_grows n 12 L (.inl 1 :: st) h Q) ∧
  (∀ (n d : Nat) (L : List (Option iV)) (r : List iV) (z0 : iV) (z1 : iV) (z2 : iV) (h : iH) (Q : Option iV → iH → Prop), G sp sc [] (d + 1) mX12_grows (n + 1) 12 L (z2 :: z1 :: z0 :: r) h Q = (cs r ≤ 8 ∧ Call sp sc d mX12_isIn [z0, z1, z2] h (fun q h1 => GC sp sc [] (d + 1) mX12_grows n 15 L q r h h1 Q))) ∧
  (∀ (n d : Nat) (L : List (Option iV)) (a : Int) (r : List iV) (h : iH) (Q : Option iV → iH → Prop), G sp sc [] d mX12_grows (n + 1) 15 L (.inl a :: r) h Q = (inI a = true ∧ (a = 0 → G sp sc [] d mX12_grows n 56 L r h Q) ∧ (¬ (a = 0) → G sp sc [] d mX12_grows n 18 L r h Q))) ∧
  (∀ (n d : Nat) (L : List (Option iV)) (st : List iV) (h : iH) (Q : Option iV → iH → Prop), G sp sc [] d mX12_grows (n + 1) 18 L st h Q = (match ld L 0 with | some (.inr (.inr (r + 1))) => G sp sc [] d mX12_grows n 19 L (.inr (.inr (r + 1)) :: st) h Q | _ => False)) ∧
  (∀ (n d : Nat) (L : List (Option iV)) (r : List iV) (m : Nat) (h : iH) (Q : Option iV → iH → Prop), G sp sc [] d mX12_grows (n + 1) 19 L (.inr (.inr (m + 2)) :: r) h Q = (match h.1[m]? with | some (.inl (ci, fs)) => (match lkF 12 9 ci with | some k => (match fs[k]? with | some v => G sp sc [] d mX12_grows n 22 L (v :: r) h Q | none => False) | none => False) | _ => False)) ∧
  (∀ (n d : Nat) (L : List (Option iV)) (st : List iV) (h : iH) (Q : Option iV → iH → Prop), G sp sc [] d mX12_grows (n + 1) 22 L st h Q = (match ld L 1 with | some (.inl x) => G sp sc [] d mX12_grows n 23 L (.inl x :: st) h Q | _ => False)) ∧
  (∀ (n d : Nat) (L : List (Option iV)) (st : List iV) (h : iH) (Q : Option iV → iH → Prop), G sp sc [] d mX12_grows (n + 1) 23 L st h Q = (match ld L 2 with | some (.inl x) => G sp sc [] d mX12_grows n 24 L (.inl x :: st) h Q | _ => False)) ∧
  (∀ (n d : Nat) (L : List (Option iV)) (st : List iV) (h : iH) (Q : Option iV → iH → Prop), G sp sc [] d mX12_grows (n + 1) 24 L st h Q = G sp sc [] d mX12_grows n 25 L (.inl 0 :: st) h Q) ∧
  (∀ (n d : Nat) (L : List (Option iV)) (r : List iV) (z0 : iV) (z1 : iV) (z2 : iV) (h : iH) (Q : Option iV → iH → Prop), G sp sc [] (d + 1) mX12_grows (n + 1) 25 L (z2 :: z1 :: z0 :: r) h Q = (cs r ≤ 8 ∧ Call sp sc d mX12_atOne [z0, z1, z2] h (fun q h1 => GC sp sc [] (d + 1) mX12_grows n 28 L q r h h1 Q))) ∧
  (∀ (n d : Nat) (L : List (Option iV)) (r : List iV) (j : Int) (m : Nat) (h : iH) (Q : Option iV → iH → Prop), G sp sc [] d mX12_grows (n + 1) 28 L (.inl j :: .inr (.inr (m + 2)) :: r) h Q = (match h.1[m]? with | some (.inr (.inl (0, xs))) => inA j xs.length = true ∧ G sp sc [] d mX12_grows n 29 L (.inl (xs.getD j.toNat 0) :: r) h Q | _ => False)) ∧
  (∀ (n d : Nat) (L : List (Option iV)) (st : List iV) (h : iH) (Q : Option iV → iH → Prop), G sp sc [] d mX12_grows (n + 1) 29 L st h Q = (match ld L 0 with | some (.inr (.inr (r + 1))) => G sp sc [] d mX12_grows n 30 L (.inr (.inr (r + 1)) :: st) h Q | _ => False)) ∧
  (∀ (n d : Nat) (L : List (Option iV)) (r : List iV) (m : Nat) (h : iH) (Q : Option iV → iH → Prop), G sp sc [] d mX12_grows (n + 1) 30 L (.inr (.inr (m + 2)) :: r) h Q = (match h.1[m]? with | some (.inl (ci, fs)) => (match lkF 12 9 ci with | some k => (match fs[k]? with | some v => G sp sc [] d mX12_grows n 33 L (v :: r) h Q | none => False) | none => False) | _ => False)) ∧
  (∀ (n d : Nat) (L : List (Option iV)) (st : List iV) (h : iH) (Q : Option iV → iH → Prop), G sp sc [] d mX12_grows (n + 1) 33 L st h Q = (match ld L 1 with | some (.inl x) => G sp sc [] d mX12_grows n 34 L (.inl x :: st) h Q | _ => False)) ∧
  (∀ (n d : Nat) (L : List (Option iV)) (st : List iV) (h : iH) (Q : Option iV → iH → Prop), G sp sc [] d mX12_grows (n + 1) 34 L st h Q = (match ld L 2 with | some (.inl x) => G sp sc [] d mX12_grows n 35 L (.inl x :: st) h Q | _ => False)) ∧
  (∀ (n d : Nat) (L : List (Option iV)) (st : List iV) (h : iH) (Q : Option iV → iH → Prop), G sp sc [] d mX12_grows (n + 1) 35 L st h Q = G sp sc [] d mX12_grows n 36 L (.inl 1 :: st) h Q) ∧
  (∀ (n d : Nat) (L : List (Option iV)) (r : List iV) (z0 : iV) (z1 : iV) (z2 : iV) (h : iH) (Q : Option iV → iH → Prop), G sp sc [] (d + 1) mX12_grows (n + 1) 36 L (z2 :: z1 :: z0 :: r) h Q = (cs r ≤ 8 ∧ Call sp sc d mX12_atOne [z0, z1, z2] h (fun q h1 => GC sp sc [] (d + 1) mX12_grows n 39 L q r h h1 Q))) ∧
  (∀ (n d : Nat) (L : List (Option iV)) (r : List iV) (j : Int) (m : Nat) (h : iH) (Q : Option iV → iH → Prop), G sp sc [] d mX12_grows (n + 1) 39 L (.inl j :: .inr (.inr (m + 2)) :: r) h Q = (match h.1[m]? with | some (.inr (.inl (0, xs))) => inA j xs.length = true ∧ G sp sc [] d mX12_grows n 40 L (.inl (xs.getD j.toNat 0) :: r) h Q | _ => False)) ∧
  (∀ (n d : Nat) (L : List (Option iV)) (st : List iV) (h : iH) (Q : Option iV → iH → Prop), G sp sc [] d mX12_grows (n + 1) 40 L st h Q = (match ld L 3 with | some (.inl x) => G sp sc [] d mX12_grows n 41 L (.inl x :: st) h Q | _ => False)) ∧
  (∀ (n d : Nat) (L : List (Option iV)) (st : List iV) (h : iH) (Q : Option iV → iH → Prop), G sp sc [] d mX12_grows (n + 1) 41 L st h Q = G sp sc [] d mX12_grows n 42 L (.inl 1 :: st) h Q) ∧
  (∀ (n d : Nat) (L : List (Option iV)) (a : Int) (b : Int) (r : List iV) (h : iH) (Q : Option iV → iH → Prop), G sp sc [] d mX12_grows (n + 1) 42 L (.inl b :: .inl a :: r) h Q = ((inI a = true ∧ inI b = true) ∧ (¬ a = b → G sp sc [] d mX12_grows n 49 L r h Q) ∧ (¬ (¬ a = b) → G sp sc [] d mX12_grows n 45 L r h Q))) ∧
  (∀ (n d : Nat) (L : List (Option iV)) (st : List iV) (h : iH) (Q : Option iV → iH → Prop), G sp sc [] d mX12_grows (n + 1) 45 L st h Q = G sp sc [] d mX12_grows n 46 L (.inl 1 :: st) h Q) ∧
  (∀ (n d : Nat) (L : List (Option iV)) (st : List iV) (h : iH) (Q : Option iV → iH → Prop), G sp sc [] d mX12_grows (n + 1) 46 L st h Q = G sp sc [] d mX12_grows n 50 L st h Q) ∧
  (∀ (n d : Nat) (L : List (Option iV)) (st : List iV) (h : iH) (Q : Option iV → iH → Prop), G sp sc [] d mX12_grows (n + 1) 49 L st h Q = G sp sc [] d mX12_grows n 50 L (.inl 0 :: st) h Q) ∧
  (∀ (n d : Nat) (L : List (Option iV)) (r : List iV) (z0 : iV) (z1 : iV) (z2 : iV) (h : iH) (Q : Option iV → iH → Prop), G sp sc [] (d + 1) mX12_grows (n + 1) 50 L (z2 :: z1 :: z0 :: r) h Q = (cs r ≤ 8 ∧ Call sp sc d mX12_growsBy [z0, z1, z2] h (fun q h1 => GC sp sc [] (d + 1) mX12_grows n 53 L q r h h1 Q))) ∧
  (∀ (n d : Nat) (L : List (Option iV)) (st : List iV) (h : iH) (Q : Option iV → iH → Prop), G sp sc [] d mX12_grows (n + 1) 53 L st h Q = G sp sc [] d mX12_grows n 57 L st h Q) ∧
  (∀ (n d : Nat) (L : List (Option iV)) (st : List iV) (h : iH) (Q : Option iV → iH → Prop), G sp sc [] d mX12_grows (n + 1) 56 L st h Q = G sp sc [] d mX12_grows n 57 L (.inl (-1) :: st) h Q) ∧
  (∀ (n d : Nat) (L : List (Option iV)) (a : Int) (h : iH) (Q : Option iV → iH → Prop), G sp sc [] d mX12_grows (n + 1) 57 L [.inl a] h Q = Q (some (.inl a)) h) ∧
  lkC 12 175 12 = some (mX12_isOne, 2, 2) ∧
  lkF 12 9 12 = some 0 := ⟨by intros; exact G_at (by decide +kernel : fetch mX12_grows 0 = some (.aload_n 0)),
  by intros; exact G_at (by decide +kernel : fetch mX12_grows 1 = some (.iload_n 1)),
  by intros; exact G_at (by decide +kernel : fetch mX12_grows 2 = some (.iload_n 2)),
  by intros; exact G_callV (by decide +kernel : fetch mX12_grows 3 = some (.invokevirtual 175)) (by decide +kernel) (by decide +kernel) rfl,
  by intros; exact G_at (by decide +kernel : fetch mX12_grows 6 = some (.ifCond .eq 50)),
  by intros; exact G_at (by decide +kernel : fetch mX12_grows 9 = some (.iload_n 3)),
  by intros; exact G_at (by decide +kernel : fetch mX12_grows 10 = some (.iconst 0)),
  by intros; exact G_at (by decide +kernel : fetch mX12_grows 11 = some (.iconst 1)),
  by intros; exact G_callS (k := 3) (kd := 0) (by decide +kernel : fetch mX12_grows 12 = some (.invokestatic 67)) (by decide +kernel) (by decide +kernel) (by decide +kernel) rfl (by decide),
  by intros; exact G_at (by decide +kernel : fetch mX12_grows 15 = some (.ifCond .eq 41)),
  by intros; exact G_at (by decide +kernel : fetch mX12_grows 18 = some (.aload_n 0)),
  by intros; exact G_own (by decide +kernel : fetch mX12_grows 19 = some (.getfield 9)) (by decide +kernel),
  by intros; exact G_at (by decide +kernel : fetch mX12_grows 22 = some (.iload_n 1)),
  by intros; exact G_at (by decide +kernel : fetch mX12_grows 23 = some (.iload_n 2)),
  by intros; exact G_at (by decide +kernel : fetch mX12_grows 24 = some (.iconst 0)),
  by intros; exact G_callS (k := 3) (kd := 0) (by decide +kernel : fetch mX12_grows 25 = some (.invokestatic 88)) (by decide +kernel) (by decide +kernel) (by decide +kernel) rfl (by decide),
  by intros; exact G_at (by decide +kernel : fetch mX12_grows 28 = some (.iaload)),
  by intros; exact G_at (by decide +kernel : fetch mX12_grows 29 = some (.aload_n 0)),
  by intros; exact G_own (by decide +kernel : fetch mX12_grows 30 = some (.getfield 9)) (by decide +kernel),
  by intros; exact G_at (by decide +kernel : fetch mX12_grows 33 = some (.iload_n 1)),
  by intros; exact G_at (by decide +kernel : fetch mX12_grows 34 = some (.iload_n 2)),
  by intros; exact G_at (by decide +kernel : fetch mX12_grows 35 = some (.iconst 1)),
  by intros; exact G_callS (k := 3) (kd := 0) (by decide +kernel : fetch mX12_grows 36 = some (.invokestatic 88)) (by decide +kernel) (by decide +kernel) (by decide +kernel) rfl (by decide),
  by intros; exact G_at (by decide +kernel : fetch mX12_grows 39 = some (.iaload)),
  by intros; exact G_at (by decide +kernel : fetch mX12_grows 40 = some (.iload_n 3)),
  by intros; exact G_at (by decide +kernel : fetch mX12_grows 41 = some (.iconst 1)),
  by intros; exact G_at (by decide +kernel : fetch mX12_grows 42 = some (.if_icmp .ne 7)),
  by intros; exact G_at (by decide +kernel : fetch mX12_grows 45 = some (.iconst 1)),
  by intros; exact G_at (by decide +kernel : fetch mX12_grows 46 = some (.goto 4)),
  by intros; exact G_at (by decide +kernel : fetch mX12_grows 49 = some (.iconst 0)),
  by intros; exact G_callS (k := 3) (kd := 0) (by decide +kernel : fetch mX12_grows 50 = some (.invokestatic 112)) (by decide +kernel) (by decide +kernel) (by decide +kernel) rfl (by decide),
  by intros; exact G_at (by decide +kernel : fetch mX12_grows 53 = some (.goto 4)),
  by intros; exact G_at (by decide +kernel : fetch mX12_grows 56 = some (.iconst (-1))),
  by intros; exact G_reti (by decide +kernel : fetch mX12_grows 57 = some (.ireturn)) (by decide +kernel),
  by decide +kernel,
  by decide +kernel⟩
theorem gX12_retells : (∀ (n d : Nat) (L : List (Option iV)) (st : List iV) (h : iH) (Q : Option iV → iH → Prop), G sp sc [] d mX12_retells (n + 1) 0 L st h Q = (match ld L 0 with | some (.inr (.inr (r + 1))) => G sp sc [] d mX12_retells n 1 L (.inr (.inr (r + 1)) :: st) h Q | _ => False)) ∧
  (∀ (n d : Nat) (L : List (Option iV)) (st : List iV) (h : iH) (Q : Option iV → iH → Prop), G sp sc [] d mX12_retells (n + 1) 1 L st h Q = (match ld L 1 with | some (.inl x) => G sp sc [] d mX12_retells n 2 L (.inl x :: st) h Q | _ => False)) ∧
  (∀ (n d : Nat) (L : List (Option iV)) (st : List iV) (h : iH) (Q : Option iV → iH → Prop), G sp sc [] d mX12_retells (n + 1) 2 L st h Q = (match ld L 2 with | some (.inl x) => G sp sc [] d mX12_retells n 3 L (.inl x :: st) h Q | _ => False)) ∧
  (∀ (n d : Nat) (L : List (Option iV)) (r : List iV) (m : Nat) (z0 : iV) (z1 : iV) (h : iH) (Q : Option iV → iH → Prop), G sp sc [] (d + 1) mX12_retells (n + 1) 3 L (z1 :: z0 :: .inr (.inr (m + 2)) :: r) h Q = (match h.1[m]? with | some (.inl (ci, _)) => (match lkC 12 175 ci with | some (y1, n1, kd) => (n1 = 2 ∧ (kd = 2 ∨ kd = 3 ∨ kd = 8) ∧ cs r ≤ 8) ∧ Call sp sc d y1 [.inr (.inr (m + 2)), z0, z1] h (fun q h1 => GC sp sc [] (d + 1) mX12_retells n 6 L q r h h1 Q) | none => False) | _ => False)) ∧
  (∀ (n d : Nat) (L : List (Option iV)) (a : Int) (r : List iV) (h : iH) (Q : Option iV → iH → Prop), G sp sc [] d mX12_retells (n + 1) 6 L (.inl a :: r) h Q = (inI a = true ∧ (a = 0 → G sp sc [] d mX12_retells n 48 L r h Q) ∧ (¬ (a = 0) → G sp sc [] d mX12_retells n 9 L r h Q))) ∧
  (∀ (n d : Nat) (L : List (Option iV)) (st : List iV) (h : iH) (Q : Option iV → iH → Prop), G sp sc [] d mX12_retells (n + 1) 9 L st h Q = (match ld L 3 with | some (.inl x) => G sp sc [] d mX12_retells n 10 L (.inl x :: st) h Q | _ => False)) ∧
  (∀ (n d : Nat) (L : List (Option iV)) (st : List iV) (h : iH) (Q : Option iV → iH → Prop), G sp sc [] d mX12_retells (n + 1) 10 L st h Q = G sp sc [] d mX12_retells n 11 L (.inl 0 :: st) h Q) ∧
  (∀ (n d : Nat) (L : List (Option iV)) (st : List iV) (h : iH) (Q : Option iV → iH → Prop), G sp sc [] d mX12_retells (n + 1) 11 L st h Q = ((-128 ≤ (99 : Int) ∧ (99 : Int) < 128) ∧ G sp sc [] d mX12_retells n 13 L (.inl 99 :: st) h Q)) ∧
  (∀ (n d : Nat) (L : List (Option iV)) (r : List iV) (z0 : iV) (z1 : iV) (z2 : iV) (h : iH) (Q : Option iV → iH → Prop), G sp sc [] (d + 1) mX12_retells (n + 1) 13 L (z2 :: z1 :: z0 :: r) h Q = (cs r ≤ 8 ∧ Call sp sc d mX12_isIn [z0, z1, z2] h (fun q h1 => GC sp sc [] (d + 1) mX12_retells n 16 L q r h h1 Q))) ∧
  (∀ (n d : Nat) (L : List (Option iV)) (a : Int) (r : List iV) (h : iH) (Q : Option iV → iH → Prop), G sp sc [] d mX12_retells (n + 1) 16 L (.inl a :: r) h Q = (inI a = true ∧ (a = 0 → G sp sc [] d mX12_retells n 48 L r h Q) ∧ (¬ (a = 0) → G sp sc [] d mX12_retells n 19 L r h Q))) ∧
  (∀ (n d : Nat) (L : List (Option iV)) (st : List iV) (h : iH) (Q : Option iV → iH → Prop), G sp sc [] d mX12_retells (n + 1) 19 L st h Q = (match ld L 0 with | some (.inr (.inr (r + 1))) => G sp sc [] d mX12_retells n 20 L (.inr (.inr (r + 1)) :: st) h Q | _ => False)) ∧
  (∀ (n d : Nat) (L : List (Option iV)) (r : List iV) (m : Nat) (h : iH) (Q : Option iV → iH → Prop), G sp sc [] d mX12_retells (n + 1) 20 L (.inr (.inr (m + 2)) :: r) h Q = (match h.1[m]? with | some (.inl (ci, fs)) => (match lkF 12 9 ci with | some k => (match fs[k]? with | some v => G sp sc [] d mX12_retells n 23 L (v :: r) h Q | none => False) | none => False) | _ => False)) ∧
  (∀ (n d : Nat) (L : List (Option iV)) (st : List iV) (h : iH) (Q : Option iV → iH → Prop), G sp sc [] d mX12_retells (n + 1) 23 L st h Q = (match ld L 1 with | some (.inl x) => G sp sc [] d mX12_retells n 24 L (.inl x :: st) h Q | _ => False)) ∧
  (∀ (n d : Nat) (L : List (Option iV)) (st : List iV) (h : iH) (Q : Option iV → iH → Prop), G sp sc [] d mX12_retells (n + 1) 24 L st h Q = (match ld L 2 with | some (.inl x) => G sp sc [] d mX12_retells n 25 L (.inl x :: st) h Q | _ => False)) ∧
  (∀ (n d : Nat) (L : List (Option iV)) (st : List iV) (h : iH) (Q : Option iV → iH → Prop), G sp sc [] d mX12_retells (n + 1) 25 L st h Q = G sp sc [] d mX12_retells n 26 L (.inl 0 :: st) h Q) ∧
  (∀ (n d : Nat) (L : List (Option iV)) (r : List iV) (z0 : iV) (z1 : iV) (z2 : iV) (h : iH) (Q : Option iV → iH → Prop), G sp sc [] (d + 1) mX12_retells (n + 1) 26 L (z2 :: z1 :: z0 :: r) h Q = (cs r ≤ 8 ∧ Call sp sc d mX12_atOne [z0, z1, z2] h (fun q h1 => GC sp sc [] (d + 1) mX12_retells n 29 L q r h h1 Q))) ∧
  (∀ (n d : Nat) (L : List (Option iV)) (r : List iV) (j : Int) (m : Nat) (h : iH) (Q : Option iV → iH → Prop), G sp sc [] d mX12_retells (n + 1) 29 L (.inl j :: .inr (.inr (m + 2)) :: r) h Q = (match h.1[m]? with | some (.inr (.inl (0, xs))) => inA j xs.length = true ∧ G sp sc [] d mX12_retells n 30 L (.inl (xs.getD j.toNat 0) :: r) h Q | _ => False)) ∧
  (∀ (n d : Nat) (L : List (Option iV)) (st : List iV) (h : iH) (Q : Option iV → iH → Prop), G sp sc [] d mX12_retells (n + 1) 30 L st h Q = (match ld L 0 with | some (.inr (.inr (r + 1))) => G sp sc [] d mX12_retells n 31 L (.inr (.inr (r + 1)) :: st) h Q | _ => False)) ∧
  (∀ (n d : Nat) (L : List (Option iV)) (r : List iV) (m : Nat) (h : iH) (Q : Option iV → iH → Prop), G sp sc [] d mX12_retells (n + 1) 31 L (.inr (.inr (m + 2)) :: r) h Q = (match h.1[m]? with | some (.inl (ci, fs)) => (match lkF 12 9 ci with | some k => (match fs[k]? with | some v => G sp sc [] d mX12_retells n 34 L (v :: r) h Q | none => False) | none => False) | _ => False)) ∧
  (∀ (n d : Nat) (L : List (Option iV)) (st : List iV) (h : iH) (Q : Option iV → iH → Prop), G sp sc [] d mX12_retells (n + 1) 34 L st h Q = (match ld L 1 with | some (.inl x) => G sp sc [] d mX12_retells n 35 L (.inl x :: st) h Q | _ => False)) ∧
  (∀ (n d : Nat) (L : List (Option iV)) (st : List iV) (h : iH) (Q : Option iV → iH → Prop), G sp sc [] d mX12_retells (n + 1) 35 L st h Q = (match ld L 2 with | some (.inl x) => G sp sc [] d mX12_retells n 36 L (.inl x :: st) h Q | _ => False)) ∧
  (∀ (n d : Nat) (L : List (Option iV)) (st : List iV) (h : iH) (Q : Option iV → iH → Prop), G sp sc [] d mX12_retells (n + 1) 36 L st h Q = G sp sc [] d mX12_retells n 37 L (.inl 1 :: st) h Q) ∧
  (∀ (n d : Nat) (L : List (Option iV)) (r : List iV) (z0 : iV) (z1 : iV) (z2 : iV) (h : iH) (Q : Option iV → iH → Prop), G sp sc [] (d + 1) mX12_retells (n + 1) 37 L (z2 :: z1 :: z0 :: r) h Q = (cs r ≤ 8 ∧ Call sp sc d mX12_atOne [z0, z1, z2] h (fun q h1 => GC sp sc [] (d + 1) mX12_retells n 40 L q r h h1 Q))) ∧
  (∀ (n d : Nat) (L : List (Option iV)) (r : List iV) (j : Int) (m : Nat) (h : iH) (Q : Option iV → iH → Prop), G sp sc [] d mX12_retells (n + 1) 40 L (.inl j :: .inr (.inr (m + 2)) :: r) h Q = (match h.1[m]? with | some (.inr (.inl (0, xs))) => inA j xs.length = true ∧ G sp sc [] d mX12_retells n 41 L (.inl (xs.getD j.toNat 0) :: r) h Q | _ => False)) ∧
  (∀ (n d : Nat) (L : List (Option iV)) (st : List iV) (h : iH) (Q : Option iV → iH → Prop), G sp sc [] d mX12_retells (n + 1) 41 L st h Q = (match ld L 3 with | some (.inl x) => G sp sc [] d mX12_retells n 42 L (.inl x :: st) h Q | _ => False)) ∧
  (∀ (n d : Nat) (L : List (Option iV)) (r : List iV) (z0 : iV) (z1 : iV) (z2 : iV) (h : iH) (Q : Option iV → iH → Prop), G sp sc [] (d + 1) mX12_retells (n + 1) 42 L (z2 :: z1 :: z0 :: r) h Q = (cs r ≤ 8 ∧ Call sp sc d mX12_retellsBy [z0, z1, z2] h (fun q h1 => GC sp sc [] (d + 1) mX12_retells n 45 L q r h h1 Q))) ∧
  (∀ (n d : Nat) (L : List (Option iV)) (st : List iV) (h : iH) (Q : Option iV → iH → Prop), G sp sc [] d mX12_retells (n + 1) 45 L st h Q = G sp sc [] d mX12_retells n 49 L st h Q) ∧
  (∀ (n d : Nat) (L : List (Option iV)) (st : List iV) (h : iH) (Q : Option iV → iH → Prop), G sp sc [] d mX12_retells (n + 1) 48 L st h Q = G sp sc [] d mX12_retells n 49 L (.inl (-1) :: st) h Q) ∧
  (∀ (n d : Nat) (L : List (Option iV)) (a : Int) (h : iH) (Q : Option iV → iH → Prop), G sp sc [] d mX12_retells (n + 1) 49 L [.inl a] h Q = Q (some (.inl a)) h) ∧
  lkC 12 175 12 = some (mX12_isOne, 2, 2) ∧
  lkF 12 9 12 = some 0 := ⟨by intros; exact G_at (by decide +kernel : fetch mX12_retells 0 = some (.aload_n 0)),
  by intros; exact G_at (by decide +kernel : fetch mX12_retells 1 = some (.iload_n 1)),
  by intros; exact G_at (by decide +kernel : fetch mX12_retells 2 = some (.iload_n 2)),
  by intros; exact G_callV (by decide +kernel : fetch mX12_retells 3 = some (.invokevirtual 175)) (by decide +kernel) (by decide +kernel) rfl,
  by intros; exact G_at (by decide +kernel : fetch mX12_retells 6 = some (.ifCond .eq 42)),
  by intros; exact G_at (by decide +kernel : fetch mX12_retells 9 = some (.iload_n 3)),
  by intros; exact G_at (by decide +kernel : fetch mX12_retells 10 = some (.iconst 0)),
  by intros; exact G_at (by decide +kernel : fetch mX12_retells 11 = some (.bipush 99)),
  by intros; exact G_callS (k := 3) (kd := 0) (by decide +kernel : fetch mX12_retells 13 = some (.invokestatic 67)) (by decide +kernel) (by decide +kernel) (by decide +kernel) rfl (by decide),
  by intros; exact G_at (by decide +kernel : fetch mX12_retells 16 = some (.ifCond .eq 32)),
  by intros; exact G_at (by decide +kernel : fetch mX12_retells 19 = some (.aload_n 0)),
  by intros; exact G_own (by decide +kernel : fetch mX12_retells 20 = some (.getfield 9)) (by decide +kernel),
  by intros; exact G_at (by decide +kernel : fetch mX12_retells 23 = some (.iload_n 1)),
  by intros; exact G_at (by decide +kernel : fetch mX12_retells 24 = some (.iload_n 2)),
  by intros; exact G_at (by decide +kernel : fetch mX12_retells 25 = some (.iconst 0)),
  by intros; exact G_callS (k := 3) (kd := 0) (by decide +kernel : fetch mX12_retells 26 = some (.invokestatic 88)) (by decide +kernel) (by decide +kernel) (by decide +kernel) rfl (by decide),
  by intros; exact G_at (by decide +kernel : fetch mX12_retells 29 = some (.iaload)),
  by intros; exact G_at (by decide +kernel : fetch mX12_retells 30 = some (.aload_n 0)),
  by intros; exact G_own (by decide +kernel : fetch mX12_retells 31 = some (.getfield 9)) (by decide +kernel),
  by intros; exact G_at (by decide +kernel : fetch mX12_retells 34 = some (.iload_n 1)),
  by intros; exact G_at (by decide +kernel : fetch mX12_retells 35 = some (.iload_n 2)),
  by intros; exact G_at (by decide +kernel : fetch mX12_retells 36 = some (.iconst 1)),
  by intros; exact G_callS (k := 3) (kd := 0) (by decide +kernel : fetch mX12_retells 37 = some (.invokestatic 88)) (by decide +kernel) (by decide +kernel) (by decide +kernel) rfl (by decide),
  by intros; exact G_at (by decide +kernel : fetch mX12_retells 40 = some (.iaload)),
  by intros; exact G_at (by decide +kernel : fetch mX12_retells 41 = some (.iload_n 3)),
  by intros; exact G_callS (k := 3) (kd := 0) (by decide +kernel : fetch mX12_retells 42 = some (.invokestatic 199)) (by decide +kernel) (by decide +kernel) (by decide +kernel) rfl (by decide),
  by intros; exact G_at (by decide +kernel : fetch mX12_retells 45 = some (.goto 4)),
  by intros; exact G_at (by decide +kernel : fetch mX12_retells 48 = some (.iconst (-1))),
  by intros; exact G_reti (by decide +kernel : fetch mX12_retells 49 = some (.ireturn)) (by decide +kernel),
  by decide +kernel,
  by decide +kernel⟩
theorem gX12_comes : (∀ (n d : Nat) (L : List (Option iV)) (st : List iV) (h : iH) (Q : Option iV → iH → Prop), G sp sc [] d mX12_comes (n + 1) 0 L st h Q = (match ld L 1 with | some (.inl x) => G sp sc [] d mX12_comes n 1 L (.inl x :: st) h Q | _ => False)) ∧
  (∀ (n d : Nat) (L : List (Option iV)) (r : List iV) (z0 : iV) (h : iH) (Q : Option iV → iH → Prop), G sp sc [] (d + 1) mX12_comes (n + 1) 1 L (z0 :: r) h Q = (cs r ≤ 8 ∧ Call sp sc d mX12_isShelf [z0] h (fun q h1 => GC sp sc [] (d + 1) mX12_comes n 4 L q r h h1 Q))) ∧
  (∀ (n d : Nat) (L : List (Option iV)) (a : Int) (r : List iV) (h : iH) (Q : Option iV → iH → Prop), G sp sc [] d mX12_comes (n + 1) 4 L (.inl a :: r) h Q = (inI a = true ∧ (a = 0 → G sp sc [] d mX12_comes n 16 L r h Q) ∧ (¬ (a = 0) → G sp sc [] d mX12_comes n 7 L r h Q))) ∧
  (∀ (n d : Nat) (L : List (Option iV)) (st : List iV) (h : iH) (Q : Option iV → iH → Prop), G sp sc [] d mX12_comes (n + 1) 7 L st h Q = (match ld L 2 with | some (.inl x) => G sp sc [] d mX12_comes n 8 L (.inl x :: st) h Q | _ => False)) ∧
  (∀ (n d : Nat) (L : List (Option iV)) (st : List iV) (h : iH) (Q : Option iV → iH → Prop), G sp sc [] d mX12_comes (n + 1) 8 L st h Q = G sp sc [] d mX12_comes n 9 L (.inl 0 :: st) h Q) ∧
  (∀ (n d : Nat) (L : List (Option iV)) (st : List iV) (h : iH) (Q : Option iV → iH → Prop), G sp sc [] d mX12_comes (n + 1) 9 L st h Q = G sp sc [] d mX12_comes n 10 L (.inl 1 :: st) h Q) ∧
  (∀ (n d : Nat) (L : List (Option iV)) (r : List iV) (z0 : iV) (z1 : iV) (z2 : iV) (h : iH) (Q : Option iV → iH → Prop), G sp sc [] (d + 1) mX12_comes (n + 1) 10 L (z2 :: z1 :: z0 :: r) h Q = (cs r ≤ 8 ∧ Call sp sc d mX12_isIn [z0, z1, z2] h (fun q h1 => GC sp sc [] (d + 1) mX12_comes n 13 L q r h h1 Q))) ∧
  (∀ (n d : Nat) (L : List (Option iV)) (a : Int) (r : List iV) (h : iH) (Q : Option iV → iH → Prop), G sp sc [] d mX12_comes (n + 1) 13 L (.inl a :: r) h Q = (inI a = true ∧ (¬ a = 0 → G sp sc [] d mX12_comes n 18 L r h Q) ∧ (¬ (¬ a = 0) → G sp sc [] d mX12_comes n 16 L r h Q))) ∧
  (∀ (n d : Nat) (L : List (Option iV)) (st : List iV) (h : iH) (Q : Option iV → iH → Prop), G sp sc [] d mX12_comes (n + 1) 16 L st h Q = G sp sc [] d mX12_comes n 17 L (.inl (-1) :: st) h Q) ∧
  (∀ (n d : Nat) (L : List (Option iV)) (a : Int) (h : iH) (Q : Option iV → iH → Prop), G sp sc [] d mX12_comes (n + 1) 17 L [.inl a] h Q = Q (some (.inl a)) h) ∧
  (∀ (n d : Nat) (L : List (Option iV)) (st : List iV) (h : iH) (Q : Option iV → iH → Prop), G sp sc [] d mX12_comes (n + 1) 18 L st h Q = (match ld L 0 with | some (.inr (.inr (r + 1))) => G sp sc [] d mX12_comes n 19 L (.inr (.inr (r + 1)) :: st) h Q | _ => False)) ∧
  (∀ (n d : Nat) (L : List (Option iV)) (st : List iV) (h : iH) (Q : Option iV → iH → Prop), G sp sc [] d mX12_comes (n + 1) 19 L st h Q = (match ld L 1 with | some (.inl x) => G sp sc [] d mX12_comes n 20 L (.inl x :: st) h Q | _ => False)) ∧
  (∀ (n d : Nat) (L : List (Option iV)) (r : List iV) (m : Nat) (z0 : iV) (h : iH) (Q : Option iV → iH → Prop), G sp sc [] (d + 1) mX12_comes (n + 1) 20 L (z0 :: .inr (.inr (m + 2)) :: r) h Q = (match h.1[m]? with | some (.inl (ci, _)) => (match lkC 12 205 ci with | some (y1, n1, kd) => (n1 = 1 ∧ (kd = 2 ∨ kd = 3 ∨ kd = 8) ∧ cs r ≤ 8) ∧ Call sp sc d y1 [.inr (.inr (m + 2)), z0] h (fun q h1 => GC sp sc [] (d + 1) mX12_comes n 23 L q r h h1 Q) | none => False) | _ => False)) ∧
  (∀ (n d : Nat) (L : List (Option iV)) (r : List iV) (x : Int) (h : iH) (Q : Option iV → iH → Prop), G sp sc [] d mX12_comes (n + 1) 23 L (.inl x :: r) h Q = (match st1 L 3 (.inl x) with | some L' => G sp sc [] d mX12_comes n 24 L' r h Q | none => False)) ∧
  (∀ (n d : Nat) (L : List (Option iV)) (st : List iV) (h : iH) (Q : Option iV → iH → Prop), G sp sc [] d mX12_comes (n + 1) 24 L st h Q = (match ld L 3 with | some (.inl x) => G sp sc [] d mX12_comes n 25 L (.inl x :: st) h Q | _ => False)) ∧
  (∀ (n d : Nat) (L : List (Option iV)) (a : Int) (r : List iV) (h : iH) (Q : Option iV → iH → Prop), G sp sc [] d mX12_comes (n + 1) 25 L (.inl a :: r) h Q = (inI a = true ∧ (a = 0 → G sp sc [] d mX12_comes n 30 L r h Q) ∧ (¬ (a = 0) → G sp sc [] d mX12_comes n 28 L r h Q))) ∧
  (∀ (n d : Nat) (L : List (Option iV)) (st : List iV) (h : iH) (Q : Option iV → iH → Prop), G sp sc [] d mX12_comes (n + 1) 28 L st h Q = (match ld L 3 with | some (.inl x) => G sp sc [] d mX12_comes n 29 L (.inl x :: st) h Q | _ => False)) ∧
  (∀ (n d : Nat) (L : List (Option iV)) (a : Int) (h : iH) (Q : Option iV → iH → Prop), G sp sc [] d mX12_comes (n + 1) 29 L [.inl a] h Q = Q (some (.inl a)) h) ∧
  (∀ (n d : Nat) (L : List (Option iV)) (st : List iV) (h : iH) (Q : Option iV → iH → Prop), G sp sc [] d mX12_comes (n + 1) 30 L st h Q = (match ld L 0 with | some (.inr (.inr (r + 1))) => G sp sc [] d mX12_comes n 31 L (.inr (.inr (r + 1)) :: st) h Q | _ => False)) ∧
  (∀ (n d : Nat) (L : List (Option iV)) (r : List iV) (m : Nat) (h : iH) (Q : Option iV → iH → Prop), G sp sc [] d mX12_comes (n + 1) 31 L (.inr (.inr (m + 2)) :: r) h Q = (match h.1[m]? with | some (.inl (ci, fs)) => (match lkF 12 9 ci with | some k => (match fs[k]? with | some v => G sp sc [] d mX12_comes n 34 L (v :: r) h Q | none => False) | none => False) | _ => False)) ∧
  (∀ (n d : Nat) (L : List (Option iV)) (st : List iV) (h : iH) (Q : Option iV → iH → Prop), G sp sc [] d mX12_comes (n + 1) 34 L st h Q = G sp sc [] d mX12_comes n 35 L (.inl 0 :: st) h Q) ∧
  (∀ (n d : Nat) (L : List (Option iV)) (st : List iV) (h : iH) (Q : Option iV → iH → Prop), G sp sc [] d mX12_comes (n + 1) 35 L st h Q = (match ld L 2 with | some (.inl x) => G sp sc [] d mX12_comes n 36 L (.inl x :: st) h Q | _ => False)) ∧
  (∀ (n d : Nat) (L : List (Option iV)) (a : Int) (b : Int) (r : List iV) (h : iH) (Q : Option iV → iH → Prop), G sp sc [] d mX12_comes (n + 1) 36 L (.inl b :: .inl a :: r) h Q = G sp sc [] d mX12_comes n 37 L (.inl (a + b) :: r) h Q) ∧
  (∀ (n d : Nat) (L : List (Option iV)) (r : List iV) (j : Int) (m : Nat) (h : iH) (Q : Option iV → iH → Prop), G sp sc [] d mX12_comes (n + 1) 37 L (.inl j :: .inr (.inr (m + 2)) :: r) h Q = (match h.1[m]? with | some (.inr (.inl (0, xs))) => inA j xs.length = true ∧ G sp sc [] d mX12_comes n 38 L (.inl (xs.getD j.toNat 0) :: r) h Q | _ => False)) ∧
  (∀ (n d : Nat) (L : List (Option iV)) (st : List iV) (h : iH) (Q : Option iV → iH → Prop), G sp sc [] d mX12_comes (n + 1) 38 L st h Q = G sp sc [] d mX12_comes n 39 L (.inl 5 :: st) h Q) ∧
  (∀ (n d : Nat) (L : List (Option iV)) (a : Int) (b : Int) (r : List iV) (h : iH) (Q : Option iV → iH → Prop), G sp sc [] d mX12_comes (n + 1) 39 L (.inl b :: .inl a :: r) h Q = ((inI a = true ∧ inI b = true) ∧ (¬ a = b → G sp sc [] d mX12_comes n 47 L r h Q) ∧ (¬ (¬ a = b) → G sp sc [] d mX12_comes n 42 L r h Q))) ∧
  (∀ (n d : Nat) (L : List (Option iV)) (st : List iV) (h : iH) (Q : Option iV → iH → Prop), G sp sc [] d mX12_comes (n + 1) 42 L st h Q = ((-128 ≤ ((-2) : Int) ∧ ((-2) : Int) < 128) ∧ G sp sc [] d mX12_comes n 44 L (.inl (-2) :: st) h Q)) ∧
  (∀ (n d : Nat) (L : List (Option iV)) (st : List iV) (h : iH) (Q : Option iV → iH → Prop), G sp sc [] d mX12_comes (n + 1) 44 L st h Q = G sp sc [] d mX12_comes n 64 L st h Q) ∧
  (∀ (n d : Nat) (L : List (Option iV)) (st : List iV) (h : iH) (Q : Option iV → iH → Prop), G sp sc [] d mX12_comes (n + 1) 47 L st h Q = (match ld L 0 with | some (.inr (.inr (r + 1))) => G sp sc [] d mX12_comes n 48 L (.inr (.inr (r + 1)) :: st) h Q | _ => False)) ∧
  (∀ (n d : Nat) (L : List (Option iV)) (st : List iV) (h : iH) (Q : Option iV → iH → Prop), G sp sc [] d mX12_comes (n + 1) 48 L st h Q = (match ld L 2 with | some (.inl x) => G sp sc [] d mX12_comes n 49 L (.inl x :: st) h Q | _ => False)) ∧
  (∀ (n d : Nat) (L : List (Option iV)) (st : List iV) (h : iH) (Q : Option iV → iH → Prop), G sp sc [] d mX12_comes (n + 1) 49 L st h Q = (match ld L 0 with | some (.inr (.inr (r + 1))) => G sp sc [] d mX12_comes n 50 L (.inr (.inr (r + 1)) :: st) h Q | _ => False)) ∧
  (∀ (n d : Nat) (L : List (Option iV)) (r : List iV) (m : Nat) (h : iH) (Q : Option iV → iH → Prop), G sp sc [] d mX12_comes (n + 1) 50 L (.inr (.inr (m + 2)) :: r) h Q = (match h.1[m]? with | some (.inl (ci, fs)) => (match lkF 12 52 ci with | some k => (match fs[k]? with | some v => G sp sc [] d mX12_comes n 53 L (v :: r) h Q | none => False) | none => False) | _ => False)) ∧
  (∀ (n d : Nat) (L : List (Option iV)) (st : List iV) (h : iH) (Q : Option iV → iH → Prop), G sp sc [] d mX12_comes (n + 1) 53 L st h Q = (match ld L 1 with | some (.inl x) => G sp sc [] d mX12_comes n 54 L (.inl x :: st) h Q | _ => False)) ∧
  (∀ (n d : Nat) (L : List (Option iV)) (r : List iV) (j : Int) (m : Nat) (h : iH) (Q : Option iV → iH → Prop), G sp sc [] d mX12_comes (n + 1) 54 L (.inl j :: .inr (.inr (m + 2)) :: r) h Q = (match h.1[m]? with | some (.inr (.inl (0, xs))) => inA j xs.length = true ∧ G sp sc [] d mX12_comes n 55 L (.inl (xs.getD j.toNat 0) :: r) h Q | _ => False)) ∧
  (∀ (n d : Nat) (L : List (Option iV)) (st : List iV) (h : iH) (Q : Option iV → iH → Prop), G sp sc [] d mX12_comes (n + 1) 55 L st h Q = (match ld L 0 with | some (.inr (.inr (r + 1))) => G sp sc [] d mX12_comes n 56 L (.inr (.inr (r + 1)) :: st) h Q | _ => False)) ∧
  (∀ (n d : Nat) (L : List (Option iV)) (r : List iV) (m : Nat) (h : iH) (Q : Option iV → iH → Prop), G sp sc [] d mX12_comes (n + 1) 56 L (.inr (.inr (m + 2)) :: r) h Q = (match h.1[m]? with | some (.inl (ci, fs)) => (match lkF 12 55 ci with | some k => (match fs[k]? with | some v => G sp sc [] d mX12_comes n 59 L (v :: r) h Q | none => False) | none => False) | _ => False)) ∧
  (∀ (n d : Nat) (L : List (Option iV)) (st : List iV) (h : iH) (Q : Option iV → iH → Prop), G sp sc [] d mX12_comes (n + 1) 59 L st h Q = (match ld L 1 with | some (.inl x) => G sp sc [] d mX12_comes n 60 L (.inl x :: st) h Q | _ => False)) ∧
  (∀ (n d : Nat) (L : List (Option iV)) (r : List iV) (j : Int) (m : Nat) (h : iH) (Q : Option iV → iH → Prop), G sp sc [] d mX12_comes (n + 1) 60 L (.inl j :: .inr (.inr (m + 2)) :: r) h Q = (match h.1[m]? with | some (.inr (.inl (0, xs))) => inA j xs.length = true ∧ G sp sc [] d mX12_comes n 61 L (.inl (xs.getD j.toNat 0) :: r) h Q | _ => False)) ∧
  (∀ (n d : Nat) (L : List (Option iV)) (r : List iV) (m : Nat) (z0 : iV) (z1 : iV) (z2 : iV) (h : iH) (Q : Option iV → iH → Prop), G sp sc [] (d + 1) mX12_comes (n + 1) 61 L (z2 :: z1 :: z0 :: .inr (.inr (m + 2)) :: r) h Q = (match h.1[m]? with | some (.inl (ci, _)) => (match lkC 12 172 ci with | some (y1, n1, kd) => (n1 = 3 ∧ (kd = 2 ∨ kd = 3 ∨ kd = 8) ∧ cs r ≤ 8) ∧ Call sp sc d y1 [.inr (.inr (m + 2)), z0, z1, z2] h (fun q h1 => GC sp sc [] (d + 1) mX12_comes n 64 L q r h h1 Q) | none => False) | _ => False)) ∧
  (∀ (n d : Nat) (L : List (Option iV)) (a : Int) (h : iH) (Q : Option iV → iH → Prop), G sp sc [] d mX12_comes (n + 1) 64 L [.inl a] h Q = Q (some (.inl a)) h) ∧
  lkC 12 172 12 = some (mX12_addsOne, 3, 2) ∧
  lkC 12 205 12 = some (mX12_wrongKept, 1, 2) ∧
  lkF 12 52 12 = some 27 ∧
  lkF 12 55 12 = some 28 ∧
  lkF 12 9 12 = some 0 := ⟨by intros; exact G_at (by decide +kernel : fetch mX12_comes 0 = some (.iload_n 1)),
  by intros; exact G_callS (k := 1) (kd := 0) (by decide +kernel : fetch mX12_comes 1 = some (.invokestatic 202)) (by decide +kernel) (by decide +kernel) (by decide +kernel) rfl (by decide),
  by intros; exact G_at (by decide +kernel : fetch mX12_comes 4 = some (.ifCond .eq 12)),
  by intros; exact G_at (by decide +kernel : fetch mX12_comes 7 = some (.iload_n 2)),
  by intros; exact G_at (by decide +kernel : fetch mX12_comes 8 = some (.iconst 0)),
  by intros; exact G_at (by decide +kernel : fetch mX12_comes 9 = some (.iconst 1)),
  by intros; exact G_callS (k := 3) (kd := 0) (by decide +kernel : fetch mX12_comes 10 = some (.invokestatic 67)) (by decide +kernel) (by decide +kernel) (by decide +kernel) rfl (by decide),
  by intros; exact G_at (by decide +kernel : fetch mX12_comes 13 = some (.ifCond .ne 5)),
  by intros; exact G_at (by decide +kernel : fetch mX12_comes 16 = some (.iconst (-1))),
  by intros; exact G_reti (by decide +kernel : fetch mX12_comes 17 = some (.ireturn)) (by decide +kernel),
  by intros; exact G_at (by decide +kernel : fetch mX12_comes 18 = some (.aload_n 0)),
  by intros; exact G_at (by decide +kernel : fetch mX12_comes 19 = some (.iload_n 1)),
  by intros; exact G_callV (by decide +kernel : fetch mX12_comes 20 = some (.invokevirtual 205)) (by decide +kernel) (by decide +kernel) rfl,
  by intros; exact G_at (by decide +kernel : fetch mX12_comes 23 = some (.istore_n 3)),
  by intros; exact G_at (by decide +kernel : fetch mX12_comes 24 = some (.iload_n 3)),
  by intros; exact G_at (by decide +kernel : fetch mX12_comes 25 = some (.ifCond .eq 5)),
  by intros; exact G_at (by decide +kernel : fetch mX12_comes 28 = some (.iload_n 3)),
  by intros; exact G_reti (by decide +kernel : fetch mX12_comes 29 = some (.ireturn)) (by decide +kernel),
  by intros; exact G_at (by decide +kernel : fetch mX12_comes 30 = some (.aload_n 0)),
  by intros; exact G_own (by decide +kernel : fetch mX12_comes 31 = some (.getfield 9)) (by decide +kernel),
  by intros; exact G_at (by decide +kernel : fetch mX12_comes 34 = some (.iconst 0)),
  by intros; exact G_at (by decide +kernel : fetch mX12_comes 35 = some (.iload_n 2)),
  by intros; exact G_at (by decide +kernel : fetch mX12_comes 36 = some (.iadd)),
  by intros; exact G_at (by decide +kernel : fetch mX12_comes 37 = some (.iaload)),
  by intros; exact G_at (by decide +kernel : fetch mX12_comes 38 = some (.iconst 5)),
  by intros; exact G_at (by decide +kernel : fetch mX12_comes 39 = some (.if_icmp .ne 8)),
  by intros; exact G_at (by decide +kernel : fetch mX12_comes 42 = some (.bipush (-2))),
  by intros; exact G_at (by decide +kernel : fetch mX12_comes 44 = some (.goto 20)),
  by intros; exact G_at (by decide +kernel : fetch mX12_comes 47 = some (.aload_n 0)),
  by intros; exact G_at (by decide +kernel : fetch mX12_comes 48 = some (.iload_n 2)),
  by intros; exact G_at (by decide +kernel : fetch mX12_comes 49 = some (.aload_n 0)),
  by intros; exact G_own (by decide +kernel : fetch mX12_comes 50 = some (.getfield 52)) (by decide +kernel),
  by intros; exact G_at (by decide +kernel : fetch mX12_comes 53 = some (.iload_n 1)),
  by intros; exact G_at (by decide +kernel : fetch mX12_comes 54 = some (.iaload)),
  by intros; exact G_at (by decide +kernel : fetch mX12_comes 55 = some (.aload_n 0)),
  by intros; exact G_own (by decide +kernel : fetch mX12_comes 56 = some (.getfield 55)) (by decide +kernel),
  by intros; exact G_at (by decide +kernel : fetch mX12_comes 59 = some (.iload_n 1)),
  by intros; exact G_at (by decide +kernel : fetch mX12_comes 60 = some (.iaload)),
  by intros; exact G_callV (by decide +kernel : fetch mX12_comes 61 = some (.invokevirtual 172)) (by decide +kernel) (by decide +kernel) rfl,
  by intros; exact G_reti (by decide +kernel : fetch mX12_comes 64 = some (.ireturn)) (by decide +kernel),
  by decide +kernel,
  by decide +kernel,
  by decide +kernel,
  by decide +kernel,
  by decide +kernel⟩
theorem gX12_likes : (∀ (n d : Nat) (L : List (Option iV)) (st : List iV) (h : iH) (Q : Option iV → iH → Prop), G sp sc [] d mX12_likes (n + 1) 0 L st h Q = (match ld L 0 with | some (.inr (.inr (r + 1))) => G sp sc [] d mX12_likes n 1 L (.inr (.inr (r + 1)) :: st) h Q | _ => False)) ∧
  (∀ (n d : Nat) (L : List (Option iV)) (st : List iV) (h : iH) (Q : Option iV → iH → Prop), G sp sc [] d mX12_likes (n + 1) 1 L st h Q = (match ld L 1 with | some (.inl x) => G sp sc [] d mX12_likes n 2 L (.inl x :: st) h Q | _ => False)) ∧
  (∀ (n d : Nat) (L : List (Option iV)) (st : List iV) (h : iH) (Q : Option iV → iH → Prop), G sp sc [] d mX12_likes (n + 1) 2 L st h Q = (match ld L 2 with | some (.inl x) => G sp sc [] d mX12_likes n 3 L (.inl x :: st) h Q | _ => False)) ∧
  (∀ (n d : Nat) (L : List (Option iV)) (r : List iV) (m : Nat) (z0 : iV) (z1 : iV) (h : iH) (Q : Option iV → iH → Prop), G sp sc [] (d + 1) mX12_likes (n + 1) 3 L (z1 :: z0 :: .inr (.inr (m + 2)) :: r) h Q = (match h.1[m]? with | some (.inl (ci, _)) => (match lkC 12 175 ci with | some (y1, n1, kd) => (n1 = 2 ∧ (kd = 2 ∨ kd = 3 ∨ kd = 8) ∧ cs r ≤ 8) ∧ Call sp sc d y1 [.inr (.inr (m + 2)), z0, z1] h (fun q h1 => GC sp sc [] (d + 1) mX12_likes n 6 L q r h h1 Q) | none => False) | _ => False)) ∧
  (∀ (n d : Nat) (L : List (Option iV)) (a : Int) (r : List iV) (h : iH) (Q : Option iV → iH → Prop), G sp sc [] d mX12_likes (n + 1) 6 L (.inl a :: r) h Q = (inI a = true ∧ (a = 0 → G sp sc [] d mX12_likes n 34 L r h Q) ∧ (¬ (a = 0) → G sp sc [] d mX12_likes n 9 L r h Q))) ∧
  (∀ (n d : Nat) (L : List (Option iV)) (st : List iV) (h : iH) (Q : Option iV → iH → Prop), G sp sc [] d mX12_likes (n + 1) 9 L st h Q = (match ld L 0 with | some (.inr (.inr (r + 1))) => G sp sc [] d mX12_likes n 10 L (.inr (.inr (r + 1)) :: st) h Q | _ => False)) ∧
  (∀ (n d : Nat) (L : List (Option iV)) (st : List iV) (h : iH) (Q : Option iV → iH → Prop), G sp sc [] d mX12_likes (n + 1) 10 L st h Q = G sp sc [] d mX12_likes n 11 L (.inl 1 :: st) h Q) ∧
  (∀ (n d : Nat) (L : List (Option iV)) (st : List iV) (h : iH) (Q : Option iV → iH → Prop), G sp sc [] d mX12_likes (n + 1) 11 L st h Q = (match ld L 1 with | some (.inl x) => G sp sc [] d mX12_likes n 12 L (.inl x :: st) h Q | _ => False)) ∧
  (∀ (n d : Nat) (L : List (Option iV)) (a : Int) (b : Int) (r : List iV) (h : iH) (Q : Option iV → iH → Prop), G sp sc [] d mX12_likes (n + 1) 12 L (.inl b :: .inl a :: r) h Q = G sp sc [] d mX12_likes n 13 L (.inl (a - b) :: r) h Q) ∧
  (∀ (n d : Nat) (L : List (Option iV)) (st : List iV) (h : iH) (Q : Option iV → iH → Prop), G sp sc [] d mX12_likes (n + 1) 13 L st h Q = (match ld L 3 with | some (.inl x) => G sp sc [] d mX12_likes n 14 L (.inl x :: st) h Q | _ => False)) ∧
  (∀ (n d : Nat) (L : List (Option iV)) (r : List iV) (m : Nat) (z0 : iV) (z1 : iV) (h : iH) (Q : Option iV → iH → Prop), G sp sc [] (d + 1) mX12_likes (n + 1) 14 L (z1 :: z0 :: .inr (.inr (m + 2)) :: r) h Q = (match h.1[m]? with | some (.inl (ci, _)) => (match lkC 12 175 ci with | some (y1, n1, kd) => (n1 = 2 ∧ (kd = 2 ∨ kd = 3 ∨ kd = 8) ∧ cs r ≤ 8) ∧ Call sp sc d y1 [.inr (.inr (m + 2)), z0, z1] h (fun q h1 => GC sp sc [] (d + 1) mX12_likes n 17 L q r h h1 Q) | none => False) | _ => False)) ∧
  (∀ (n d : Nat) (L : List (Option iV)) (a : Int) (r : List iV) (h : iH) (Q : Option iV → iH → Prop), G sp sc [] d mX12_likes (n + 1) 17 L (.inl a :: r) h Q = (inI a = true ∧ (a = 0 → G sp sc [] d mX12_likes n 34 L r h Q) ∧ (¬ (a = 0) → G sp sc [] d mX12_likes n 20 L r h Q))) ∧
  (∀ (n d : Nat) (L : List (Option iV)) (st : List iV) (h : iH) (Q : Option iV → iH → Prop), G sp sc [] d mX12_likes (n + 1) 20 L st h Q = (match ld L 0 with | some (.inr (.inr (r + 1))) => G sp sc [] d mX12_likes n 21 L (.inr (.inr (r + 1)) :: st) h Q | _ => False)) ∧
  (∀ (n d : Nat) (L : List (Option iV)) (r : List iV) (m : Nat) (h : iH) (Q : Option iV → iH → Prop), G sp sc [] d mX12_likes (n + 1) 21 L (.inr (.inr (m + 2)) :: r) h Q = (match h.1[m]? with | some (.inl (ci, fs)) => (match lkF 12 9 ci with | some k => (match fs[k]? with | some v => G sp sc [] d mX12_likes n 24 L (v :: r) h Q | none => False) | none => False) | _ => False)) ∧
  (∀ (n d : Nat) (L : List (Option iV)) (st : List iV) (h : iH) (Q : Option iV → iH → Prop), G sp sc [] d mX12_likes (n + 1) 24 L st h Q = (match ld L 1 with | some (.inl x) => G sp sc [] d mX12_likes n 25 L (.inl x :: st) h Q | _ => False)) ∧
  (∀ (n d : Nat) (L : List (Option iV)) (st : List iV) (h : iH) (Q : Option iV → iH → Prop), G sp sc [] d mX12_likes (n + 1) 25 L st h Q = (match ld L 2 with | some (.inl x) => G sp sc [] d mX12_likes n 26 L (.inl x :: st) h Q | _ => False)) ∧
  (∀ (n d : Nat) (L : List (Option iV)) (st : List iV) (h : iH) (Q : Option iV → iH → Prop), G sp sc [] d mX12_likes (n + 1) 26 L st h Q = (match ld L 3 with | some (.inl x) => G sp sc [] d mX12_likes n 27 L (.inl x :: st) h Q | _ => False)) ∧
  (∀ (n d : Nat) (L : List (Option iV)) (r : List iV) (z0 : iV) (z1 : iV) (z2 : iV) (h : iH) (Q : Option iV → iH → Prop), G sp sc [] (d + 1) mX12_likes (n + 1) 27 L (z2 :: z1 :: z0 :: r) h Q = (cs r ≤ 8 ∧ Call sp sc d mX12_atLike [z0, z1, z2] h (fun q h1 => GC sp sc [] (d + 1) mX12_likes n 30 L q r h h1 Q))) ∧
  (∀ (n d : Nat) (L : List (Option iV)) (r : List iV) (j : Int) (m : Nat) (h : iH) (Q : Option iV → iH → Prop), G sp sc [] d mX12_likes (n + 1) 30 L (.inl j :: .inr (.inr (m + 2)) :: r) h Q = (match h.1[m]? with | some (.inr (.inl (0, xs))) => inA j xs.length = true ∧ G sp sc [] d mX12_likes n 31 L (.inl (xs.getD j.toNat 0) :: r) h Q | _ => False)) ∧
  (∀ (n d : Nat) (L : List (Option iV)) (st : List iV) (h : iH) (Q : Option iV → iH → Prop), G sp sc [] d mX12_likes (n + 1) 31 L st h Q = G sp sc [] d mX12_likes n 35 L st h Q) ∧
  (∀ (n d : Nat) (L : List (Option iV)) (st : List iV) (h : iH) (Q : Option iV → iH → Prop), G sp sc [] d mX12_likes (n + 1) 34 L st h Q = G sp sc [] d mX12_likes n 35 L (.inl (-1) :: st) h Q) ∧
  (∀ (n d : Nat) (L : List (Option iV)) (a : Int) (h : iH) (Q : Option iV → iH → Prop), G sp sc [] d mX12_likes (n + 1) 35 L [.inl a] h Q = Q (some (.inl a)) h) ∧
  lkC 12 175 12 = some (mX12_isOne, 2, 2) ∧
  lkF 12 9 12 = some 0 := ⟨by intros; exact G_at (by decide +kernel : fetch mX12_likes 0 = some (.aload_n 0)),
  by intros; exact G_at (by decide +kernel : fetch mX12_likes 1 = some (.iload_n 1)),
  by intros; exact G_at (by decide +kernel : fetch mX12_likes 2 = some (.iload_n 2)),
  by intros; exact G_callV (by decide +kernel : fetch mX12_likes 3 = some (.invokevirtual 175)) (by decide +kernel) (by decide +kernel) rfl,
  by intros; exact G_at (by decide +kernel : fetch mX12_likes 6 = some (.ifCond .eq 28)),
  by intros; exact G_at (by decide +kernel : fetch mX12_likes 9 = some (.aload_n 0)),
  by intros; exact G_at (by decide +kernel : fetch mX12_likes 10 = some (.iconst 1)),
  by intros; exact G_at (by decide +kernel : fetch mX12_likes 11 = some (.iload_n 1)),
  by intros; exact G_at (by decide +kernel : fetch mX12_likes 12 = some (.isub)),
  by intros; exact G_at (by decide +kernel : fetch mX12_likes 13 = some (.iload_n 3)),
  by intros; exact G_callV (by decide +kernel : fetch mX12_likes 14 = some (.invokevirtual 175)) (by decide +kernel) (by decide +kernel) rfl,
  by intros; exact G_at (by decide +kernel : fetch mX12_likes 17 = some (.ifCond .eq 17)),
  by intros; exact G_at (by decide +kernel : fetch mX12_likes 20 = some (.aload_n 0)),
  by intros; exact G_own (by decide +kernel : fetch mX12_likes 21 = some (.getfield 9)) (by decide +kernel),
  by intros; exact G_at (by decide +kernel : fetch mX12_likes 24 = some (.iload_n 1)),
  by intros; exact G_at (by decide +kernel : fetch mX12_likes 25 = some (.iload_n 2)),
  by intros; exact G_at (by decide +kernel : fetch mX12_likes 26 = some (.iload_n 3)),
  by intros; exact G_callS (k := 3) (kd := 0) (by decide +kernel : fetch mX12_likes 27 = some (.invokestatic 109)) (by decide +kernel) (by decide +kernel) (by decide +kernel) rfl (by decide),
  by intros; exact G_at (by decide +kernel : fetch mX12_likes 30 = some (.iaload)),
  by intros; exact G_at (by decide +kernel : fetch mX12_likes 31 = some (.goto 4)),
  by intros; exact G_at (by decide +kernel : fetch mX12_likes 34 = some (.iconst (-1))),
  by intros; exact G_reti (by decide +kernel : fetch mX12_likes 35 = some (.ireturn)) (by decide +kernel),
  by decide +kernel,
  by decide +kernel⟩
theorem gX12_like : (∀ (n d : Nat) (L : List (Option iV)) (st : List iV) (h : iH) (Q : Option iV → iH → Prop), G sp sc [] d mX12_like (n + 1) 0 L st h Q = (match ld L 0 with | some (.inr (.inr (r + 1))) => G sp sc [] d mX12_like n 1 L (.inr (.inr (r + 1)) :: st) h Q | _ => False)) ∧
  (∀ (n d : Nat) (L : List (Option iV)) (st : List iV) (h : iH) (Q : Option iV → iH → Prop), G sp sc [] d mX12_like (n + 1) 1 L st h Q = (match ld L 1 with | some (.inl x) => G sp sc [] d mX12_like n 2 L (.inl x :: st) h Q | _ => False)) ∧
  (∀ (n d : Nat) (L : List (Option iV)) (st : List iV) (h : iH) (Q : Option iV → iH → Prop), G sp sc [] d mX12_like (n + 1) 2 L st h Q = (match ld L 2 with | some (.inl x) => G sp sc [] d mX12_like n 3 L (.inl x :: st) h Q | _ => False)) ∧
  (∀ (n d : Nat) (L : List (Option iV)) (r : List iV) (m : Nat) (z0 : iV) (z1 : iV) (h : iH) (Q : Option iV → iH → Prop), G sp sc [] (d + 1) mX12_like (n + 1) 3 L (z1 :: z0 :: .inr (.inr (m + 2)) :: r) h Q = (match h.1[m]? with | some (.inl (ci, _)) => (match lkC 12 175 ci with | some (y1, n1, kd) => (n1 = 2 ∧ (kd = 2 ∨ kd = 3 ∨ kd = 8) ∧ cs r ≤ 8) ∧ Call sp sc d y1 [.inr (.inr (m + 2)), z0, z1] h (fun q h1 => GC sp sc [] (d + 1) mX12_like n 6 L q r h h1 Q) | none => False) | _ => False)) ∧
  (∀ (n d : Nat) (L : List (Option iV)) (a : Int) (r : List iV) (h : iH) (Q : Option iV → iH → Prop), G sp sc [] d mX12_like (n + 1) 6 L (.inl a :: r) h Q = (inI a = true ∧ (a = 0 → G sp sc [] d mX12_like n 31 L r h Q) ∧ (¬ (a = 0) → G sp sc [] d mX12_like n 9 L r h Q))) ∧
  (∀ (n d : Nat) (L : List (Option iV)) (st : List iV) (h : iH) (Q : Option iV → iH → Prop), G sp sc [] d mX12_like (n + 1) 9 L st h Q = (match ld L 0 with | some (.inr (.inr (r + 1))) => G sp sc [] d mX12_like n 10 L (.inr (.inr (r + 1)) :: st) h Q | _ => False)) ∧
  (∀ (n d : Nat) (L : List (Option iV)) (st : List iV) (h : iH) (Q : Option iV → iH → Prop), G sp sc [] d mX12_like (n + 1) 10 L st h Q = G sp sc [] d mX12_like n 11 L (.inl 1 :: st) h Q) ∧
  (∀ (n d : Nat) (L : List (Option iV)) (st : List iV) (h : iH) (Q : Option iV → iH → Prop), G sp sc [] d mX12_like (n + 1) 11 L st h Q = (match ld L 1 with | some (.inl x) => G sp sc [] d mX12_like n 12 L (.inl x :: st) h Q | _ => False)) ∧
  (∀ (n d : Nat) (L : List (Option iV)) (a : Int) (b : Int) (r : List iV) (h : iH) (Q : Option iV → iH → Prop), G sp sc [] d mX12_like (n + 1) 12 L (.inl b :: .inl a :: r) h Q = G sp sc [] d mX12_like n 13 L (.inl (a - b) :: r) h Q) ∧
  (∀ (n d : Nat) (L : List (Option iV)) (st : List iV) (h : iH) (Q : Option iV → iH → Prop), G sp sc [] d mX12_like (n + 1) 13 L st h Q = (match ld L 3 with | some (.inl x) => G sp sc [] d mX12_like n 14 L (.inl x :: st) h Q | _ => False)) ∧
  (∀ (n d : Nat) (L : List (Option iV)) (r : List iV) (m : Nat) (z0 : iV) (z1 : iV) (h : iH) (Q : Option iV → iH → Prop), G sp sc [] (d + 1) mX12_like (n + 1) 14 L (z1 :: z0 :: .inr (.inr (m + 2)) :: r) h Q = (match h.1[m]? with | some (.inl (ci, _)) => (match lkC 12 175 ci with | some (y1, n1, kd) => (n1 = 2 ∧ (kd = 2 ∨ kd = 3 ∨ kd = 8) ∧ cs r ≤ 8) ∧ Call sp sc d y1 [.inr (.inr (m + 2)), z0, z1] h (fun q h1 => GC sp sc [] (d + 1) mX12_like n 17 L q r h h1 Q) | none => False) | _ => False)) ∧
  (∀ (n d : Nat) (L : List (Option iV)) (a : Int) (r : List iV) (h : iH) (Q : Option iV → iH → Prop), G sp sc [] d mX12_like (n + 1) 17 L (.inl a :: r) h Q = (inI a = true ∧ (a = 0 → G sp sc [] d mX12_like n 31 L r h Q) ∧ (¬ (a = 0) → G sp sc [] d mX12_like n 20 L r h Q))) ∧
  (∀ (n d : Nat) (L : List (Option iV)) (st : List iV) (h : iH) (Q : Option iV → iH → Prop), G sp sc [] d mX12_like (n + 1) 20 L st h Q = (match ld L 4 with | some (.inl x) => G sp sc [] d mX12_like n 22 L (.inl x :: st) h Q | _ => False)) ∧
  (∀ (n d : Nat) (L : List (Option iV)) (st : List iV) (h : iH) (Q : Option iV → iH → Prop), G sp sc [] d mX12_like (n + 1) 22 L st h Q = G sp sc [] d mX12_like n 23 L (.inl 0 :: st) h Q) ∧
  (∀ (n d : Nat) (L : List (Option iV)) (st : List iV) (h : iH) (Q : Option iV → iH → Prop), G sp sc [] d mX12_like (n + 1) 23 L st h Q = ((-128 ≤ (99 : Int) ∧ (99 : Int) < 128) ∧ G sp sc [] d mX12_like n 25 L (.inl 99 :: st) h Q)) ∧
  (∀ (n d : Nat) (L : List (Option iV)) (r : List iV) (z0 : iV) (z1 : iV) (z2 : iV) (h : iH) (Q : Option iV → iH → Prop), G sp sc [] (d + 1) mX12_like (n + 1) 25 L (z2 :: z1 :: z0 :: r) h Q = (cs r ≤ 8 ∧ Call sp sc d mX12_isIn [z0, z1, z2] h (fun q h1 => GC sp sc [] (d + 1) mX12_like n 28 L q r h h1 Q))) ∧
  (∀ (n d : Nat) (L : List (Option iV)) (a : Int) (r : List iV) (h : iH) (Q : Option iV → iH → Prop), G sp sc [] d mX12_like (n + 1) 28 L (.inl a :: r) h Q = (inI a = true ∧ (¬ a = 0 → G sp sc [] d mX12_like n 33 L r h Q) ∧ (¬ (¬ a = 0) → G sp sc [] d mX12_like n 31 L r h Q))) ∧
  (∀ (n d : Nat) (L : List (Option iV)) (st : List iV) (h : iH) (Q : Option iV → iH → Prop), G sp sc [] d mX12_like (n + 1) 31 L st h Q = G sp sc [] d mX12_like n 32 L (.inl (-1) :: st) h Q) ∧
  (∀ (n d : Nat) (L : List (Option iV)) (a : Int) (h : iH) (Q : Option iV → iH → Prop), G sp sc [] d mX12_like (n + 1) 32 L [.inl a] h Q = Q (some (.inl a)) h) ∧
  (∀ (n d : Nat) (L : List (Option iV)) (st : List iV) (h : iH) (Q : Option iV → iH → Prop), G sp sc [] d mX12_like (n + 1) 33 L st h Q = (match ld L 0 with | some (.inr (.inr (r + 1))) => G sp sc [] d mX12_like n 34 L (.inr (.inr (r + 1)) :: st) h Q | _ => False)) ∧
  (∀ (n d : Nat) (L : List (Option iV)) (r : List iV) (m : Nat) (h : iH) (Q : Option iV → iH → Prop), G sp sc [] d mX12_like (n + 1) 34 L (.inr (.inr (m + 2)) :: r) h Q = (match h.1[m]? with | some (.inl (ci, fs)) => (match lkF 12 9 ci with | some k => (match fs[k]? with | some v => G sp sc [] d mX12_like n 37 L (v :: r) h Q | none => False) | none => False) | _ => False)) ∧
  (∀ (n d : Nat) (L : List (Option iV)) (st : List iV) (h : iH) (Q : Option iV → iH → Prop), G sp sc [] d mX12_like (n + 1) 37 L st h Q = (match ld L 1 with | some (.inl x) => G sp sc [] d mX12_like n 38 L (.inl x :: st) h Q | _ => False)) ∧
  (∀ (n d : Nat) (L : List (Option iV)) (st : List iV) (h : iH) (Q : Option iV → iH → Prop), G sp sc [] d mX12_like (n + 1) 38 L st h Q = (match ld L 2 with | some (.inl x) => G sp sc [] d mX12_like n 39 L (.inl x :: st) h Q | _ => False)) ∧
  (∀ (n d : Nat) (L : List (Option iV)) (st : List iV) (h : iH) (Q : Option iV → iH → Prop), G sp sc [] d mX12_like (n + 1) 39 L st h Q = (match ld L 3 with | some (.inl x) => G sp sc [] d mX12_like n 40 L (.inl x :: st) h Q | _ => False)) ∧
  (∀ (n d : Nat) (L : List (Option iV)) (r : List iV) (z0 : iV) (z1 : iV) (z2 : iV) (h : iH) (Q : Option iV → iH → Prop), G sp sc [] (d + 1) mX12_like (n + 1) 40 L (z2 :: z1 :: z0 :: r) h Q = (cs r ≤ 8 ∧ Call sp sc d mX12_atLike [z0, z1, z2] h (fun q h1 => GC sp sc [] (d + 1) mX12_like n 43 L q r h h1 Q))) ∧
  (∀ (n d : Nat) (L : List (Option iV)) (r : List iV) (j : Int) (m : Nat) (h : iH) (Q : Option iV → iH → Prop), G sp sc [] d mX12_like (n + 1) 43 L (.inl j :: .inr (.inr (m + 2)) :: r) h Q = (match h.1[m]? with | some (.inr (.inl (0, xs))) => inA j xs.length = true ∧ G sp sc [] d mX12_like n 44 L (.inl (xs.getD j.toNat 0) :: r) h Q | _ => False)) ∧
  (∀ (n d : Nat) (L : List (Option iV)) (r : List iV) (x : Int) (h : iH) (Q : Option iV → iH → Prop), G sp sc [] d mX12_like (n + 1) 44 L (.inl x :: r) h Q = (match st1 L 5 (.inl x) with | some L' => G sp sc [] d mX12_like n 46 L' r h Q | none => False)) ∧
  (∀ (n d : Nat) (L : List (Option iV)) (st : List iV) (h : iH) (Q : Option iV → iH → Prop), G sp sc [] d mX12_like (n + 1) 46 L st h Q = (match ld L 0 with | some (.inr (.inr (r + 1))) => G sp sc [] d mX12_like n 47 L (.inr (.inr (r + 1)) :: st) h Q | _ => False)) ∧
  (∀ (n d : Nat) (L : List (Option iV)) (r : List iV) (m : Nat) (h : iH) (Q : Option iV → iH → Prop), G sp sc [] d mX12_like (n + 1) 47 L (.inr (.inr (m + 2)) :: r) h Q = (match h.1[m]? with | some (.inl (ci, fs)) => (match lkF 12 9 ci with | some k => (match fs[k]? with | some v => G sp sc [] d mX12_like n 50 L (v :: r) h Q | none => False) | none => False) | _ => False)) ∧
  (∀ (n d : Nat) (L : List (Option iV)) (st : List iV) (h : iH) (Q : Option iV → iH → Prop), G sp sc [] d mX12_like (n + 1) 50 L st h Q = (match ld L 1 with | some (.inl x) => G sp sc [] d mX12_like n 51 L (.inl x :: st) h Q | _ => False)) ∧
  (∀ (n d : Nat) (L : List (Option iV)) (st : List iV) (h : iH) (Q : Option iV → iH → Prop), G sp sc [] d mX12_like (n + 1) 51 L st h Q = (match ld L 2 with | some (.inl x) => G sp sc [] d mX12_like n 52 L (.inl x :: st) h Q | _ => False)) ∧
  (∀ (n d : Nat) (L : List (Option iV)) (st : List iV) (h : iH) (Q : Option iV → iH → Prop), G sp sc [] d mX12_like (n + 1) 52 L st h Q = (match ld L 3 with | some (.inl x) => G sp sc [] d mX12_like n 53 L (.inl x :: st) h Q | _ => False)) ∧
  (∀ (n d : Nat) (L : List (Option iV)) (r : List iV) (z0 : iV) (z1 : iV) (z2 : iV) (h : iH) (Q : Option iV → iH → Prop), G sp sc [] (d + 1) mX12_like (n + 1) 53 L (z2 :: z1 :: z0 :: r) h Q = (cs r ≤ 8 ∧ Call sp sc d mX12_atLike [z0, z1, z2] h (fun q h1 => GC sp sc [] (d + 1) mX12_like n 56 L q r h h1 Q))) ∧
  (∀ (n d : Nat) (L : List (Option iV)) (st : List iV) (h : iH) (Q : Option iV → iH → Prop), G sp sc [] d mX12_like (n + 1) 56 L st h Q = (match ld L 4 with | some (.inl x) => G sp sc [] d mX12_like n 58 L (.inl x :: st) h Q | _ => False)) ∧
  (∀ (n d : Nat) (L : List (Option iV)) (r : List iV) (v : Int) (j : Int) (m : Nat) (h : iH) (Q : Option iV → iH → Prop), G sp sc [] d mX12_like (n + 1) 58 L (.inl v :: .inl j :: .inr (.inr (m + 2)) :: r) h Q = (match h.1[m]? with | some (.inr (.inl (0, xs))) => inA j xs.length = true ∧ G sp sc [] d mX12_like n 59 L r (h.1.set m (.inr (.inl (0, xs.set j.toNat v))), h.2) Q | _ => False)) ∧
  (∀ (n d : Nat) (L : List (Option iV)) (st : List iV) (h : iH) (Q : Option iV → iH → Prop), G sp sc [] d mX12_like (n + 1) 59 L st h Q = (match ld L 5 with | some (.inl x) => G sp sc [] d mX12_like n 61 L (.inl x :: st) h Q | _ => False)) ∧
  (∀ (n d : Nat) (L : List (Option iV)) (a : Int) (h : iH) (Q : Option iV → iH → Prop), G sp sc [] d mX12_like (n + 1) 61 L [.inl a] h Q = Q (some (.inl a)) h) ∧
  lkC 12 175 12 = some (mX12_isOne, 2, 2) ∧
  lkF 12 9 12 = some 0 := ⟨by intros; exact G_at (by decide +kernel : fetch mX12_like 0 = some (.aload_n 0)),
  by intros; exact G_at (by decide +kernel : fetch mX12_like 1 = some (.iload_n 1)),
  by intros; exact G_at (by decide +kernel : fetch mX12_like 2 = some (.iload_n 2)),
  by intros; exact G_callV (by decide +kernel : fetch mX12_like 3 = some (.invokevirtual 175)) (by decide +kernel) (by decide +kernel) rfl,
  by intros; exact G_at (by decide +kernel : fetch mX12_like 6 = some (.ifCond .eq 25)),
  by intros; exact G_at (by decide +kernel : fetch mX12_like 9 = some (.aload_n 0)),
  by intros; exact G_at (by decide +kernel : fetch mX12_like 10 = some (.iconst 1)),
  by intros; exact G_at (by decide +kernel : fetch mX12_like 11 = some (.iload_n 1)),
  by intros; exact G_at (by decide +kernel : fetch mX12_like 12 = some (.isub)),
  by intros; exact G_at (by decide +kernel : fetch mX12_like 13 = some (.iload_n 3)),
  by intros; exact G_callV (by decide +kernel : fetch mX12_like 14 = some (.invokevirtual 175)) (by decide +kernel) (by decide +kernel) rfl,
  by intros; exact G_at (by decide +kernel : fetch mX12_like 17 = some (.ifCond .eq 14)),
  by intros; exact G_at (by decide +kernel : fetch mX12_like 20 = some (.iload 4)),
  by intros; exact G_at (by decide +kernel : fetch mX12_like 22 = some (.iconst 0)),
  by intros; exact G_at (by decide +kernel : fetch mX12_like 23 = some (.bipush 99)),
  by intros; exact G_callS (k := 3) (kd := 0) (by decide +kernel : fetch mX12_like 25 = some (.invokestatic 67)) (by decide +kernel) (by decide +kernel) (by decide +kernel) rfl (by decide),
  by intros; exact G_at (by decide +kernel : fetch mX12_like 28 = some (.ifCond .ne 5)),
  by intros; exact G_at (by decide +kernel : fetch mX12_like 31 = some (.iconst (-1))),
  by intros; exact G_reti (by decide +kernel : fetch mX12_like 32 = some (.ireturn)) (by decide +kernel),
  by intros; exact G_at (by decide +kernel : fetch mX12_like 33 = some (.aload_n 0)),
  by intros; exact G_own (by decide +kernel : fetch mX12_like 34 = some (.getfield 9)) (by decide +kernel),
  by intros; exact G_at (by decide +kernel : fetch mX12_like 37 = some (.iload_n 1)),
  by intros; exact G_at (by decide +kernel : fetch mX12_like 38 = some (.iload_n 2)),
  by intros; exact G_at (by decide +kernel : fetch mX12_like 39 = some (.iload_n 3)),
  by intros; exact G_callS (k := 3) (kd := 0) (by decide +kernel : fetch mX12_like 40 = some (.invokestatic 109)) (by decide +kernel) (by decide +kernel) (by decide +kernel) rfl (by decide),
  by intros; exact G_at (by decide +kernel : fetch mX12_like 43 = some (.iaload)),
  by intros; exact G_at (by decide +kernel : fetch mX12_like 44 = some (.istore 5)),
  by intros; exact G_at (by decide +kernel : fetch mX12_like 46 = some (.aload_n 0)),
  by intros; exact G_own (by decide +kernel : fetch mX12_like 47 = some (.getfield 9)) (by decide +kernel),
  by intros; exact G_at (by decide +kernel : fetch mX12_like 50 = some (.iload_n 1)),
  by intros; exact G_at (by decide +kernel : fetch mX12_like 51 = some (.iload_n 2)),
  by intros; exact G_at (by decide +kernel : fetch mX12_like 52 = some (.iload_n 3)),
  by intros; exact G_callS (k := 3) (kd := 0) (by decide +kernel : fetch mX12_like 53 = some (.invokestatic 109)) (by decide +kernel) (by decide +kernel) (by decide +kernel) rfl (by decide),
  by intros; exact G_at (by decide +kernel : fetch mX12_like 56 = some (.iload 4)),
  by intros; exact G_at (by decide +kernel : fetch mX12_like 58 = some (.iastore)),
  by intros; exact G_at (by decide +kernel : fetch mX12_like 59 = some (.iload 5)),
  by intros; exact G_reti (by decide +kernel : fetch mX12_like 61 = some (.ireturn)) (by decide +kernel),
  by decide +kernel,
  by decide +kernel⟩
theorem gX12_sends : (∀ (n d : Nat) (L : List (Option iV)) (st : List iV) (h : iH) (Q : Option iV → iH → Prop), G sp sc [] d mX12_sends (n + 1) 0 L st h Q = (match ld L 0 with | some (.inr (.inr (r + 1))) => G sp sc [] d mX12_sends n 1 L (.inr (.inr (r + 1)) :: st) h Q | _ => False)) ∧
  (∀ (n d : Nat) (L : List (Option iV)) (st : List iV) (h : iH) (Q : Option iV → iH → Prop), G sp sc [] d mX12_sends (n + 1) 1 L st h Q = (match ld L 1 with | some (.inl x) => G sp sc [] d mX12_sends n 2 L (.inl x :: st) h Q | _ => False)) ∧
  (∀ (n d : Nat) (L : List (Option iV)) (st : List iV) (h : iH) (Q : Option iV → iH → Prop), G sp sc [] d mX12_sends (n + 1) 2 L st h Q = (match ld L 2 with | some (.inl x) => G sp sc [] d mX12_sends n 3 L (.inl x :: st) h Q | _ => False)) ∧
  (∀ (n d : Nat) (L : List (Option iV)) (r : List iV) (m : Nat) (z0 : iV) (z1 : iV) (h : iH) (Q : Option iV → iH → Prop), G sp sc [] (d + 1) mX12_sends (n + 1) 3 L (z1 :: z0 :: .inr (.inr (m + 2)) :: r) h Q = (match h.1[m]? with | some (.inl (ci, _)) => (match lkC 12 175 ci with | some (y1, n1, kd) => (n1 = 2 ∧ (kd = 2 ∨ kd = 3 ∨ kd = 8) ∧ cs r ≤ 8) ∧ Call sp sc d y1 [.inr (.inr (m + 2)), z0, z1] h (fun q h1 => GC sp sc [] (d + 1) mX12_sends n 6 L q r h h1 Q) | none => False) | _ => False)) ∧
  (∀ (n d : Nat) (L : List (Option iV)) (a : Int) (r : List iV) (h : iH) (Q : Option iV → iH → Prop), G sp sc [] d mX12_sends (n + 1) 6 L (.inl a :: r) h Q = (inI a = true ∧ (a = 0 → G sp sc [] d mX12_sends n 18 L r h Q) ∧ (¬ (a = 0) → G sp sc [] d mX12_sends n 9 L r h Q))) ∧
  (∀ (n d : Nat) (L : List (Option iV)) (st : List iV) (h : iH) (Q : Option iV → iH → Prop), G sp sc [] d mX12_sends (n + 1) 9 L st h Q = (match ld L 0 with | some (.inr (.inr (r + 1))) => G sp sc [] d mX12_sends n 10 L (.inr (.inr (r + 1)) :: st) h Q | _ => False)) ∧
  (∀ (n d : Nat) (L : List (Option iV)) (st : List iV) (h : iH) (Q : Option iV → iH → Prop), G sp sc [] d mX12_sends (n + 1) 10 L st h Q = (match ld L 1 with | some (.inl x) => G sp sc [] d mX12_sends n 11 L (.inl x :: st) h Q | _ => False)) ∧
  (∀ (n d : Nat) (L : List (Option iV)) (st : List iV) (h : iH) (Q : Option iV → iH → Prop), G sp sc [] d mX12_sends (n + 1) 11 L st h Q = (match ld L 3 with | some (.inl x) => G sp sc [] d mX12_sends n 12 L (.inl x :: st) h Q | _ => False)) ∧
  (∀ (n d : Nat) (L : List (Option iV)) (r : List iV) (m : Nat) (z0 : iV) (z1 : iV) (h : iH) (Q : Option iV → iH → Prop), G sp sc [] (d + 1) mX12_sends (n + 1) 12 L (z1 :: z0 :: .inr (.inr (m + 2)) :: r) h Q = (match h.1[m]? with | some (.inl (ci, _)) => (match lkC 12 175 ci with | some (y1, n1, kd) => (n1 = 2 ∧ (kd = 2 ∨ kd = 3 ∨ kd = 8) ∧ cs r ≤ 8) ∧ Call sp sc d y1 [.inr (.inr (m + 2)), z0, z1] h (fun q h1 => GC sp sc [] (d + 1) mX12_sends n 15 L q r h h1 Q) | none => False) | _ => False)) ∧
  (∀ (n d : Nat) (L : List (Option iV)) (a : Int) (r : List iV) (h : iH) (Q : Option iV → iH → Prop), G sp sc [] d mX12_sends (n + 1) 15 L (.inl a :: r) h Q = (inI a = true ∧ (¬ a = 0 → G sp sc [] d mX12_sends n 20 L r h Q) ∧ (¬ (¬ a = 0) → G sp sc [] d mX12_sends n 18 L r h Q))) ∧
  (∀ (n d : Nat) (L : List (Option iV)) (st : List iV) (h : iH) (Q : Option iV → iH → Prop), G sp sc [] d mX12_sends (n + 1) 18 L st h Q = G sp sc [] d mX12_sends n 19 L (.inl (-1) :: st) h Q) ∧
  (∀ (n d : Nat) (L : List (Option iV)) (a : Int) (h : iH) (Q : Option iV → iH → Prop), G sp sc [] d mX12_sends (n + 1) 19 L [.inl a] h Q = Q (some (.inl a)) h) ∧
  (∀ (n d : Nat) (L : List (Option iV)) (st : List iV) (h : iH) (Q : Option iV → iH → Prop), G sp sc [] d mX12_sends (n + 1) 20 L st h Q = (match ld L 0 with | some (.inr (.inr (r + 1))) => G sp sc [] d mX12_sends n 21 L (.inr (.inr (r + 1)) :: st) h Q | _ => False)) ∧
  (∀ (n d : Nat) (L : List (Option iV)) (r : List iV) (m : Nat) (h : iH) (Q : Option iV → iH → Prop), G sp sc [] d mX12_sends (n + 1) 21 L (.inr (.inr (m + 2)) :: r) h Q = (match h.1[m]? with | some (.inl (ci, fs)) => (match lkF 12 9 ci with | some k => (match fs[k]? with | some v => G sp sc [] d mX12_sends n 24 L (v :: r) h Q | none => False) | none => False) | _ => False)) ∧
  (∀ (n d : Nat) (L : List (Option iV)) (st : List iV) (h : iH) (Q : Option iV → iH → Prop), G sp sc [] d mX12_sends (n + 1) 24 L st h Q = (match ld L 1 with | some (.inl x) => G sp sc [] d mX12_sends n 25 L (.inl x :: st) h Q | _ => False)) ∧
  (∀ (n d : Nat) (L : List (Option iV)) (st : List iV) (h : iH) (Q : Option iV → iH → Prop), G sp sc [] d mX12_sends (n + 1) 25 L st h Q = (match ld L 2 with | some (.inl x) => G sp sc [] d mX12_sends n 26 L (.inl x :: st) h Q | _ => False)) ∧
  (∀ (n d : Nat) (L : List (Option iV)) (st : List iV) (h : iH) (Q : Option iV → iH → Prop), G sp sc [] d mX12_sends (n + 1) 26 L st h Q = G sp sc [] d mX12_sends n 27 L (.inl 2 :: st) h Q) ∧
  (∀ (n d : Nat) (L : List (Option iV)) (r : List iV) (z0 : iV) (z1 : iV) (z2 : iV) (h : iH) (Q : Option iV → iH → Prop), G sp sc [] (d + 1) mX12_sends (n + 1) 27 L (z2 :: z1 :: z0 :: r) h Q = (cs r ≤ 8 ∧ Call sp sc d mX12_atOne [z0, z1, z2] h (fun q h1 => GC sp sc [] (d + 1) mX12_sends n 30 L q r h h1 Q))) ∧
  (∀ (n d : Nat) (L : List (Option iV)) (r : List iV) (j : Int) (m : Nat) (h : iH) (Q : Option iV → iH → Prop), G sp sc [] d mX12_sends (n + 1) 30 L (.inl j :: .inr (.inr (m + 2)) :: r) h Q = (match h.1[m]? with | some (.inr (.inl (0, xs))) => inA j xs.length = true ∧ G sp sc [] d mX12_sends n 31 L (.inl (xs.getD j.toNat 0) :: r) h Q | _ => False)) ∧
  (∀ (n d : Nat) (L : List (Option iV)) (r : List iV) (x : Int) (h : iH) (Q : Option iV → iH → Prop), G sp sc [] d mX12_sends (n + 1) 31 L (.inl x :: r) h Q = (match st1 L 4 (.inl x) with | some L' => G sp sc [] d mX12_sends n 33 L' r h Q | none => False)) ∧
  (∀ (n d : Nat) (L : List (Option iV)) (st : List iV) (h : iH) (Q : Option iV → iH → Prop), G sp sc [] d mX12_sends (n + 1) 33 L st h Q = (match ld L 0 with | some (.inr (.inr (r + 1))) => G sp sc [] d mX12_sends n 34 L (.inr (.inr (r + 1)) :: st) h Q | _ => False)) ∧
  (∀ (n d : Nat) (L : List (Option iV)) (r : List iV) (m : Nat) (h : iH) (Q : Option iV → iH → Prop), G sp sc [] d mX12_sends (n + 1) 34 L (.inr (.inr (m + 2)) :: r) h Q = (match h.1[m]? with | some (.inl (ci, fs)) => (match lkF 12 9 ci with | some k => (match fs[k]? with | some v => G sp sc [] d mX12_sends n 37 L (v :: r) h Q | none => False) | none => False) | _ => False)) ∧
  (∀ (n d : Nat) (L : List (Option iV)) (st : List iV) (h : iH) (Q : Option iV → iH → Prop), G sp sc [] d mX12_sends (n + 1) 37 L st h Q = (match ld L 1 with | some (.inl x) => G sp sc [] d mX12_sends n 38 L (.inl x :: st) h Q | _ => False)) ∧
  (∀ (n d : Nat) (L : List (Option iV)) (st : List iV) (h : iH) (Q : Option iV → iH → Prop), G sp sc [] d mX12_sends (n + 1) 38 L st h Q = (match ld L 2 with | some (.inl x) => G sp sc [] d mX12_sends n 39 L (.inl x :: st) h Q | _ => False)) ∧
  (∀ (n d : Nat) (L : List (Option iV)) (st : List iV) (h : iH) (Q : Option iV → iH → Prop), G sp sc [] d mX12_sends (n + 1) 39 L st h Q = G sp sc [] d mX12_sends n 40 L (.inl 2 :: st) h Q) ∧
  (∀ (n d : Nat) (L : List (Option iV)) (r : List iV) (z0 : iV) (z1 : iV) (z2 : iV) (h : iH) (Q : Option iV → iH → Prop), G sp sc [] (d + 1) mX12_sends (n + 1) 40 L (z2 :: z1 :: z0 :: r) h Q = (cs r ≤ 8 ∧ Call sp sc d mX12_atOne [z0, z1, z2] h (fun q h1 => GC sp sc [] (d + 1) mX12_sends n 43 L q r h h1 Q))) ∧
  (∀ (n d : Nat) (L : List (Option iV)) (st : List iV) (h : iH) (Q : Option iV → iH → Prop), G sp sc [] d mX12_sends (n + 1) 43 L st h Q = (match ld L 3 with | some (.inl x) => G sp sc [] d mX12_sends n 44 L (.inl x :: st) h Q | _ => False)) ∧
  (∀ (n d : Nat) (L : List (Option iV)) (st : List iV) (h : iH) (Q : Option iV → iH → Prop), G sp sc [] d mX12_sends (n + 1) 44 L st h Q = (match ld L 2 with | some (.inl x) => G sp sc [] d mX12_sends n 45 L (.inl x :: st) h Q | _ => False)) ∧
  (∀ (n d : Nat) (L : List (Option iV)) (a : Int) (b : Int) (r : List iV) (h : iH) (Q : Option iV → iH → Prop), G sp sc [] d mX12_sends (n + 1) 45 L (.inl b :: .inl a :: r) h Q = ((inI a = true ∧ inI b = true) ∧ (¬ a = b → G sp sc [] d mX12_sends n 52 L r h Q) ∧ (¬ (¬ a = b) → G sp sc [] d mX12_sends n 48 L r h Q))) ∧
  (∀ (n d : Nat) (L : List (Option iV)) (st : List iV) (h : iH) (Q : Option iV → iH → Prop), G sp sc [] d mX12_sends (n + 1) 48 L st h Q = G sp sc [] d mX12_sends n 49 L (.inl (-1) :: st) h Q) ∧
  (∀ (n d : Nat) (L : List (Option iV)) (st : List iV) (h : iH) (Q : Option iV → iH → Prop), G sp sc [] d mX12_sends (n + 1) 49 L st h Q = G sp sc [] d mX12_sends n 53 L st h Q) ∧
  (∀ (n d : Nat) (L : List (Option iV)) (st : List iV) (h : iH) (Q : Option iV → iH → Prop), G sp sc [] d mX12_sends (n + 1) 52 L st h Q = (match ld L 3 with | some (.inl x) => G sp sc [] d mX12_sends n 53 L (.inl x :: st) h Q | _ => False)) ∧
  (∀ (n d : Nat) (L : List (Option iV)) (r : List iV) (v : Int) (j : Int) (m : Nat) (h : iH) (Q : Option iV → iH → Prop), G sp sc [] d mX12_sends (n + 1) 53 L (.inl v :: .inl j :: .inr (.inr (m + 2)) :: r) h Q = (match h.1[m]? with | some (.inr (.inl (0, xs))) => inA j xs.length = true ∧ G sp sc [] d mX12_sends n 54 L r (h.1.set m (.inr (.inl (0, xs.set j.toNat v))), h.2) Q | _ => False)) ∧
  (∀ (n d : Nat) (L : List (Option iV)) (st : List iV) (h : iH) (Q : Option iV → iH → Prop), G sp sc [] d mX12_sends (n + 1) 54 L st h Q = (match ld L 4 with | some (.inl x) => G sp sc [] d mX12_sends n 56 L (.inl x :: st) h Q | _ => False)) ∧
  (∀ (n d : Nat) (L : List (Option iV)) (r : List iV) (z0 : iV) (h : iH) (Q : Option iV → iH → Prop), G sp sc [] (d + 1) mX12_sends (n + 1) 56 L (z0 :: r) h Q = (cs r ≤ 8 ∧ Call sp sc d mX12_orNone [z0] h (fun q h1 => GC sp sc [] (d + 1) mX12_sends n 59 L q r h h1 Q))) ∧
  (∀ (n d : Nat) (L : List (Option iV)) (a : Int) (h : iH) (Q : Option iV → iH → Prop), G sp sc [] d mX12_sends (n + 1) 59 L [.inl a] h Q = Q (some (.inl a)) h) ∧
  lkC 12 175 12 = some (mX12_isOne, 2, 2) ∧
  lkF 12 9 12 = some 0 := ⟨by intros; exact G_at (by decide +kernel : fetch mX12_sends 0 = some (.aload_n 0)),
  by intros; exact G_at (by decide +kernel : fetch mX12_sends 1 = some (.iload_n 1)),
  by intros; exact G_at (by decide +kernel : fetch mX12_sends 2 = some (.iload_n 2)),
  by intros; exact G_callV (by decide +kernel : fetch mX12_sends 3 = some (.invokevirtual 175)) (by decide +kernel) (by decide +kernel) rfl,
  by intros; exact G_at (by decide +kernel : fetch mX12_sends 6 = some (.ifCond .eq 12)),
  by intros; exact G_at (by decide +kernel : fetch mX12_sends 9 = some (.aload_n 0)),
  by intros; exact G_at (by decide +kernel : fetch mX12_sends 10 = some (.iload_n 1)),
  by intros; exact G_at (by decide +kernel : fetch mX12_sends 11 = some (.iload_n 3)),
  by intros; exact G_callV (by decide +kernel : fetch mX12_sends 12 = some (.invokevirtual 175)) (by decide +kernel) (by decide +kernel) rfl,
  by intros; exact G_at (by decide +kernel : fetch mX12_sends 15 = some (.ifCond .ne 5)),
  by intros; exact G_at (by decide +kernel : fetch mX12_sends 18 = some (.iconst (-1))),
  by intros; exact G_reti (by decide +kernel : fetch mX12_sends 19 = some (.ireturn)) (by decide +kernel),
  by intros; exact G_at (by decide +kernel : fetch mX12_sends 20 = some (.aload_n 0)),
  by intros; exact G_own (by decide +kernel : fetch mX12_sends 21 = some (.getfield 9)) (by decide +kernel),
  by intros; exact G_at (by decide +kernel : fetch mX12_sends 24 = some (.iload_n 1)),
  by intros; exact G_at (by decide +kernel : fetch mX12_sends 25 = some (.iload_n 2)),
  by intros; exact G_at (by decide +kernel : fetch mX12_sends 26 = some (.iconst 2)),
  by intros; exact G_callS (k := 3) (kd := 0) (by decide +kernel : fetch mX12_sends 27 = some (.invokestatic 88)) (by decide +kernel) (by decide +kernel) (by decide +kernel) rfl (by decide),
  by intros; exact G_at (by decide +kernel : fetch mX12_sends 30 = some (.iaload)),
  by intros; exact G_at (by decide +kernel : fetch mX12_sends 31 = some (.istore 4)),
  by intros; exact G_at (by decide +kernel : fetch mX12_sends 33 = some (.aload_n 0)),
  by intros; exact G_own (by decide +kernel : fetch mX12_sends 34 = some (.getfield 9)) (by decide +kernel),
  by intros; exact G_at (by decide +kernel : fetch mX12_sends 37 = some (.iload_n 1)),
  by intros; exact G_at (by decide +kernel : fetch mX12_sends 38 = some (.iload_n 2)),
  by intros; exact G_at (by decide +kernel : fetch mX12_sends 39 = some (.iconst 2)),
  by intros; exact G_callS (k := 3) (kd := 0) (by decide +kernel : fetch mX12_sends 40 = some (.invokestatic 88)) (by decide +kernel) (by decide +kernel) (by decide +kernel) rfl (by decide),
  by intros; exact G_at (by decide +kernel : fetch mX12_sends 43 = some (.iload_n 3)),
  by intros; exact G_at (by decide +kernel : fetch mX12_sends 44 = some (.iload_n 2)),
  by intros; exact G_at (by decide +kernel : fetch mX12_sends 45 = some (.if_icmp .ne 7)),
  by intros; exact G_at (by decide +kernel : fetch mX12_sends 48 = some (.iconst (-1))),
  by intros; exact G_at (by decide +kernel : fetch mX12_sends 49 = some (.goto 4)),
  by intros; exact G_at (by decide +kernel : fetch mX12_sends 52 = some (.iload_n 3)),
  by intros; exact G_at (by decide +kernel : fetch mX12_sends 53 = some (.iastore)),
  by intros; exact G_at (by decide +kernel : fetch mX12_sends 54 = some (.iload 4)),
  by intros; exact G_callS (k := 1) (kd := 0) (by decide +kernel : fetch mX12_sends 56 = some (.invokestatic 195)) (by decide +kernel) (by decide +kernel) (by decide +kernel) rfl (by decide),
  by intros; exact G_reti (by decide +kernel : fetch mX12_sends 59 = some (.ireturn)) (by decide +kernel),
  by decide +kernel,
  by decide +kernel⟩
theorem gX12_couple : (∀ (n d : Nat) (L : List (Option iV)) (st : List iV) (h : iH) (Q : Option iV → iH → Prop), G sp sc [] d mX12_couple (n + 1) 0 L st h Q = (match ld L 0 with | some (.inr (.inr (r + 1))) => G sp sc [] d mX12_couple n 1 L (.inr (.inr (r + 1)) :: st) h Q | _ => False)) ∧
  (∀ (n d : Nat) (L : List (Option iV)) (st : List iV) (h : iH) (Q : Option iV → iH → Prop), G sp sc [] d mX12_couple (n + 1) 1 L st h Q = G sp sc [] d mX12_couple n 2 L (.inl 0 :: st) h Q) ∧
  (∀ (n d : Nat) (L : List (Option iV)) (st : List iV) (h : iH) (Q : Option iV → iH → Prop), G sp sc [] d mX12_couple (n + 1) 2 L st h Q = (match ld L 1 with | some (.inl x) => G sp sc [] d mX12_couple n 3 L (.inl x :: st) h Q | _ => False)) ∧
  (∀ (n d : Nat) (L : List (Option iV)) (r : List iV) (m : Nat) (z0 : iV) (z1 : iV) (h : iH) (Q : Option iV → iH → Prop), G sp sc [] (d + 1) mX12_couple (n + 1) 3 L (z1 :: z0 :: .inr (.inr (m + 2)) :: r) h Q = (match h.1[m]? with | some (.inl (ci, _)) => (match lkC 12 175 ci with | some (y1, n1, kd) => (n1 = 2 ∧ (kd = 2 ∨ kd = 3 ∨ kd = 8) ∧ cs r ≤ 8) ∧ Call sp sc d y1 [.inr (.inr (m + 2)), z0, z1] h (fun q h1 => GC sp sc [] (d + 1) mX12_couple n 6 L q r h h1 Q) | none => False) | _ => False)) ∧
  (∀ (n d : Nat) (L : List (Option iV)) (a : Int) (r : List iV) (h : iH) (Q : Option iV → iH → Prop), G sp sc [] d mX12_couple (n + 1) 6 L (.inl a :: r) h Q = (inI a = true ∧ (a = 0 → G sp sc [] d mX12_couple n 18 L r h Q) ∧ (¬ (a = 0) → G sp sc [] d mX12_couple n 9 L r h Q))) ∧
  (∀ (n d : Nat) (L : List (Option iV)) (st : List iV) (h : iH) (Q : Option iV → iH → Prop), G sp sc [] d mX12_couple (n + 1) 9 L st h Q = (match ld L 0 with | some (.inr (.inr (r + 1))) => G sp sc [] d mX12_couple n 10 L (.inr (.inr (r + 1)) :: st) h Q | _ => False)) ∧
  (∀ (n d : Nat) (L : List (Option iV)) (st : List iV) (h : iH) (Q : Option iV → iH → Prop), G sp sc [] d mX12_couple (n + 1) 10 L st h Q = G sp sc [] d mX12_couple n 11 L (.inl 1 :: st) h Q) ∧
  (∀ (n d : Nat) (L : List (Option iV)) (st : List iV) (h : iH) (Q : Option iV → iH → Prop), G sp sc [] d mX12_couple (n + 1) 11 L st h Q = (match ld L 2 with | some (.inl x) => G sp sc [] d mX12_couple n 12 L (.inl x :: st) h Q | _ => False)) ∧
  (∀ (n d : Nat) (L : List (Option iV)) (r : List iV) (m : Nat) (z0 : iV) (z1 : iV) (h : iH) (Q : Option iV → iH → Prop), G sp sc [] (d + 1) mX12_couple (n + 1) 12 L (z1 :: z0 :: .inr (.inr (m + 2)) :: r) h Q = (match h.1[m]? with | some (.inl (ci, _)) => (match lkC 12 175 ci with | some (y1, n1, kd) => (n1 = 2 ∧ (kd = 2 ∨ kd = 3 ∨ kd = 8) ∧ cs r ≤ 8) ∧ Call sp sc d y1 [.inr (.inr (m + 2)), z0, z1] h (fun q h1 => GC sp sc [] (d + 1) mX12_couple n 15 L q r h h1 Q) | none => False) | _ => False)) ∧
  (∀ (n d : Nat) (L : List (Option iV)) (a : Int) (r : List iV) (h : iH) (Q : Option iV → iH → Prop), G sp sc [] d mX12_couple (n + 1) 15 L (.inl a :: r) h Q = (inI a = true ∧ (¬ a = 0 → G sp sc [] d mX12_couple n 20 L r h Q) ∧ (¬ (¬ a = 0) → G sp sc [] d mX12_couple n 18 L r h Q))) ∧
  (∀ (n d : Nat) (L : List (Option iV)) (st : List iV) (h : iH) (Q : Option iV → iH → Prop), G sp sc [] d mX12_couple (n + 1) 18 L st h Q = G sp sc [] d mX12_couple n 19 L (.inl (-1) :: st) h Q) ∧
  (∀ (n d : Nat) (L : List (Option iV)) (a : Int) (h : iH) (Q : Option iV → iH → Prop), G sp sc [] d mX12_couple (n + 1) 19 L [.inl a] h Q = Q (some (.inl a)) h) ∧
  (∀ (n d : Nat) (L : List (Option iV)) (st : List iV) (h : iH) (Q : Option iV → iH → Prop), G sp sc [] d mX12_couple (n + 1) 20 L st h Q = (match ld L 0 with | some (.inr (.inr (r + 1))) => G sp sc [] d mX12_couple n 21 L (.inr (.inr (r + 1)) :: st) h Q | _ => False)) ∧
  (∀ (n d : Nat) (L : List (Option iV)) (st : List iV) (h : iH) (Q : Option iV → iH → Prop), G sp sc [] d mX12_couple (n + 1) 21 L st h Q = (match ld L 1 with | some (.inl x) => G sp sc [] d mX12_couple n 22 L (.inl x :: st) h Q | _ => False)) ∧
  (∀ (n d : Nat) (L : List (Option iV)) (st : List iV) (h : iH) (Q : Option iV → iH → Prop), G sp sc [] d mX12_couple (n + 1) 22 L st h Q = (match ld L 2 with | some (.inl x) => G sp sc [] d mX12_couple n 23 L (.inl x :: st) h Q | _ => False)) ∧
  (∀ (n d : Nat) (L : List (Option iV)) (r : List iV) (m : Nat) (z0 : iV) (z1 : iV) (h : iH) (Q : Option iV → iH → Prop), G sp sc [] (d + 1) mX12_couple (n + 1) 23 L (z1 :: z0 :: .inr (.inr (m + 2)) :: r) h Q = (match h.1[m]? with | some (.inl (ci, _)) => (match lkC 12 178 ci with | some (y1, n1, kd) => (n1 = 2 ∧ (kd = 2 ∨ kd = 3 ∨ kd = 8) ∧ cs r ≤ 8) ∧ Call sp sc d y1 [.inr (.inr (m + 2)), z0, z1] h (fun q h1 => GC sp sc [] (d + 1) mX12_couple n 26 L q r h h1 Q) | none => False) | _ => False)) ∧
  (∀ (n d : Nat) (L : List (Option iV)) (a : Int) (r : List iV) (h : iH) (Q : Option iV → iH → Prop), G sp sc [] d mX12_couple (n + 1) 26 L (.inl a :: r) h Q = (inI a = true ∧ (a = 0 → G sp sc [] d mX12_couple n 32 L r h Q) ∧ (¬ (a = 0) → G sp sc [] d mX12_couple n 29 L r h Q))) ∧
  (∀ (n d : Nat) (L : List (Option iV)) (st : List iV) (h : iH) (Q : Option iV → iH → Prop), G sp sc [] d mX12_couple (n + 1) 29 L st h Q = ((-128 ≤ ((-3) : Int) ∧ ((-3) : Int) < 128) ∧ G sp sc [] d mX12_couple n 31 L (.inl (-3) :: st) h Q)) ∧
  (∀ (n d : Nat) (L : List (Option iV)) (a : Int) (h : iH) (Q : Option iV → iH → Prop), G sp sc [] d mX12_couple (n + 1) 31 L [.inl a] h Q = Q (some (.inl a)) h) ∧
  (∀ (n d : Nat) (L : List (Option iV)) (st : List iV) (h : iH) (Q : Option iV → iH → Prop), G sp sc [] d mX12_couple (n + 1) 32 L st h Q = (match ld L 0 with | some (.inr (.inr (r + 1))) => G sp sc [] d mX12_couple n 33 L (.inr (.inr (r + 1)) :: st) h Q | _ => False)) ∧
  (∀ (n d : Nat) (L : List (Option iV)) (r : List iV) (m : Nat) (h : iH) (Q : Option iV → iH → Prop), G sp sc [] d mX12_couple (n + 1) 33 L (.inr (.inr (m + 2)) :: r) h Q = (match h.1[m]? with | some (.inl (ci, fs)) => (match lkF 12 9 ci with | some k => (match fs[k]? with | some v => G sp sc [] d mX12_couple n 36 L (v :: r) h Q | none => False) | none => False) | _ => False)) ∧
  (∀ (n d : Nat) (L : List (Option iV)) (st : List iV) (h : iH) (Q : Option iV → iH → Prop), G sp sc [] d mX12_couple (n + 1) 36 L st h Q = G sp sc [] d mX12_couple n 37 L (.inl 2 :: st) h Q) ∧
  (∀ (n d : Nat) (L : List (Option iV)) (r : List iV) (j : Int) (m : Nat) (h : iH) (Q : Option iV → iH → Prop), G sp sc [] d mX12_couple (n + 1) 37 L (.inl j :: .inr (.inr (m + 2)) :: r) h Q = (match h.1[m]? with | some (.inr (.inl (0, xs))) => inA j xs.length = true ∧ G sp sc [] d mX12_couple n 38 L (.inl (xs.getD j.toNat 0) :: r) h Q | _ => False)) ∧
  (∀ (n d : Nat) (L : List (Option iV)) (st : List iV) (h : iH) (Q : Option iV → iH → Prop), G sp sc [] d mX12_couple (n + 1) 38 L st h Q = G sp sc [] d mX12_couple n 39 L (.inl 4 :: st) h Q) ∧
  (∀ (n d : Nat) (L : List (Option iV)) (a : Int) (b : Int) (r : List iV) (h : iH) (Q : Option iV → iH → Prop), G sp sc [] d mX12_couple (n + 1) 39 L (.inl b :: .inl a :: r) h Q = ((inI a = true ∧ inI b = true) ∧ (¬ a = b → G sp sc [] d mX12_couple n 47 L r h Q) ∧ (¬ (¬ a = b) → G sp sc [] d mX12_couple n 42 L r h Q))) ∧
  (∀ (n d : Nat) (L : List (Option iV)) (st : List iV) (h : iH) (Q : Option iV → iH → Prop), G sp sc [] d mX12_couple (n + 1) 42 L st h Q = ((-128 ≤ ((-2) : Int) ∧ ((-2) : Int) < 128) ∧ G sp sc [] d mX12_couple n 44 L (.inl (-2) :: st) h Q)) ∧
  (∀ (n d : Nat) (L : List (Option iV)) (st : List iV) (h : iH) (Q : Option iV → iH → Prop), G sp sc [] d mX12_couple (n + 1) 44 L st h Q = G sp sc [] d mX12_couple n 53 L st h Q) ∧
  (∀ (n d : Nat) (L : List (Option iV)) (st : List iV) (h : iH) (Q : Option iV → iH → Prop), G sp sc [] d mX12_couple (n + 1) 47 L st h Q = (match ld L 0 with | some (.inr (.inr (r + 1))) => G sp sc [] d mX12_couple n 48 L (.inr (.inr (r + 1)) :: st) h Q | _ => False)) ∧
  (∀ (n d : Nat) (L : List (Option iV)) (st : List iV) (h : iH) (Q : Option iV → iH → Prop), G sp sc [] d mX12_couple (n + 1) 48 L st h Q = (match ld L 1 with | some (.inl x) => G sp sc [] d mX12_couple n 49 L (.inl x :: st) h Q | _ => False)) ∧
  (∀ (n d : Nat) (L : List (Option iV)) (st : List iV) (h : iH) (Q : Option iV → iH → Prop), G sp sc [] d mX12_couple (n + 1) 49 L st h Q = (match ld L 2 with | some (.inl x) => G sp sc [] d mX12_couple n 50 L (.inl x :: st) h Q | _ => False)) ∧
  (∀ (n d : Nat) (L : List (Option iV)) (r : List iV) (m : Nat) (z0 : iV) (z1 : iV) (h : iH) (Q : Option iV → iH → Prop), G sp sc [] (d + 1) mX12_couple (n + 1) 50 L (z1 :: z0 :: .inr (.inr (m + 2)) :: r) h Q = (match h.1[m]? with | some (.inl (ci, _)) => (match lkC 12 181 ci with | some (y1, n1, kd) => (n1 = 2 ∧ (kd = 2 ∨ kd = 3 ∨ kd = 8) ∧ cs r ≤ 8) ∧ Call sp sc d y1 [.inr (.inr (m + 2)), z0, z1] h (fun q h1 => GC sp sc [] (d + 1) mX12_couple n 53 L q r h h1 Q) | none => False) | _ => False)) ∧
  (∀ (n d : Nat) (L : List (Option iV)) (a : Int) (h : iH) (Q : Option iV → iH → Prop), G sp sc [] d mX12_couple (n + 1) 53 L [.inl a] h Q = Q (some (.inl a)) h) ∧
  lkC 12 175 12 = some (mX12_isOne, 2, 2) ∧
  lkC 12 178 12 = some (mX12_canNotBe, 2, 2) ∧
  lkC 12 181 12 = some (mX12_addsCouple, 2, 2) ∧
  lkF 12 9 12 = some 0 := ⟨by intros; exact G_at (by decide +kernel : fetch mX12_couple 0 = some (.aload_n 0)),
  by intros; exact G_at (by decide +kernel : fetch mX12_couple 1 = some (.iconst 0)),
  by intros; exact G_at (by decide +kernel : fetch mX12_couple 2 = some (.iload_n 1)),
  by intros; exact G_callV (by decide +kernel : fetch mX12_couple 3 = some (.invokevirtual 175)) (by decide +kernel) (by decide +kernel) rfl,
  by intros; exact G_at (by decide +kernel : fetch mX12_couple 6 = some (.ifCond .eq 12)),
  by intros; exact G_at (by decide +kernel : fetch mX12_couple 9 = some (.aload_n 0)),
  by intros; exact G_at (by decide +kernel : fetch mX12_couple 10 = some (.iconst 1)),
  by intros; exact G_at (by decide +kernel : fetch mX12_couple 11 = some (.iload_n 2)),
  by intros; exact G_callV (by decide +kernel : fetch mX12_couple 12 = some (.invokevirtual 175)) (by decide +kernel) (by decide +kernel) rfl,
  by intros; exact G_at (by decide +kernel : fetch mX12_couple 15 = some (.ifCond .ne 5)),
  by intros; exact G_at (by decide +kernel : fetch mX12_couple 18 = some (.iconst (-1))),
  by intros; exact G_reti (by decide +kernel : fetch mX12_couple 19 = some (.ireturn)) (by decide +kernel),
  by intros; exact G_at (by decide +kernel : fetch mX12_couple 20 = some (.aload_n 0)),
  by intros; exact G_at (by decide +kernel : fetch mX12_couple 21 = some (.iload_n 1)),
  by intros; exact G_at (by decide +kernel : fetch mX12_couple 22 = some (.iload_n 2)),
  by intros; exact G_callV (by decide +kernel : fetch mX12_couple 23 = some (.invokevirtual 178)) (by decide +kernel) (by decide +kernel) rfl,
  by intros; exact G_at (by decide +kernel : fetch mX12_couple 26 = some (.ifCond .eq 6)),
  by intros; exact G_at (by decide +kernel : fetch mX12_couple 29 = some (.bipush (-3))),
  by intros; exact G_reti (by decide +kernel : fetch mX12_couple 31 = some (.ireturn)) (by decide +kernel),
  by intros; exact G_at (by decide +kernel : fetch mX12_couple 32 = some (.aload_n 0)),
  by intros; exact G_own (by decide +kernel : fetch mX12_couple 33 = some (.getfield 9)) (by decide +kernel),
  by intros; exact G_at (by decide +kernel : fetch mX12_couple 36 = some (.iconst 2)),
  by intros; exact G_at (by decide +kernel : fetch mX12_couple 37 = some (.iaload)),
  by intros; exact G_at (by decide +kernel : fetch mX12_couple 38 = some (.iconst 4)),
  by intros; exact G_at (by decide +kernel : fetch mX12_couple 39 = some (.if_icmp .ne 8)),
  by intros; exact G_at (by decide +kernel : fetch mX12_couple 42 = some (.bipush (-2))),
  by intros; exact G_at (by decide +kernel : fetch mX12_couple 44 = some (.goto 9)),
  by intros; exact G_at (by decide +kernel : fetch mX12_couple 47 = some (.aload_n 0)),
  by intros; exact G_at (by decide +kernel : fetch mX12_couple 48 = some (.iload_n 1)),
  by intros; exact G_at (by decide +kernel : fetch mX12_couple 49 = some (.iload_n 2)),
  by intros; exact G_callV (by decide +kernel : fetch mX12_couple 50 = some (.invokevirtual 181)) (by decide +kernel) (by decide +kernel) rfl,
  by intros; exact G_reti (by decide +kernel : fetch mX12_couple 53 = some (.ireturn)) (by decide +kernel),
  by decide +kernel,
  by decide +kernel,
  by decide +kernel,
  by decide +kernel⟩
end GG
