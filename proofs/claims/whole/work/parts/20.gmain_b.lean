section GG
variable {sp : Nat → List iV → iH → Option (Option iV × iH)} {sc : List Int}
theorem gX11_bestWho : (∀ (n d : Nat) (L : List (Option iV)) (st : List iV) (h : iH) (Q : Option iV → iH → Prop), G sp sc [16] d mX11_bestWho (n + 1) 0 L st h Q = (match ld L 1 with | some (.inl x) => G sp sc [16] d mX11_bestWho n 1 L (.inl x :: st) h Q | _ => False)) ∧
  (∀ (n d : Nat) (L : List (Option iV)) (r : List iV) (z0 : iV) (h : iH) (Q : Option iV → iH → Prop), G sp sc [16] (d + 1) mX11_bestWho (n + 1) 1 L (z0 :: r) h Q = (cs r ≤ 8 ∧ Call sp sc d mX11_isDeed [z0] h (fun q h1 => GC sp sc [16] (d + 1) mX11_bestWho n 4 L q r h h1 Q))) ∧
  (∀ (n d : Nat) (L : List (Option iV)) (a : Int) (r : List iV) (h : iH) (Q : Option iV → iH → Prop), G sp sc [16] d mX11_bestWho (n + 1) 4 L (.inl a :: r) h Q = (inI a = true ∧ (¬ a = 0 → G sp sc [16] d mX11_bestWho n 9 L r h Q) ∧ (¬ (¬ a = 0) → G sp sc [16] d mX11_bestWho n 7 L r h Q))) ∧
  (∀ (n d : Nat) (L : List (Option iV)) (st : List iV) (h : iH) (Q : Option iV → iH → Prop), G sp sc [16] d mX11_bestWho (n + 1) 7 L st h Q = G sp sc [16] d mX11_bestWho n 8 L (.inl (-1) :: st) h Q) ∧
  (∀ (n d : Nat) (L : List (Option iV)) (a : Int) (h : iH) (Q : Option iV → iH → Prop), G sp sc [16] d mX11_bestWho (n + 1) 8 L [.inl a] h Q = Q (some (.inl a)) h) ∧
  (∀ (n d : Nat) (L : List (Option iV)) (st : List iV) (h : iH) (Q : Option iV → iH → Prop), G sp sc [16] d mX11_bestWho (n + 1) 9 L st h Q = G sp sc [16] d mX11_bestWho n 10 L (.inl (-1) :: st) h Q) ∧
  (∀ (n d : Nat) (L : List (Option iV)) (r : List iV) (x : Int) (h : iH) (Q : Option iV → iH → Prop), G sp sc [16] d mX11_bestWho (n + 1) 10 L (.inl x :: r) h Q = (match st1 L 2 (.inl x) with | some L' => G sp sc [16] d mX11_bestWho n 11 L' r h Q | none => False)) ∧
  (∀ (n d : Nat) (L : List (Option iV)) (st : List iV) (h : iH) (Q : Option iV → iH → Prop), G sp sc [16] d mX11_bestWho (n + 1) 11 L st h Q = G sp sc [16] d mX11_bestWho n 12 L (.inl 0 :: st) h Q) ∧
  (∀ (n d : Nat) (L : List (Option iV)) (r : List iV) (x : Int) (h : iH) (Q : Option iV → iH → Prop), G sp sc [16] d mX11_bestWho (n + 1) 12 L (.inl x :: r) h Q = (match st1 L 3 (.inl x) with | some L' => G sp sc [16] d mX11_bestWho n 13 L' r h Q | none => False)) ∧
  (∀ (n d : Nat) (L : List (Option iV)) (st : List iV) (h : iH) (Q : Option iV → iH → Prop), G sp sc [16] d mX11_bestWho (n + 1) 13 L st h Q = G sp sc [16] d mX11_bestWho n 14 L (.inl 0 :: st) h Q) ∧
  (∀ (n d : Nat) (L : List (Option iV)) (r : List iV) (x : Int) (h : iH) (Q : Option iV → iH → Prop), G sp sc [16] d mX11_bestWho (n + 1) 14 L (.inl x :: r) h Q = (match st1 L 4 (.inl x) with | some L' => Run sp sc d mX11_bestWho 16 L' r h Q | none => False)) ∧
  (∀ (n d : Nat) (L : List (Option iV)) (st : List iV) (h : iH) (Q : Option iV → iH → Prop), G sp sc [16] d mX11_bestWho (n + 1) 16 L st h Q = (match ld L 4 with | some (.inl x) => G sp sc [16] d mX11_bestWho n 18 L (.inl x :: st) h Q | _ => False)) ∧
  (∀ (n d : Nat) (L : List (Option iV)) (st : List iV) (h : iH) (Q : Option iV → iH → Prop), G sp sc [16] d mX11_bestWho (n + 1) 18 L st h Q = G sp sc [16] d mX11_bestWho n 19 L (.inl 2 :: st) h Q) ∧
  (∀ (n d : Nat) (L : List (Option iV)) (a : Int) (b : Int) (r : List iV) (h : iH) (Q : Option iV → iH → Prop), G sp sc [16] d mX11_bestWho (n + 1) 19 L (.inl b :: .inl a :: r) h Q = ((inI a = true ∧ inI b = true) ∧ (b < a → G sp sc [16] d mX11_bestWho n 87 L r h Q) ∧ (¬ (b < a) → G sp sc [16] d mX11_bestWho n 22 L r h Q))) ∧
  (∀ (n d : Nat) (L : List (Option iV)) (st : List iV) (h : iH) (Q : Option iV → iH → Prop), G sp sc [16] d mX11_bestWho (n + 1) 22 L st h Q = (match ld L 0 with | some (.inr (.inr (r + 1))) => G sp sc [16] d mX11_bestWho n 23 L (.inr (.inr (r + 1)) :: st) h Q | _ => False)) ∧
  (∀ (n d : Nat) (L : List (Option iV)) (r : List iV) (m : Nat) (h : iH) (Q : Option iV → iH → Prop), G sp sc [16] d mX11_bestWho (n + 1) 23 L (.inr (.inr (m + 2)) :: r) h Q = (match h.1[m]? with | some (.inl (ci, fs)) => (match lkF 11 38 ci with | some k => (match fs[k]? with | some v => G sp sc [16] d mX11_bestWho n 26 L (v :: r) h Q | none => False) | none => False) | _ => False)) ∧
  (∀ (n d : Nat) (L : List (Option iV)) (st : List iV) (h : iH) (Q : Option iV → iH → Prop), G sp sc [16] d mX11_bestWho (n + 1) 26 L st h Q = (match ld L 0 with | some (.inr (.inr (r + 1))) => G sp sc [16] d mX11_bestWho n 27 L (.inr (.inr (r + 1)) :: st) h Q | _ => False)) ∧
  (∀ (n d : Nat) (L : List (Option iV)) (r : List iV) (m : Nat) (h : iH) (Q : Option iV → iH → Prop), G sp sc [16] d mX11_bestWho (n + 1) 27 L (.inr (.inr (m + 2)) :: r) h Q = (match h.1[m]? with | some (.inl (ci, fs)) => (match lkF 11 17 ci with | some k => (match fs[k]? with | some v => G sp sc [16] d mX11_bestWho n 30 L (v :: r) h Q | none => False) | none => False) | _ => False)) ∧
  (∀ (n d : Nat) (L : List (Option iV)) (r : List iV) (m : Nat) (z0 : iV) (h : iH) (Q : Option iV → iH → Prop), G sp sc [16] (d + 1) mX11_bestWho (n + 1) 30 L (z0 :: .inr (.inr (m + 2)) :: r) h Q = (match h.1[m]? with | some (.inl (ci, _)) => (match lkC 11 90 ci with | some (y1, n1, kd) => (n1 = 1 ∧ (kd = 2 ∨ kd = 3 ∨ kd = 8) ∧ cs r ≤ 8) ∧ Call sp sc d y1 [.inr (.inr (m + 2)), z0] h (fun q h1 => GC sp sc [16] (d + 1) mX11_bestWho n 33 L q r h h1 Q) | none => False) | _ => False)) ∧
  (∀ (n d : Nat) (L : List (Option iV)) (st : List iV) (h : iH) (Q : Option iV → iH → Prop), G sp sc [16] d mX11_bestWho (n + 1) 33 L st h Q = (match ld L 0 with | some (.inr (.inr (r + 1))) => G sp sc [16] d mX11_bestWho n 34 L (.inr (.inr (r + 1)) :: st) h Q | _ => False)) ∧
  (∀ (n d : Nat) (L : List (Option iV)) (r : List iV) (m : Nat) (h : iH) (Q : Option iV → iH → Prop), G sp sc [16] d mX11_bestWho (n + 1) 34 L (.inr (.inr (m + 2)) :: r) h Q = (match h.1[m]? with | some (.inl (ci, fs)) => (match lkF 11 38 ci with | some k => (match fs[k]? with | some v => G sp sc [16] d mX11_bestWho n 37 L (v :: r) h Q | none => False) | none => False) | _ => False)) ∧
  (∀ (n d : Nat) (L : List (Option iV)) (r : List iV) (m : Nat) (h : iH) (Q : Option iV → iH → Prop), G sp sc [16] d mX11_bestWho (n + 1) 37 L (.inr (.inr (m + 2)) :: r) h Q = (match h.1[m]? with | some (.inl (ci, fs)) => (match lkF 11 107 ci with | some k => (match fs[k]? with | some v => G sp sc [16] d mX11_bestWho n 40 L (v :: r) h Q | none => False) | none => False) | _ => False)) ∧
  (∀ (n d : Nat) (L : List (Option iV)) (r : List iV) (m : Nat) (h : iH) (Q : Option iV → iH → Prop), G sp sc [16] d mX11_bestWho (n + 1) 40 L (.inr (.inr (m + 2)) :: r) h Q = (match h.1[m]? with | some (.inl (ci, fs)) => (match lkF 11 209 ci with | some k => (match fs[k]? with | some v => G sp sc [16] d mX11_bestWho n 43 L (v :: r) h Q | none => False) | none => False) | _ => False)) ∧
  (∀ (n d : Nat) (L : List (Option iV)) (st : List iV) (h : iH) (Q : Option iV → iH → Prop), G sp sc [16] d mX11_bestWho (n + 1) 43 L st h Q = (match ld L 1 with | some (.inl x) => G sp sc [16] d mX11_bestWho n 44 L (.inl x :: st) h Q | _ => False)) ∧
  (∀ (n d : Nat) (L : List (Option iV)) (st : List iV) (h : iH) (Q : Option iV → iH → Prop), G sp sc [16] d mX11_bestWho (n + 1) 44 L st h Q = (match ld L 4 with | some (.inl x) => G sp sc [16] d mX11_bestWho n 46 L (.inl x :: st) h Q | _ => False)) ∧
  (∀ (n d : Nat) (L : List (Option iV)) (r : List iV) (v : Int) (j : Int) (m : Nat) (h : iH) (Q : Option iV → iH → Prop), G sp sc [16] d mX11_bestWho (n + 1) 46 L (.inl v :: .inl j :: .inr (.inr (m + 2)) :: r) h Q = (match h.1[m]? with | some (.inr (.inl (0, xs))) => inA j xs.length = true ∧ G sp sc [16] d mX11_bestWho n 47 L r (h.1.set m (.inr (.inl (0, xs.set j.toNat v))), h.2) Q | _ => False)) ∧
  (∀ (n d : Nat) (L : List (Option iV)) (st : List iV) (h : iH) (Q : Option iV → iH → Prop), G sp sc [16] d mX11_bestWho (n + 1) 47 L st h Q = (match ld L 0 with | some (.inr (.inr (r + 1))) => G sp sc [16] d mX11_bestWho n 48 L (.inr (.inr (r + 1)) :: st) h Q | _ => False)) ∧
  (∀ (n d : Nat) (L : List (Option iV)) (r : List iV) (m : Nat) (h : iH) (Q : Option iV → iH → Prop), G sp sc [16] d mX11_bestWho (n + 1) 48 L (.inr (.inr (m + 2)) :: r) h Q = (match h.1[m]? with | some (.inl (ci, fs)) => (match lkF 11 38 ci with | some k => (match fs[k]? with | some v => G sp sc [16] d mX11_bestWho n 51 L (v :: r) h Q | none => False) | none => False) | _ => False)) ∧
  (∀ (n d : Nat) (L : List (Option iV)) (st : List iV) (h : iH) (Q : Option iV → iH → Prop), G sp sc [16] d mX11_bestWho (n + 1) 51 L st h Q = ((-128 ≤ (60 : Int) ∧ (60 : Int) < 128) ∧ G sp sc [16] d mX11_bestWho n 53 L (.inl 60 :: st) h Q)) ∧
  (∀ (n d : Nat) (L : List (Option iV)) (r : List iV) (m : Nat) (z0 : iV) (h : iH) (Q : Option iV → iH → Prop), G sp sc [16] (d + 1) mX11_bestWho (n + 1) 53 L (z0 :: .inr (.inr (m + 2)) :: r) h Q = (match h.1[m]? with | some (.inl (ci, _)) => (match lkC 11 218 ci with | some (y1, n1, kd) => (n1 = 1 ∧ (kd = 2 ∨ kd = 3 ∨ kd = 8) ∧ cs r ≤ 8) ∧ Call sp sc d y1 [.inr (.inr (m + 2)), z0] h (fun q h1 => GC sp sc [16] (d + 1) mX11_bestWho n 56 L q r h h1 Q) | none => False) | _ => False)) ∧
  (∀ (n d : Nat) (L : List (Option iV)) (st : List iV) (h : iH) (Q : Option iV → iH → Prop), G sp sc [16] d mX11_bestWho (n + 1) 56 L st h Q = (match ld L 0 with | some (.inr (.inr (r + 1))) => G sp sc [16] d mX11_bestWho n 57 L (.inr (.inr (r + 1)) :: st) h Q | _ => False)) ∧
  (∀ (n d : Nat) (L : List (Option iV)) (r : List iV) (m : Nat) (h : iH) (Q : Option iV → iH → Prop), G sp sc [16] d mX11_bestWho (n + 1) 57 L (.inr (.inr (m + 2)) :: r) h Q = (match h.1[m]? with | some (.inl (ci, fs)) => (match lkF 11 38 ci with | some k => (match fs[k]? with | some v => G sp sc [16] d mX11_bestWho n 60 L (v :: r) h Q | none => False) | none => False) | _ => False)) ∧
  (∀ (n d : Nat) (L : List (Option iV)) (r : List iV) (m : Nat) (h : iH) (Q : Option iV → iH → Prop), G sp sc [16] d mX11_bestWho (n + 1) 60 L (.inr (.inr (m + 2)) :: r) h Q = (match h.1[m]? with | some (.inl (ci, fs)) => (match lkF 11 107 ci with | some k => (match fs[k]? with | some v => G sp sc [16] d mX11_bestWho n 63 L (v :: r) h Q | none => False) | none => False) | _ => False)) ∧
  (∀ (n d : Nat) (L : List (Option iV)) (st : List iV) (h : iH) (Q : Option iV → iH → Prop), G sp sc [16] d mX11_bestWho (n + 1) 63 L st h Q = G sp sc [16] d mX11_bestWho n 64 L (.inl 1 :: st) h Q) ∧
  (∀ (n d : Nat) (L : List (Option iV)) (r : List iV) (m : Nat) (z0 : iV) (h : iH) (Q : Option iV → iH → Prop), G sp sc [16] (d + 1) mX11_bestWho (n + 1) 64 L (z0 :: .inr (.inr (m + 2)) :: r) h Q = (match h.1[m]? with | some (.inl (ci, _)) => (match lkC 11 239 ci with | some (y1, n1, kd) => (n1 = 1 ∧ (kd = 2 ∨ kd = 3 ∨ kd = 8) ∧ cs r ≤ 8) ∧ Call sp sc d y1 [.inr (.inr (m + 2)), z0] h (fun q h1 => GC sp sc [16] (d + 1) mX11_bestWho n 67 L q r h h1 Q) | none => False) | _ => False)) ∧
  (∀ (n d : Nat) (L : List (Option iV)) (r : List iV) (x : Int) (h : iH) (Q : Option iV → iH → Prop), G sp sc [16] d mX11_bestWho (n + 1) 67 L (.inl x :: r) h Q = (match st1 L 5 (.inl x) with | some L' => G sp sc [16] d mX11_bestWho n 69 L' r h Q | none => False)) ∧
  (∀ (n d : Nat) (L : List (Option iV)) (st : List iV) (h : iH) (Q : Option iV → iH → Prop), G sp sc [16] d mX11_bestWho (n + 1) 69 L st h Q = (match ld L 5 with | some (.inl x) => G sp sc [16] d mX11_bestWho n 71 L (.inl x :: st) h Q | _ => False)) ∧
  (∀ (n d : Nat) (L : List (Option iV)) (st : List iV) (h : iH) (Q : Option iV → iH → Prop), G sp sc [16] d mX11_bestWho (n + 1) 71 L st h Q = (match ld L 2 with | some (.inl x) => G sp sc [16] d mX11_bestWho n 72 L (.inl x :: st) h Q | _ => False)) ∧
  (∀ (n d : Nat) (L : List (Option iV)) (a : Int) (b : Int) (r : List iV) (h : iH) (Q : Option iV → iH → Prop), G sp sc [16] d mX11_bestWho (n + 1) 72 L (.inl b :: .inl a :: r) h Q = ((inI a = true ∧ inI b = true) ∧ (a ≤ b → G sp sc [16] d mX11_bestWho n 81 L r h Q) ∧ (¬ (a ≤ b) → G sp sc [16] d mX11_bestWho n 75 L r h Q))) ∧
  (∀ (n d : Nat) (L : List (Option iV)) (st : List iV) (h : iH) (Q : Option iV → iH → Prop), G sp sc [16] d mX11_bestWho (n + 1) 75 L st h Q = (match ld L 5 with | some (.inl x) => G sp sc [16] d mX11_bestWho n 77 L (.inl x :: st) h Q | _ => False)) ∧
  (∀ (n d : Nat) (L : List (Option iV)) (r : List iV) (x : Int) (h : iH) (Q : Option iV → iH → Prop), G sp sc [16] d mX11_bestWho (n + 1) 77 L (.inl x :: r) h Q = (match st1 L 2 (.inl x) with | some L' => G sp sc [16] d mX11_bestWho n 78 L' r h Q | none => False)) ∧
  (∀ (n d : Nat) (L : List (Option iV)) (st : List iV) (h : iH) (Q : Option iV → iH → Prop), G sp sc [16] d mX11_bestWho (n + 1) 78 L st h Q = (match ld L 4 with | some (.inl x) => G sp sc [16] d mX11_bestWho n 80 L (.inl x :: st) h Q | _ => False)) ∧
  (∀ (n d : Nat) (L : List (Option iV)) (r : List iV) (x : Int) (h : iH) (Q : Option iV → iH → Prop), G sp sc [16] d mX11_bestWho (n + 1) 80 L (.inl x :: r) h Q = (match st1 L 3 (.inl x) with | some L' => G sp sc [16] d mX11_bestWho n 81 L' r h Q | none => False)) ∧
  (∀ (n d : Nat) (L : List (Option iV)) (st : List iV) (h : iH) (Q : Option iV → iH → Prop), G sp sc [16] d mX11_bestWho (n + 1) 81 L st h Q = (match ld L 4 with | some (.inl x) => (match st1 L 4 (.inl (x + 1)) with | some L' => G sp sc [16] d mX11_bestWho n 84 L' st h Q | none => False) | _ => False)) ∧
  (∀ (n d : Nat) (L : List (Option iV)) (st : List iV) (h : iH) (Q : Option iV → iH → Prop), G sp sc [16] d mX11_bestWho (n + 1) 84 L st h Q = Run sp sc d mX11_bestWho 16 L st h Q) ∧
  (∀ (n d : Nat) (L : List (Option iV)) (st : List iV) (h : iH) (Q : Option iV → iH → Prop), G sp sc [16] d mX11_bestWho (n + 1) 87 L st h Q = (match ld L 3 with | some (.inl x) => G sp sc [16] d mX11_bestWho n 88 L (.inl x :: st) h Q | _ => False)) ∧
  (∀ (n d : Nat) (L : List (Option iV)) (a : Int) (h : iH) (Q : Option iV → iH → Prop), G sp sc [16] d mX11_bestWho (n + 1) 88 L [.inl a] h Q = Q (some (.inl a)) h) ∧
  lkC 11 218 10 = some (mX10_pass, 1, 2) ∧
  lkC 11 239 8 = some (mX8_howMany, 1, 2) ∧
  lkC 11 90 10 = some (mX10_begin, 1, 2) ∧
  lkF 11 107 10 = some 0 ∧
  lkF 11 17 11 = some 2 ∧
  lkF 11 209 8 = some 10 ∧
  lkF 11 38 11 = some 5 := ⟨by intros; exact G_at (by decide +kernel : fetch mX11_bestWho 0 = some (.iload_n 1)),
  by intros; exact G_callS (k := 1) (kd := 0) (by decide +kernel : fetch mX11_bestWho 1 = some (.invokestatic 206)) (by decide +kernel) (by decide +kernel) (by decide +kernel) rfl (by decide),
  by intros; exact G_at (by decide +kernel : fetch mX11_bestWho 4 = some (.ifCond .ne 5)),
  by intros; exact G_at (by decide +kernel : fetch mX11_bestWho 7 = some (.iconst (-1))),
  by intros; exact G_reti (by decide +kernel : fetch mX11_bestWho 8 = some (.ireturn)) (by decide +kernel),
  by intros; exact G_at (by decide +kernel : fetch mX11_bestWho 9 = some (.iconst (-1))),
  by intros; exact G_at (by decide +kernel : fetch mX11_bestWho 10 = some (.istore_n 2)),
  by intros; exact G_at (by decide +kernel : fetch mX11_bestWho 11 = some (.iconst 0)),
  by intros; exact G_at (by decide +kernel : fetch mX11_bestWho 12 = some (.istore_n 3)),
  by intros; exact G_at (by decide +kernel : fetch mX11_bestWho 13 = some (.iconst 0)),
  by intros; exact G_at (by decide +kernel : fetch mX11_bestWho 14 = some (.istore 4)),
  by intros; exact G_at (by decide +kernel : fetch mX11_bestWho 16 = some (.iload 4)),
  by intros; exact G_at (by decide +kernel : fetch mX11_bestWho 18 = some (.iconst 2)),
  by intros; exact G_at (by decide +kernel : fetch mX11_bestWho 19 = some (.if_icmp .gt 68)),
  by intros; exact G_at (by decide +kernel : fetch mX11_bestWho 22 = some (.aload_n 0)),
  by intros; exact G_own (by decide +kernel : fetch mX11_bestWho 23 = some (.getfield 38)) (by decide +kernel),
  by intros; exact G_at (by decide +kernel : fetch mX11_bestWho 26 = some (.aload_n 0)),
  by intros; exact G_own (by decide +kernel : fetch mX11_bestWho 27 = some (.getfield 17)) (by decide +kernel),
  by intros; exact G_callV (by decide +kernel : fetch mX11_bestWho 30 = some (.invokevirtual 90)) (by decide +kernel) (by decide +kernel) rfl,
  by intros; exact G_at (by decide +kernel : fetch mX11_bestWho 33 = some (.aload_n 0)),
  by intros; exact G_own (by decide +kernel : fetch mX11_bestWho 34 = some (.getfield 38)) (by decide +kernel),
  by intros; exact G_own (by decide +kernel : fetch mX11_bestWho 37 = some (.getfield 107)) (by decide +kernel),
  by intros; exact G_own (by decide +kernel : fetch mX11_bestWho 40 = some (.getfield 209)) (by decide +kernel),
  by intros; exact G_at (by decide +kernel : fetch mX11_bestWho 43 = some (.iload_n 1)),
  by intros; exact G_at (by decide +kernel : fetch mX11_bestWho 44 = some (.iload 4)),
  by intros; exact G_at (by decide +kernel : fetch mX11_bestWho 46 = some (.iastore)),
  by intros; exact G_at (by decide +kernel : fetch mX11_bestWho 47 = some (.aload_n 0)),
  by intros; exact G_own (by decide +kernel : fetch mX11_bestWho 48 = some (.getfield 38)) (by decide +kernel),
  by intros; exact G_at (by decide +kernel : fetch mX11_bestWho 51 = some (.bipush 60)),
  by intros; exact G_callV (by decide +kernel : fetch mX11_bestWho 53 = some (.invokevirtual 218)) (by decide +kernel) (by decide +kernel) rfl,
  by intros; exact G_at (by decide +kernel : fetch mX11_bestWho 56 = some (.aload_n 0)),
  by intros; exact G_own (by decide +kernel : fetch mX11_bestWho 57 = some (.getfield 38)) (by decide +kernel),
  by intros; exact G_own (by decide +kernel : fetch mX11_bestWho 60 = some (.getfield 107)) (by decide +kernel),
  by intros; exact G_at (by decide +kernel : fetch mX11_bestWho 63 = some (.iconst 1)),
  by intros; exact G_callV (by decide +kernel : fetch mX11_bestWho 64 = some (.invokevirtual 239)) (by decide +kernel) (by decide +kernel) rfl,
  by intros; exact G_at (by decide +kernel : fetch mX11_bestWho 67 = some (.istore 5)),
  by intros; exact G_at (by decide +kernel : fetch mX11_bestWho 69 = some (.iload 5)),
  by intros; exact G_at (by decide +kernel : fetch mX11_bestWho 71 = some (.iload_n 2)),
  by intros; exact G_at (by decide +kernel : fetch mX11_bestWho 72 = some (.if_icmp .le 9)),
  by intros; exact G_at (by decide +kernel : fetch mX11_bestWho 75 = some (.iload 5)),
  by intros; exact G_at (by decide +kernel : fetch mX11_bestWho 77 = some (.istore_n 2)),
  by intros; exact G_at (by decide +kernel : fetch mX11_bestWho 78 = some (.iload 4)),
  by intros; exact G_at (by decide +kernel : fetch mX11_bestWho 80 = some (.istore_n 3)),
  by intros; exact G_at (by decide +kernel : fetch mX11_bestWho 81 = some (.iinc 4 1)),
  by intros; exact G_at (by decide +kernel : fetch mX11_bestWho 84 = some (.goto (-68))),
  by intros; exact G_at (by decide +kernel : fetch mX11_bestWho 87 = some (.iload_n 3)),
  by intros; exact G_reti (by decide +kernel : fetch mX11_bestWho 88 = some (.ireturn)) (by decide +kernel),
  by decide +kernel,
  by decide +kernel,
  by decide +kernel,
  by decide +kernel,
  by decide +kernel,
  by decide +kernel,
  by decide +kernel⟩
theorem gX11_leave : (∀ (n d : Nat) (L : List (Option iV)) (st : List iV) (h : iH) (Q : Option iV → iH → Prop), G sp sc [56] d mX11_leave (n + 1) 0 L st h Q = (match ld L 1 with | some (.inl x) => G sp sc [56] d mX11_leave n 1 L (.inl x :: st) h Q | _ => False)) ∧
  (∀ (n d : Nat) (L : List (Option iV)) (r : List iV) (z0 : iV) (h : iH) (Q : Option iV → iH → Prop), G sp sc [56] (d + 1) mX11_leave (n + 1) 1 L (z0 :: r) h Q = (cs r ≤ 8 ∧ Call sp sc d mX11_isShelf [z0] h (fun q h1 => GC sp sc [56] (d + 1) mX11_leave n 4 L q r h h1 Q))) ∧
  (∀ (n d : Nat) (L : List (Option iV)) (a : Int) (r : List iV) (h : iH) (Q : Option iV → iH → Prop), G sp sc [56] d mX11_leave (n + 1) 4 L (.inl a :: r) h Q = (inI a = true ∧ (¬ a = 0 → G sp sc [56] d mX11_leave n 9 L r h Q) ∧ (¬ (¬ a = 0) → G sp sc [56] d mX11_leave n 7 L r h Q))) ∧
  (∀ (n d : Nat) (L : List (Option iV)) (st : List iV) (h : iH) (Q : Option iV → iH → Prop), G sp sc [56] d mX11_leave (n + 1) 7 L st h Q = G sp sc [56] d mX11_leave n 8 L (.inl (-1) :: st) h Q) ∧
  (∀ (n d : Nat) (L : List (Option iV)) (a : Int) (h : iH) (Q : Option iV → iH → Prop), G sp sc [56] d mX11_leave (n + 1) 8 L [.inl a] h Q = Q (some (.inl a)) h) ∧
  (∀ (n d : Nat) (L : List (Option iV)) (st : List iV) (h : iH) (Q : Option iV → iH → Prop), G sp sc [56] d mX11_leave (n + 1) 9 L st h Q = (match ld L 0 with | some (.inr (.inr (r + 1))) => G sp sc [56] d mX11_leave n 10 L (.inr (.inr (r + 1)) :: st) h Q | _ => False)) ∧
  (∀ (n d : Nat) (L : List (Option iV)) (r : List iV) (m : Nat) (h : iH) (Q : Option iV → iH → Prop), G sp sc [56] d mX11_leave (n + 1) 10 L (.inr (.inr (m + 2)) :: r) h Q = (match h.1[m]? with | some (.inl (ci, fs)) => (match lkF 11 63 ci with | some k => (match fs[k]? with | some v => G sp sc [56] d mX11_leave n 13 L (v :: r) h Q | none => False) | none => False) | _ => False)) ∧
  (∀ (n d : Nat) (L : List (Option iV)) (st : List iV) (h : iH) (Q : Option iV → iH → Prop), G sp sc [56] d mX11_leave (n + 1) 13 L st h Q = (match ld L 1 with | some (.inl x) => G sp sc [56] d mX11_leave n 14 L (.inl x :: st) h Q | _ => False)) ∧
  (∀ (n d : Nat) (L : List (Option iV)) (r : List iV) (j : Int) (m : Nat) (h : iH) (Q : Option iV → iH → Prop), G sp sc [56] d mX11_leave (n + 1) 14 L (.inl j :: .inr (.inr (m + 2)) :: r) h Q = (match h.1[m]? with | some (.inr (.inr (t, rs))) => (inA j rs.length = true ∧ 3 ≤ t ∧ t < 6) ∧ G sp sc [56] d mX11_leave n 15 L (.inr (.inr (rs.getD j.toNat 0)) :: r) h Q | _ => False)) ∧
  (∀ (n d : Nat) (L : List (Option iV)) (r : List iV) (x : Nat) (h : iH) (Q : Option iV → iH → Prop), G sp sc [56] d mX11_leave (n + 1) 15 L (.inr (.inr (x + 1)) :: r) h Q = (match st1 L 2 (.inr (.inr (x + 1))) with | some L' => G sp sc [56] d mX11_leave n 16 L' r h Q | none => False)) ∧
  (∀ (n d : Nat) (L : List (Option iV)) (st : List iV) (h : iH) (Q : Option iV → iH → Prop), G sp sc [56] d mX11_leave (n + 1) 16 L st h Q = (match ld L 2 with | some (.inr (.inr (r + 1))) => G sp sc [56] d mX11_leave n 17 L (.inr (.inr (r + 1)) :: st) h Q | _ => False)) ∧
  (∀ (n d : Nat) (L : List (Option iV)) (r : List iV) (m : Nat) (h : iH) (Q : Option iV → iH → Prop), G sp sc [56] (d + 1) mX11_leave (n + 1) 17 L (.inr (.inr (m + 2)) :: r) h Q = (match h.1[m]? with | some (.inl (ci, _)) => (match lkC 11 267 ci with | some (y1, n1, kd) => (n1 = 0 ∧ (kd = 2 ∨ kd = 3 ∨ kd = 8) ∧ cs r ≤ 8) ∧ Call sp sc d y1 [.inr (.inr (m + 2))] h (fun q h1 => GC sp sc [56] (d + 1) mX11_leave n 20 L q r h h1 Q) | none => False) | _ => False)) ∧
  (∀ (n d : Nat) (L : List (Option iV)) (r : List iV) (x : Int) (h : iH) (Q : Option iV → iH → Prop), G sp sc [56] d mX11_leave (n + 1) 20 L (.inl x :: r) h Q = (match st1 L 3 (.inl x) with | some L' => G sp sc [56] d mX11_leave n 21 L' r h Q | none => False)) ∧
  (∀ (n d : Nat) (L : List (Option iV)) (st : List iV) (h : iH) (Q : Option iV → iH → Prop), G sp sc [56] d mX11_leave (n + 1) 21 L st h Q = (match ld L 3 with | some (.inl x) => G sp sc [56] d mX11_leave n 22 L (.inl x :: st) h Q | _ => False)) ∧
  (∀ (n d : Nat) (L : List (Option iV)) (a : Int) (r : List iV) (h : iH) (Q : Option iV → iH → Prop), G sp sc [56] d mX11_leave (n + 1) 22 L (.inl a :: r) h Q = (inI a = true ∧ (a = 0 → G sp sc [56] d mX11_leave n 27 L r h Q) ∧ (¬ (a = 0) → G sp sc [56] d mX11_leave n 25 L r h Q))) ∧
  (∀ (n d : Nat) (L : List (Option iV)) (st : List iV) (h : iH) (Q : Option iV → iH → Prop), G sp sc [56] d mX11_leave (n + 1) 25 L st h Q = (match ld L 3 with | some (.inl x) => G sp sc [56] d mX11_leave n 26 L (.inl x :: st) h Q | _ => False)) ∧
  (∀ (n d : Nat) (L : List (Option iV)) (a : Int) (h : iH) (Q : Option iV → iH → Prop), G sp sc [56] d mX11_leave (n + 1) 26 L [.inl a] h Q = Q (some (.inl a)) h) ∧
  (∀ (n d : Nat) (L : List (Option iV)) (st : List iV) (h : iH) (Q : Option iV → iH → Prop), G sp sc [56] d mX11_leave (n + 1) 27 L st h Q = (match ld L 2 with | some (.inr (.inr (r + 1))) => G sp sc [56] d mX11_leave n 28 L (.inr (.inr (r + 1)) :: st) h Q | _ => False)) ∧
  (∀ (n d : Nat) (L : List (Option iV)) (r : List iV) (m : Nat) (h : iH) (Q : Option iV → iH → Prop), G sp sc [56] d mX11_leave (n + 1) 28 L (.inr (.inr (m + 2)) :: r) h Q = (match h.1[m]? with | some (.inl (ci, fs)) => (match lkF 11 93 ci with | some k => (match fs[k]? with | some v => G sp sc [56] d mX11_leave n 31 L (v :: r) h Q | none => False) | none => False) | _ => False)) ∧
  (∀ (n d : Nat) (L : List (Option iV)) (st : List iV) (h : iH) (Q : Option iV → iH → Prop), G sp sc [56] d mX11_leave (n + 1) 31 L st h Q = (match ld L 0 with | some (.inr (.inr (r + 1))) => G sp sc [56] d mX11_leave n 32 L (.inr (.inr (r + 1)) :: st) h Q | _ => False)) ∧
  (∀ (n d : Nat) (L : List (Option iV)) (r : List iV) (m : Nat) (h : iH) (Q : Option iV → iH → Prop), G sp sc [56] d mX11_leave (n + 1) 32 L (.inr (.inr (m + 2)) :: r) h Q = (match h.1[m]? with | some (.inl (ci, fs)) => (match lkF 11 17 ci with | some k => (match fs[k]? with | some v => G sp sc [56] d mX11_leave n 35 L (v :: r) h Q | none => False) | none => False) | _ => False)) ∧
  (∀ (n d : Nat) (L : List (Option iV)) (r : List iV) (m : Nat) (h : iH) (Q : Option iV → iH → Prop), G sp sc [56] d mX11_leave (n + 1) 35 L (.inr (.inr (m + 2)) :: r) h Q = (match h.1[m]? with | some (.inl (ci, fs)) => (match lkF 11 261 ci with | some k => (match fs[k]? with | some v => G sp sc [56] d mX11_leave n 38 L (v :: r) h Q | none => False) | none => False) | _ => False)) ∧
  (∀ (n d : Nat) (L : List (Option iV)) (st : List iV) (h : iH) (Q : Option iV → iH → Prop), G sp sc [56] d mX11_leave (n + 1) 38 L st h Q = G sp sc [56] d mX11_leave n 39 L (.inl 0 :: st) h Q) ∧
  (∀ (n d : Nat) (L : List (Option iV)) (r : List iV) (j : Int) (m : Nat) (h : iH) (Q : Option iV → iH → Prop), G sp sc [56] d mX11_leave (n + 1) 39 L (.inl j :: .inr (.inr (m + 2)) :: r) h Q = (match h.1[m]? with | some (.inr (.inl (0, xs))) => inA j xs.length = true ∧ G sp sc [56] d mX11_leave n 40 L (.inl (xs.getD j.toNat 0) :: r) h Q | _ => False)) ∧
  (∀ (n d : Nat) (L : List (Option iV)) (a : Int) (b : Int) (r : List iV) (h : iH) (Q : Option iV → iH → Prop), G sp sc [56] d mX11_leave (n + 1) 40 L (.inl b :: .inl a :: r) h Q = ((inI a = true ∧ inI b = true) ∧ (a = b → G sp sc [56] d mX11_leave n 46 L r h Q) ∧ (¬ (a = b) → G sp sc [56] d mX11_leave n 43 L r h Q))) ∧
  (∀ (n d : Nat) (L : List (Option iV)) (st : List iV) (h : iH) (Q : Option iV → iH → Prop), G sp sc [56] d mX11_leave (n + 1) 43 L st h Q = ((-128 ≤ ((-13) : Int) ∧ ((-13) : Int) < 128) ∧ G sp sc [56] d mX11_leave n 45 L (.inl (-13) :: st) h Q)) ∧
  (∀ (n d : Nat) (L : List (Option iV)) (a : Int) (h : iH) (Q : Option iV → iH → Prop), G sp sc [56] d mX11_leave (n + 1) 45 L [.inl a] h Q = Q (some (.inl a)) h) ∧
  (∀ (n d : Nat) (L : List (Option iV)) (st : List iV) (h : iH) (Q : Option iV → iH → Prop), G sp sc [56] d mX11_leave (n + 1) 46 L st h Q = (match ld L 0 with | some (.inr (.inr (r + 1))) => G sp sc [56] d mX11_leave n 47 L (.inr (.inr (r + 1)) :: st) h Q | _ => False)) ∧
  (∀ (n d : Nat) (L : List (Option iV)) (r : List iV) (m : Nat) (h : iH) (Q : Option iV → iH → Prop), G sp sc [56] d mX11_leave (n + 1) 47 L (.inr (.inr (m + 2)) :: r) h Q = (match h.1[m]? with | some (.inl (ci, fs)) => (match lkF 11 28 ci with | some k => (match fs[k]? with | some v => G sp sc [56] d mX11_leave n 50 L (v :: r) h Q | none => False) | none => False) | _ => False)) ∧
  (∀ (n d : Nat) (L : List (Option iV)) (r : List iV) (m : Nat) (h : iH) (Q : Option iV → iH → Prop), G sp sc [56] (d + 1) mX11_leave (n + 1) 50 L (.inr (.inr (m + 2)) :: r) h Q = (match h.1[m]? with | some (.inl (ci, _)) => (match lkC 11 270 ci with | some (y1, n1, kd) => (n1 = 0 ∧ (kd = 2 ∨ kd = 3 ∨ kd = 8) ∧ cs r ≤ 8) ∧ Call sp sc d y1 [.inr (.inr (m + 2))] h (fun q h1 => GC sp sc [56] (d + 1) mX11_leave n 53 L q r h h1 Q) | none => False) | _ => False)) ∧
  (∀ (n d : Nat) (L : List (Option iV)) (st : List iV) (h : iH) (Q : Option iV → iH → Prop), G sp sc [56] d mX11_leave (n + 1) 53 L st h Q = G sp sc [56] d mX11_leave n 54 L (.inl 0 :: st) h Q) ∧
  (∀ (n d : Nat) (L : List (Option iV)) (r : List iV) (x : Int) (h : iH) (Q : Option iV → iH → Prop), G sp sc [56] d mX11_leave (n + 1) 54 L (.inl x :: r) h Q = (match st1 L 4 (.inl x) with | some L' => Run sp sc d mX11_leave 56 L' r h Q | none => False)) ∧
  (∀ (n d : Nat) (L : List (Option iV)) (st : List iV) (h : iH) (Q : Option iV → iH → Prop), G sp sc [56] d mX11_leave (n + 1) 56 L st h Q = (match ld L 4 with | some (.inl x) => G sp sc [56] d mX11_leave n 58 L (.inl x :: st) h Q | _ => False)) ∧
  (∀ (n d : Nat) (L : List (Option iV)) (st : List iV) (h : iH) (Q : Option iV → iH → Prop), G sp sc [56] d mX11_leave (n + 1) 58 L st h Q = (match ld L 2 with | some (.inr (.inr (r + 1))) => G sp sc [56] d mX11_leave n 59 L (.inr (.inr (r + 1)) :: st) h Q | _ => False)) ∧
  (∀ (n d : Nat) (L : List (Option iV)) (r : List iV) (m : Nat) (h : iH) (Q : Option iV → iH → Prop), G sp sc [56] d mX11_leave (n + 1) 59 L (.inr (.inr (m + 2)) :: r) h Q = (match h.1[m]? with | some (.inl (ci, fs)) => (match lkF 11 93 ci with | some k => (match fs[k]? with | some v => G sp sc [56] d mX11_leave n 62 L (v :: r) h Q | none => False) | none => False) | _ => False)) ∧
  (∀ (n d : Nat) (L : List (Option iV)) (a : Int) (b : Int) (r : List iV) (h : iH) (Q : Option iV → iH → Prop), G sp sc [56] d mX11_leave (n + 1) 62 L (.inl b :: .inl a :: r) h Q = ((inI a = true ∧ inI b = true) ∧ (b ≤ a → G sp sc [56] d mX11_leave n 135 L r h Q) ∧ (¬ (b ≤ a) → G sp sc [56] d mX11_leave n 65 L r h Q))) ∧
  (∀ (n d : Nat) (L : List (Option iV)) (st : List iV) (h : iH) (Q : Option iV → iH → Prop), G sp sc [56] d mX11_leave (n + 1) 65 L st h Q = (match ld L 2 with | some (.inr (.inr (r + 1))) => G sp sc [56] d mX11_leave n 66 L (.inr (.inr (r + 1)) :: st) h Q | _ => False)) ∧
  (∀ (n d : Nat) (L : List (Option iV)) (r : List iV) (m : Nat) (h : iH) (Q : Option iV → iH → Prop), G sp sc [56] d mX11_leave (n + 1) 66 L (.inr (.inr (m + 2)) :: r) h Q = (match h.1[m]? with | some (.inl (ci, fs)) => (match lkF 11 273 ci with | some k => (match fs[k]? with | some v => G sp sc [56] d mX11_leave n 69 L (v :: r) h Q | none => False) | none => False) | _ => False)) ∧
  (∀ (n d : Nat) (L : List (Option iV)) (st : List iV) (h : iH) (Q : Option iV → iH → Prop), G sp sc [56] d mX11_leave (n + 1) 69 L st h Q = (match ld L 4 with | some (.inl x) => G sp sc [56] d mX11_leave n 71 L (.inl x :: st) h Q | _ => False)) ∧
  (∀ (n d : Nat) (L : List (Option iV)) (r : List iV) (j : Int) (m : Nat) (h : iH) (Q : Option iV → iH → Prop), G sp sc [56] d mX11_leave (n + 1) 71 L (.inl j :: .inr (.inr (m + 2)) :: r) h Q = (match h.1[m]? with | some (.inr (.inl (1, xs))) => inA j xs.length = true ∧ G sp sc [56] d mX11_leave n 72 L (.inr (.inl (xs.getD j.toNat 0)) :: r) h Q | _ => False)) ∧
  (∀ (n d : Nat) (L : List (Option iV)) (r : List iV) (x : Int) (h : iH) (Q : Option iV → iH → Prop), G sp sc [56] d mX11_leave (n + 1) 72 L (.inr (.inl x) :: r) h Q = (match st2 L 5 (.inr (.inl x)) with | some L' => G sp sc [56] d mX11_leave n 74 L' r h Q | none => False)) ∧
  (∀ (n d : Nat) (L : List (Option iV)) (st : List iV) (h : iH) (Q : Option iV → iH → Prop), G sp sc [56] d mX11_leave (n + 1) 74 L st h Q = (match ld L 5 with | some (.inr (.inl x)) => G sp sc [56] d mX11_leave n 76 L (.inr (.inl x) :: st) h Q | _ => False)) ∧
  (∀ (n d : Nat) (L : List (Option iV)) (st : List iV) (h : iH) (Q : Option iV → iH → Prop), G sp sc [56] d mX11_leave (n + 1) 76 L st h Q = G sp sc [56] d mX11_leave n 79 L (.inr (.inl (-1)) :: st) h Q) ∧
  (∀ (n d : Nat) (L : List (Option iV)) (a : Int) (b : Int) (r : List iV) (h : iH) (Q : Option iV → iH → Prop), G sp sc [56] d mX11_leave (n + 1) 79 L (.inr (.inl b) :: .inr (.inl a) :: r) h Q = ((inJ a = true ∧ inJ b = true) ∧ G sp sc [56] d mX11_leave n 80 L (.inl (if b < a then 1 else if a = b then 0 else -1) :: r) h Q)) ∧
  (∀ (n d : Nat) (L : List (Option iV)) (a : Int) (r : List iV) (h : iH) (Q : Option iV → iH → Prop), G sp sc [56] d mX11_leave (n + 1) 80 L (.inl a :: r) h Q = (inI a = true ∧ (a < 0 → G sp sc [56] d mX11_leave n 99 L r h Q) ∧ (¬ (a < 0) → G sp sc [56] d mX11_leave n 83 L r h Q))) ∧
  (∀ (n d : Nat) (L : List (Option iV)) (st : List iV) (h : iH) (Q : Option iV → iH → Prop), G sp sc [56] d mX11_leave (n + 1) 83 L st h Q = (match ld L 5 with | some (.inr (.inl x)) => G sp sc [56] d mX11_leave n 85 L (.inr (.inl x) :: st) h Q | _ => False)) ∧
  (∀ (n d : Nat) (L : List (Option iV)) (st : List iV) (h : iH) (Q : Option iV → iH → Prop), G sp sc [56] d mX11_leave (n + 1) 85 L st h Q = (match ld L 0 with | some (.inr (.inr (r + 1))) => G sp sc [56] d mX11_leave n 86 L (.inr (.inr (r + 1)) :: st) h Q | _ => False)) ∧
  (∀ (n d : Nat) (L : List (Option iV)) (r : List iV) (m : Nat) (h : iH) (Q : Option iV → iH → Prop), G sp sc [56] d mX11_leave (n + 1) 86 L (.inr (.inr (m + 2)) :: r) h Q = (match h.1[m]? with | some (.inl (ci, fs)) => (match lkF 11 17 ci with | some k => (match fs[k]? with | some v => G sp sc [56] d mX11_leave n 89 L (v :: r) h Q | none => False) | none => False) | _ => False)) ∧
  (∀ (n d : Nat) (L : List (Option iV)) (r : List iV) (m : Nat) (h : iH) (Q : Option iV → iH → Prop), G sp sc [56] d mX11_leave (n + 1) 89 L (.inr (.inr (m + 2)) :: r) h Q = (match h.1[m]? with | some (.inl (ci, fs)) => (match lkF 11 261 ci with | some k => (match fs[k]? with | some v => G sp sc [56] d mX11_leave n 92 L (v :: r) h Q | none => False) | none => False) | _ => False)) ∧
  (∀ (n d : Nat) (L : List (Option iV)) (st : List iV) (h : iH) (Q : Option iV → iH → Prop), G sp sc [56] d mX11_leave (n + 1) 92 L st h Q = G sp sc [56] d mX11_leave n 93 L (.inl 1 :: st) h Q) ∧
  (∀ (n d : Nat) (L : List (Option iV)) (r : List iV) (j : Int) (m : Nat) (h : iH) (Q : Option iV → iH → Prop), G sp sc [56] d mX11_leave (n + 1) 93 L (.inl j :: .inr (.inr (m + 2)) :: r) h Q = (match h.1[m]? with | some (.inr (.inl (0, xs))) => inA j xs.length = true ∧ G sp sc [56] d mX11_leave n 94 L (.inl (xs.getD j.toNat 0) :: r) h Q | _ => False)) ∧
  (∀ (n d : Nat) (L : List (Option iV)) (a : Int) (r : List iV) (h : iH) (Q : Option iV → iH → Prop), G sp sc [56] d mX11_leave (n + 1) 94 L (.inl a :: r) h Q = (inI a = true ∧ G sp sc [56] d mX11_leave n 95 L (.inr (.inl a) :: r) h Q)) ∧
  (∀ (n d : Nat) (L : List (Option iV)) (a : Int) (b : Int) (r : List iV) (h : iH) (Q : Option iV → iH → Prop), G sp sc [56] d mX11_leave (n + 1) 95 L (.inr (.inl b) :: .inr (.inl a) :: r) h Q = ((inJ a = true ∧ inJ b = true) ∧ G sp sc [56] d mX11_leave n 96 L (.inl (if b < a then 1 else if a = b then 0 else -1) :: r) h Q)) ∧
  (∀ (n d : Nat) (L : List (Option iV)) (a : Int) (r : List iV) (h : iH) (Q : Option iV → iH → Prop), G sp sc [56] d mX11_leave (n + 1) 96 L (.inl a :: r) h Q = (inI a = true ∧ (a < 0 → G sp sc [56] d mX11_leave n 102 L r h Q) ∧ (¬ (a < 0) → G sp sc [56] d mX11_leave n 99 L r h Q))) ∧
  (∀ (n d : Nat) (L : List (Option iV)) (st : List iV) (h : iH) (Q : Option iV → iH → Prop), G sp sc [56] d mX11_leave (n + 1) 99 L st h Q = ((-128 ≤ ((-13) : Int) ∧ ((-13) : Int) < 128) ∧ G sp sc [56] d mX11_leave n 101 L (.inl (-13) :: st) h Q)) ∧
  (∀ (n d : Nat) (L : List (Option iV)) (a : Int) (h : iH) (Q : Option iV → iH → Prop), G sp sc [56] d mX11_leave (n + 1) 101 L [.inl a] h Q = Q (some (.inl a)) h) ∧
  (∀ (n d : Nat) (L : List (Option iV)) (st : List iV) (h : iH) (Q : Option iV → iH → Prop), G sp sc [56] d mX11_leave (n + 1) 102 L st h Q = (match ld L 5 with | some (.inr (.inl x)) => G sp sc [56] d mX11_leave n 104 L (.inr (.inl x) :: st) h Q | _ => False)) ∧
  (∀ (n d : Nat) (L : List (Option iV)) (st : List iV) (h : iH) (Q : Option iV → iH → Prop), G sp sc [56] d mX11_leave (n + 1) 104 L st h Q = G sp sc [56] d mX11_leave n 107 L (.inr (.inl (-1)) :: st) h Q) ∧
  (∀ (n d : Nat) (L : List (Option iV)) (a : Int) (b : Int) (r : List iV) (h : iH) (Q : Option iV → iH → Prop), G sp sc [56] d mX11_leave (n + 1) 107 L (.inr (.inl b) :: .inr (.inl a) :: r) h Q = ((inJ a = true ∧ inJ b = true) ∧ G sp sc [56] d mX11_leave n 108 L (.inl (if b < a then 1 else if a = b then 0 else -1) :: r) h Q)) ∧
  (∀ (n d : Nat) (L : List (Option iV)) (a : Int) (r : List iV) (h : iH) (Q : Option iV → iH → Prop), G sp sc [56] d mX11_leave (n + 1) 108 L (.inl a :: r) h Q = (inI a = true ∧ (a = 0 → G sp sc [56] d mX11_leave n 129 L r h Q) ∧ (¬ (a = 0) → G sp sc [56] d mX11_leave n 111 L r h Q))) ∧
  (∀ (n d : Nat) (L : List (Option iV)) (st : List iV) (h : iH) (Q : Option iV → iH → Prop), G sp sc [56] d mX11_leave (n + 1) 111 L st h Q = (match ld L 0 with | some (.inr (.inr (r + 1))) => G sp sc [56] d mX11_leave n 112 L (.inr (.inr (r + 1)) :: st) h Q | _ => False)) ∧
  (∀ (n d : Nat) (L : List (Option iV)) (r : List iV) (m : Nat) (h : iH) (Q : Option iV → iH → Prop), G sp sc [56] d mX11_leave (n + 1) 112 L (.inr (.inr (m + 2)) :: r) h Q = (match h.1[m]? with | some (.inl (ci, fs)) => (match lkF 11 28 ci with | some k => (match fs[k]? with | some v => G sp sc [56] d mX11_leave n 115 L (v :: r) h Q | none => False) | none => False) | _ => False)) ∧
  (∀ (n d : Nat) (L : List (Option iV)) (st : List iV) (h : iH) (Q : Option iV → iH → Prop), G sp sc [56] d mX11_leave (n + 1) 115 L st h Q = (match ld L 4 with | some (.inl x) => G sp sc [56] d mX11_leave n 117 L (.inl x :: st) h Q | _ => False)) ∧
  (∀ (n d : Nat) (L : List (Option iV)) (st : List iV) (h : iH) (Q : Option iV → iH → Prop), G sp sc [56] d mX11_leave (n + 1) 117 L st h Q = (match ld L 5 with | some (.inr (.inl x)) => G sp sc [56] d mX11_leave n 119 L (.inr (.inl x) :: st) h Q | _ => False)) ∧
  (∀ (n d : Nat) (L : List (Option iV)) (a : Int) (r : List iV) (h : iH) (Q : Option iV → iH → Prop), G sp sc [56] d mX11_leave (n + 1) 119 L (.inr (.inl a) :: r) h Q = G sp sc [56] d mX11_leave n 120 L (.inl a :: r) h Q) ∧
  (∀ (n d : Nat) (L : List (Option iV)) (r : List iV) (m : Nat) (z0 : iV) (z1 : iV) (h : iH) (Q : Option iV → iH → Prop), G sp sc [56] (d + 1) mX11_leave (n + 1) 120 L (z1 :: z0 :: .inr (.inr (m + 2)) :: r) h Q = (match h.1[m]? with | some (.inl (ci, _)) => (match lkC 11 279 ci with | some (y1, n1, kd) => (n1 = 2 ∧ (kd = 2 ∨ kd = 3 ∨ kd = 8) ∧ cs r ≤ 8) ∧ Call sp sc d y1 [.inr (.inr (m + 2)), z0, z1] h (fun q h1 => GC sp sc [56] (d + 1) mX11_leave n 123 L q r h h1 Q) | none => False) | _ => False)) ∧
  (∀ (n d : Nat) (L : List (Option iV)) (a : Int) (r : List iV) (h : iH) (Q : Option iV → iH → Prop), G sp sc [56] d mX11_leave (n + 1) 123 L (.inl a :: r) h Q = (inI a = true ∧ (¬ a = 0 → G sp sc [56] d mX11_leave n 129 L r h Q) ∧ (¬ (¬ a = 0) → G sp sc [56] d mX11_leave n 126 L r h Q))) ∧
  (∀ (n d : Nat) (L : List (Option iV)) (st : List iV) (h : iH) (Q : Option iV → iH → Prop), G sp sc [56] d mX11_leave (n + 1) 126 L st h Q = ((-128 ≤ ((-13) : Int) ∧ ((-13) : Int) < 128) ∧ G sp sc [56] d mX11_leave n 128 L (.inl (-13) :: st) h Q)) ∧
  (∀ (n d : Nat) (L : List (Option iV)) (a : Int) (h : iH) (Q : Option iV → iH → Prop), G sp sc [56] d mX11_leave (n + 1) 128 L [.inl a] h Q = Q (some (.inl a)) h) ∧
  (∀ (n d : Nat) (L : List (Option iV)) (st : List iV) (h : iH) (Q : Option iV → iH → Prop), G sp sc [56] d mX11_leave (n + 1) 129 L st h Q = (match ld L 4 with | some (.inl x) => (match st1 L 4 (.inl (x + 1)) with | some L' => G sp sc [56] d mX11_leave n 132 L' st h Q | none => False) | _ => False)) ∧
  (∀ (n d : Nat) (L : List (Option iV)) (st : List iV) (h : iH) (Q : Option iV → iH → Prop), G sp sc [56] d mX11_leave (n + 1) 132 L st h Q = Run sp sc d mX11_leave 56 L st h Q) ∧
  (∀ (n d : Nat) (L : List (Option iV)) (st : List iV) (h : iH) (Q : Option iV → iH → Prop), G sp sc [56] d mX11_leave (n + 1) 135 L st h Q = (match ld L 0 with | some (.inr (.inr (r + 1))) => G sp sc [56] d mX11_leave n 136 L (.inr (.inr (r + 1)) :: st) h Q | _ => False)) ∧
  (∀ (n d : Nat) (L : List (Option iV)) (r : List iV) (m : Nat) (h : iH) (Q : Option iV → iH → Prop), G sp sc [56] d mX11_leave (n + 1) 136 L (.inr (.inr (m + 2)) :: r) h Q = (match h.1[m]? with | some (.inl (ci, fs)) => (match lkF 11 28 ci with | some k => (match fs[k]? with | some v => G sp sc [56] d mX11_leave n 139 L (v :: r) h Q | none => False) | none => False) | _ => False)) ∧
  (∀ (n d : Nat) (L : List (Option iV)) (r : List iV) (m : Nat) (h : iH) (Q : Option iV → iH → Prop), G sp sc [56] (d + 1) mX11_leave (n + 1) 139 L (.inr (.inr (m + 2)) :: r) h Q = (match h.1[m]? with | some (.inl (ci, _)) => (match lkC 11 282 ci with | some (y1, n1, kd) => (n1 = 0 ∧ (kd = 2 ∨ kd = 3 ∨ kd = 8) ∧ cs r ≤ 8) ∧ Call sp sc d y1 [.inr (.inr (m + 2))] h (fun q h1 => GC sp sc [56] (d + 1) mX11_leave n 142 L q r h h1 Q) | none => False) | _ => False)) ∧
  (∀ (n d : Nat) (L : List (Option iV)) (a : Int) (h : iH) (Q : Option iV → iH → Prop), G sp sc [56] d mX11_leave (n + 1) 142 L [.inl a] h Q = Q (some (.inl a)) h) ∧
  lkC 11 267 5 = some (mX5_refusalAsRow, 0, 2) ∧
  lkC 11 270 4 = some (mX4_clear, 0, 2) ∧
  lkC 11 279 4 = some (mX4_joinFree, 2, 2) ∧
  lkC 11 282 4 = some (mX4_firstLeaving, 0, 2) ∧
  lkF 11 17 11 = some 2 ∧
  lkF 11 261 8 = some 0 ∧
  lkF 11 273 5 = some 4 ∧
  lkF 11 28 11 = some 6 ∧
  lkF 11 63 11 = some 1 ∧
  lkF 11 93 5 = some 3 := ⟨by intros; exact G_at (by decide +kernel : fetch mX11_leave 0 = some (.iload_n 1)),
  by intros; exact G_callS (k := 1) (kd := 0) (by decide +kernel : fetch mX11_leave 1 = some (.invokestatic 75)) (by decide +kernel) (by decide +kernel) (by decide +kernel) rfl (by decide),
  by intros; exact G_at (by decide +kernel : fetch mX11_leave 4 = some (.ifCond .ne 5)),
  by intros; exact G_at (by decide +kernel : fetch mX11_leave 7 = some (.iconst (-1))),
  by intros; exact G_reti (by decide +kernel : fetch mX11_leave 8 = some (.ireturn)) (by decide +kernel),
  by intros; exact G_at (by decide +kernel : fetch mX11_leave 9 = some (.aload_n 0)),
  by intros; exact G_own (by decide +kernel : fetch mX11_leave 10 = some (.getfield 63)) (by decide +kernel),
  by intros; exact G_at (by decide +kernel : fetch mX11_leave 13 = some (.iload_n 1)),
  by intros; exact G_at (by decide +kernel : fetch mX11_leave 14 = some (.aaload)),
  by intros; exact G_at (by decide +kernel : fetch mX11_leave 15 = some (.astore_n 2)),
  by intros; exact G_at (by decide +kernel : fetch mX11_leave 16 = some (.aload_n 2)),
  by intros; exact G_callV (by decide +kernel : fetch mX11_leave 17 = some (.invokevirtual 267)) (by decide +kernel) (by decide +kernel) rfl,
  by intros; exact G_at (by decide +kernel : fetch mX11_leave 20 = some (.istore_n 3)),
  by intros; exact G_at (by decide +kernel : fetch mX11_leave 21 = some (.iload_n 3)),
  by intros; exact G_at (by decide +kernel : fetch mX11_leave 22 = some (.ifCond .eq 5)),
  by intros; exact G_at (by decide +kernel : fetch mX11_leave 25 = some (.iload_n 3)),
  by intros; exact G_reti (by decide +kernel : fetch mX11_leave 26 = some (.ireturn)) (by decide +kernel),
  by intros; exact G_at (by decide +kernel : fetch mX11_leave 27 = some (.aload_n 2)),
  by intros; exact G_own (by decide +kernel : fetch mX11_leave 28 = some (.getfield 93)) (by decide +kernel),
  by intros; exact G_at (by decide +kernel : fetch mX11_leave 31 = some (.aload_n 0)),
  by intros; exact G_own (by decide +kernel : fetch mX11_leave 32 = some (.getfield 17)) (by decide +kernel),
  by intros; exact G_own (by decide +kernel : fetch mX11_leave 35 = some (.getfield 261)) (by decide +kernel),
  by intros; exact G_at (by decide +kernel : fetch mX11_leave 38 = some (.iconst 0)),
  by intros; exact G_at (by decide +kernel : fetch mX11_leave 39 = some (.iaload)),
  by intros; exact G_at (by decide +kernel : fetch mX11_leave 40 = some (.if_icmp .eq 6)),
  by intros; exact G_at (by decide +kernel : fetch mX11_leave 43 = some (.bipush (-13))),
  by intros; exact G_reti (by decide +kernel : fetch mX11_leave 45 = some (.ireturn)) (by decide +kernel),
  by intros; exact G_at (by decide +kernel : fetch mX11_leave 46 = some (.aload_n 0)),
  by intros; exact G_own (by decide +kernel : fetch mX11_leave 47 = some (.getfield 28)) (by decide +kernel),
  by intros; exact G_callV (by decide +kernel : fetch mX11_leave 50 = some (.invokevirtual 270)) (by decide +kernel) (by decide +kernel) rfl,
  by intros; exact G_at (by decide +kernel : fetch mX11_leave 53 = some (.iconst 0)),
  by intros; exact G_at (by decide +kernel : fetch mX11_leave 54 = some (.istore 4)),
  by intros; exact G_at (by decide +kernel : fetch mX11_leave 56 = some (.iload 4)),
  by intros; exact G_at (by decide +kernel : fetch mX11_leave 58 = some (.aload_n 2)),
  by intros; exact G_own (by decide +kernel : fetch mX11_leave 59 = some (.getfield 93)) (by decide +kernel),
  by intros; exact G_at (by decide +kernel : fetch mX11_leave 62 = some (.if_icmp .ge 73)),
  by intros; exact G_at (by decide +kernel : fetch mX11_leave 65 = some (.aload_n 2)),
  by intros; exact G_own (by decide +kernel : fetch mX11_leave 66 = some (.getfield 273)) (by decide +kernel),
  by intros; exact G_at (by decide +kernel : fetch mX11_leave 69 = some (.iload 4)),
  by intros; exact G_at (by decide +kernel : fetch mX11_leave 71 = some (.laload)),
  by intros; exact G_at (by decide +kernel : fetch mX11_leave 72 = some (.lstore 5)),
  by intros; exact G_at (by decide +kernel : fetch mX11_leave 74 = some (.lload 5)),
  by intros; exact G_ldc2 (by decide +kernel : fetch mX11_leave 76 = some (.ldc2_w 277)) (by decide +kernel),
  by intros; exact G_at (by decide +kernel : fetch mX11_leave 79 = some (.lcmp)),
  by intros; exact G_at (by decide +kernel : fetch mX11_leave 80 = some (.ifCond .lt 19)),
  by intros; exact G_at (by decide +kernel : fetch mX11_leave 83 = some (.lload 5)),
  by intros; exact G_at (by decide +kernel : fetch mX11_leave 85 = some (.aload_n 0)),
  by intros; exact G_own (by decide +kernel : fetch mX11_leave 86 = some (.getfield 17)) (by decide +kernel),
  by intros; exact G_own (by decide +kernel : fetch mX11_leave 89 = some (.getfield 261)) (by decide +kernel),
  by intros; exact G_at (by decide +kernel : fetch mX11_leave 92 = some (.iconst 1)),
  by intros; exact G_at (by decide +kernel : fetch mX11_leave 93 = some (.iaload)),
  by intros; exact G_at (by decide +kernel : fetch mX11_leave 94 = some (.i2l)),
  by intros; exact G_at (by decide +kernel : fetch mX11_leave 95 = some (.lcmp)),
  by intros; exact G_at (by decide +kernel : fetch mX11_leave 96 = some (.ifCond .lt 6)),
  by intros; exact G_at (by decide +kernel : fetch mX11_leave 99 = some (.bipush (-13))),
  by intros; exact G_reti (by decide +kernel : fetch mX11_leave 101 = some (.ireturn)) (by decide +kernel),
  by intros; exact G_at (by decide +kernel : fetch mX11_leave 102 = some (.lload 5)),
  by intros; exact G_ldc2 (by decide +kernel : fetch mX11_leave 104 = some (.ldc2_w 277)) (by decide +kernel),
  by intros; exact G_at (by decide +kernel : fetch mX11_leave 107 = some (.lcmp)),
  by intros; exact G_at (by decide +kernel : fetch mX11_leave 108 = some (.ifCond .eq 21)),
  by intros; exact G_at (by decide +kernel : fetch mX11_leave 111 = some (.aload_n 0)),
  by intros; exact G_own (by decide +kernel : fetch mX11_leave 112 = some (.getfield 28)) (by decide +kernel),
  by intros; exact G_at (by decide +kernel : fetch mX11_leave 115 = some (.iload 4)),
  by intros; exact G_at (by decide +kernel : fetch mX11_leave 117 = some (.lload 5)),
  by intros; exact G_at (by decide +kernel : fetch mX11_leave 119 = some (.l2i)),
  by intros; exact G_callV (by decide +kernel : fetch mX11_leave 120 = some (.invokevirtual 279)) (by decide +kernel) (by decide +kernel) rfl,
  by intros; exact G_at (by decide +kernel : fetch mX11_leave 123 = some (.ifCond .ne 6)),
  by intros; exact G_at (by decide +kernel : fetch mX11_leave 126 = some (.bipush (-13))),
  by intros; exact G_reti (by decide +kernel : fetch mX11_leave 128 = some (.ireturn)) (by decide +kernel),
  by intros; exact G_at (by decide +kernel : fetch mX11_leave 129 = some (.iinc 4 1)),
  by intros; exact G_at (by decide +kernel : fetch mX11_leave 132 = some (.goto (-76))),
  by intros; exact G_at (by decide +kernel : fetch mX11_leave 135 = some (.aload_n 0)),
  by intros; exact G_own (by decide +kernel : fetch mX11_leave 136 = some (.getfield 28)) (by decide +kernel),
  by intros; exact G_callV (by decide +kernel : fetch mX11_leave 139 = some (.invokevirtual 282)) (by decide +kernel) (by decide +kernel) rfl,
  by intros; exact G_reti (by decide +kernel : fetch mX11_leave 142 = some (.ireturn)) (by decide +kernel),
  by decide +kernel,
  by decide +kernel,
  by decide +kernel,
  by decide +kernel,
  by decide +kernel,
  by decide +kernel,
  by decide +kernel,
  by decide +kernel,
  by decide +kernel,
  by decide +kernel⟩
theorem gX11_stable : (∀ (n d : Nat) (L : List (Option iV)) (st : List iV) (h : iH) (Q : Option iV → iH → Prop), G sp sc [] d mX11_stable (n + 1) 0 L st h Q = (match ld L 0 with | some (.inr (.inr (r + 1))) => G sp sc [] d mX11_stable n 1 L (.inr (.inr (r + 1)) :: st) h Q | _ => False)) ∧
  (∀ (n d : Nat) (L : List (Option iV)) (r : List iV) (m : Nat) (h : iH) (Q : Option iV → iH → Prop), G sp sc [] d mX11_stable (n + 1) 1 L (.inr (.inr (m + 2)) :: r) h Q = (match h.1[m]? with | some (.inl (ci, fs)) => (match lkF 11 17 ci with | some k => (match fs[k]? with | some v => G sp sc [] d mX11_stable n 4 L (v :: r) h Q | none => False) | none => False) | _ => False)) ∧
  (∀ (n d : Nat) (L : List (Option iV)) (st : List iV) (h : iH) (Q : Option iV → iH → Prop), G sp sc [] d mX11_stable (n + 1) 4 L st h Q = G sp sc [] d mX11_stable n 5 L (.inl 0 :: st) h Q) ∧
  (∀ (n d : Nat) (L : List (Option iV)) (st : List iV) (h : iH) (Q : Option iV → iH → Prop), G sp sc [] d mX11_stable (n + 1) 5 L st h Q = (match ld L 1 with | some (.inl x) => G sp sc [] d mX11_stable n 6 L (.inl x :: st) h Q | _ => False)) ∧
  (∀ (n d : Nat) (L : List (Option iV)) (r : List iV) (m : Nat) (z0 : iV) (z1 : iV) (h : iH) (Q : Option iV → iH → Prop), G sp sc [] (d + 1) mX11_stable (n + 1) 6 L (z1 :: z0 :: .inr (.inr (m + 2)) :: r) h Q = (match h.1[m]? with | some (.inl (ci, _)) => (match lkC 11 113 ci with | some (y1, n1, kd) => (n1 = 2 ∧ (kd = 2 ∨ kd = 3 ∨ kd = 8) ∧ cs r ≤ 8) ∧ Call sp sc d y1 [.inr (.inr (m + 2)), z0, z1] h (fun q h1 => GC sp sc [] (d + 1) mX11_stable n 9 L q r h h1 Q) | none => False) | _ => False)) ∧
  (∀ (n d : Nat) (L : List (Option iV)) (a : Int) (r : List iV) (h : iH) (Q : Option iV → iH → Prop), G sp sc [] d mX11_stable (n + 1) 9 L (.inl a :: r) h Q = (inI a = true ∧ (¬ a = 0 → G sp sc [] d mX11_stable n 14 L r h Q) ∧ (¬ (¬ a = 0) → G sp sc [] d mX11_stable n 12 L r h Q))) ∧
  (∀ (n d : Nat) (L : List (Option iV)) (st : List iV) (h : iH) (Q : Option iV → iH → Prop), G sp sc [] d mX11_stable (n + 1) 12 L st h Q = G sp sc [] d mX11_stable n 13 L (.inl (-1) :: st) h Q) ∧
  (∀ (n d : Nat) (L : List (Option iV)) (a : Int) (h : iH) (Q : Option iV → iH → Prop), G sp sc [] d mX11_stable (n + 1) 13 L [.inl a] h Q = Q (some (.inl a)) h) ∧
  (∀ (n d : Nat) (L : List (Option iV)) (st : List iV) (h : iH) (Q : Option iV → iH → Prop), G sp sc [] d mX11_stable (n + 1) 14 L st h Q = (match ld L 0 with | some (.inr (.inr (r + 1))) => G sp sc [] d mX11_stable n 15 L (.inr (.inr (r + 1)) :: st) h Q | _ => False)) ∧
  (∀ (n d : Nat) (L : List (Option iV)) (r : List iV) (m : Nat) (h : iH) (Q : Option iV → iH → Prop), G sp sc [] d mX11_stable (n + 1) 15 L (.inr (.inr (m + 2)) :: r) h Q = (match h.1[m]? with | some (.inl (ci, fs)) => (match lkF 11 28 ci with | some k => (match fs[k]? with | some v => G sp sc [] d mX11_stable n 18 L (v :: r) h Q | none => False) | none => False) | _ => False)) ∧
  (∀ (n d : Nat) (L : List (Option iV)) (r : List iV) (m : Nat) (h : iH) (Q : Option iV → iH → Prop), G sp sc [] (d + 1) mX11_stable (n + 1) 18 L (.inr (.inr (m + 2)) :: r) h Q = (match h.1[m]? with | some (.inl (ci, _)) => (match lkC 11 285 ci with | some (y1, n1, kd) => (n1 = 0 ∧ (kd = 2 ∨ kd = 3 ∨ kd = 8) ∧ cs r ≤ 8) ∧ Call sp sc d y1 [.inr (.inr (m + 2))] h (fun q h1 => GC sp sc [] (d + 1) mX11_stable n 21 L q r h h1 Q) | none => False) | _ => False)) ∧
  (∀ (n d : Nat) (L : List (Option iV)) (st : List iV) (h : iH) (Q : Option iV → iH → Prop), G sp sc [] d mX11_stable (n + 1) 21 L st h Q = (match ld L 0 with | some (.inr (.inr (r + 1))) => G sp sc [] d mX11_stable n 22 L (.inr (.inr (r + 1)) :: st) h Q | _ => False)) ∧
  (∀ (n d : Nat) (L : List (Option iV)) (r : List iV) (m : Nat) (h : iH) (Q : Option iV → iH → Prop), G sp sc [] d mX11_stable (n + 1) 22 L (.inr (.inr (m + 2)) :: r) h Q = (match h.1[m]? with | some (.inl (ci, fs)) => (match lkF 11 28 ci with | some k => (match fs[k]? with | some v => G sp sc [] d mX11_stable n 25 L (v :: r) h Q | none => False) | none => False) | _ => False)) ∧
  (∀ (n d : Nat) (L : List (Option iV)) (r : List iV) (m : Nat) (h : iH) (Q : Option iV → iH → Prop), G sp sc [] d mX11_stable (n + 1) 25 L (.inr (.inr (m + 2)) :: r) h Q = (match h.1[m]? with | some (.inl (ci, fs)) => (match lkF 11 288 ci with | some k => (match fs[k]? with | some v => G sp sc [] d mX11_stable n 28 L (v :: r) h Q | none => False) | none => False) | _ => False)) ∧
  (∀ (n d : Nat) (L : List (Option iV)) (st : List iV) (h : iH) (Q : Option iV → iH → Prop), G sp sc [] d mX11_stable (n + 1) 28 L st h Q = (match ld L 1 with | some (.inl x) => G sp sc [] d mX11_stable n 29 L (.inl x :: st) h Q | _ => False)) ∧
  (∀ (n d : Nat) (L : List (Option iV)) (r : List iV) (j : Int) (m : Nat) (h : iH) (Q : Option iV → iH → Prop), G sp sc [] d mX11_stable (n + 1) 29 L (.inl j :: .inr (.inr (m + 2)) :: r) h Q = (match h.1[m]? with | some (.inr (.inl (0, xs))) => inA j xs.length = true ∧ G sp sc [] d mX11_stable n 30 L (.inl (xs.getD j.toNat 0) :: r) h Q | _ => False)) ∧
  (∀ (n d : Nat) (L : List (Option iV)) (r : List iV) (z0 : iV) (h : iH) (Q : Option iV → iH → Prop), G sp sc [] (d + 1) mX11_stable (n + 1) 30 L (z0 :: r) h Q = (cs r ≤ 8 ∧ Call sp sc d mX11_orNone [z0] h (fun q h1 => GC sp sc [] (d + 1) mX11_stable n 33 L q r h h1 Q))) ∧
  (∀ (n d : Nat) (L : List (Option iV)) (a : Int) (h : iH) (Q : Option iV → iH → Prop), G sp sc [] d mX11_stable (n + 1) 33 L [.inl a] h Q = Q (some (.inl a)) h) ∧
  lkC 11 113 8 = some (mX8_hasOne, 2, 2) ∧
  lkC 11 285 4 = some (mX4_askAll, 0, 2) ∧
  lkF 11 17 11 = some 2 ∧
  lkF 11 28 11 = some 6 ∧
  lkF 11 288 4 = some 1 := ⟨by intros; exact G_at (by decide +kernel : fetch mX11_stable 0 = some (.aload_n 0)),
  by intros; exact G_own (by decide +kernel : fetch mX11_stable 1 = some (.getfield 17)) (by decide +kernel),
  by intros; exact G_at (by decide +kernel : fetch mX11_stable 4 = some (.iconst 0)),
  by intros; exact G_at (by decide +kernel : fetch mX11_stable 5 = some (.iload_n 1)),
  by intros; exact G_callV (by decide +kernel : fetch mX11_stable 6 = some (.invokevirtual 113)) (by decide +kernel) (by decide +kernel) rfl,
  by intros; exact G_at (by decide +kernel : fetch mX11_stable 9 = some (.ifCond .ne 5)),
  by intros; exact G_at (by decide +kernel : fetch mX11_stable 12 = some (.iconst (-1))),
  by intros; exact G_reti (by decide +kernel : fetch mX11_stable 13 = some (.ireturn)) (by decide +kernel),
  by intros; exact G_at (by decide +kernel : fetch mX11_stable 14 = some (.aload_n 0)),
  by intros; exact G_own (by decide +kernel : fetch mX11_stable 15 = some (.getfield 28)) (by decide +kernel),
  by intros; exact G_callV (by decide +kernel : fetch mX11_stable 18 = some (.invokevirtual 285)) (by decide +kernel) (by decide +kernel) rfl,
  by intros; exact G_at (by decide +kernel : fetch mX11_stable 21 = some (.aload_n 0)),
  by intros; exact G_own (by decide +kernel : fetch mX11_stable 22 = some (.getfield 28)) (by decide +kernel),
  by intros; exact G_own (by decide +kernel : fetch mX11_stable 25 = some (.getfield 288)) (by decide +kernel),
  by intros; exact G_at (by decide +kernel : fetch mX11_stable 28 = some (.iload_n 1)),
  by intros; exact G_at (by decide +kernel : fetch mX11_stable 29 = some (.iaload)),
  by intros; exact G_callS (k := 1) (kd := 0) (by decide +kernel : fetch mX11_stable 30 = some (.invokestatic 136)) (by decide +kernel) (by decide +kernel) (by decide +kernel) rfl (by decide),
  by intros; exact G_reti (by decide +kernel : fetch mX11_stable 33 = some (.ireturn)) (by decide +kernel),
  by decide +kernel,
  by decide +kernel,
  by decide +kernel,
  by decide +kernel,
  by decide +kernel⟩
theorem gX11_allStable : (∀ (n d : Nat) (L : List (Option iV)) (st : List iV) (h : iH) (Q : Option iV → iH → Prop), G sp sc [] d mX11_allStable (n + 1) 0 L st h Q = (match ld L 0 with | some (.inr (.inr (r + 1))) => G sp sc [] d mX11_allStable n 1 L (.inr (.inr (r + 1)) :: st) h Q | _ => False)) ∧
  (∀ (n d : Nat) (L : List (Option iV)) (r : List iV) (m : Nat) (h : iH) (Q : Option iV → iH → Prop), G sp sc [] d mX11_allStable (n + 1) 1 L (.inr (.inr (m + 2)) :: r) h Q = (match h.1[m]? with | some (.inl (ci, fs)) => (match lkF 11 28 ci with | some k => (match fs[k]? with | some v => G sp sc [] d mX11_allStable n 4 L (v :: r) h Q | none => False) | none => False) | _ => False)) ∧
  (∀ (n d : Nat) (L : List (Option iV)) (r : List iV) (m : Nat) (h : iH) (Q : Option iV → iH → Prop), G sp sc [] (d + 1) mX11_allStable (n + 1) 4 L (.inr (.inr (m + 2)) :: r) h Q = (match h.1[m]? with | some (.inl (ci, _)) => (match lkC 11 291 ci with | some (y1, n1, kd) => (n1 = 0 ∧ (kd = 2 ∨ kd = 3 ∨ kd = 8) ∧ cs r ≤ 8) ∧ Call sp sc d y1 [.inr (.inr (m + 2))] h (fun q h1 => GC sp sc [] (d + 1) mX11_allStable n 7 L q r h h1 Q) | none => False) | _ => False)) ∧
  (∀ (n d : Nat) (L : List (Option iV)) (st : List iV) (h : iH) (Q : Option iV → iH → Prop), G sp sc [] d mX11_allStable (n + 1) 7 L st h Q = (match ld L 0 with | some (.inr (.inr (r + 1))) => G sp sc [] d mX11_allStable n 8 L (.inr (.inr (r + 1)) :: st) h Q | _ => False)) ∧
  (∀ (n d : Nat) (L : List (Option iV)) (r : List iV) (m : Nat) (h : iH) (Q : Option iV → iH → Prop), G sp sc [] d mX11_allStable (n + 1) 8 L (.inr (.inr (m + 2)) :: r) h Q = (match h.1[m]? with | some (.inl (ci, fs)) => (match lkF 11 28 ci with | some k => (match fs[k]? with | some v => G sp sc [] d mX11_allStable n 11 L (v :: r) h Q | none => False) | none => False) | _ => False)) ∧
  (∀ (n d : Nat) (L : List (Option iV)) (r : List iV) (m : Nat) (h : iH) (Q : Option iV → iH → Prop), G sp sc [] d mX11_allStable (n + 1) 11 L (.inr (.inr (m + 2)) :: r) h Q = (match h.1[m]? with | some (.inl (ci, fs)) => (match lkF 11 294 ci with | some k => (match fs[k]? with | some v => G sp sc [] d mX11_allStable n 14 L (v :: r) h Q | none => False) | none => False) | _ => False)) ∧
  (∀ (n d : Nat) (L : List (Option iV)) (a : Int) (h : iH) (Q : Option iV → iH → Prop), G sp sc [] d mX11_allStable (n + 1) 14 L [.inl a] h Q = Q (some (.inl a)) h) ∧
  lkC 11 291 4 = some (mX4_survey, 0, 2) ∧
  lkF 11 28 11 = some 6 ∧
  lkF 11 294 4 = some 5 := ⟨by intros; exact G_at (by decide +kernel : fetch mX11_allStable 0 = some (.aload_n 0)),
  by intros; exact G_own (by decide +kernel : fetch mX11_allStable 1 = some (.getfield 28)) (by decide +kernel),
  by intros; exact G_callV (by decide +kernel : fetch mX11_allStable 4 = some (.invokevirtual 291)) (by decide +kernel) (by decide +kernel) rfl,
  by intros; exact G_at (by decide +kernel : fetch mX11_allStable 7 = some (.aload_n 0)),
  by intros; exact G_own (by decide +kernel : fetch mX11_allStable 8 = some (.getfield 28)) (by decide +kernel),
  by intros; exact G_own (by decide +kernel : fetch mX11_allStable 11 = some (.getfield 294)) (by decide +kernel),
  by intros; exact G_reti (by decide +kernel : fetch mX11_allStable 14 = some (.ireturn)) (by decide +kernel),
  by decide +kernel,
  by decide +kernel,
  by decide +kernel⟩
theorem gX11_most : (∀ (n d : Nat) (L : List (Option iV)) (st : List iV) (h : iH) (Q : Option iV → iH → Prop), G sp sc [] d mX11_most (n + 1) 0 L st h Q = (match ld L 0 with | some (.inr (.inr (r + 1))) => G sp sc [] d mX11_most n 1 L (.inr (.inr (r + 1)) :: st) h Q | _ => False)) ∧
  (∀ (n d : Nat) (L : List (Option iV)) (r : List iV) (m : Nat) (h : iH) (Q : Option iV → iH → Prop), G sp sc [] d mX11_most (n + 1) 1 L (.inr (.inr (m + 2)) :: r) h Q = (match h.1[m]? with | some (.inl (ci, fs)) => (match lkF 11 28 ci with | some k => (match fs[k]? with | some v => G sp sc [] d mX11_most n 4 L (v :: r) h Q | none => False) | none => False) | _ => False)) ∧
  (∀ (n d : Nat) (L : List (Option iV)) (r : List iV) (m : Nat) (h : iH) (Q : Option iV → iH → Prop), G sp sc [] (d + 1) mX11_most (n + 1) 4 L (.inr (.inr (m + 2)) :: r) h Q = (match h.1[m]? with | some (.inl (ci, _)) => (match lkC 11 291 ci with | some (y1, n1, kd) => (n1 = 0 ∧ (kd = 2 ∨ kd = 3 ∨ kd = 8) ∧ cs r ≤ 8) ∧ Call sp sc d y1 [.inr (.inr (m + 2))] h (fun q h1 => GC sp sc [] (d + 1) mX11_most n 7 L q r h h1 Q) | none => False) | _ => False)) ∧
  (∀ (n d : Nat) (L : List (Option iV)) (st : List iV) (h : iH) (Q : Option iV → iH → Prop), G sp sc [] d mX11_most (n + 1) 7 L st h Q = (match ld L 0 with | some (.inr (.inr (r + 1))) => G sp sc [] d mX11_most n 8 L (.inr (.inr (r + 1)) :: st) h Q | _ => False)) ∧
  (∀ (n d : Nat) (L : List (Option iV)) (r : List iV) (m : Nat) (h : iH) (Q : Option iV → iH → Prop), G sp sc [] d mX11_most (n + 1) 8 L (.inr (.inr (m + 2)) :: r) h Q = (match h.1[m]? with | some (.inl (ci, fs)) => (match lkF 11 28 ci with | some k => (match fs[k]? with | some v => G sp sc [] d mX11_most n 11 L (v :: r) h Q | none => False) | none => False) | _ => False)) ∧
  (∀ (n d : Nat) (L : List (Option iV)) (r : List iV) (m : Nat) (h : iH) (Q : Option iV → iH → Prop), G sp sc [] d mX11_most (n + 1) 11 L (.inr (.inr (m + 2)) :: r) h Q = (match h.1[m]? with | some (.inl (ci, fs)) => (match lkF 11 297 ci with | some k => (match fs[k]? with | some v => G sp sc [] d mX11_most n 14 L (v :: r) h Q | none => False) | none => False) | _ => False)) ∧
  (∀ (n d : Nat) (L : List (Option iV)) (a : Int) (h : iH) (Q : Option iV → iH → Prop), G sp sc [] d mX11_most (n + 1) 14 L [.inl a] h Q = Q (some (.inl a)) h) ∧
  lkC 11 291 4 = some (mX4_survey, 0, 2) ∧
  lkF 11 28 11 = some 6 ∧
  lkF 11 297 4 = some 6 := ⟨by intros; exact G_at (by decide +kernel : fetch mX11_most 0 = some (.aload_n 0)),
  by intros; exact G_own (by decide +kernel : fetch mX11_most 1 = some (.getfield 28)) (by decide +kernel),
  by intros; exact G_callV (by decide +kernel : fetch mX11_most 4 = some (.invokevirtual 291)) (by decide +kernel) (by decide +kernel) rfl,
  by intros; exact G_at (by decide +kernel : fetch mX11_most 7 = some (.aload_n 0)),
  by intros; exact G_own (by decide +kernel : fetch mX11_most 8 = some (.getfield 28)) (by decide +kernel),
  by intros; exact G_own (by decide +kernel : fetch mX11_most 11 = some (.getfield 297)) (by decide +kernel),
  by intros; exact G_reti (by decide +kernel : fetch mX11_most 14 = some (.ireturn)) (by decide +kernel),
  by decide +kernel,
  by decide +kernel,
  by decide +kernel⟩
theorem gX11_mostOf : (∀ (n d : Nat) (L : List (Option iV)) (st : List iV) (h : iH) (Q : Option iV → iH → Prop), G sp sc [] d mX11_mostOf (n + 1) 0 L st h Q = (match ld L 0 with | some (.inr (.inr (r + 1))) => G sp sc [] d mX11_mostOf n 1 L (.inr (.inr (r + 1)) :: st) h Q | _ => False)) ∧
  (∀ (n d : Nat) (L : List (Option iV)) (r : List iV) (m : Nat) (h : iH) (Q : Option iV → iH → Prop), G sp sc [] d mX11_mostOf (n + 1) 1 L (.inr (.inr (m + 2)) :: r) h Q = (match h.1[m]? with | some (.inl (ci, fs)) => (match lkF 11 17 ci with | some k => (match fs[k]? with | some v => G sp sc [] d mX11_mostOf n 4 L (v :: r) h Q | none => False) | none => False) | _ => False)) ∧
  (∀ (n d : Nat) (L : List (Option iV)) (st : List iV) (h : iH) (Q : Option iV → iH → Prop), G sp sc [] d mX11_mostOf (n + 1) 4 L st h Q = G sp sc [] d mX11_mostOf n 5 L (.inl 0 :: st) h Q) ∧
  (∀ (n d : Nat) (L : List (Option iV)) (st : List iV) (h : iH) (Q : Option iV → iH → Prop), G sp sc [] d mX11_mostOf (n + 1) 5 L st h Q = (match ld L 1 with | some (.inl x) => G sp sc [] d mX11_mostOf n 6 L (.inl x :: st) h Q | _ => False)) ∧
  (∀ (n d : Nat) (L : List (Option iV)) (r : List iV) (m : Nat) (z0 : iV) (z1 : iV) (h : iH) (Q : Option iV → iH → Prop), G sp sc [] (d + 1) mX11_mostOf (n + 1) 6 L (z1 :: z0 :: .inr (.inr (m + 2)) :: r) h Q = (match h.1[m]? with | some (.inl (ci, _)) => (match lkC 11 113 ci with | some (y1, n1, kd) => (n1 = 2 ∧ (kd = 2 ∨ kd = 3 ∨ kd = 8) ∧ cs r ≤ 8) ∧ Call sp sc d y1 [.inr (.inr (m + 2)), z0, z1] h (fun q h1 => GC sp sc [] (d + 1) mX11_mostOf n 9 L q r h h1 Q) | none => False) | _ => False)) ∧
  (∀ (n d : Nat) (L : List (Option iV)) (a : Int) (r : List iV) (h : iH) (Q : Option iV → iH → Prop), G sp sc [] d mX11_mostOf (n + 1) 9 L (.inl a :: r) h Q = (inI a = true ∧ (¬ a = 0 → G sp sc [] d mX11_mostOf n 14 L r h Q) ∧ (¬ (¬ a = 0) → G sp sc [] d mX11_mostOf n 12 L r h Q))) ∧
  (∀ (n d : Nat) (L : List (Option iV)) (st : List iV) (h : iH) (Q : Option iV → iH → Prop), G sp sc [] d mX11_mostOf (n + 1) 12 L st h Q = G sp sc [] d mX11_mostOf n 13 L (.inl (-1) :: st) h Q) ∧
  (∀ (n d : Nat) (L : List (Option iV)) (a : Int) (h : iH) (Q : Option iV → iH → Prop), G sp sc [] d mX11_mostOf (n + 1) 13 L [.inl a] h Q = Q (some (.inl a)) h) ∧
  (∀ (n d : Nat) (L : List (Option iV)) (st : List iV) (h : iH) (Q : Option iV → iH → Prop), G sp sc [] d mX11_mostOf (n + 1) 14 L st h Q = (match ld L 0 with | some (.inr (.inr (r + 1))) => G sp sc [] d mX11_mostOf n 15 L (.inr (.inr (r + 1)) :: st) h Q | _ => False)) ∧
  (∀ (n d : Nat) (L : List (Option iV)) (r : List iV) (m : Nat) (h : iH) (Q : Option iV → iH → Prop), G sp sc [] d mX11_mostOf (n + 1) 15 L (.inr (.inr (m + 2)) :: r) h Q = (match h.1[m]? with | some (.inl (ci, fs)) => (match lkF 11 28 ci with | some k => (match fs[k]? with | some v => G sp sc [] d mX11_mostOf n 18 L (v :: r) h Q | none => False) | none => False) | _ => False)) ∧
  (∀ (n d : Nat) (L : List (Option iV)) (r : List iV) (m : Nat) (h : iH) (Q : Option iV → iH → Prop), G sp sc [] (d + 1) mX11_mostOf (n + 1) 18 L (.inr (.inr (m + 2)) :: r) h Q = (match h.1[m]? with | some (.inl (ci, _)) => (match lkC 11 291 ci with | some (y1, n1, kd) => (n1 = 0 ∧ (kd = 2 ∨ kd = 3 ∨ kd = 8) ∧ cs r ≤ 8) ∧ Call sp sc d y1 [.inr (.inr (m + 2))] h (fun q h1 => GC sp sc [] (d + 1) mX11_mostOf n 21 L q r h h1 Q) | none => False) | _ => False)) ∧
  (∀ (n d : Nat) (L : List (Option iV)) (st : List iV) (h : iH) (Q : Option iV → iH → Prop), G sp sc [] d mX11_mostOf (n + 1) 21 L st h Q = (match ld L 0 with | some (.inr (.inr (r + 1))) => G sp sc [] d mX11_mostOf n 22 L (.inr (.inr (r + 1)) :: st) h Q | _ => False)) ∧
  (∀ (n d : Nat) (L : List (Option iV)) (r : List iV) (m : Nat) (h : iH) (Q : Option iV → iH → Prop), G sp sc [] d mX11_mostOf (n + 1) 22 L (.inr (.inr (m + 2)) :: r) h Q = (match h.1[m]? with | some (.inl (ci, fs)) => (match lkF 11 28 ci with | some k => (match fs[k]? with | some v => G sp sc [] d mX11_mostOf n 25 L (v :: r) h Q | none => False) | none => False) | _ => False)) ∧
  (∀ (n d : Nat) (L : List (Option iV)) (r : List iV) (m : Nat) (h : iH) (Q : Option iV → iH → Prop), G sp sc [] d mX11_mostOf (n + 1) 25 L (.inr (.inr (m + 2)) :: r) h Q = (match h.1[m]? with | some (.inl (ci, fs)) => (match lkF 11 300 ci with | some k => (match fs[k]? with | some v => G sp sc [] d mX11_mostOf n 28 L (v :: r) h Q | none => False) | none => False) | _ => False)) ∧
  (∀ (n d : Nat) (L : List (Option iV)) (st : List iV) (h : iH) (Q : Option iV → iH → Prop), G sp sc [] d mX11_mostOf (n + 1) 28 L st h Q = (match ld L 1 with | some (.inl x) => G sp sc [] d mX11_mostOf n 29 L (.inl x :: st) h Q | _ => False)) ∧
  (∀ (n d : Nat) (L : List (Option iV)) (r : List iV) (j : Int) (m : Nat) (h : iH) (Q : Option iV → iH → Prop), G sp sc [] d mX11_mostOf (n + 1) 29 L (.inl j :: .inr (.inr (m + 2)) :: r) h Q = (match h.1[m]? with | some (.inr (.inl (0, xs))) => inA j xs.length = true ∧ G sp sc [] d mX11_mostOf n 30 L (.inl (xs.getD j.toNat 0) :: r) h Q | _ => False)) ∧
  (∀ (n d : Nat) (L : List (Option iV)) (r : List iV) (z0 : iV) (h : iH) (Q : Option iV → iH → Prop), G sp sc [] (d + 1) mX11_mostOf (n + 1) 30 L (z0 :: r) h Q = (cs r ≤ 8 ∧ Call sp sc d mX11_orNone [z0] h (fun q h1 => GC sp sc [] (d + 1) mX11_mostOf n 33 L q r h h1 Q))) ∧
  (∀ (n d : Nat) (L : List (Option iV)) (a : Int) (h : iH) (Q : Option iV → iH → Prop), G sp sc [] d mX11_mostOf (n + 1) 33 L [.inl a] h Q = Q (some (.inl a)) h) ∧
  lkC 11 113 8 = some (mX8_hasOne, 2, 2) ∧
  lkC 11 291 4 = some (mX4_survey, 0, 2) ∧
  lkF 11 17 11 = some 2 ∧
  lkF 11 28 11 = some 6 ∧
  lkF 11 300 4 = some 3 := ⟨by intros; exact G_at (by decide +kernel : fetch mX11_mostOf 0 = some (.aload_n 0)),
  by intros; exact G_own (by decide +kernel : fetch mX11_mostOf 1 = some (.getfield 17)) (by decide +kernel),
  by intros; exact G_at (by decide +kernel : fetch mX11_mostOf 4 = some (.iconst 0)),
  by intros; exact G_at (by decide +kernel : fetch mX11_mostOf 5 = some (.iload_n 1)),
  by intros; exact G_callV (by decide +kernel : fetch mX11_mostOf 6 = some (.invokevirtual 113)) (by decide +kernel) (by decide +kernel) rfl,
  by intros; exact G_at (by decide +kernel : fetch mX11_mostOf 9 = some (.ifCond .ne 5)),
  by intros; exact G_at (by decide +kernel : fetch mX11_mostOf 12 = some (.iconst (-1))),
  by intros; exact G_reti (by decide +kernel : fetch mX11_mostOf 13 = some (.ireturn)) (by decide +kernel),
  by intros; exact G_at (by decide +kernel : fetch mX11_mostOf 14 = some (.aload_n 0)),
  by intros; exact G_own (by decide +kernel : fetch mX11_mostOf 15 = some (.getfield 28)) (by decide +kernel),
  by intros; exact G_callV (by decide +kernel : fetch mX11_mostOf 18 = some (.invokevirtual 291)) (by decide +kernel) (by decide +kernel) rfl,
  by intros; exact G_at (by decide +kernel : fetch mX11_mostOf 21 = some (.aload_n 0)),
  by intros; exact G_own (by decide +kernel : fetch mX11_mostOf 22 = some (.getfield 28)) (by decide +kernel),
  by intros; exact G_own (by decide +kernel : fetch mX11_mostOf 25 = some (.getfield 300)) (by decide +kernel),
  by intros; exact G_at (by decide +kernel : fetch mX11_mostOf 28 = some (.iload_n 1)),
  by intros; exact G_at (by decide +kernel : fetch mX11_mostOf 29 = some (.iaload)),
  by intros; exact G_callS (k := 1) (kd := 0) (by decide +kernel : fetch mX11_mostOf 30 = some (.invokestatic 136)) (by decide +kernel) (by decide +kernel) (by decide +kernel) rfl (by decide),
  by intros; exact G_reti (by decide +kernel : fetch mX11_mostOf 33 = some (.ireturn)) (by decide +kernel),
  by decide +kernel,
  by decide +kernel,
  by decide +kernel,
  by decide +kernel,
  by decide +kernel⟩
theorem gX11_report : (∀ (n d : Nat) (L : List (Option iV)) (st : List iV) (h : iH) (Q : Option iV → iH → Prop), G sp sc [] d mX11_report (n + 1) 0 L st h Q = (match ld L 0 with | some (.inr (.inr (r + 1))) => G sp sc [] d mX11_report n 1 L (.inr (.inr (r + 1)) :: st) h Q | _ => False)) ∧
  (∀ (n d : Nat) (L : List (Option iV)) (r : List iV) (m : Nat) (h : iH) (Q : Option iV → iH → Prop), G sp sc [] d mX11_report (n + 1) 1 L (.inr (.inr (m + 2)) :: r) h Q = (match h.1[m]? with | some (.inl (ci, fs)) => (match lkF 11 17 ci with | some k => (match fs[k]? with | some v => G sp sc [] d mX11_report n 4 L (v :: r) h Q | none => False) | none => False) | _ => False)) ∧
  (∀ (n d : Nat) (L : List (Option iV)) (st : List iV) (h : iH) (Q : Option iV → iH → Prop), G sp sc [] d mX11_report (n + 1) 4 L st h Q = (match ld L 1 with | some (.inl x) => G sp sc [] d mX11_report n 5 L (.inl x :: st) h Q | _ => False)) ∧
  (∀ (n d : Nat) (L : List (Option iV)) (st : List iV) (h : iH) (Q : Option iV → iH → Prop), G sp sc [] d mX11_report (n + 1) 5 L st h Q = (match ld L 2 with | some (.inl x) => G sp sc [] d mX11_report n 6 L (.inl x :: st) h Q | _ => False)) ∧
  (∀ (n d : Nat) (L : List (Option iV)) (r : List iV) (m : Nat) (z0 : iV) (z1 : iV) (h : iH) (Q : Option iV → iH → Prop), G sp sc [] (d + 1) mX11_report (n + 1) 6 L (z1 :: z0 :: .inr (.inr (m + 2)) :: r) h Q = (match h.1[m]? with | some (.inl (ci, _)) => (match lkC 11 113 ci with | some (y1, n1, kd) => (n1 = 2 ∧ (kd = 2 ∨ kd = 3 ∨ kd = 8) ∧ cs r ≤ 8) ∧ Call sp sc d y1 [.inr (.inr (m + 2)), z0, z1] h (fun q h1 => GC sp sc [] (d + 1) mX11_report n 9 L q r h h1 Q) | none => False) | _ => False)) ∧
  (∀ (n d : Nat) (L : List (Option iV)) (a : Int) (r : List iV) (h : iH) (Q : Option iV → iH → Prop), G sp sc [] d mX11_report (n + 1) 9 L (.inl a :: r) h Q = (inI a = true ∧ (a = 0 → G sp sc [] d mX11_report n 22 L r h Q) ∧ (¬ (a = 0) → G sp sc [] d mX11_report n 12 L r h Q))) ∧
  (∀ (n d : Nat) (L : List (Option iV)) (st : List iV) (h : iH) (Q : Option iV → iH → Prop), G sp sc [] d mX11_report (n + 1) 12 L st h Q = (match ld L 3 with | some (.inl x) => G sp sc [] d mX11_report n 13 L (.inl x :: st) h Q | _ => False)) ∧
  (∀ (n d : Nat) (L : List (Option iV)) (a : Int) (r : List iV) (h : iH) (Q : Option iV → iH → Prop), G sp sc [] d mX11_report (n + 1) 13 L (.inl a :: r) h Q = (inI a = true ∧ (a < 0 → G sp sc [] d mX11_report n 22 L r h Q) ∧ (¬ (a < 0) → G sp sc [] d mX11_report n 16 L r h Q))) ∧
  (∀ (n d : Nat) (L : List (Option iV)) (st : List iV) (h : iH) (Q : Option iV → iH → Prop), G sp sc [] d mX11_report (n + 1) 16 L st h Q = (match ld L 3 with | some (.inl x) => G sp sc [] d mX11_report n 17 L (.inl x :: st) h Q | _ => False)) ∧
  (∀ (n d : Nat) (L : List (Option iV)) (st : List iV) (h : iH) (Q : Option iV → iH → Prop), G sp sc [] d mX11_report (n + 1) 17 L st h Q = ((-128 ≤ (99 : Int) ∧ (99 : Int) < 128) ∧ G sp sc [] d mX11_report n 19 L (.inl 99 :: st) h Q)) ∧
  (∀ (n d : Nat) (L : List (Option iV)) (a : Int) (b : Int) (r : List iV) (h : iH) (Q : Option iV → iH → Prop), G sp sc [] d mX11_report (n + 1) 19 L (.inl b :: .inl a :: r) h Q = ((inI a = true ∧ inI b = true) ∧ (a ≤ b → G sp sc [] d mX11_report n 24 L r h Q) ∧ (¬ (a ≤ b) → G sp sc [] d mX11_report n 22 L r h Q))) ∧
  (∀ (n d : Nat) (L : List (Option iV)) (st : List iV) (h : iH) (Q : Option iV → iH → Prop), G sp sc [] d mX11_report (n + 1) 22 L st h Q = G sp sc [] d mX11_report n 23 L (.inl (-1) :: st) h Q) ∧
  (∀ (n d : Nat) (L : List (Option iV)) (a : Int) (h : iH) (Q : Option iV → iH → Prop), G sp sc [] d mX11_report (n + 1) 23 L [.inl a] h Q = Q (some (.inl a)) h) ∧
  (∀ (n d : Nat) (L : List (Option iV)) (st : List iV) (h : iH) (Q : Option iV → iH → Prop), G sp sc [] d mX11_report (n + 1) 24 L st h Q = (match ld L 0 with | some (.inr (.inr (r + 1))) => G sp sc [] d mX11_report n 25 L (.inr (.inr (r + 1)) :: st) h Q | _ => False)) ∧
  (∀ (n d : Nat) (L : List (Option iV)) (st : List iV) (h : iH) (Q : Option iV → iH → Prop), G sp sc [] d mX11_report (n + 1) 25 L st h Q = (match ld L 1 with | some (.inl x) => G sp sc [] d mX11_report n 26 L (.inl x :: st) h Q | _ => False)) ∧
  (∀ (n d : Nat) (L : List (Option iV)) (st : List iV) (h : iH) (Q : Option iV → iH → Prop), G sp sc [] d mX11_report (n + 1) 26 L st h Q = (match ld L 2 with | some (.inl x) => G sp sc [] d mX11_report n 27 L (.inl x :: st) h Q | _ => False)) ∧
  (∀ (n d : Nat) (L : List (Option iV)) (st : List iV) (h : iH) (Q : Option iV → iH → Prop), G sp sc [] d mX11_report (n + 1) 27 L st h Q = (match ld L 3 with | some (.inl x) => G sp sc [] d mX11_report n 28 L (.inl x :: st) h Q | _ => False)) ∧
  (∀ (n d : Nat) (L : List (Option iV)) (r : List iV) (m : Nat) (z0 : iV) (z1 : iV) (z2 : iV) (h : iH) (Q : Option iV → iH → Prop), G sp sc [] (d + 1) mX11_report (n + 1) 28 L (z2 :: z1 :: z0 :: .inr (.inr (m + 2)) :: r) h Q = (match h.1[m]? with | some (.inl (ci, _)) => (match lkC 11 303 ci with | some (y1, n1, kd) => (n1 = 3 ∧ (kd = 2 ∨ kd = 3 ∨ kd = 8) ∧ cs r ≤ 8) ∧ Call sp sc d y1 [.inr (.inr (m + 2)), z0, z1, z2] h (fun q h1 => GC sp sc [] (d + 1) mX11_report n 31 L q r h h1 Q) | none => False) | _ => False)) ∧
  (∀ (n d : Nat) (L : List (Option iV)) (a : Int) (h : iH) (Q : Option iV → iH → Prop), G sp sc [] d mX11_report (n + 1) 31 L [.inl a] h Q = Q (some (.inl a)) h) ∧
  lkC 11 113 8 = some (mX8_hasOne, 2, 2) ∧
  lkC 11 303 11 = some (mX11_reported, 3, 2) ∧
  lkF 11 17 11 = some 2 := ⟨by intros; exact G_at (by decide +kernel : fetch mX11_report 0 = some (.aload_n 0)),
  by intros; exact G_own (by decide +kernel : fetch mX11_report 1 = some (.getfield 17)) (by decide +kernel),
  by intros; exact G_at (by decide +kernel : fetch mX11_report 4 = some (.iload_n 1)),
  by intros; exact G_at (by decide +kernel : fetch mX11_report 5 = some (.iload_n 2)),
  by intros; exact G_callV (by decide +kernel : fetch mX11_report 6 = some (.invokevirtual 113)) (by decide +kernel) (by decide +kernel) rfl,
  by intros; exact G_at (by decide +kernel : fetch mX11_report 9 = some (.ifCond .eq 13)),
  by intros; exact G_at (by decide +kernel : fetch mX11_report 12 = some (.iload_n 3)),
  by intros; exact G_at (by decide +kernel : fetch mX11_report 13 = some (.ifCond .lt 9)),
  by intros; exact G_at (by decide +kernel : fetch mX11_report 16 = some (.iload_n 3)),
  by intros; exact G_at (by decide +kernel : fetch mX11_report 17 = some (.bipush 99)),
  by intros; exact G_at (by decide +kernel : fetch mX11_report 19 = some (.if_icmp .le 5)),
  by intros; exact G_at (by decide +kernel : fetch mX11_report 22 = some (.iconst (-1))),
  by intros; exact G_reti (by decide +kernel : fetch mX11_report 23 = some (.ireturn)) (by decide +kernel),
  by intros; exact G_at (by decide +kernel : fetch mX11_report 24 = some (.aload_n 0)),
  by intros; exact G_at (by decide +kernel : fetch mX11_report 25 = some (.iload_n 1)),
  by intros; exact G_at (by decide +kernel : fetch mX11_report 26 = some (.iload_n 2)),
  by intros; exact G_at (by decide +kernel : fetch mX11_report 27 = some (.iload_n 3)),
  by intros; exact G_callV (by decide +kernel : fetch mX11_report 28 = some (.invokevirtual 303)) (by decide +kernel) (by decide +kernel) rfl,
  by intros; exact G_reti (by decide +kernel : fetch mX11_report 31 = some (.ireturn)) (by decide +kernel),
  by decide +kernel,
  by decide +kernel,
  by decide +kernel⟩
theorem gX11_said : (∀ (n d : Nat) (L : List (Option iV)) (st : List iV) (h : iH) (Q : Option iV → iH → Prop), G sp sc [47] d mX11_said (n + 1) 0 L st h Q = (match ld L 0 with | some (.inr (.inr (r + 1))) => G sp sc [47] d mX11_said n 1 L (.inr (.inr (r + 1)) :: st) h Q | _ => False)) ∧
  (∀ (n d : Nat) (L : List (Option iV)) (r : List iV) (m : Nat) (h : iH) (Q : Option iV → iH → Prop), G sp sc [47] d mX11_said (n + 1) 1 L (.inr (.inr (m + 2)) :: r) h Q = (match h.1[m]? with | some (.inl (ci, fs)) => (match lkF 11 17 ci with | some k => (match fs[k]? with | some v => G sp sc [47] d mX11_said n 4 L (v :: r) h Q | none => False) | none => False) | _ => False)) ∧
  (∀ (n d : Nat) (L : List (Option iV)) (st : List iV) (h : iH) (Q : Option iV → iH → Prop), G sp sc [47] d mX11_said (n + 1) 4 L st h Q = (match ld L 1 with | some (.inl x) => G sp sc [47] d mX11_said n 5 L (.inl x :: st) h Q | _ => False)) ∧
  (∀ (n d : Nat) (L : List (Option iV)) (st : List iV) (h : iH) (Q : Option iV → iH → Prop), G sp sc [47] d mX11_said (n + 1) 5 L st h Q = (match ld L 2 with | some (.inl x) => G sp sc [47] d mX11_said n 6 L (.inl x :: st) h Q | _ => False)) ∧
  (∀ (n d : Nat) (L : List (Option iV)) (r : List iV) (m : Nat) (z0 : iV) (z1 : iV) (h : iH) (Q : Option iV → iH → Prop), G sp sc [47] (d + 1) mX11_said (n + 1) 6 L (z1 :: z0 :: .inr (.inr (m + 2)) :: r) h Q = (match h.1[m]? with | some (.inl (ci, _)) => (match lkC 11 113 ci with | some (y1, n1, kd) => (n1 = 2 ∧ (kd = 2 ∨ kd = 3 ∨ kd = 8) ∧ cs r ≤ 8) ∧ Call sp sc d y1 [.inr (.inr (m + 2)), z0, z1] h (fun q h1 => GC sp sc [47] (d + 1) mX11_said n 9 L q r h h1 Q) | none => False) | _ => False)) ∧
  (∀ (n d : Nat) (L : List (Option iV)) (a : Int) (r : List iV) (h : iH) (Q : Option iV → iH → Prop), G sp sc [47] d mX11_said (n + 1) 9 L (.inl a :: r) h Q = (inI a = true ∧ (a = 0 → G sp sc [47] d mX11_said n 34 L r h Q) ∧ (¬ (a = 0) → G sp sc [47] d mX11_said n 12 L r h Q))) ∧
  (∀ (n d : Nat) (L : List (Option iV)) (st : List iV) (h : iH) (Q : Option iV → iH → Prop), G sp sc [47] d mX11_said (n + 1) 12 L st h Q = (match ld L 3 with | some (.inl x) => G sp sc [47] d mX11_said n 13 L (.inl x :: st) h Q | _ => False)) ∧
  (∀ (n d : Nat) (L : List (Option iV)) (a : Int) (r : List iV) (h : iH) (Q : Option iV → iH → Prop), G sp sc [47] d mX11_said (n + 1) 13 L (.inl a :: r) h Q = (inI a = true ∧ (a < 0 → G sp sc [47] d mX11_said n 34 L r h Q) ∧ (¬ (a < 0) → G sp sc [47] d mX11_said n 16 L r h Q))) ∧
  (∀ (n d : Nat) (L : List (Option iV)) (st : List iV) (h : iH) (Q : Option iV → iH → Prop), G sp sc [47] d mX11_said (n + 1) 16 L st h Q = (match ld L 3 with | some (.inl x) => G sp sc [47] d mX11_said n 17 L (.inl x :: st) h Q | _ => False)) ∧
  (∀ (n d : Nat) (L : List (Option iV)) (st : List iV) (h : iH) (Q : Option iV → iH → Prop), G sp sc [47] d mX11_said (n + 1) 17 L st h Q = ((-32768 ≤ (999 : Int) ∧ (999 : Int) < 32768) ∧ G sp sc [47] d mX11_said n 20 L (.inl 999 :: st) h Q)) ∧
  (∀ (n d : Nat) (L : List (Option iV)) (a : Int) (b : Int) (r : List iV) (h : iH) (Q : Option iV → iH → Prop), G sp sc [47] d mX11_said (n + 1) 20 L (.inl b :: .inl a :: r) h Q = ((inI a = true ∧ inI b = true) ∧ (b < a → G sp sc [47] d mX11_said n 34 L r h Q) ∧ (¬ (b < a) → G sp sc [47] d mX11_said n 23 L r h Q))) ∧
  (∀ (n d : Nat) (L : List (Option iV)) (st : List iV) (h : iH) (Q : Option iV → iH → Prop), G sp sc [47] d mX11_said (n + 1) 23 L st h Q = (match ld L 4 with | some (.inl x) => G sp sc [47] d mX11_said n 25 L (.inl x :: st) h Q | _ => False)) ∧
  (∀ (n d : Nat) (L : List (Option iV)) (a : Int) (r : List iV) (h : iH) (Q : Option iV → iH → Prop), G sp sc [47] d mX11_said (n + 1) 25 L (.inl a :: r) h Q = (inI a = true ∧ (a < 0 → G sp sc [47] d mX11_said n 34 L r h Q) ∧ (¬ (a < 0) → G sp sc [47] d mX11_said n 28 L r h Q))) ∧
  (∀ (n d : Nat) (L : List (Option iV)) (st : List iV) (h : iH) (Q : Option iV → iH → Prop), G sp sc [47] d mX11_said (n + 1) 28 L st h Q = (match ld L 4 with | some (.inl x) => G sp sc [47] d mX11_said n 30 L (.inl x :: st) h Q | _ => False)) ∧
  (∀ (n d : Nat) (L : List (Option iV)) (st : List iV) (h : iH) (Q : Option iV → iH → Prop), G sp sc [47] d mX11_said (n + 1) 30 L st h Q = G sp sc [47] d mX11_said n 31 L (.inl 1 :: st) h Q) ∧
  (∀ (n d : Nat) (L : List (Option iV)) (a : Int) (b : Int) (r : List iV) (h : iH) (Q : Option iV → iH → Prop), G sp sc [47] d mX11_said (n + 1) 31 L (.inl b :: .inl a :: r) h Q = ((inI a = true ∧ inI b = true) ∧ (a ≤ b → G sp sc [47] d mX11_said n 36 L r h Q) ∧ (¬ (a ≤ b) → G sp sc [47] d mX11_said n 34 L r h Q))) ∧
  (∀ (n d : Nat) (L : List (Option iV)) (st : List iV) (h : iH) (Q : Option iV → iH → Prop), G sp sc [47] d mX11_said (n + 1) 34 L st h Q = G sp sc [47] d mX11_said n 35 L (.inl (-1) :: st) h Q) ∧
  (∀ (n d : Nat) (L : List (Option iV)) (a : Int) (h : iH) (Q : Option iV → iH → Prop), G sp sc [47] d mX11_said (n + 1) 35 L [.inl a] h Q = Q (some (.inl a)) h) ∧
  (∀ (n d : Nat) (L : List (Option iV)) (st : List iV) (h : iH) (Q : Option iV → iH → Prop), G sp sc [47] d mX11_said (n + 1) 36 L st h Q = G sp sc [47] d mX11_said n 37 L (.inl 0 :: st) h Q) ∧
  (∀ (n d : Nat) (L : List (Option iV)) (r : List iV) (x : Int) (h : iH) (Q : Option iV → iH → Prop), G sp sc [47] d mX11_said (n + 1) 37 L (.inl x :: r) h Q = (match st1 L 5 (.inl x) with | some L' => G sp sc [47] d mX11_said n 39 L' r h Q | none => False)) ∧
  (∀ (n d : Nat) (L : List (Option iV)) (st : List iV) (h : iH) (Q : Option iV → iH → Prop), G sp sc [47] d mX11_said (n + 1) 39 L st h Q = ((-128 ≤ ((-4) : Int) ∧ ((-4) : Int) < 128) ∧ G sp sc [47] d mX11_said n 41 L (.inl (-4) :: st) h Q)) ∧
  (∀ (n d : Nat) (L : List (Option iV)) (r : List iV) (x : Int) (h : iH) (Q : Option iV → iH → Prop), G sp sc [47] d mX11_said (n + 1) 41 L (.inl x :: r) h Q = (match st1 L 6 (.inl x) with | some L' => G sp sc [47] d mX11_said n 43 L' r h Q | none => False)) ∧
  (∀ (n d : Nat) (L : List (Option iV)) (st : List iV) (h : iH) (Q : Option iV → iH → Prop), G sp sc [47] d mX11_said (n + 1) 43 L st h Q = ((-128 ≤ (99 : Int) ∧ (99 : Int) < 128) ∧ G sp sc [47] d mX11_said n 45 L (.inl 99 :: st) h Q)) ∧
  (∀ (n d : Nat) (L : List (Option iV)) (r : List iV) (x : Int) (h : iH) (Q : Option iV → iH → Prop), G sp sc [47] d mX11_said (n + 1) 45 L (.inl x :: r) h Q = (match st1 L 7 (.inl x) with | some L' => Run sp sc d mX11_said 47 L' r h Q | none => False)) ∧
  (∀ (n d : Nat) (L : List (Option iV)) (st : List iV) (h : iH) (Q : Option iV → iH → Prop), G sp sc [47] d mX11_said (n + 1) 47 L st h Q = (match ld L 7 with | some (.inl x) => G sp sc [47] d mX11_said n 49 L (.inl x :: st) h Q | _ => False)) ∧
  (∀ (n d : Nat) (L : List (Option iV)) (a : Int) (r : List iV) (h : iH) (Q : Option iV → iH → Prop), G sp sc [47] d mX11_said (n + 1) 49 L (.inl a :: r) h Q = (inI a = true ∧ (a < 0 → G sp sc [47] d mX11_said n 77 L r h Q) ∧ (¬ (a < 0) → G sp sc [47] d mX11_said n 52 L r h Q))) ∧
  (∀ (n d : Nat) (L : List (Option iV)) (st : List iV) (h : iH) (Q : Option iV → iH → Prop), G sp sc [47] d mX11_said (n + 1) 52 L st h Q = (match ld L 0 with | some (.inr (.inr (r + 1))) => G sp sc [47] d mX11_said n 53 L (.inr (.inr (r + 1)) :: st) h Q | _ => False)) ∧
  (∀ (n d : Nat) (L : List (Option iV)) (st : List iV) (h : iH) (Q : Option iV → iH → Prop), G sp sc [47] d mX11_said (n + 1) 53 L st h Q = (match ld L 1 with | some (.inl x) => G sp sc [47] d mX11_said n 54 L (.inl x :: st) h Q | _ => False)) ∧
  (∀ (n d : Nat) (L : List (Option iV)) (st : List iV) (h : iH) (Q : Option iV → iH → Prop), G sp sc [47] d mX11_said (n + 1) 54 L st h Q = (match ld L 2 with | some (.inl x) => G sp sc [47] d mX11_said n 55 L (.inl x :: st) h Q | _ => False)) ∧
  (∀ (n d : Nat) (L : List (Option iV)) (st : List iV) (h : iH) (Q : Option iV → iH → Prop), G sp sc [47] d mX11_said (n + 1) 55 L st h Q = (match ld L 7 with | some (.inl x) => G sp sc [47] d mX11_said n 57 L (.inl x :: st) h Q | _ => False)) ∧
  (∀ (n d : Nat) (L : List (Option iV)) (r : List iV) (m : Nat) (z0 : iV) (z1 : iV) (z2 : iV) (h : iH) (Q : Option iV → iH → Prop), G sp sc [47] (d + 1) mX11_said (n + 1) 57 L (z2 :: z1 :: z0 :: .inr (.inr (m + 2)) :: r) h Q = (match h.1[m]? with | some (.inl (ci, _)) => (match lkC 11 303 ci with | some (y1, n1, kd) => (n1 = 3 ∧ (kd = 2 ∨ kd = 3 ∨ kd = 8) ∧ cs r ≤ 8) ∧ Call sp sc d y1 [.inr (.inr (m + 2)), z0, z1, z2] h (fun q h1 => GC sp sc [47] (d + 1) mX11_said n 60 L q r h h1 Q) | none => False) | _ => False)) ∧
  (∀ (n d : Nat) (L : List (Option iV)) (st : List iV) (h : iH) (Q : Option iV → iH → Prop), G sp sc [47] d mX11_said (n + 1) 60 L st h Q = (match ld L 3 with | some (.inl x) => G sp sc [47] d mX11_said n 61 L (.inl x :: st) h Q | _ => False)) ∧
  (∀ (n d : Nat) (L : List (Option iV)) (a : Int) (b : Int) (r : List iV) (h : iH) (Q : Option iV → iH → Prop), G sp sc [47] d mX11_said (n + 1) 61 L (.inl b :: .inl a :: r) h Q = ((inI a = true ∧ inI b = true) ∧ (¬ a = b → G sp sc [47] d mX11_said n 71 L r h Q) ∧ (¬ (¬ a = b) → G sp sc [47] d mX11_said n 64 L r h Q))) ∧
  (∀ (n d : Nat) (L : List (Option iV)) (st : List iV) (h : iH) (Q : Option iV → iH → Prop), G sp sc [47] d mX11_said (n + 1) 64 L st h Q = (match ld L 5 with | some (.inl x) => (match st1 L 5 (.inl (x + 1)) with | some L' => G sp sc [47] d mX11_said n 67 L' st h Q | none => False) | _ => False)) ∧
  (∀ (n d : Nat) (L : List (Option iV)) (st : List iV) (h : iH) (Q : Option iV → iH → Prop), G sp sc [47] d mX11_said (n + 1) 67 L st h Q = (match ld L 7 with | some (.inl x) => G sp sc [47] d mX11_said n 69 L (.inl x :: st) h Q | _ => False)) ∧
  (∀ (n d : Nat) (L : List (Option iV)) (r : List iV) (x : Int) (h : iH) (Q : Option iV → iH → Prop), G sp sc [47] d mX11_said (n + 1) 69 L (.inl x :: r) h Q = (match st1 L 6 (.inl x) with | some L' => G sp sc [47] d mX11_said n 71 L' r h Q | none => False)) ∧
  (∀ (n d : Nat) (L : List (Option iV)) (st : List iV) (h : iH) (Q : Option iV → iH → Prop), G sp sc [47] d mX11_said (n + 1) 71 L st h Q = (match ld L 7 with | some (.inl x) => (match st1 L 7 (.inl (x + (-1))) with | some L' => G sp sc [47] d mX11_said n 74 L' st h Q | none => False) | _ => False)) ∧
  (∀ (n d : Nat) (L : List (Option iV)) (st : List iV) (h : iH) (Q : Option iV → iH → Prop), G sp sc [47] d mX11_said (n + 1) 74 L st h Q = Run sp sc d mX11_said 47 L st h Q) ∧
  (∀ (n d : Nat) (L : List (Option iV)) (st : List iV) (h : iH) (Q : Option iV → iH → Prop), G sp sc [47] d mX11_said (n + 1) 77 L st h Q = (match ld L 4 with | some (.inl x) => G sp sc [47] d mX11_said n 79 L (.inl x :: st) h Q | _ => False)) ∧
  (∀ (n d : Nat) (L : List (Option iV)) (a : Int) (r : List iV) (h : iH) (Q : Option iV → iH → Prop), G sp sc [47] d mX11_said (n + 1) 79 L (.inl a :: r) h Q = (inI a = true ∧ (¬ a = 0 → G sp sc [47] d mX11_said n 87 L r h Q) ∧ (¬ (¬ a = 0) → G sp sc [47] d mX11_said n 82 L r h Q))) ∧
  (∀ (n d : Nat) (L : List (Option iV)) (st : List iV) (h : iH) (Q : Option iV → iH → Prop), G sp sc [47] d mX11_said (n + 1) 82 L st h Q = (match ld L 5 with | some (.inl x) => G sp sc [47] d mX11_said n 84 L (.inl x :: st) h Q | _ => False)) ∧
  (∀ (n d : Nat) (L : List (Option iV)) (st : List iV) (h : iH) (Q : Option iV → iH → Prop), G sp sc [47] d mX11_said (n + 1) 84 L st h Q = G sp sc [47] d mX11_said n 89 L st h Q) ∧
  (∀ (n d : Nat) (L : List (Option iV)) (st : List iV) (h : iH) (Q : Option iV → iH → Prop), G sp sc [47] d mX11_said (n + 1) 87 L st h Q = (match ld L 6 with | some (.inl x) => G sp sc [47] d mX11_said n 89 L (.inl x :: st) h Q | _ => False)) ∧
  (∀ (n d : Nat) (L : List (Option iV)) (a : Int) (h : iH) (Q : Option iV → iH → Prop), G sp sc [47] d mX11_said (n + 1) 89 L [.inl a] h Q = Q (some (.inl a)) h) ∧
  lkC 11 113 8 = some (mX8_hasOne, 2, 2) ∧
  lkC 11 303 11 = some (mX11_reported, 3, 2) ∧
  lkF 11 17 11 = some 2 := ⟨by intros; exact G_at (by decide +kernel : fetch mX11_said 0 = some (.aload_n 0)),
  by intros; exact G_own (by decide +kernel : fetch mX11_said 1 = some (.getfield 17)) (by decide +kernel),
  by intros; exact G_at (by decide +kernel : fetch mX11_said 4 = some (.iload_n 1)),
  by intros; exact G_at (by decide +kernel : fetch mX11_said 5 = some (.iload_n 2)),
  by intros; exact G_callV (by decide +kernel : fetch mX11_said 6 = some (.invokevirtual 113)) (by decide +kernel) (by decide +kernel) rfl,
  by intros; exact G_at (by decide +kernel : fetch mX11_said 9 = some (.ifCond .eq 25)),
  by intros; exact G_at (by decide +kernel : fetch mX11_said 12 = some (.iload_n 3)),
  by intros; exact G_at (by decide +kernel : fetch mX11_said 13 = some (.ifCond .lt 21)),
  by intros; exact G_at (by decide +kernel : fetch mX11_said 16 = some (.iload_n 3)),
  by intros; exact G_at (by decide +kernel : fetch mX11_said 17 = some (.sipush 999)),
  by intros; exact G_at (by decide +kernel : fetch mX11_said 20 = some (.if_icmp .gt 14)),
  by intros; exact G_at (by decide +kernel : fetch mX11_said 23 = some (.iload 4)),
  by intros; exact G_at (by decide +kernel : fetch mX11_said 25 = some (.ifCond .lt 9)),
  by intros; exact G_at (by decide +kernel : fetch mX11_said 28 = some (.iload 4)),
  by intros; exact G_at (by decide +kernel : fetch mX11_said 30 = some (.iconst 1)),
  by intros; exact G_at (by decide +kernel : fetch mX11_said 31 = some (.if_icmp .le 5)),
  by intros; exact G_at (by decide +kernel : fetch mX11_said 34 = some (.iconst (-1))),
  by intros; exact G_reti (by decide +kernel : fetch mX11_said 35 = some (.ireturn)) (by decide +kernel),
  by intros; exact G_at (by decide +kernel : fetch mX11_said 36 = some (.iconst 0)),
  by intros; exact G_at (by decide +kernel : fetch mX11_said 37 = some (.istore 5)),
  by intros; exact G_at (by decide +kernel : fetch mX11_said 39 = some (.bipush (-4))),
  by intros; exact G_at (by decide +kernel : fetch mX11_said 41 = some (.istore 6)),
  by intros; exact G_at (by decide +kernel : fetch mX11_said 43 = some (.bipush 99)),
  by intros; exact G_at (by decide +kernel : fetch mX11_said 45 = some (.istore 7)),
  by intros; exact G_at (by decide +kernel : fetch mX11_said 47 = some (.iload 7)),
  by intros; exact G_at (by decide +kernel : fetch mX11_said 49 = some (.ifCond .lt 28)),
  by intros; exact G_at (by decide +kernel : fetch mX11_said 52 = some (.aload_n 0)),
  by intros; exact G_at (by decide +kernel : fetch mX11_said 53 = some (.iload_n 1)),
  by intros; exact G_at (by decide +kernel : fetch mX11_said 54 = some (.iload_n 2)),
  by intros; exact G_at (by decide +kernel : fetch mX11_said 55 = some (.iload 7)),
  by intros; exact G_callV (by decide +kernel : fetch mX11_said 57 = some (.invokevirtual 303)) (by decide +kernel) (by decide +kernel) rfl,
  by intros; exact G_at (by decide +kernel : fetch mX11_said 60 = some (.iload_n 3)),
  by intros; exact G_at (by decide +kernel : fetch mX11_said 61 = some (.if_icmp .ne 10)),
  by intros; exact G_at (by decide +kernel : fetch mX11_said 64 = some (.iinc 5 1)),
  by intros; exact G_at (by decide +kernel : fetch mX11_said 67 = some (.iload 7)),
  by intros; exact G_at (by decide +kernel : fetch mX11_said 69 = some (.istore 6)),
  by intros; exact G_at (by decide +kernel : fetch mX11_said 71 = some (.iinc 7 (-1))),
  by intros; exact G_at (by decide +kernel : fetch mX11_said 74 = some (.goto (-27))),
  by intros; exact G_at (by decide +kernel : fetch mX11_said 77 = some (.iload 4)),
  by intros; exact G_at (by decide +kernel : fetch mX11_said 79 = some (.ifCond .ne 8)),
  by intros; exact G_at (by decide +kernel : fetch mX11_said 82 = some (.iload 5)),
  by intros; exact G_at (by decide +kernel : fetch mX11_said 84 = some (.goto 5)),
  by intros; exact G_at (by decide +kernel : fetch mX11_said 87 = some (.iload 6)),
  by intros; exact G_reti (by decide +kernel : fetch mX11_said 89 = some (.ireturn)) (by decide +kernel),
  by decide +kernel,
  by decide +kernel,
  by decide +kernel⟩
theorem gX11_learnt : (∀ (n d : Nat) (L : List (Option iV)) (st : List iV) (h : iH) (Q : Option iV → iH → Prop), G sp sc [43] d mX11_learnt (n + 1) 0 L st h Q = (match ld L 1 with | some (.inl x) => G sp sc [43] d mX11_learnt n 1 L (.inl x :: st) h Q | _ => False)) ∧
  (∀ (n d : Nat) (L : List (Option iV)) (r : List iV) (z0 : iV) (h : iH) (Q : Option iV → iH → Prop), G sp sc [43] (d + 1) mX11_learnt (n + 1) 1 L (z0 :: r) h Q = (cs r ≤ 8 ∧ Call sp sc d mX11_isShelf [z0] h (fun q h1 => GC sp sc [43] (d + 1) mX11_learnt n 4 L q r h h1 Q))) ∧
  (∀ (n d : Nat) (L : List (Option iV)) (a : Int) (r : List iV) (h : iH) (Q : Option iV → iH → Prop), G sp sc [43] d mX11_learnt (n + 1) 4 L (.inl a :: r) h Q = (inI a = true ∧ (a = 0 → G sp sc [43] d mX11_learnt n 16 L r h Q) ∧ (¬ (a = 0) → G sp sc [43] d mX11_learnt n 7 L r h Q))) ∧
  (∀ (n d : Nat) (L : List (Option iV)) (st : List iV) (h : iH) (Q : Option iV → iH → Prop), G sp sc [43] d mX11_learnt (n + 1) 7 L st h Q = (match ld L 2 with | some (.inl x) => G sp sc [43] d mX11_learnt n 8 L (.inl x :: st) h Q | _ => False)) ∧
  (∀ (n d : Nat) (L : List (Option iV)) (a : Int) (r : List iV) (h : iH) (Q : Option iV → iH → Prop), G sp sc [43] d mX11_learnt (n + 1) 8 L (.inl a :: r) h Q = (inI a = true ∧ (a < 0 → G sp sc [43] d mX11_learnt n 16 L r h Q) ∧ (¬ (a < 0) → G sp sc [43] d mX11_learnt n 11 L r h Q))) ∧
  (∀ (n d : Nat) (L : List (Option iV)) (st : List iV) (h : iH) (Q : Option iV → iH → Prop), G sp sc [43] d mX11_learnt (n + 1) 11 L st h Q = (match ld L 2 with | some (.inl x) => G sp sc [43] d mX11_learnt n 12 L (.inl x :: st) h Q | _ => False)) ∧
  (∀ (n d : Nat) (L : List (Option iV)) (st : List iV) (h : iH) (Q : Option iV → iH → Prop), G sp sc [43] d mX11_learnt (n + 1) 12 L st h Q = G sp sc [43] d mX11_learnt n 13 L (.inl 1 :: st) h Q) ∧
  (∀ (n d : Nat) (L : List (Option iV)) (a : Int) (b : Int) (r : List iV) (h : iH) (Q : Option iV → iH → Prop), G sp sc [43] d mX11_learnt (n + 1) 13 L (.inl b :: .inl a :: r) h Q = ((inI a = true ∧ inI b = true) ∧ (a ≤ b → G sp sc [43] d mX11_learnt n 18 L r h Q) ∧ (¬ (a ≤ b) → G sp sc [43] d mX11_learnt n 16 L r h Q))) ∧
  (∀ (n d : Nat) (L : List (Option iV)) (st : List iV) (h : iH) (Q : Option iV → iH → Prop), G sp sc [43] d mX11_learnt (n + 1) 16 L st h Q = G sp sc [43] d mX11_learnt n 17 L (.inl (-1) :: st) h Q) ∧
  (∀ (n d : Nat) (L : List (Option iV)) (a : Int) (h : iH) (Q : Option iV → iH → Prop), G sp sc [43] d mX11_learnt (n + 1) 17 L [.inl a] h Q = Q (some (.inl a)) h) ∧
  (∀ (n d : Nat) (L : List (Option iV)) (st : List iV) (h : iH) (Q : Option iV → iH → Prop), G sp sc [43] d mX11_learnt (n + 1) 18 L st h Q = (match ld L 0 with | some (.inr (.inr (r + 1))) => G sp sc [43] d mX11_learnt n 19 L (.inr (.inr (r + 1)) :: st) h Q | _ => False)) ∧
  (∀ (n d : Nat) (L : List (Option iV)) (r : List iV) (m : Nat) (h : iH) (Q : Option iV → iH → Prop), G sp sc [43] d mX11_learnt (n + 1) 19 L (.inr (.inr (m + 2)) :: r) h Q = (match h.1[m]? with | some (.inl (ci, fs)) => (match lkF 11 63 ci with | some k => (match fs[k]? with | some v => G sp sc [43] d mX11_learnt n 22 L (v :: r) h Q | none => False) | none => False) | _ => False)) ∧
  (∀ (n d : Nat) (L : List (Option iV)) (st : List iV) (h : iH) (Q : Option iV → iH → Prop), G sp sc [43] d mX11_learnt (n + 1) 22 L st h Q = (match ld L 1 with | some (.inl x) => G sp sc [43] d mX11_learnt n 23 L (.inl x :: st) h Q | _ => False)) ∧
  (∀ (n d : Nat) (L : List (Option iV)) (r : List iV) (j : Int) (m : Nat) (h : iH) (Q : Option iV → iH → Prop), G sp sc [43] d mX11_learnt (n + 1) 23 L (.inl j :: .inr (.inr (m + 2)) :: r) h Q = (match h.1[m]? with | some (.inr (.inr (t, rs))) => (inA j rs.length = true ∧ 3 ≤ t ∧ t < 6) ∧ G sp sc [43] d mX11_learnt n 24 L (.inr (.inr (rs.getD j.toNat 0)) :: r) h Q | _ => False)) ∧
  (∀ (n d : Nat) (L : List (Option iV)) (r : List iV) (m : Nat) (h : iH) (Q : Option iV → iH → Prop), G sp sc [43] (d + 1) mX11_learnt (n + 1) 24 L (.inr (.inr (m + 2)) :: r) h Q = (match h.1[m]? with | some (.inl (ci, _)) => (match lkC 11 267 ci with | some (y1, n1, kd) => (n1 = 0 ∧ (kd = 2 ∨ kd = 3 ∨ kd = 8) ∧ cs r ≤ 8) ∧ Call sp sc d y1 [.inr (.inr (m + 2))] h (fun q h1 => GC sp sc [43] (d + 1) mX11_learnt n 27 L q r h h1 Q) | none => False) | _ => False)) ∧
  (∀ (n d : Nat) (L : List (Option iV)) (r : List iV) (x : Int) (h : iH) (Q : Option iV → iH → Prop), G sp sc [43] d mX11_learnt (n + 1) 27 L (.inl x :: r) h Q = (match st1 L 3 (.inl x) with | some L' => G sp sc [43] d mX11_learnt n 28 L' r h Q | none => False)) ∧
  (∀ (n d : Nat) (L : List (Option iV)) (st : List iV) (h : iH) (Q : Option iV → iH → Prop), G sp sc [43] d mX11_learnt (n + 1) 28 L st h Q = (match ld L 3 with | some (.inl x) => G sp sc [43] d mX11_learnt n 29 L (.inl x :: st) h Q | _ => False)) ∧
  (∀ (n d : Nat) (L : List (Option iV)) (a : Int) (r : List iV) (h : iH) (Q : Option iV → iH → Prop), G sp sc [43] d mX11_learnt (n + 1) 29 L (.inl a :: r) h Q = (inI a = true ∧ (a = 0 → G sp sc [43] d mX11_learnt n 34 L r h Q) ∧ (¬ (a = 0) → G sp sc [43] d mX11_learnt n 32 L r h Q))) ∧
  (∀ (n d : Nat) (L : List (Option iV)) (st : List iV) (h : iH) (Q : Option iV → iH → Prop), G sp sc [43] d mX11_learnt (n + 1) 32 L st h Q = (match ld L 3 with | some (.inl x) => G sp sc [43] d mX11_learnt n 33 L (.inl x :: st) h Q | _ => False)) ∧
  (∀ (n d : Nat) (L : List (Option iV)) (a : Int) (h : iH) (Q : Option iV → iH → Prop), G sp sc [43] d mX11_learnt (n + 1) 33 L [.inl a] h Q = Q (some (.inl a)) h) ∧
  (∀ (n d : Nat) (L : List (Option iV)) (st : List iV) (h : iH) (Q : Option iV → iH → Prop), G sp sc [43] d mX11_learnt (n + 1) 34 L st h Q = G sp sc [43] d mX11_learnt n 35 L (.inl 0 :: st) h Q) ∧
  (∀ (n d : Nat) (L : List (Option iV)) (r : List iV) (x : Int) (h : iH) (Q : Option iV → iH → Prop), G sp sc [43] d mX11_learnt (n + 1) 35 L (.inl x :: r) h Q = (match st1 L 4 (.inl x) with | some L' => G sp sc [43] d mX11_learnt n 37 L' r h Q | none => False)) ∧
  (∀ (n d : Nat) (L : List (Option iV)) (st : List iV) (h : iH) (Q : Option iV → iH → Prop), G sp sc [43] d mX11_learnt (n + 1) 37 L st h Q = G sp sc [43] d mX11_learnt n 38 L (.inl 0 :: st) h Q) ∧
  (∀ (n d : Nat) (L : List (Option iV)) (r : List iV) (x : Int) (h : iH) (Q : Option iV → iH → Prop), G sp sc [43] d mX11_learnt (n + 1) 38 L (.inl x :: r) h Q = (match st1 L 5 (.inl x) with | some L' => G sp sc [43] d mX11_learnt n 40 L' r h Q | none => False)) ∧
  (∀ (n d : Nat) (L : List (Option iV)) (st : List iV) (h : iH) (Q : Option iV → iH → Prop), G sp sc [43] d mX11_learnt (n + 1) 40 L st h Q = G sp sc [43] d mX11_learnt n 41 L (.inl 0 :: st) h Q) ∧
  (∀ (n d : Nat) (L : List (Option iV)) (r : List iV) (x : Int) (h : iH) (Q : Option iV → iH → Prop), G sp sc [43] d mX11_learnt (n + 1) 41 L (.inl x :: r) h Q = (match st1 L 6 (.inl x) with | some L' => Run sp sc d mX11_learnt 43 L' r h Q | none => False)) ∧
  (∀ (n d : Nat) (L : List (Option iV)) (st : List iV) (h : iH) (Q : Option iV → iH → Prop), G sp sc [43] d mX11_learnt (n + 1) 43 L st h Q = (match ld L 6 with | some (.inl x) => G sp sc [43] d mX11_learnt n 45 L (.inl x :: st) h Q | _ => False)) ∧
  (∀ (n d : Nat) (L : List (Option iV)) (st : List iV) (h : iH) (Q : Option iV → iH → Prop), G sp sc [43] d mX11_learnt (n + 1) 45 L st h Q = (match ld L 0 with | some (.inr (.inr (r + 1))) => G sp sc [43] d mX11_learnt n 46 L (.inr (.inr (r + 1)) :: st) h Q | _ => False)) ∧
  (∀ (n d : Nat) (L : List (Option iV)) (r : List iV) (m : Nat) (h : iH) (Q : Option iV → iH → Prop), G sp sc [43] d mX11_learnt (n + 1) 46 L (.inr (.inr (m + 2)) :: r) h Q = (match h.1[m]? with | some (.inl (ci, fs)) => (match lkF 11 42 ci with | some k => (match fs[k]? with | some v => G sp sc [43] d mX11_learnt n 49 L (v :: r) h Q | none => False) | none => False) | _ => False)) ∧
  (∀ (n d : Nat) (L : List (Option iV)) (r : List iV) (m : Nat) (h : iH) (Q : Option iV → iH → Prop), G sp sc [43] d mX11_learnt (n + 1) 49 L (.inr (.inr (m + 2)) :: r) h Q = (match h.1[m]? with | some (.inr (.inl (t, xs))) => t < 6 ∧ G sp sc [43] d mX11_learnt n 50 L (.inl (xs.length : Int) :: r) h Q | some (.inr (.inr (t, rs))) => t < 6 ∧ G sp sc [43] d mX11_learnt n 50 L (.inl (rs.length : Int) :: r) h Q | _ => False)) ∧
  (∀ (n d : Nat) (L : List (Option iV)) (a : Int) (b : Int) (r : List iV) (h : iH) (Q : Option iV → iH → Prop), G sp sc [43] d mX11_learnt (n + 1) 50 L (.inl b :: .inl a :: r) h Q = ((inI a = true ∧ inI b = true) ∧ (b ≤ a → G sp sc [43] d mX11_learnt n 102 L r h Q) ∧ (¬ (b ≤ a) → G sp sc [43] d mX11_learnt n 53 L r h Q))) ∧
  (∀ (n d : Nat) (L : List (Option iV)) (st : List iV) (h : iH) (Q : Option iV → iH → Prop), G sp sc [43] d mX11_learnt (n + 1) 53 L st h Q = (match ld L 0 with | some (.inr (.inr (r + 1))) => G sp sc [43] d mX11_learnt n 54 L (.inr (.inr (r + 1)) :: st) h Q | _ => False)) ∧
  (∀ (n d : Nat) (L : List (Option iV)) (r : List iV) (m : Nat) (h : iH) (Q : Option iV → iH → Prop), G sp sc [43] d mX11_learnt (n + 1) 54 L (.inr (.inr (m + 2)) :: r) h Q = (match h.1[m]? with | some (.inl (ci, fs)) => (match lkF 11 63 ci with | some k => (match fs[k]? with | some v => G sp sc [43] d mX11_learnt n 57 L (v :: r) h Q | none => False) | none => False) | _ => False)) ∧
  (∀ (n d : Nat) (L : List (Option iV)) (st : List iV) (h : iH) (Q : Option iV → iH → Prop), G sp sc [43] d mX11_learnt (n + 1) 57 L st h Q = (match ld L 1 with | some (.inl x) => G sp sc [43] d mX11_learnt n 58 L (.inl x :: st) h Q | _ => False)) ∧
  (∀ (n d : Nat) (L : List (Option iV)) (r : List iV) (j : Int) (m : Nat) (h : iH) (Q : Option iV → iH → Prop), G sp sc [43] d mX11_learnt (n + 1) 58 L (.inl j :: .inr (.inr (m + 2)) :: r) h Q = (match h.1[m]? with | some (.inr (.inr (t, rs))) => (inA j rs.length = true ∧ 3 ≤ t ∧ t < 6) ∧ G sp sc [43] d mX11_learnt n 59 L (.inr (.inr (rs.getD j.toNat 0)) :: r) h Q | _ => False)) ∧
  (∀ (n d : Nat) (L : List (Option iV)) (st : List iV) (h : iH) (Q : Option iV → iH → Prop), G sp sc [43] d mX11_learnt (n + 1) 59 L st h Q = (match ld L 0 with | some (.inr (.inr (r + 1))) => G sp sc [43] d mX11_learnt n 60 L (.inr (.inr (r + 1)) :: st) h Q | _ => False)) ∧
  (∀ (n d : Nat) (L : List (Option iV)) (r : List iV) (m : Nat) (h : iH) (Q : Option iV → iH → Prop), G sp sc [43] d mX11_learnt (n + 1) 60 L (.inr (.inr (m + 2)) :: r) h Q = (match h.1[m]? with | some (.inl (ci, fs)) => (match lkF 11 42 ci with | some k => (match fs[k]? with | some v => G sp sc [43] d mX11_learnt n 63 L (v :: r) h Q | none => False) | none => False) | _ => False)) ∧
  (∀ (n d : Nat) (L : List (Option iV)) (st : List iV) (h : iH) (Q : Option iV → iH → Prop), G sp sc [43] d mX11_learnt (n + 1) 63 L st h Q = (match ld L 6 with | some (.inl x) => G sp sc [43] d mX11_learnt n 65 L (.inl x :: st) h Q | _ => False)) ∧
  (∀ (n d : Nat) (L : List (Option iV)) (r : List iV) (j : Int) (m : Nat) (h : iH) (Q : Option iV → iH → Prop), G sp sc [43] d mX11_learnt (n + 1) 65 L (.inl j :: .inr (.inr (m + 2)) :: r) h Q = (match h.1[m]? with | some (.inr (.inr (t, rs))) => (inA j rs.length = true ∧ 3 ≤ t ∧ t < 6) ∧ G sp sc [43] d mX11_learnt n 66 L (.inr (.inr (rs.getD j.toNat 0)) :: r) h Q | _ => False)) ∧
  (∀ (n d : Nat) (L : List (Option iV)) (st : List iV) (h : iH) (Q : Option iV → iH → Prop), G sp sc [43] d mX11_learnt (n + 1) 66 L st h Q = G sp sc [43] d mX11_learnt n 67 L (.inl 1 :: st) h Q) ∧
  (∀ (n d : Nat) (L : List (Option iV)) (r : List iV) (m : Nat) (z0 : iV) (h : iH) (Q : Option iV → iH → Prop), G sp sc [43] (d + 1) mX11_learnt (n + 1) 67 L (z0 :: .inr (.inr (m + 2)) :: r) h Q = (match h.1[m]? with | some (.inl (ci, _)) => (match lkC 11 145 ci with | some (y1, n1, kd) => (n1 = 1 ∧ (kd = 2 ∨ kd = 3 ∨ kd = 8) ∧ cs r ≤ 8) ∧ Call sp sc d y1 [.inr (.inr (m + 2)), z0] h (fun q h1 => GC sp sc [43] (d + 1) mX11_learnt n 70 L q r h h1 Q) | none => False) | _ => False)) ∧
  (∀ (n d : Nat) (L : List (Option iV)) (r : List iV) (m : Nat) (z0 : iV) (h : iH) (Q : Option iV → iH → Prop), G sp sc [43] (d + 1) mX11_learnt (n + 1) 70 L (z0 :: .inr (.inr (m + 2)) :: r) h Q = (match h.1[m]? with | some (.inl (ci, _)) => (match lkC 11 306 ci with | some (y1, n1, kd) => (n1 = 1 ∧ (kd = 2 ∨ kd = 3 ∨ kd = 8) ∧ cs r ≤ 8) ∧ Call sp sc d y1 [.inr (.inr (m + 2)), z0] h (fun q h1 => GC sp sc [43] (d + 1) mX11_learnt n 73 L q r h h1 Q) | none => False) | _ => False)) ∧
  (∀ (n d : Nat) (L : List (Option iV)) (a : Int) (r : List iV) (h : iH) (Q : Option iV → iH → Prop), G sp sc [43] d mX11_learnt (n + 1) 73 L (.inl a :: r) h Q = (inI a = true ∧ (a = 0 → G sp sc [43] d mX11_learnt n 96 L r h Q) ∧ (¬ (a = 0) → G sp sc [43] d mX11_learnt n 76 L r h Q))) ∧
  (∀ (n d : Nat) (L : List (Option iV)) (st : List iV) (h : iH) (Q : Option iV → iH → Prop), G sp sc [43] d mX11_learnt (n + 1) 76 L st h Q = (match ld L 4 with | some (.inl x) => G sp sc [43] d mX11_learnt n 78 L (.inl x :: st) h Q | _ => False)) ∧
  (∀ (n d : Nat) (L : List (Option iV)) (st : List iV) (h : iH) (Q : Option iV → iH → Prop), G sp sc [43] d mX11_learnt (n + 1) 78 L st h Q = G sp sc [43] d mX11_learnt n 79 L (.inl 1 :: st) h Q) ∧
  (∀ (n d : Nat) (L : List (Option iV)) (st : List iV) (h : iH) (Q : Option iV → iH → Prop), G sp sc [43] d mX11_learnt (n + 1) 79 L st h Q = (match ld L 0 with | some (.inr (.inr (r + 1))) => G sp sc [43] d mX11_learnt n 80 L (.inr (.inr (r + 1)) :: st) h Q | _ => False)) ∧
  (∀ (n d : Nat) (L : List (Option iV)) (r : List iV) (m : Nat) (h : iH) (Q : Option iV → iH → Prop), G sp sc [43] d mX11_learnt (n + 1) 80 L (.inr (.inr (m + 2)) :: r) h Q = (match h.1[m]? with | some (.inl (ci, fs)) => (match lkF 11 42 ci with | some k => (match fs[k]? with | some v => G sp sc [43] d mX11_learnt n 83 L (v :: r) h Q | none => False) | none => False) | _ => False)) ∧
  (∀ (n d : Nat) (L : List (Option iV)) (st : List iV) (h : iH) (Q : Option iV → iH → Prop), G sp sc [43] d mX11_learnt (n + 1) 83 L st h Q = (match ld L 6 with | some (.inl x) => G sp sc [43] d mX11_learnt n 85 L (.inl x :: st) h Q | _ => False)) ∧
  (∀ (n d : Nat) (L : List (Option iV)) (r : List iV) (j : Int) (m : Nat) (h : iH) (Q : Option iV → iH → Prop), G sp sc [43] d mX11_learnt (n + 1) 85 L (.inl j :: .inr (.inr (m + 2)) :: r) h Q = (match h.1[m]? with | some (.inr (.inr (t, rs))) => (inA j rs.length = true ∧ 3 ≤ t ∧ t < 6) ∧ G sp sc [43] d mX11_learnt n 86 L (.inr (.inr (rs.getD j.toNat 0)) :: r) h Q | _ => False)) ∧
  (∀ (n d : Nat) (L : List (Option iV)) (r : List iV) (m : Nat) (h : iH) (Q : Option iV → iH → Prop), G sp sc [43] (d + 1) mX11_learnt (n + 1) 86 L (.inr (.inr (m + 2)) :: r) h Q = (match h.1[m]? with | some (.inl (ci, _)) => (match lkC 11 121 ci with | some (y1, n1, kd) => (n1 = 0 ∧ (kd = 2 ∨ kd = 3 ∨ kd = 8) ∧ cs r ≤ 8) ∧ Call sp sc d y1 [.inr (.inr (m + 2))] h (fun q h1 => GC sp sc [43] (d + 1) mX11_learnt n 89 L q r h h1 Q) | none => False) | _ => False)) ∧
  (∀ (n d : Nat) (L : List (Option iV)) (a : Int) (b : Int) (r : List iV) (h : iH) (Q : Option iV → iH → Prop), G sp sc [43] d mX11_learnt (n + 1) 89 L (.inl b :: .inl a :: r) h Q = G sp sc [43] d mX11_learnt n 90 L (.inl (bShl a b) :: r) h Q) ∧
  (∀ (n d : Nat) (L : List (Option iV)) (a : Int) (b : Int) (r : List iV) (h : iH) (Q : Option iV → iH → Prop), G sp sc [43] d mX11_learnt (n + 1) 90 L (.inl b :: .inl a :: r) h Q = G sp sc [43] d mX11_learnt n 91 L (.inl (bOr a b) :: r) h Q) ∧
  (∀ (n d : Nat) (L : List (Option iV)) (r : List iV) (x : Int) (h : iH) (Q : Option iV → iH → Prop), G sp sc [43] d mX11_learnt (n + 1) 91 L (.inl x :: r) h Q = (match st1 L 4 (.inl x) with | some L' => G sp sc [43] d mX11_learnt n 93 L' r h Q | none => False)) ∧
  (∀ (n d : Nat) (L : List (Option iV)) (st : List iV) (h : iH) (Q : Option iV → iH → Prop), G sp sc [43] d mX11_learnt (n + 1) 93 L st h Q = (match ld L 5 with | some (.inl x) => (match st1 L 5 (.inl (x + 1)) with | some L' => G sp sc [43] d mX11_learnt n 96 L' st h Q | none => False) | _ => False)) ∧
  (∀ (n d : Nat) (L : List (Option iV)) (st : List iV) (h : iH) (Q : Option iV → iH → Prop), G sp sc [43] d mX11_learnt (n + 1) 96 L st h Q = (match ld L 6 with | some (.inl x) => (match st1 L 6 (.inl (x + 1)) with | some L' => G sp sc [43] d mX11_learnt n 99 L' st h Q | none => False) | _ => False)) ∧
  (∀ (n d : Nat) (L : List (Option iV)) (st : List iV) (h : iH) (Q : Option iV → iH → Prop), G sp sc [43] d mX11_learnt (n + 1) 99 L st h Q = Run sp sc d mX11_learnt 43 L st h Q) ∧
  (∀ (n d : Nat) (L : List (Option iV)) (st : List iV) (h : iH) (Q : Option iV → iH → Prop), G sp sc [43] d mX11_learnt (n + 1) 102 L st h Q = (match ld L 2 with | some (.inl x) => G sp sc [43] d mX11_learnt n 103 L (.inl x :: st) h Q | _ => False)) ∧
  (∀ (n d : Nat) (L : List (Option iV)) (a : Int) (r : List iV) (h : iH) (Q : Option iV → iH → Prop), G sp sc [43] d mX11_learnt (n + 1) 103 L (.inl a :: r) h Q = (inI a = true ∧ (¬ a = 0 → G sp sc [43] d mX11_learnt n 111 L r h Q) ∧ (¬ (¬ a = 0) → G sp sc [43] d mX11_learnt n 106 L r h Q))) ∧
  (∀ (n d : Nat) (L : List (Option iV)) (st : List iV) (h : iH) (Q : Option iV → iH → Prop), G sp sc [43] d mX11_learnt (n + 1) 106 L st h Q = (match ld L 4 with | some (.inl x) => G sp sc [43] d mX11_learnt n 108 L (.inl x :: st) h Q | _ => False)) ∧
  (∀ (n d : Nat) (L : List (Option iV)) (st : List iV) (h : iH) (Q : Option iV → iH → Prop), G sp sc [43] d mX11_learnt (n + 1) 108 L st h Q = G sp sc [43] d mX11_learnt n 113 L st h Q) ∧
  (∀ (n d : Nat) (L : List (Option iV)) (st : List iV) (h : iH) (Q : Option iV → iH → Prop), G sp sc [43] d mX11_learnt (n + 1) 111 L st h Q = (match ld L 5 with | some (.inl x) => G sp sc [43] d mX11_learnt n 113 L (.inl x :: st) h Q | _ => False)) ∧
  (∀ (n d : Nat) (L : List (Option iV)) (a : Int) (h : iH) (Q : Option iV → iH → Prop), G sp sc [43] d mX11_learnt (n + 1) 113 L [.inl a] h Q = Q (some (.inl a)) h) ∧
  lkC 11 121 0 = some (mX0_kind, 0, 3) ∧
  lkC 11 121 1 = some (mX1_kind, 0, 3) ∧
  lkC 11 121 3 = some (mX3_kind, 0, 3) ∧
  lkC 11 121 6 = some (mX6_kind, 0, 2) ∧
  lkC 11 121 7 = some (mX7_kind, 0, 3) ∧
  lkC 11 121 9 = some (mX9_kind, 0, 3) ∧
  lkC 11 145 0 = some (mX0_growth, 1, 3) ∧
  lkC 11 145 1 = some (mX1_growth, 1, 3) ∧
  lkC 11 145 3 = some (mX9_growth, 1, 3) ∧
  lkC 11 145 6 = some (mX6_growth, 1, 2) ∧
  lkC 11 145 7 = some (mX7_growth, 1, 3) ∧
  lkC 11 145 9 = some (mX9_growth, 1, 3) ∧
  lkC 11 267 5 = some (mX5_refusalAsRow, 0, 2) ∧
  lkC 11 306 5 = some (mX5_isAll, 1, 2) ∧
  lkF 11 42 11 = some 0 ∧
  lkF 11 63 11 = some 1 := ⟨by intros; exact G_at (by decide +kernel : fetch mX11_learnt 0 = some (.iload_n 1)),
  by intros; exact G_callS (k := 1) (kd := 0) (by decide +kernel : fetch mX11_learnt 1 = some (.invokestatic 75)) (by decide +kernel) (by decide +kernel) (by decide +kernel) rfl (by decide),
  by intros; exact G_at (by decide +kernel : fetch mX11_learnt 4 = some (.ifCond .eq 12)),
  by intros; exact G_at (by decide +kernel : fetch mX11_learnt 7 = some (.iload_n 2)),
  by intros; exact G_at (by decide +kernel : fetch mX11_learnt 8 = some (.ifCond .lt 8)),
  by intros; exact G_at (by decide +kernel : fetch mX11_learnt 11 = some (.iload_n 2)),
  by intros; exact G_at (by decide +kernel : fetch mX11_learnt 12 = some (.iconst 1)),
  by intros; exact G_at (by decide +kernel : fetch mX11_learnt 13 = some (.if_icmp .le 5)),
  by intros; exact G_at (by decide +kernel : fetch mX11_learnt 16 = some (.iconst (-1))),
  by intros; exact G_reti (by decide +kernel : fetch mX11_learnt 17 = some (.ireturn)) (by decide +kernel),
  by intros; exact G_at (by decide +kernel : fetch mX11_learnt 18 = some (.aload_n 0)),
  by intros; exact G_own (by decide +kernel : fetch mX11_learnt 19 = some (.getfield 63)) (by decide +kernel),
  by intros; exact G_at (by decide +kernel : fetch mX11_learnt 22 = some (.iload_n 1)),
  by intros; exact G_at (by decide +kernel : fetch mX11_learnt 23 = some (.aaload)),
  by intros; exact G_callV (by decide +kernel : fetch mX11_learnt 24 = some (.invokevirtual 267)) (by decide +kernel) (by decide +kernel) rfl,
  by intros; exact G_at (by decide +kernel : fetch mX11_learnt 27 = some (.istore_n 3)),
  by intros; exact G_at (by decide +kernel : fetch mX11_learnt 28 = some (.iload_n 3)),
  by intros; exact G_at (by decide +kernel : fetch mX11_learnt 29 = some (.ifCond .eq 5)),
  by intros; exact G_at (by decide +kernel : fetch mX11_learnt 32 = some (.iload_n 3)),
  by intros; exact G_reti (by decide +kernel : fetch mX11_learnt 33 = some (.ireturn)) (by decide +kernel),
  by intros; exact G_at (by decide +kernel : fetch mX11_learnt 34 = some (.iconst 0)),
  by intros; exact G_at (by decide +kernel : fetch mX11_learnt 35 = some (.istore 4)),
  by intros; exact G_at (by decide +kernel : fetch mX11_learnt 37 = some (.iconst 0)),
  by intros; exact G_at (by decide +kernel : fetch mX11_learnt 38 = some (.istore 5)),
  by intros; exact G_at (by decide +kernel : fetch mX11_learnt 40 = some (.iconst 0)),
  by intros; exact G_at (by decide +kernel : fetch mX11_learnt 41 = some (.istore 6)),
  by intros; exact G_at (by decide +kernel : fetch mX11_learnt 43 = some (.iload 6)),
  by intros; exact G_at (by decide +kernel : fetch mX11_learnt 45 = some (.aload_n 0)),
  by intros; exact G_own (by decide +kernel : fetch mX11_learnt 46 = some (.getfield 42)) (by decide +kernel),
  by intros; exact G_at (by decide +kernel : fetch mX11_learnt 49 = some (.arraylength)),
  by intros; exact G_at (by decide +kernel : fetch mX11_learnt 50 = some (.if_icmp .ge 52)),
  by intros; exact G_at (by decide +kernel : fetch mX11_learnt 53 = some (.aload_n 0)),
  by intros; exact G_own (by decide +kernel : fetch mX11_learnt 54 = some (.getfield 63)) (by decide +kernel),
  by intros; exact G_at (by decide +kernel : fetch mX11_learnt 57 = some (.iload_n 1)),
  by intros; exact G_at (by decide +kernel : fetch mX11_learnt 58 = some (.aaload)),
  by intros; exact G_at (by decide +kernel : fetch mX11_learnt 59 = some (.aload_n 0)),
  by intros; exact G_own (by decide +kernel : fetch mX11_learnt 60 = some (.getfield 42)) (by decide +kernel),
  by intros; exact G_at (by decide +kernel : fetch mX11_learnt 63 = some (.iload 6)),
  by intros; exact G_at (by decide +kernel : fetch mX11_learnt 65 = some (.aaload)),
  by intros; exact G_at (by decide +kernel : fetch mX11_learnt 66 = some (.iconst 1)),
  by intros; exact G_callV (by decide +kernel : fetch mX11_learnt 67 = some (.invokevirtual 145)) (by decide +kernel) (by decide +kernel) rfl,
  by intros; exact G_callV (by decide +kernel : fetch mX11_learnt 70 = some (.invokevirtual 306)) (by decide +kernel) (by decide +kernel) rfl,
  by intros; exact G_at (by decide +kernel : fetch mX11_learnt 73 = some (.ifCond .eq 23)),
  by intros; exact G_at (by decide +kernel : fetch mX11_learnt 76 = some (.iload 4)),
  by intros; exact G_at (by decide +kernel : fetch mX11_learnt 78 = some (.iconst 1)),
  by intros; exact G_at (by decide +kernel : fetch mX11_learnt 79 = some (.aload_n 0)),
  by intros; exact G_own (by decide +kernel : fetch mX11_learnt 80 = some (.getfield 42)) (by decide +kernel),
  by intros; exact G_at (by decide +kernel : fetch mX11_learnt 83 = some (.iload 6)),
  by intros; exact G_at (by decide +kernel : fetch mX11_learnt 85 = some (.aaload)),
  by intros; exact G_callV (by decide +kernel : fetch mX11_learnt 86 = some (.invokevirtual 121)) (by decide +kernel) (by decide +kernel) rfl,
  by intros; exact G_at (by decide +kernel : fetch mX11_learnt 89 = some (.ishl)),
  by intros; exact G_at (by decide +kernel : fetch mX11_learnt 90 = some (.ior)),
  by intros; exact G_at (by decide +kernel : fetch mX11_learnt 91 = some (.istore 4)),
  by intros; exact G_at (by decide +kernel : fetch mX11_learnt 93 = some (.iinc 5 1)),
  by intros; exact G_at (by decide +kernel : fetch mX11_learnt 96 = some (.iinc 6 1)),
  by intros; exact G_at (by decide +kernel : fetch mX11_learnt 99 = some (.goto (-56))),
  by intros; exact G_at (by decide +kernel : fetch mX11_learnt 102 = some (.iload_n 2)),
  by intros; exact G_at (by decide +kernel : fetch mX11_learnt 103 = some (.ifCond .ne 8)),
  by intros; exact G_at (by decide +kernel : fetch mX11_learnt 106 = some (.iload 4)),
  by intros; exact G_at (by decide +kernel : fetch mX11_learnt 108 = some (.goto 5)),
  by intros; exact G_at (by decide +kernel : fetch mX11_learnt 111 = some (.iload 5)),
  by intros; exact G_reti (by decide +kernel : fetch mX11_learnt 113 = some (.ireturn)) (by decide +kernel),
  by decide +kernel,
  by decide +kernel,
  by decide +kernel,
  by decide +kernel,
  by decide +kernel,
  by decide +kernel,
  by decide +kernel,
  by decide +kernel,
  by decide +kernel,
  by decide +kernel,
  by decide +kernel,
  by decide +kernel,
  by decide +kernel,
  by decide +kernel,
  by decide +kernel,
  by decide +kernel⟩
theorem gX11_chain : (∀ (n d : Nat) (L : List (Option iV)) (st : List iV) (h : iH) (Q : Option iV → iH → Prop), G sp sc [49] d mX11_chain (n + 1) 0 L st h Q = (match ld L 0 with | some (.inr (.inr (r + 1))) => G sp sc [49] d mX11_chain n 1 L (.inr (.inr (r + 1)) :: st) h Q | _ => False)) ∧
  (∀ (n d : Nat) (L : List (Option iV)) (r : List iV) (m : Nat) (h : iH) (Q : Option iV → iH → Prop), G sp sc [49] d mX11_chain (n + 1) 1 L (.inr (.inr (m + 2)) :: r) h Q = (match h.1[m]? with | some (.inl (ci, fs)) => (match lkF 11 17 ci with | some k => (match fs[k]? with | some v => G sp sc [49] d mX11_chain n 4 L (v :: r) h Q | none => False) | none => False) | _ => False)) ∧
  (∀ (n d : Nat) (L : List (Option iV)) (st : List iV) (h : iH) (Q : Option iV → iH → Prop), G sp sc [49] d mX11_chain (n + 1) 4 L st h Q = (match ld L 1 with | some (.inl x) => G sp sc [49] d mX11_chain n 5 L (.inl x :: st) h Q | _ => False)) ∧
  (∀ (n d : Nat) (L : List (Option iV)) (st : List iV) (h : iH) (Q : Option iV → iH → Prop), G sp sc [49] d mX11_chain (n + 1) 5 L st h Q = (match ld L 2 with | some (.inl x) => G sp sc [49] d mX11_chain n 6 L (.inl x :: st) h Q | _ => False)) ∧
  (∀ (n d : Nat) (L : List (Option iV)) (r : List iV) (m : Nat) (z0 : iV) (z1 : iV) (h : iH) (Q : Option iV → iH → Prop), G sp sc [49] (d + 1) mX11_chain (n + 1) 6 L (z1 :: z0 :: .inr (.inr (m + 2)) :: r) h Q = (match h.1[m]? with | some (.inl (ci, _)) => (match lkC 11 113 ci with | some (y1, n1, kd) => (n1 = 2 ∧ (kd = 2 ∨ kd = 3 ∨ kd = 8) ∧ cs r ≤ 8) ∧ Call sp sc d y1 [.inr (.inr (m + 2)), z0, z1] h (fun q h1 => GC sp sc [49] (d + 1) mX11_chain n 9 L q r h h1 Q) | none => False) | _ => False)) ∧
  (∀ (n d : Nat) (L : List (Option iV)) (a : Int) (r : List iV) (h : iH) (Q : Option iV → iH → Prop), G sp sc [49] d mX11_chain (n + 1) 9 L (.inl a :: r) h Q = (inI a = true ∧ (a = 0 → G sp sc [49] d mX11_chain n 21 L r h Q) ∧ (¬ (a = 0) → G sp sc [49] d mX11_chain n 12 L r h Q))) ∧
  (∀ (n d : Nat) (L : List (Option iV)) (st : List iV) (h : iH) (Q : Option iV → iH → Prop), G sp sc [49] d mX11_chain (n + 1) 12 L st h Q = (match ld L 3 with | some (.inl x) => G sp sc [49] d mX11_chain n 13 L (.inl x :: st) h Q | _ => False)) ∧
  (∀ (n d : Nat) (L : List (Option iV)) (a : Int) (r : List iV) (h : iH) (Q : Option iV → iH → Prop), G sp sc [49] d mX11_chain (n + 1) 13 L (.inl a :: r) h Q = (inI a = true ∧ (a < 0 → G sp sc [49] d mX11_chain n 21 L r h Q) ∧ (¬ (a < 0) → G sp sc [49] d mX11_chain n 16 L r h Q))) ∧
  (∀ (n d : Nat) (L : List (Option iV)) (st : List iV) (h : iH) (Q : Option iV → iH → Prop), G sp sc [49] d mX11_chain (n + 1) 16 L st h Q = (match ld L 3 with | some (.inl x) => G sp sc [49] d mX11_chain n 17 L (.inl x :: st) h Q | _ => False)) ∧
  (∀ (n d : Nat) (L : List (Option iV)) (st : List iV) (h : iH) (Q : Option iV → iH → Prop), G sp sc [49] d mX11_chain (n + 1) 17 L st h Q = G sp sc [49] d mX11_chain n 18 L (.inl 1 :: st) h Q) ∧
  (∀ (n d : Nat) (L : List (Option iV)) (a : Int) (b : Int) (r : List iV) (h : iH) (Q : Option iV → iH → Prop), G sp sc [49] d mX11_chain (n + 1) 18 L (.inl b :: .inl a :: r) h Q = ((inI a = true ∧ inI b = true) ∧ (a ≤ b → G sp sc [49] d mX11_chain n 23 L r h Q) ∧ (¬ (a ≤ b) → G sp sc [49] d mX11_chain n 21 L r h Q))) ∧
  (∀ (n d : Nat) (L : List (Option iV)) (st : List iV) (h : iH) (Q : Option iV → iH → Prop), G sp sc [49] d mX11_chain (n + 1) 21 L st h Q = G sp sc [49] d mX11_chain n 22 L (.inl (-1) :: st) h Q) ∧
  (∀ (n d : Nat) (L : List (Option iV)) (a : Int) (h : iH) (Q : Option iV → iH → Prop), G sp sc [49] d mX11_chain (n + 1) 22 L [.inl a] h Q = Q (some (.inl a)) h) ∧
  (∀ (n d : Nat) (L : List (Option iV)) (st : List iV) (h : iH) (Q : Option iV → iH → Prop), G sp sc [49] d mX11_chain (n + 1) 23 L st h Q = G sp sc [49] d mX11_chain n 24 L (.inl 1 :: st) h Q) ∧
  (∀ (n d : Nat) (L : List (Option iV)) (st : List iV) (h : iH) (Q : Option iV → iH → Prop), G sp sc [49] d mX11_chain (n + 1) 24 L st h Q = (match ld L 2 with | some (.inl x) => G sp sc [49] d mX11_chain n 25 L (.inl x :: st) h Q | _ => False)) ∧
  (∀ (n d : Nat) (L : List (Option iV)) (a : Int) (b : Int) (r : List iV) (h : iH) (Q : Option iV → iH → Prop), G sp sc [49] d mX11_chain (n + 1) 25 L (.inl b :: .inl a :: r) h Q = G sp sc [49] d mX11_chain n 26 L (.inl (bShl a b) :: r) h Q) ∧
  (∀ (n d : Nat) (L : List (Option iV)) (r : List iV) (x : Int) (h : iH) (Q : Option iV → iH → Prop), G sp sc [49] d mX11_chain (n + 1) 26 L (.inl x :: r) h Q = (match st1 L 4 (.inl x) with | some L' => G sp sc [49] d mX11_chain n 28 L' r h Q | none => False)) ∧
  (∀ (n d : Nat) (L : List (Option iV)) (st : List iV) (h : iH) (Q : Option iV → iH → Prop), G sp sc [49] d mX11_chain (n + 1) 28 L st h Q = G sp sc [49] d mX11_chain n 29 L (.inl 0 :: st) h Q) ∧
  (∀ (n d : Nat) (L : List (Option iV)) (r : List iV) (x : Int) (h : iH) (Q : Option iV → iH → Prop), G sp sc [49] d mX11_chain (n + 1) 29 L (.inl x :: r) h Q = (match st1 L 5 (.inl x) with | some L' => G sp sc [49] d mX11_chain n 31 L' r h Q | none => False)) ∧
  (∀ (n d : Nat) (L : List (Option iV)) (st : List iV) (h : iH) (Q : Option iV → iH → Prop), G sp sc [49] d mX11_chain (n + 1) 31 L st h Q = (match ld L 0 with | some (.inr (.inr (r + 1))) => G sp sc [49] d mX11_chain n 32 L (.inr (.inr (r + 1)) :: st) h Q | _ => False)) ∧
  (∀ (n d : Nat) (L : List (Option iV)) (r : List iV) (m : Nat) (h : iH) (Q : Option iV → iH → Prop), G sp sc [49] d mX11_chain (n + 1) 32 L (.inr (.inr (m + 2)) :: r) h Q = (match h.1[m]? with | some (.inl (ci, fs)) => (match lkF 11 17 ci with | some k => (match fs[k]? with | some v => G sp sc [49] d mX11_chain n 35 L (v :: r) h Q | none => False) | none => False) | _ => False)) ∧
  (∀ (n d : Nat) (L : List (Option iV)) (r : List iV) (m : Nat) (h : iH) (Q : Option iV → iH → Prop), G sp sc [49] d mX11_chain (n + 1) 35 L (.inr (.inr (m + 2)) :: r) h Q = (match h.1[m]? with | some (.inl (ci, fs)) => (match lkF 11 128 ci with | some k => (match fs[k]? with | some v => G sp sc [49] d mX11_chain n 38 L (v :: r) h Q | none => False) | none => False) | _ => False)) ∧
  (∀ (n d : Nat) (L : List (Option iV)) (st : List iV) (h : iH) (Q : Option iV → iH → Prop), G sp sc [49] d mX11_chain (n + 1) 38 L st h Q = (match ld L 1 with | some (.inl x) => G sp sc [49] d mX11_chain n 39 L (.inl x :: st) h Q | _ => False)) ∧
  (∀ (n d : Nat) (L : List (Option iV)) (st : List iV) (h : iH) (Q : Option iV → iH → Prop), G sp sc [49] d mX11_chain (n + 1) 39 L st h Q = (match ld L 2 with | some (.inl x) => G sp sc [49] d mX11_chain n 40 L (.inl x :: st) h Q | _ => False)) ∧
  (∀ (n d : Nat) (L : List (Option iV)) (r : List iV) (z0 : iV) (z1 : iV) (h : iH) (Q : Option iV → iH → Prop), G sp sc [49] (d + 1) mX11_chain (n + 1) 40 L (z1 :: z0 :: r) h Q = (cs r ≤ 8 ∧ Call sp sc d mX8_place [z0, z1] h (fun q h1 => GC sp sc [49] (d + 1) mX11_chain n 43 L q r h h1 Q))) ∧
  (∀ (n d : Nat) (L : List (Option iV)) (r : List iV) (j : Int) (m : Nat) (h : iH) (Q : Option iV → iH → Prop), G sp sc [49] d mX11_chain (n + 1) 43 L (.inl j :: .inr (.inr (m + 2)) :: r) h Q = (match h.1[m]? with | some (.inr (.inl (0, xs))) => inA j xs.length = true ∧ G sp sc [49] d mX11_chain n 44 L (.inl (xs.getD j.toNat 0) :: r) h Q | _ => False)) ∧
  (∀ (n d : Nat) (L : List (Option iV)) (r : List iV) (x : Int) (h : iH) (Q : Option iV → iH → Prop), G sp sc [49] d mX11_chain (n + 1) 44 L (.inl x :: r) h Q = (match st1 L 6 (.inl x) with | some L' => G sp sc [49] d mX11_chain n 46 L' r h Q | none => False)) ∧
  (∀ (n d : Nat) (L : List (Option iV)) (st : List iV) (h : iH) (Q : Option iV → iH → Prop), G sp sc [49] d mX11_chain (n + 1) 46 L st h Q = G sp sc [49] d mX11_chain n 47 L (.inl 0 :: st) h Q) ∧
  (∀ (n d : Nat) (L : List (Option iV)) (r : List iV) (x : Int) (h : iH) (Q : Option iV → iH → Prop), G sp sc [49] d mX11_chain (n + 1) 47 L (.inl x :: r) h Q = (match st1 L 7 (.inl x) with | some L' => Run sp sc d mX11_chain 49 L' r h Q | none => False)) ∧
  (∀ (n d : Nat) (L : List (Option iV)) (st : List iV) (h : iH) (Q : Option iV → iH → Prop), G sp sc [49] d mX11_chain (n + 1) 49 L st h Q = (match ld L 7 with | some (.inl x) => G sp sc [49] d mX11_chain n 51 L (.inl x :: st) h Q | _ => False)) ∧
  (∀ (n d : Nat) (L : List (Option iV)) (st : List iV) (h : iH) (Q : Option iV → iH → Prop), G sp sc [49] d mX11_chain (n + 1) 51 L st h Q = G sp sc [49] d mX11_chain n 52 L (.inl 5 :: st) h Q) ∧
  (∀ (n d : Nat) (L : List (Option iV)) (a : Int) (b : Int) (r : List iV) (h : iH) (Q : Option iV → iH → Prop), G sp sc [49] d mX11_chain (n + 1) 52 L (.inl b :: .inl a :: r) h Q = ((inI a = true ∧ inI b = true) ∧ (b ≤ a → G sp sc [49] d mX11_chain n 117 L r h Q) ∧ (¬ (b ≤ a) → G sp sc [49] d mX11_chain n 55 L r h Q))) ∧
  (∀ (n d : Nat) (L : List (Option iV)) (st : List iV) (h : iH) (Q : Option iV → iH → Prop), G sp sc [49] d mX11_chain (n + 1) 55 L st h Q = (match ld L 6 with | some (.inl x) => G sp sc [49] d mX11_chain n 57 L (.inl x :: st) h Q | _ => False)) ∧
  (∀ (n d : Nat) (L : List (Option iV)) (st : List iV) (h : iH) (Q : Option iV → iH → Prop), G sp sc [49] d mX11_chain (n + 1) 57 L st h Q = G sp sc [49] d mX11_chain n 58 L (.inl (-1) :: st) h Q) ∧
  (∀ (n d : Nat) (L : List (Option iV)) (a : Int) (b : Int) (r : List iV) (h : iH) (Q : Option iV → iH → Prop), G sp sc [49] d mX11_chain (n + 1) 58 L (.inl b :: .inl a :: r) h Q = ((inI a = true ∧ inI b = true) ∧ (a = b → G sp sc [49] d mX11_chain n 117 L r h Q) ∧ (¬ (a = b) → G sp sc [49] d mX11_chain n 61 L r h Q))) ∧
  (∀ (n d : Nat) (L : List (Option iV)) (st : List iV) (h : iH) (Q : Option iV → iH → Prop), G sp sc [49] d mX11_chain (n + 1) 61 L st h Q = (match ld L 4 with | some (.inl x) => G sp sc [49] d mX11_chain n 63 L (.inl x :: st) h Q | _ => False)) ∧
  (∀ (n d : Nat) (L : List (Option iV)) (st : List iV) (h : iH) (Q : Option iV → iH → Prop), G sp sc [49] d mX11_chain (n + 1) 63 L st h Q = (match ld L 6 with | some (.inl x) => G sp sc [49] d mX11_chain n 65 L (.inl x :: st) h Q | _ => False)) ∧
  (∀ (n d : Nat) (L : List (Option iV)) (a : Int) (b : Int) (r : List iV) (h : iH) (Q : Option iV → iH → Prop), G sp sc [49] d mX11_chain (n + 1) 65 L (.inl b :: .inl a :: r) h Q = G sp sc [49] d mX11_chain n 66 L (.inl (bShr a b) :: r) h Q) ∧
  (∀ (n d : Nat) (L : List (Option iV)) (st : List iV) (h : iH) (Q : Option iV → iH → Prop), G sp sc [49] d mX11_chain (n + 1) 66 L st h Q = G sp sc [49] d mX11_chain n 67 L (.inl 1 :: st) h Q) ∧
  (∀ (n d : Nat) (L : List (Option iV)) (a : Int) (b : Int) (r : List iV) (h : iH) (Q : Option iV → iH → Prop), G sp sc [49] d mX11_chain (n + 1) 67 L (.inl b :: .inl a :: r) h Q = G sp sc [49] d mX11_chain n 68 L (.inl (bAnd a b) :: r) h Q) ∧
  (∀ (n d : Nat) (L : List (Option iV)) (st : List iV) (h : iH) (Q : Option iV → iH → Prop), G sp sc [49] d mX11_chain (n + 1) 68 L st h Q = G sp sc [49] d mX11_chain n 69 L (.inl 1 :: st) h Q) ∧
  (∀ (n d : Nat) (L : List (Option iV)) (a : Int) (b : Int) (r : List iV) (h : iH) (Q : Option iV → iH → Prop), G sp sc [49] d mX11_chain (n + 1) 69 L (.inl b :: .inl a :: r) h Q = ((inI a = true ∧ inI b = true) ∧ (¬ a = b → G sp sc [49] d mX11_chain n 83 L r h Q) ∧ (¬ (¬ a = b) → G sp sc [49] d mX11_chain n 72 L r h Q))) ∧
  (∀ (n d : Nat) (L : List (Option iV)) (st : List iV) (h : iH) (Q : Option iV → iH → Prop), G sp sc [49] d mX11_chain (n + 1) 72 L st h Q = (match ld L 3 with | some (.inl x) => G sp sc [49] d mX11_chain n 73 L (.inl x :: st) h Q | _ => False)) ∧
  (∀ (n d : Nat) (L : List (Option iV)) (a : Int) (r : List iV) (h : iH) (Q : Option iV → iH → Prop), G sp sc [49] d mX11_chain (n + 1) 73 L (.inl a :: r) h Q = (inI a = true ∧ (¬ a = 0 → G sp sc [49] d mX11_chain n 81 L r h Q) ∧ (¬ (¬ a = 0) → G sp sc [49] d mX11_chain n 76 L r h Q))) ∧
  (∀ (n d : Nat) (L : List (Option iV)) (st : List iV) (h : iH) (Q : Option iV → iH → Prop), G sp sc [49] d mX11_chain (n + 1) 76 L st h Q = (match ld L 5 with | some (.inl x) => G sp sc [49] d mX11_chain n 78 L (.inl x :: st) h Q | _ => False)) ∧
  (∀ (n d : Nat) (L : List (Option iV)) (st : List iV) (h : iH) (Q : Option iV → iH → Prop), G sp sc [49] d mX11_chain (n + 1) 78 L st h Q = G sp sc [49] d mX11_chain n 82 L st h Q) ∧
  (∀ (n d : Nat) (L : List (Option iV)) (st : List iV) (h : iH) (Q : Option iV → iH → Prop), G sp sc [49] d mX11_chain (n + 1) 81 L st h Q = G sp sc [49] d mX11_chain n 82 L (.inl 1 :: st) h Q) ∧
  (∀ (n d : Nat) (L : List (Option iV)) (a : Int) (h : iH) (Q : Option iV → iH → Prop), G sp sc [49] d mX11_chain (n + 1) 82 L [.inl a] h Q = Q (some (.inl a)) h) ∧
  (∀ (n d : Nat) (L : List (Option iV)) (st : List iV) (h : iH) (Q : Option iV → iH → Prop), G sp sc [49] d mX11_chain (n + 1) 83 L st h Q = (match ld L 4 with | some (.inl x) => G sp sc [49] d mX11_chain n 85 L (.inl x :: st) h Q | _ => False)) ∧
  (∀ (n d : Nat) (L : List (Option iV)) (st : List iV) (h : iH) (Q : Option iV → iH → Prop), G sp sc [49] d mX11_chain (n + 1) 85 L st h Q = G sp sc [49] d mX11_chain n 86 L (.inl 1 :: st) h Q) ∧
  (∀ (n d : Nat) (L : List (Option iV)) (st : List iV) (h : iH) (Q : Option iV → iH → Prop), G sp sc [49] d mX11_chain (n + 1) 86 L st h Q = (match ld L 6 with | some (.inl x) => G sp sc [49] d mX11_chain n 88 L (.inl x :: st) h Q | _ => False)) ∧
  (∀ (n d : Nat) (L : List (Option iV)) (a : Int) (b : Int) (r : List iV) (h : iH) (Q : Option iV → iH → Prop), G sp sc [49] d mX11_chain (n + 1) 88 L (.inl b :: .inl a :: r) h Q = G sp sc [49] d mX11_chain n 89 L (.inl (bShl a b) :: r) h Q) ∧
  (∀ (n d : Nat) (L : List (Option iV)) (a : Int) (b : Int) (r : List iV) (h : iH) (Q : Option iV → iH → Prop), G sp sc [49] d mX11_chain (n + 1) 89 L (.inl b :: .inl a :: r) h Q = G sp sc [49] d mX11_chain n 90 L (.inl (bOr a b) :: r) h Q) ∧
  (∀ (n d : Nat) (L : List (Option iV)) (r : List iV) (x : Int) (h : iH) (Q : Option iV → iH → Prop), G sp sc [49] d mX11_chain (n + 1) 90 L (.inl x :: r) h Q = (match st1 L 4 (.inl x) with | some L' => G sp sc [49] d mX11_chain n 92 L' r h Q | none => False)) ∧
  (∀ (n d : Nat) (L : List (Option iV)) (st : List iV) (h : iH) (Q : Option iV → iH → Prop), G sp sc [49] d mX11_chain (n + 1) 92 L st h Q = (match ld L 5 with | some (.inl x) => (match st1 L 5 (.inl (x + 1)) with | some L' => G sp sc [49] d mX11_chain n 95 L' st h Q | none => False) | _ => False)) ∧
  (∀ (n d : Nat) (L : List (Option iV)) (st : List iV) (h : iH) (Q : Option iV → iH → Prop), G sp sc [49] d mX11_chain (n + 1) 95 L st h Q = (match ld L 0 with | some (.inr (.inr (r + 1))) => G sp sc [49] d mX11_chain n 96 L (.inr (.inr (r + 1)) :: st) h Q | _ => False)) ∧
  (∀ (n d : Nat) (L : List (Option iV)) (r : List iV) (m : Nat) (h : iH) (Q : Option iV → iH → Prop), G sp sc [49] d mX11_chain (n + 1) 96 L (.inr (.inr (m + 2)) :: r) h Q = (match h.1[m]? with | some (.inl (ci, fs)) => (match lkF 11 17 ci with | some k => (match fs[k]? with | some v => G sp sc [49] d mX11_chain n 99 L (v :: r) h Q | none => False) | none => False) | _ => False)) ∧
  (∀ (n d : Nat) (L : List (Option iV)) (r : List iV) (m : Nat) (h : iH) (Q : Option iV → iH → Prop), G sp sc [49] d mX11_chain (n + 1) 99 L (.inr (.inr (m + 2)) :: r) h Q = (match h.1[m]? with | some (.inl (ci, fs)) => (match lkF 11 128 ci with | some k => (match fs[k]? with | some v => G sp sc [49] d mX11_chain n 102 L (v :: r) h Q | none => False) | none => False) | _ => False)) ∧
  (∀ (n d : Nat) (L : List (Option iV)) (st : List iV) (h : iH) (Q : Option iV → iH → Prop), G sp sc [49] d mX11_chain (n + 1) 102 L st h Q = (match ld L 1 with | some (.inl x) => G sp sc [49] d mX11_chain n 103 L (.inl x :: st) h Q | _ => False)) ∧
  (∀ (n d : Nat) (L : List (Option iV)) (st : List iV) (h : iH) (Q : Option iV → iH → Prop), G sp sc [49] d mX11_chain (n + 1) 103 L st h Q = (match ld L 6 with | some (.inl x) => G sp sc [49] d mX11_chain n 105 L (.inl x :: st) h Q | _ => False)) ∧
  (∀ (n d : Nat) (L : List (Option iV)) (r : List iV) (z0 : iV) (z1 : iV) (h : iH) (Q : Option iV → iH → Prop), G sp sc [49] (d + 1) mX11_chain (n + 1) 105 L (z1 :: z0 :: r) h Q = (cs r ≤ 8 ∧ Call sp sc d mX8_place [z0, z1] h (fun q h1 => GC sp sc [49] (d + 1) mX11_chain n 108 L q r h h1 Q))) ∧
  (∀ (n d : Nat) (L : List (Option iV)) (r : List iV) (j : Int) (m : Nat) (h : iH) (Q : Option iV → iH → Prop), G sp sc [49] d mX11_chain (n + 1) 108 L (.inl j :: .inr (.inr (m + 2)) :: r) h Q = (match h.1[m]? with | some (.inr (.inl (0, xs))) => inA j xs.length = true ∧ G sp sc [49] d mX11_chain n 109 L (.inl (xs.getD j.toNat 0) :: r) h Q | _ => False)) ∧
  (∀ (n d : Nat) (L : List (Option iV)) (r : List iV) (x : Int) (h : iH) (Q : Option iV → iH → Prop), G sp sc [49] d mX11_chain (n + 1) 109 L (.inl x :: r) h Q = (match st1 L 6 (.inl x) with | some L' => G sp sc [49] d mX11_chain n 111 L' r h Q | none => False)) ∧
  (∀ (n d : Nat) (L : List (Option iV)) (st : List iV) (h : iH) (Q : Option iV → iH → Prop), G sp sc [49] d mX11_chain (n + 1) 111 L st h Q = (match ld L 7 with | some (.inl x) => (match st1 L 7 (.inl (x + 1)) with | some L' => G sp sc [49] d mX11_chain n 114 L' st h Q | none => False) | _ => False)) ∧
  (∀ (n d : Nat) (L : List (Option iV)) (st : List iV) (h : iH) (Q : Option iV → iH → Prop), G sp sc [49] d mX11_chain (n + 1) 114 L st h Q = Run sp sc d mX11_chain 49 L st h Q) ∧
  (∀ (n d : Nat) (L : List (Option iV)) (st : List iV) (h : iH) (Q : Option iV → iH → Prop), G sp sc [49] d mX11_chain (n + 1) 117 L st h Q = (match ld L 3 with | some (.inl x) => G sp sc [49] d mX11_chain n 118 L (.inl x :: st) h Q | _ => False)) ∧
  (∀ (n d : Nat) (L : List (Option iV)) (a : Int) (r : List iV) (h : iH) (Q : Option iV → iH → Prop), G sp sc [49] d mX11_chain (n + 1) 118 L (.inl a :: r) h Q = (inI a = true ∧ (¬ a = 0 → G sp sc [49] d mX11_chain n 126 L r h Q) ∧ (¬ (¬ a = 0) → G sp sc [49] d mX11_chain n 121 L r h Q))) ∧
  (∀ (n d : Nat) (L : List (Option iV)) (st : List iV) (h : iH) (Q : Option iV → iH → Prop), G sp sc [49] d mX11_chain (n + 1) 121 L st h Q = (match ld L 5 with | some (.inl x) => G sp sc [49] d mX11_chain n 123 L (.inl x :: st) h Q | _ => False)) ∧
  (∀ (n d : Nat) (L : List (Option iV)) (st : List iV) (h : iH) (Q : Option iV → iH → Prop), G sp sc [49] d mX11_chain (n + 1) 123 L st h Q = G sp sc [49] d mX11_chain n 127 L st h Q) ∧
  (∀ (n d : Nat) (L : List (Option iV)) (st : List iV) (h : iH) (Q : Option iV → iH → Prop), G sp sc [49] d mX11_chain (n + 1) 126 L st h Q = G sp sc [49] d mX11_chain n 127 L (.inl 0 :: st) h Q) ∧
  (∀ (n d : Nat) (L : List (Option iV)) (a : Int) (h : iH) (Q : Option iV → iH → Prop), G sp sc [49] d mX11_chain (n + 1) 127 L [.inl a] h Q = Q (some (.inl a)) h) ∧
  lkC 11 113 8 = some (mX8_hasOne, 2, 2) ∧
  lkF 11 128 8 = some 2 ∧
  lkF 11 17 11 = some 2 := ⟨by intros; exact G_at (by decide +kernel : fetch mX11_chain 0 = some (.aload_n 0)),
  by intros; exact G_own (by decide +kernel : fetch mX11_chain 1 = some (.getfield 17)) (by decide +kernel),
  by intros; exact G_at (by decide +kernel : fetch mX11_chain 4 = some (.iload_n 1)),
  by intros; exact G_at (by decide +kernel : fetch mX11_chain 5 = some (.iload_n 2)),
  by intros; exact G_callV (by decide +kernel : fetch mX11_chain 6 = some (.invokevirtual 113)) (by decide +kernel) (by decide +kernel) rfl,
  by intros; exact G_at (by decide +kernel : fetch mX11_chain 9 = some (.ifCond .eq 12)),
  by intros; exact G_at (by decide +kernel : fetch mX11_chain 12 = some (.iload_n 3)),
  by intros; exact G_at (by decide +kernel : fetch mX11_chain 13 = some (.ifCond .lt 8)),
  by intros; exact G_at (by decide +kernel : fetch mX11_chain 16 = some (.iload_n 3)),
  by intros; exact G_at (by decide +kernel : fetch mX11_chain 17 = some (.iconst 1)),
  by intros; exact G_at (by decide +kernel : fetch mX11_chain 18 = some (.if_icmp .le 5)),
  by intros; exact G_at (by decide +kernel : fetch mX11_chain 21 = some (.iconst (-1))),
  by intros; exact G_reti (by decide +kernel : fetch mX11_chain 22 = some (.ireturn)) (by decide +kernel),
  by intros; exact G_at (by decide +kernel : fetch mX11_chain 23 = some (.iconst 1)),
  by intros; exact G_at (by decide +kernel : fetch mX11_chain 24 = some (.iload_n 2)),
  by intros; exact G_at (by decide +kernel : fetch mX11_chain 25 = some (.ishl)),
  by intros; exact G_at (by decide +kernel : fetch mX11_chain 26 = some (.istore 4)),
  by intros; exact G_at (by decide +kernel : fetch mX11_chain 28 = some (.iconst 0)),
  by intros; exact G_at (by decide +kernel : fetch mX11_chain 29 = some (.istore 5)),
  by intros; exact G_at (by decide +kernel : fetch mX11_chain 31 = some (.aload_n 0)),
  by intros; exact G_own (by decide +kernel : fetch mX11_chain 32 = some (.getfield 17)) (by decide +kernel),
  by intros; exact G_own (by decide +kernel : fetch mX11_chain 35 = some (.getfield 128)) (by decide +kernel),
  by intros; exact G_at (by decide +kernel : fetch mX11_chain 38 = some (.iload_n 1)),
  by intros; exact G_at (by decide +kernel : fetch mX11_chain 39 = some (.iload_n 2)),
  by intros; exact G_callS (k := 2) (kd := 0) (by decide +kernel : fetch mX11_chain 40 = some (.invokestatic 132)) (by decide +kernel) (by decide +kernel) (by decide +kernel) rfl (by decide),
  by intros; exact G_at (by decide +kernel : fetch mX11_chain 43 = some (.iaload)),
  by intros; exact G_at (by decide +kernel : fetch mX11_chain 44 = some (.istore 6)),
  by intros; exact G_at (by decide +kernel : fetch mX11_chain 46 = some (.iconst 0)),
  by intros; exact G_at (by decide +kernel : fetch mX11_chain 47 = some (.istore 7)),
  by intros; exact G_at (by decide +kernel : fetch mX11_chain 49 = some (.iload 7)),
  by intros; exact G_at (by decide +kernel : fetch mX11_chain 51 = some (.iconst 5)),
  by intros; exact G_at (by decide +kernel : fetch mX11_chain 52 = some (.if_icmp .ge 65)),
  by intros; exact G_at (by decide +kernel : fetch mX11_chain 55 = some (.iload 6)),
  by intros; exact G_at (by decide +kernel : fetch mX11_chain 57 = some (.iconst (-1))),
  by intros; exact G_at (by decide +kernel : fetch mX11_chain 58 = some (.if_icmp .eq 59)),
  by intros; exact G_at (by decide +kernel : fetch mX11_chain 61 = some (.iload 4)),
  by intros; exact G_at (by decide +kernel : fetch mX11_chain 63 = some (.iload 6)),
  by intros; exact G_at (by decide +kernel : fetch mX11_chain 65 = some (.ishr)),
  by intros; exact G_at (by decide +kernel : fetch mX11_chain 66 = some (.iconst 1)),
  by intros; exact G_at (by decide +kernel : fetch mX11_chain 67 = some (.iand)),
  by intros; exact G_at (by decide +kernel : fetch mX11_chain 68 = some (.iconst 1)),
  by intros; exact G_at (by decide +kernel : fetch mX11_chain 69 = some (.if_icmp .ne 14)),
  by intros; exact G_at (by decide +kernel : fetch mX11_chain 72 = some (.iload_n 3)),
  by intros; exact G_at (by decide +kernel : fetch mX11_chain 73 = some (.ifCond .ne 8)),
  by intros; exact G_at (by decide +kernel : fetch mX11_chain 76 = some (.iload 5)),
  by intros; exact G_at (by decide +kernel : fetch mX11_chain 78 = some (.goto 4)),
  by intros; exact G_at (by decide +kernel : fetch mX11_chain 81 = some (.iconst 1)),
  by intros; exact G_reti (by decide +kernel : fetch mX11_chain 82 = some (.ireturn)) (by decide +kernel),
  by intros; exact G_at (by decide +kernel : fetch mX11_chain 83 = some (.iload 4)),
  by intros; exact G_at (by decide +kernel : fetch mX11_chain 85 = some (.iconst 1)),
  by intros; exact G_at (by decide +kernel : fetch mX11_chain 86 = some (.iload 6)),
  by intros; exact G_at (by decide +kernel : fetch mX11_chain 88 = some (.ishl)),
  by intros; exact G_at (by decide +kernel : fetch mX11_chain 89 = some (.ior)),
  by intros; exact G_at (by decide +kernel : fetch mX11_chain 90 = some (.istore 4)),
  by intros; exact G_at (by decide +kernel : fetch mX11_chain 92 = some (.iinc 5 1)),
  by intros; exact G_at (by decide +kernel : fetch mX11_chain 95 = some (.aload_n 0)),
  by intros; exact G_own (by decide +kernel : fetch mX11_chain 96 = some (.getfield 17)) (by decide +kernel),
  by intros; exact G_own (by decide +kernel : fetch mX11_chain 99 = some (.getfield 128)) (by decide +kernel),
  by intros; exact G_at (by decide +kernel : fetch mX11_chain 102 = some (.iload_n 1)),
  by intros; exact G_at (by decide +kernel : fetch mX11_chain 103 = some (.iload 6)),
  by intros; exact G_callS (k := 2) (kd := 0) (by decide +kernel : fetch mX11_chain 105 = some (.invokestatic 132)) (by decide +kernel) (by decide +kernel) (by decide +kernel) rfl (by decide),
  by intros; exact G_at (by decide +kernel : fetch mX11_chain 108 = some (.iaload)),
  by intros; exact G_at (by decide +kernel : fetch mX11_chain 109 = some (.istore 6)),
  by intros; exact G_at (by decide +kernel : fetch mX11_chain 111 = some (.iinc 7 1)),
  by intros; exact G_at (by decide +kernel : fetch mX11_chain 114 = some (.goto (-65))),
  by intros; exact G_at (by decide +kernel : fetch mX11_chain 117 = some (.iload_n 3)),
  by intros; exact G_at (by decide +kernel : fetch mX11_chain 118 = some (.ifCond .ne 8)),
  by intros; exact G_at (by decide +kernel : fetch mX11_chain 121 = some (.iload 5)),
  by intros; exact G_at (by decide +kernel : fetch mX11_chain 123 = some (.goto 4)),
  by intros; exact G_at (by decide +kernel : fetch mX11_chain 126 = some (.iconst 0)),
  by intros; exact G_reti (by decide +kernel : fetch mX11_chain 127 = some (.ireturn)) (by decide +kernel),
  by decide +kernel,
  by decide +kernel,
  by decide +kernel⟩
theorem gX11_ways : (∀ (n d : Nat) (L : List (Option iV)) (st : List iV) (h : iH) (Q : Option iV → iH → Prop), G sp sc [15, 61] d mX11_ways (n + 1) 0 L st h Q = (match ld L 1 with | some (.inl x) => G sp sc [15, 61] d mX11_ways n 1 L (.inl x :: st) h Q | _ => False)) ∧
  (∀ (n d : Nat) (L : List (Option iV)) (st : List iV) (h : iH) (Q : Option iV → iH → Prop), G sp sc [15, 61] d mX11_ways (n + 1) 1 L st h Q = G sp sc [15, 61] d mX11_ways n 2 L (.inl (-1) :: st) h Q) ∧
  (∀ (n d : Nat) (L : List (Option iV)) (a : Int) (b : Int) (r : List iV) (h : iH) (Q : Option iV → iH → Prop), G sp sc [15, 61] d mX11_ways (n + 1) 2 L (.inl b :: .inl a :: r) h Q = ((inI a = true ∧ inI b = true) ∧ (b ≤ a → G sp sc [15, 61] d mX11_ways n 7 L r h Q) ∧ (¬ (b ≤ a) → G sp sc [15, 61] d mX11_ways n 5 L r h Q))) ∧
  (∀ (n d : Nat) (L : List (Option iV)) (st : List iV) (h : iH) (Q : Option iV → iH → Prop), G sp sc [15, 61] d mX11_ways (n + 1) 5 L st h Q = G sp sc [15, 61] d mX11_ways n 6 L (.inl (-1) :: st) h Q) ∧
  (∀ (n d : Nat) (L : List (Option iV)) (a : Int) (h : iH) (Q : Option iV → iH → Prop), G sp sc [15, 61] d mX11_ways (n + 1) 6 L [.inl a] h Q = Q (some (.inl a)) h) ∧
  (∀ (n d : Nat) (L : List (Option iV)) (st : List iV) (h : iH) (Q : Option iV → iH → Prop), G sp sc [15, 61] d mX11_ways (n + 1) 7 L st h Q = G sp sc [15, 61] d mX11_ways n 8 L (.inr (.inl ((1 : Fin 2).val : Int)) :: st) h Q) ∧
  (∀ (n d : Nat) (L : List (Option iV)) (r : List iV) (x : Int) (h : iH) (Q : Option iV → iH → Prop), G sp sc [15, 61] d mX11_ways (n + 1) 8 L (.inr (.inl x) :: r) h Q = (match st2 L 2 (.inr (.inl x)) with | some L' => G sp sc [15, 61] d mX11_ways n 9 L' r h Q | none => False)) ∧
  (∀ (n d : Nat) (L : List (Option iV)) (st : List iV) (h : iH) (Q : Option iV → iH → Prop), G sp sc [15, 61] d mX11_ways (n + 1) 9 L st h Q = G sp sc [15, 61] d mX11_ways n 10 L (.inl 0 :: st) h Q) ∧
  (∀ (n d : Nat) (L : List (Option iV)) (r : List iV) (x : Int) (h : iH) (Q : Option iV → iH → Prop), G sp sc [15, 61] d mX11_ways (n + 1) 10 L (.inl x :: r) h Q = (match st1 L 4 (.inl x) with | some L' => G sp sc [15, 61] d mX11_ways n 12 L' r h Q | none => False)) ∧
  (∀ (n d : Nat) (L : List (Option iV)) (st : List iV) (h : iH) (Q : Option iV → iH → Prop), G sp sc [15, 61] d mX11_ways (n + 1) 12 L st h Q = G sp sc [15, 61] d mX11_ways n 13 L (.inl 0 :: st) h Q) ∧
  (∀ (n d : Nat) (L : List (Option iV)) (r : List iV) (x : Int) (h : iH) (Q : Option iV → iH → Prop), G sp sc [15, 61] d mX11_ways (n + 1) 13 L (.inl x :: r) h Q = (match st1 L 5 (.inl x) with | some L' => Run sp sc d mX11_ways 15 L' r h Q | none => False)) ∧
  (∀ (n d : Nat) (L : List (Option iV)) (st : List iV) (h : iH) (Q : Option iV → iH → Prop), G sp sc [15, 61] d mX11_ways (n + 1) 15 L st h Q = (match ld L 5 with | some (.inl x) => G sp sc [15, 61] d mX11_ways n 17 L (.inl x :: st) h Q | _ => False)) ∧
  (∀ (n d : Nat) (L : List (Option iV)) (st : List iV) (h : iH) (Q : Option iV → iH → Prop), G sp sc [15, 61] d mX11_ways (n + 1) 17 L st h Q = (match ld L 0 with | some (.inr (.inr (r + 1))) => G sp sc [15, 61] d mX11_ways n 18 L (.inr (.inr (r + 1)) :: st) h Q | _ => False)) ∧
  (∀ (n d : Nat) (L : List (Option iV)) (r : List iV) (m : Nat) (h : iH) (Q : Option iV → iH → Prop), G sp sc [15, 61] d mX11_ways (n + 1) 18 L (.inr (.inr (m + 2)) :: r) h Q = (match h.1[m]? with | some (.inl (ci, fs)) => (match lkF 11 17 ci with | some k => (match fs[k]? with | some v => G sp sc [15, 61] d mX11_ways n 21 L (v :: r) h Q | none => False) | none => False) | _ => False)) ∧
  (∀ (n d : Nat) (L : List (Option iV)) (r : List iV) (m : Nat) (h : iH) (Q : Option iV → iH → Prop), G sp sc [15, 61] d mX11_ways (n + 1) 21 L (.inr (.inr (m + 2)) :: r) h Q = (match h.1[m]? with | some (.inl (ci, fs)) => (match lkF 11 242 ci with | some k => (match fs[k]? with | some v => G sp sc [15, 61] d mX11_ways n 24 L (v :: r) h Q | none => False) | none => False) | _ => False)) ∧
  (∀ (n d : Nat) (L : List (Option iV)) (a : Int) (b : Int) (r : List iV) (h : iH) (Q : Option iV → iH → Prop), G sp sc [15, 61] d mX11_ways (n + 1) 24 L (.inl b :: .inl a :: r) h Q = ((inI a = true ∧ inI b = true) ∧ (b ≤ a → G sp sc [15, 61] d mX11_ways n 93 L r h Q) ∧ (¬ (b ≤ a) → G sp sc [15, 61] d mX11_ways n 27 L r h Q))) ∧
  (∀ (n d : Nat) (L : List (Option iV)) (st : List iV) (h : iH) (Q : Option iV → iH → Prop), G sp sc [15, 61] d mX11_ways (n + 1) 27 L st h Q = (match ld L 0 with | some (.inr (.inr (r + 1))) => G sp sc [15, 61] d mX11_ways n 28 L (.inr (.inr (r + 1)) :: st) h Q | _ => False)) ∧
  (∀ (n d : Nat) (L : List (Option iV)) (r : List iV) (m : Nat) (h : iH) (Q : Option iV → iH → Prop), G sp sc [15, 61] d mX11_ways (n + 1) 28 L (.inr (.inr (m + 2)) :: r) h Q = (match h.1[m]? with | some (.inl (ci, fs)) => (match lkF 11 17 ci with | some k => (match fs[k]? with | some v => G sp sc [15, 61] d mX11_ways n 31 L (v :: r) h Q | none => False) | none => False) | _ => False)) ∧
  (∀ (n d : Nat) (L : List (Option iV)) (st : List iV) (h : iH) (Q : Option iV → iH → Prop), G sp sc [15, 61] d mX11_ways (n + 1) 31 L st h Q = (match ld L 5 with | some (.inl x) => G sp sc [15, 61] d mX11_ways n 33 L (.inl x :: st) h Q | _ => False)) ∧
  (∀ (n d : Nat) (L : List (Option iV)) (r : List iV) (m : Nat) (z0 : iV) (h : iH) (Q : Option iV → iH → Prop), G sp sc [15, 61] (d + 1) mX11_ways (n + 1) 33 L (z0 :: .inr (.inr (m + 2)) :: r) h Q = (match h.1[m]? with | some (.inl (ci, _)) => (match lkC 11 200 ci with | some (y1, n1, kd) => (n1 = 1 ∧ (kd = 2 ∨ kd = 3 ∨ kd = 8) ∧ cs r ≤ 8) ∧ Call sp sc d y1 [.inr (.inr (m + 2)), z0] h (fun q h1 => GC sp sc [15, 61] (d + 1) mX11_ways n 36 L q r h h1 Q) | none => False) | _ => False)) ∧
  (∀ (n d : Nat) (L : List (Option iV)) (a : Int) (r : List iV) (h : iH) (Q : Option iV → iH → Prop), G sp sc [15, 61] d mX11_ways (n + 1) 36 L (.inl a :: r) h Q = (inI a = true ∧ (a = 0 → G sp sc [15, 61] d mX11_ways n 55 L r h Q) ∧ (¬ (a = 0) → G sp sc [15, 61] d mX11_ways n 39 L r h Q))) ∧
  (∀ (n d : Nat) (L : List (Option iV)) (st : List iV) (h : iH) (Q : Option iV → iH → Prop), G sp sc [15, 61] d mX11_ways (n + 1) 39 L st h Q = ((-128 ≤ (6 : Int) ∧ (6 : Int) < 128) ∧ G sp sc [15, 61] d mX11_ways n 41 L (.inl 6 :: st) h Q)) ∧
  (∀ (n d : Nat) (L : List (Option iV)) (st : List iV) (h : iH) (Q : Option iV → iH → Prop), G sp sc [15, 61] d mX11_ways (n + 1) 41 L st h Q = (match ld L 0 with | some (.inr (.inr (r + 1))) => G sp sc [15, 61] d mX11_ways n 42 L (.inr (.inr (r + 1)) :: st) h Q | _ => False)) ∧
  (∀ (n d : Nat) (L : List (Option iV)) (r : List iV) (m : Nat) (h : iH) (Q : Option iV → iH → Prop), G sp sc [15, 61] d mX11_ways (n + 1) 42 L (.inr (.inr (m + 2)) :: r) h Q = (match h.1[m]? with | some (.inl (ci, fs)) => (match lkF 11 17 ci with | some k => (match fs[k]? with | some v => G sp sc [15, 61] d mX11_ways n 45 L (v :: r) h Q | none => False) | none => False) | _ => False)) ∧
  (∀ (n d : Nat) (L : List (Option iV)) (r : List iV) (m : Nat) (h : iH) (Q : Option iV → iH → Prop), G sp sc [15, 61] d mX11_ways (n + 1) 45 L (.inr (.inr (m + 2)) :: r) h Q = (match h.1[m]? with | some (.inl (ci, fs)) => (match lkF 11 197 ci with | some k => (match fs[k]? with | some v => G sp sc [15, 61] d mX11_ways n 48 L (v :: r) h Q | none => False) | none => False) | _ => False)) ∧
  (∀ (n d : Nat) (L : List (Option iV)) (st : List iV) (h : iH) (Q : Option iV → iH → Prop), G sp sc [15, 61] d mX11_ways (n + 1) 48 L st h Q = (match ld L 5 with | some (.inl x) => G sp sc [15, 61] d mX11_ways n 50 L (.inl x :: st) h Q | _ => False)) ∧
  (∀ (n d : Nat) (L : List (Option iV)) (r : List iV) (j : Int) (m : Nat) (h : iH) (Q : Option iV → iH → Prop), G sp sc [15, 61] d mX11_ways (n + 1) 50 L (.inl j :: .inr (.inr (m + 2)) :: r) h Q = (match h.1[m]? with | some (.inr (.inl (0, xs))) => inA j xs.length = true ∧ G sp sc [15, 61] d mX11_ways n 51 L (.inl (xs.getD j.toNat 0) :: r) h Q | _ => False)) ∧
  (∀ (n d : Nat) (L : List (Option iV)) (a : Int) (b : Int) (r : List iV) (h : iH) (Q : Option iV → iH → Prop), G sp sc [15, 61] d mX11_ways (n + 1) 51 L (.inl b :: .inl a :: r) h Q = G sp sc [15, 61] d mX11_ways n 52 L (.inl (a - b) :: r) h Q) ∧
  (∀ (n d : Nat) (L : List (Option iV)) (st : List iV) (h : iH) (Q : Option iV → iH → Prop), G sp sc [15, 61] d mX11_ways (n + 1) 52 L st h Q = G sp sc [15, 61] d mX11_ways n 56 L st h Q) ∧
  (∀ (n d : Nat) (L : List (Option iV)) (st : List iV) (h : iH) (Q : Option iV → iH → Prop), G sp sc [15, 61] d mX11_ways (n + 1) 55 L st h Q = G sp sc [15, 61] d mX11_ways n 56 L (.inl 0 :: st) h Q) ∧
  (∀ (n d : Nat) (L : List (Option iV)) (r : List iV) (x : Int) (h : iH) (Q : Option iV → iH → Prop), G sp sc [15, 61] d mX11_ways (n + 1) 56 L (.inl x :: r) h Q = (match st1 L 6 (.inl x) with | some L' => G sp sc [15, 61] d mX11_ways n 58 L' r h Q | none => False)) ∧
  (∀ (n d : Nat) (L : List (Option iV)) (st : List iV) (h : iH) (Q : Option iV → iH → Prop), G sp sc [15, 61] d mX11_ways (n + 1) 58 L st h Q = G sp sc [15, 61] d mX11_ways n 59 L (.inl 1 :: st) h Q) ∧
  (∀ (n d : Nat) (L : List (Option iV)) (r : List iV) (x : Int) (h : iH) (Q : Option iV → iH → Prop), G sp sc [15, 61] d mX11_ways (n + 1) 59 L (.inl x :: r) h Q = (match st1 L 7 (.inl x) with | some L' => Run sp sc d mX11_ways 61 L' r h Q | none => False)) ∧
  (∀ (n d : Nat) (L : List (Option iV)) (st : List iV) (h : iH) (Q : Option iV → iH → Prop), G sp sc [15, 61] d mX11_ways (n + 1) 61 L st h Q = (match ld L 7 with | some (.inl x) => G sp sc [15, 61] d mX11_ways n 63 L (.inl x :: st) h Q | _ => False)) ∧
  (∀ (n d : Nat) (L : List (Option iV)) (st : List iV) (h : iH) (Q : Option iV → iH → Prop), G sp sc [15, 61] d mX11_ways (n + 1) 63 L st h Q = (match ld L 6 with | some (.inl x) => G sp sc [15, 61] d mX11_ways n 65 L (.inl x :: st) h Q | _ => False)) ∧
  (∀ (n d : Nat) (L : List (Option iV)) (a : Int) (b : Int) (r : List iV) (h : iH) (Q : Option iV → iH → Prop), G sp sc [15, 61] d mX11_ways (n + 1) 65 L (.inl b :: .inl a :: r) h Q = ((inI a = true ∧ inI b = true) ∧ (b < a → G sp sc [15, 61] d mX11_ways n 87 L r h Q) ∧ (¬ (b < a) → G sp sc [15, 61] d mX11_ways n 68 L r h Q))) ∧
  (∀ (n d : Nat) (L : List (Option iV)) (st : List iV) (h : iH) (Q : Option iV → iH → Prop), G sp sc [15, 61] d mX11_ways (n + 1) 68 L st h Q = (match ld L 4 with | some (.inl x) => (match st1 L 4 (.inl (x + 1)) with | some L' => G sp sc [15, 61] d mX11_ways n 71 L' st h Q | none => False) | _ => False)) ∧
  (∀ (n d : Nat) (L : List (Option iV)) (st : List iV) (h : iH) (Q : Option iV → iH → Prop), G sp sc [15, 61] d mX11_ways (n + 1) 71 L st h Q = (match ld L 2 with | some (.inr (.inl x)) => G sp sc [15, 61] d mX11_ways n 72 L (.inr (.inl x) :: st) h Q | _ => False)) ∧
  (∀ (n d : Nat) (L : List (Option iV)) (st : List iV) (h : iH) (Q : Option iV → iH → Prop), G sp sc [15, 61] d mX11_ways (n + 1) 72 L st h Q = (match ld L 4 with | some (.inl x) => G sp sc [15, 61] d mX11_ways n 74 L (.inl x :: st) h Q | _ => False)) ∧
  (∀ (n d : Nat) (L : List (Option iV)) (a : Int) (r : List iV) (h : iH) (Q : Option iV → iH → Prop), G sp sc [15, 61] d mX11_ways (n + 1) 74 L (.inl a :: r) h Q = (inI a = true ∧ G sp sc [15, 61] d mX11_ways n 75 L (.inr (.inl a) :: r) h Q)) ∧
  (∀ (n d : Nat) (L : List (Option iV)) (a : Int) (b : Int) (r : List iV) (h : iH) (Q : Option iV → iH → Prop), G sp sc [15, 61] d mX11_ways (n + 1) 75 L (.inr (.inl b) :: .inr (.inl a) :: r) h Q = G sp sc [15, 61] d mX11_ways n 76 L (.inr (.inl (a * b)) :: r) h Q) ∧
  (∀ (n d : Nat) (L : List (Option iV)) (st : List iV) (h : iH) (Q : Option iV → iH → Prop), G sp sc [15, 61] d mX11_ways (n + 1) 76 L st h Q = (match ld L 7 with | some (.inl x) => G sp sc [15, 61] d mX11_ways n 78 L (.inl x :: st) h Q | _ => False)) ∧
  (∀ (n d : Nat) (L : List (Option iV)) (a : Int) (r : List iV) (h : iH) (Q : Option iV → iH → Prop), G sp sc [15, 61] d mX11_ways (n + 1) 78 L (.inl a :: r) h Q = (inI a = true ∧ G sp sc [15, 61] d mX11_ways n 79 L (.inr (.inl a) :: r) h Q)) ∧
  (∀ (n d : Nat) (L : List (Option iV)) (a : Int) (b : Int) (r : List iV) (h : iH) (Q : Option iV → iH → Prop), G sp sc [15, 61] d mX11_ways (n + 1) 79 L (.inr (.inl b) :: .inr (.inl a) :: r) h Q = ((inJ a = true ∧ inJ b = true ∧ 0 < b) ∧ G sp sc [15, 61] d mX11_ways n 80 L (.inr (.inl (a.tdiv b)) :: r) h Q)) ∧
  (∀ (n d : Nat) (L : List (Option iV)) (r : List iV) (x : Int) (h : iH) (Q : Option iV → iH → Prop), G sp sc [15, 61] d mX11_ways (n + 1) 80 L (.inr (.inl x) :: r) h Q = (match st2 L 2 (.inr (.inl x)) with | some L' => G sp sc [15, 61] d mX11_ways n 81 L' r h Q | none => False)) ∧
  (∀ (n d : Nat) (L : List (Option iV)) (st : List iV) (h : iH) (Q : Option iV → iH → Prop), G sp sc [15, 61] d mX11_ways (n + 1) 81 L st h Q = (match ld L 7 with | some (.inl x) => (match st1 L 7 (.inl (x + 1)) with | some L' => G sp sc [15, 61] d mX11_ways n 84 L' st h Q | none => False) | _ => False)) ∧
  (∀ (n d : Nat) (L : List (Option iV)) (st : List iV) (h : iH) (Q : Option iV → iH → Prop), G sp sc [15, 61] d mX11_ways (n + 1) 84 L st h Q = Run sp sc d mX11_ways 61 L st h Q) ∧
  (∀ (n d : Nat) (L : List (Option iV)) (st : List iV) (h : iH) (Q : Option iV → iH → Prop), G sp sc [15, 61] d mX11_ways (n + 1) 87 L st h Q = (match ld L 5 with | some (.inl x) => (match st1 L 5 (.inl (x + 1)) with | some L' => G sp sc [15, 61] d mX11_ways n 90 L' st h Q | none => False) | _ => False)) ∧
  (∀ (n d : Nat) (L : List (Option iV)) (st : List iV) (h : iH) (Q : Option iV → iH → Prop), G sp sc [15, 61] d mX11_ways (n + 1) 90 L st h Q = Run sp sc d mX11_ways 15 L st h Q) ∧
  (∀ (n d : Nat) (L : List (Option iV)) (st : List iV) (h : iH) (Q : Option iV → iH → Prop), G sp sc [15, 61] d mX11_ways (n + 1) 93 L st h Q = (match ld L 0 with | some (.inr (.inr (r + 1))) => G sp sc [15, 61] d mX11_ways n 94 L (.inr (.inr (r + 1)) :: st) h Q | _ => False)) ∧
  (∀ (n d : Nat) (L : List (Option iV)) (r : List iV) (m : Nat) (h : iH) (Q : Option iV → iH → Prop), G sp sc [15, 61] d mX11_ways (n + 1) 94 L (.inr (.inr (m + 2)) :: r) h Q = (match h.1[m]? with | some (.inl (ci, fs)) => (match lkF 11 70 ci with | some k => (match fs[k]? with | some v => G sp sc [15, 61] d mX11_ways n 97 L (v :: r) h Q | none => False) | none => False) | _ => False)) ∧
  (∀ (n d : Nat) (L : List (Option iV)) (st : List iV) (h : iH) (Q : Option iV → iH → Prop), G sp sc [15, 61] d mX11_ways (n + 1) 97 L st h Q = G sp sc [15, 61] d mX11_ways n 98 L (.inl 0 :: st) h Q) ∧
  (∀ (n d : Nat) (L : List (Option iV)) (r : List iV) (j : Int) (m : Nat) (h : iH) (Q : Option iV → iH → Prop), G sp sc [15, 61] d mX11_ways (n + 1) 98 L (.inl j :: .inr (.inr (m + 2)) :: r) h Q = (match h.1[m]? with | some (.inr (.inr (t, rs))) => (inA j rs.length = true ∧ 3 ≤ t ∧ t < 6) ∧ G sp sc [15, 61] d mX11_ways n 99 L (.inr (.inr (rs.getD j.toNat 0)) :: r) h Q | _ => False)) ∧
  (∀ (n d : Nat) (L : List (Option iV)) (st : List iV) (h : iH) (Q : Option iV → iH → Prop), G sp sc [15, 61] d mX11_ways (n + 1) 99 L st h Q = (match ld L 2 with | some (.inr (.inl x)) => G sp sc [15, 61] d mX11_ways n 100 L (.inr (.inl x) :: st) h Q | _ => False)) ∧
  (∀ (n d : Nat) (L : List (Option iV)) (r : List iV) (m : Nat) (z0 : iV) (h : iH) (Q : Option iV → iH → Prop), G sp sc [15, 61] (d + 1) mX11_ways (n + 1) 100 L (z0 :: .inr (.inr (m + 2)) :: r) h Q = (match h.1[m]? with | some (.inl (ci, _)) => (match lkC 11 309 ci with | some (y1, n1, kd) => (n1 = 1 ∧ (kd = 2 ∨ kd = 3 ∨ kd = 8) ∧ cs r ≤ 8) ∧ Call sp sc d y1 [.inr (.inr (m + 2)), z0] h (fun q h1 => GC sp sc [15, 61] (d + 1) mX11_ways n 103 L q r h h1 Q) | none => False) | _ => False)) ∧
  (∀ (n d : Nat) (L : List (Option iV)) (st : List iV) (h : iH) (Q : Option iV → iH → Prop), G sp sc [15, 61] d mX11_ways (n + 1) 103 L st h Q = (match ld L 0 with | some (.inr (.inr (r + 1))) => G sp sc [15, 61] d mX11_ways n 104 L (.inr (.inr (r + 1)) :: st) h Q | _ => False)) ∧
  (∀ (n d : Nat) (L : List (Option iV)) (r : List iV) (m : Nat) (h : iH) (Q : Option iV → iH → Prop), G sp sc [15, 61] d mX11_ways (n + 1) 104 L (.inr (.inr (m + 2)) :: r) h Q = (match h.1[m]? with | some (.inl (ci, fs)) => (match lkF 11 70 ci with | some k => (match fs[k]? with | some v => G sp sc [15, 61] d mX11_ways n 107 L (v :: r) h Q | none => False) | none => False) | _ => False)) ∧
  (∀ (n d : Nat) (L : List (Option iV)) (st : List iV) (h : iH) (Q : Option iV → iH → Prop), G sp sc [15, 61] d mX11_ways (n + 1) 107 L st h Q = G sp sc [15, 61] d mX11_ways n 108 L (.inl 0 :: st) h Q) ∧
  (∀ (n d : Nat) (L : List (Option iV)) (r : List iV) (j : Int) (m : Nat) (h : iH) (Q : Option iV → iH → Prop), G sp sc [15, 61] d mX11_ways (n + 1) 108 L (.inl j :: .inr (.inr (m + 2)) :: r) h Q = (match h.1[m]? with | some (.inr (.inr (t, rs))) => (inA j rs.length = true ∧ 3 ≤ t ∧ t < 6) ∧ G sp sc [15, 61] d mX11_ways n 109 L (.inr (.inr (rs.getD j.toNat 0)) :: r) h Q | _ => False)) ∧
  (∀ (n d : Nat) (L : List (Option iV)) (st : List iV) (h : iH) (Q : Option iV → iH → Prop), G sp sc [15, 61] d mX11_ways (n + 1) 109 L st h Q = (match ld L 1 with | some (.inl x) => G sp sc [15, 61] d mX11_ways n 110 L (.inl x :: st) h Q | _ => False)) ∧
  (∀ (n d : Nat) (L : List (Option iV)) (r : List iV) (m : Nat) (z0 : iV) (h : iH) (Q : Option iV → iH → Prop), G sp sc [15, 61] (d + 1) mX11_ways (n + 1) 110 L (z0 :: .inr (.inr (m + 2)) :: r) h Q = (match h.1[m]? with | some (.inl (ci, _)) => (match lkC 11 313 ci with | some (y1, n1, kd) => (n1 = 1 ∧ (kd = 2 ∨ kd = 3 ∨ kd = 8) ∧ cs r ≤ 8) ∧ Call sp sc d y1 [.inr (.inr (m + 2)), z0] h (fun q h1 => GC sp sc [15, 61] (d + 1) mX11_ways n 113 L q r h h1 Q) | none => False) | _ => False)) ∧
  (∀ (n d : Nat) (L : List (Option iV)) (a : Int) (h : iH) (Q : Option iV → iH → Prop), G sp sc [15, 61] d mX11_ways (n + 1) 113 L [.inl a] h Q = Q (some (.inl a)) h) ∧
  lkC 11 200 8 = some (mX8_goesOn, 1, 2) ∧
  lkC 11 309 2 = some (mX2_become, 1, 2) ∧
  lkC 11 313 2 = some (mX2_tell, 1, 2) ∧
  lkF 11 17 11 = some 2 ∧
  lkF 11 197 8 = some 9 ∧
  lkF 11 242 8 = some 5 ∧
  lkF 11 70 11 = some 7 := ⟨by intros; exact G_at (by decide +kernel : fetch mX11_ways 0 = some (.iload_n 1)),
  by intros; exact G_at (by decide +kernel : fetch mX11_ways 1 = some (.iconst (-1))),
  by intros; exact G_at (by decide +kernel : fetch mX11_ways 2 = some (.if_icmp .ge 5)),
  by intros; exact G_at (by decide +kernel : fetch mX11_ways 5 = some (.iconst (-1))),
  by intros; exact G_reti (by decide +kernel : fetch mX11_ways 6 = some (.ireturn)) (by decide +kernel),
  by intros; exact G_at (by decide +kernel : fetch mX11_ways 7 = some (.lconst 1)),
  by intros; exact G_at (by decide +kernel : fetch mX11_ways 8 = some (.lstore_n 2)),
  by intros; exact G_at (by decide +kernel : fetch mX11_ways 9 = some (.iconst 0)),
  by intros; exact G_at (by decide +kernel : fetch mX11_ways 10 = some (.istore 4)),
  by intros; exact G_at (by decide +kernel : fetch mX11_ways 12 = some (.iconst 0)),
  by intros; exact G_at (by decide +kernel : fetch mX11_ways 13 = some (.istore 5)),
  by intros; exact G_at (by decide +kernel : fetch mX11_ways 15 = some (.iload 5)),
  by intros; exact G_at (by decide +kernel : fetch mX11_ways 17 = some (.aload_n 0)),
  by intros; exact G_own (by decide +kernel : fetch mX11_ways 18 = some (.getfield 17)) (by decide +kernel),
  by intros; exact G_own (by decide +kernel : fetch mX11_ways 21 = some (.getfield 242)) (by decide +kernel),
  by intros; exact G_at (by decide +kernel : fetch mX11_ways 24 = some (.if_icmp .ge 69)),
  by intros; exact G_at (by decide +kernel : fetch mX11_ways 27 = some (.aload_n 0)),
  by intros; exact G_own (by decide +kernel : fetch mX11_ways 28 = some (.getfield 17)) (by decide +kernel),
  by intros; exact G_at (by decide +kernel : fetch mX11_ways 31 = some (.iload 5)),
  by intros; exact G_callV (by decide +kernel : fetch mX11_ways 33 = some (.invokevirtual 200)) (by decide +kernel) (by decide +kernel) rfl,
  by intros; exact G_at (by decide +kernel : fetch mX11_ways 36 = some (.ifCond .eq 19)),
  by intros; exact G_at (by decide +kernel : fetch mX11_ways 39 = some (.bipush 6)),
  by intros; exact G_at (by decide +kernel : fetch mX11_ways 41 = some (.aload_n 0)),
  by intros; exact G_own (by decide +kernel : fetch mX11_ways 42 = some (.getfield 17)) (by decide +kernel),
  by intros; exact G_own (by decide +kernel : fetch mX11_ways 45 = some (.getfield 197)) (by decide +kernel),
  by intros; exact G_at (by decide +kernel : fetch mX11_ways 48 = some (.iload 5)),
  by intros; exact G_at (by decide +kernel : fetch mX11_ways 50 = some (.iaload)),
  by intros; exact G_at (by decide +kernel : fetch mX11_ways 51 = some (.isub)),
  by intros; exact G_at (by decide +kernel : fetch mX11_ways 52 = some (.goto 4)),
  by intros; exact G_at (by decide +kernel : fetch mX11_ways 55 = some (.iconst 0)),
  by intros; exact G_at (by decide +kernel : fetch mX11_ways 56 = some (.istore 6)),
  by intros; exact G_at (by decide +kernel : fetch mX11_ways 58 = some (.iconst 1)),
  by intros; exact G_at (by decide +kernel : fetch mX11_ways 59 = some (.istore 7)),
  by intros; exact G_at (by decide +kernel : fetch mX11_ways 61 = some (.iload 7)),
  by intros; exact G_at (by decide +kernel : fetch mX11_ways 63 = some (.iload 6)),
  by intros; exact G_at (by decide +kernel : fetch mX11_ways 65 = some (.if_icmp .gt 22)),
  by intros; exact G_at (by decide +kernel : fetch mX11_ways 68 = some (.iinc 4 1)),
  by intros; exact G_at (by decide +kernel : fetch mX11_ways 71 = some (.lload_n 2)),
  by intros; exact G_at (by decide +kernel : fetch mX11_ways 72 = some (.iload 4)),
  by intros; exact G_at (by decide +kernel : fetch mX11_ways 74 = some (.i2l)),
  by intros; exact G_at (by decide +kernel : fetch mX11_ways 75 = some (.lmul)),
  by intros; exact G_at (by decide +kernel : fetch mX11_ways 76 = some (.iload 7)),
  by intros; exact G_at (by decide +kernel : fetch mX11_ways 78 = some (.i2l)),
  by intros; exact G_at (by decide +kernel : fetch mX11_ways 79 = some (.ldiv)),
  by intros; exact G_at (by decide +kernel : fetch mX11_ways 80 = some (.lstore_n 2)),
  by intros; exact G_at (by decide +kernel : fetch mX11_ways 81 = some (.iinc 7 1)),
  by intros; exact G_at (by decide +kernel : fetch mX11_ways 84 = some (.goto (-23))),
  by intros; exact G_at (by decide +kernel : fetch mX11_ways 87 = some (.iinc 5 1)),
  by intros; exact G_at (by decide +kernel : fetch mX11_ways 90 = some (.goto (-75))),
  by intros; exact G_at (by decide +kernel : fetch mX11_ways 93 = some (.aload_n 0)),
  by intros; exact G_own (by decide +kernel : fetch mX11_ways 94 = some (.getfield 70)) (by decide +kernel),
  by intros; exact G_at (by decide +kernel : fetch mX11_ways 97 = some (.iconst 0)),
  by intros; exact G_at (by decide +kernel : fetch mX11_ways 98 = some (.aaload)),
  by intros; exact G_at (by decide +kernel : fetch mX11_ways 99 = some (.lload_n 2)),
  by intros; exact G_callV (by decide +kernel : fetch mX11_ways 100 = some (.invokevirtual 309)) (by decide +kernel) (by decide +kernel) rfl,
  by intros; exact G_at (by decide +kernel : fetch mX11_ways 103 = some (.aload_n 0)),
  by intros; exact G_own (by decide +kernel : fetch mX11_ways 104 = some (.getfield 70)) (by decide +kernel),
  by intros; exact G_at (by decide +kernel : fetch mX11_ways 107 = some (.iconst 0)),
  by intros; exact G_at (by decide +kernel : fetch mX11_ways 108 = some (.aaload)),
  by intros; exact G_at (by decide +kernel : fetch mX11_ways 109 = some (.iload_n 1)),
  by intros; exact G_callV (by decide +kernel : fetch mX11_ways 110 = some (.invokevirtual 313)) (by decide +kernel) (by decide +kernel) rfl,
  by intros; exact G_reti (by decide +kernel : fetch mX11_ways 113 = some (.ireturn)) (by decide +kernel),
  by decide +kernel,
  by decide +kernel,
  by decide +kernel,
  by decide +kernel,
  by decide +kernel,
  by decide +kernel,
  by decide +kernel⟩
theorem gX11_thaw : (∀ (n d : Nat) (L : List (Option iV)) (st : List iV) (h : iH) (Q : Option iV → iH → Prop), G sp sc [78, 105, 115] d mX11_thaw (n + 1) 0 L st h Q = (match ld L 0 with | some (.inr (.inr (r + 1))) => G sp sc [78, 105, 115] d mX11_thaw n 1 L (.inr (.inr (r + 1)) :: st) h Q | _ => False)) ∧
  (∀ (n d : Nat) (L : List (Option iV)) (r : List iV) (m : Nat) (h : iH) (Q : Option iV → iH → Prop), G sp sc [78, 105, 115] d mX11_thaw (n + 1) 1 L (.inr (.inr (m + 2)) :: r) h Q = (match h.1[m]? with | some (.inl (ci, fs)) => (match lkF 11 17 ci with | some k => (match fs[k]? with | some v => G sp sc [78, 105, 115] d mX11_thaw n 4 L (v :: r) h Q | none => False) | none => False) | _ => False)) ∧
  (∀ (n d : Nat) (L : List (Option iV)) (st : List iV) (h : iH) (Q : Option iV → iH → Prop), G sp sc [78, 105, 115] d mX11_thaw (n + 1) 4 L st h Q = (match ld L 1 with | some (.inl x) => G sp sc [78, 105, 115] d mX11_thaw n 5 L (.inl x :: st) h Q | _ => False)) ∧
  (∀ (n d : Nat) (L : List (Option iV)) (r : List iV) (m : Nat) (z0 : iV) (h : iH) (Q : Option iV → iH → Prop), G sp sc [78, 105, 115] (d + 1) mX11_thaw (n + 1) 5 L (z0 :: .inr (.inr (m + 2)) :: r) h Q = (match h.1[m]? with | some (.inl (ci, _)) => (match lkC 11 185 ci with | some (y1, n1, kd) => (n1 = 1 ∧ (kd = 2 ∨ kd = 3 ∨ kd = 8) ∧ cs r ≤ 8) ∧ Call sp sc d y1 [.inr (.inr (m + 2)), z0] h (fun q h1 => GC sp sc [78, 105, 115] (d + 1) mX11_thaw n 8 L q r h h1 Q) | none => False) | _ => False)) ∧
  (∀ (n d : Nat) (L : List (Option iV)) (a : Int) (r : List iV) (h : iH) (Q : Option iV → iH → Prop), G sp sc [78, 105, 115] d mX11_thaw (n + 1) 8 L (.inl a :: r) h Q = (inI a = true ∧ (a = 0 → G sp sc [78, 105, 115] d mX11_thaw n 35 L r h Q) ∧ (¬ (a = 0) → G sp sc [78, 105, 115] d mX11_thaw n 11 L r h Q))) ∧
  (∀ (n d : Nat) (L : List (Option iV)) (st : List iV) (h : iH) (Q : Option iV → iH → Prop), G sp sc [78, 105, 115] d mX11_thaw (n + 1) 11 L st h Q = (match ld L 2 with | some (.inl x) => G sp sc [78, 105, 115] d mX11_thaw n 12 L (.inl x :: st) h Q | _ => False)) ∧
  (∀ (n d : Nat) (L : List (Option iV)) (r : List iV) (z0 : iV) (h : iH) (Q : Option iV → iH → Prop), G sp sc [78, 105, 115] (d + 1) mX11_thaw (n + 1) 12 L (z0 :: r) h Q = (cs r ≤ 8 ∧ Call sp sc d mX11_isMindSpan [z0] h (fun q h1 => GC sp sc [78, 105, 115] (d + 1) mX11_thaw n 15 L q r h h1 Q))) ∧
  (∀ (n d : Nat) (L : List (Option iV)) (a : Int) (r : List iV) (h : iH) (Q : Option iV → iH → Prop), G sp sc [78, 105, 115] d mX11_thaw (n + 1) 15 L (.inl a :: r) h Q = (inI a = true ∧ (a = 0 → G sp sc [78, 105, 115] d mX11_thaw n 35 L r h Q) ∧ (¬ (a = 0) → G sp sc [78, 105, 115] d mX11_thaw n 18 L r h Q))) ∧
  (∀ (n d : Nat) (L : List (Option iV)) (st : List iV) (h : iH) (Q : Option iV → iH → Prop), G sp sc [78, 105, 115] d mX11_thaw (n + 1) 18 L st h Q = (match ld L 3 with | some (.inl x) => G sp sc [78, 105, 115] d mX11_thaw n 19 L (.inl x :: st) h Q | _ => False)) ∧
  (∀ (n d : Nat) (L : List (Option iV)) (st : List iV) (h : iH) (Q : Option iV → iH → Prop), G sp sc [78, 105, 115] d mX11_thaw (n + 1) 19 L st h Q = G sp sc [78, 105, 115] d mX11_thaw n 20 L (.inl 1 :: st) h Q) ∧
  (∀ (n d : Nat) (L : List (Option iV)) (a : Int) (b : Int) (r : List iV) (h : iH) (Q : Option iV → iH → Prop), G sp sc [78, 105, 115] d mX11_thaw (n + 1) 20 L (.inl b :: .inl a :: r) h Q = ((inI a = true ∧ inI b = true) ∧ (a < b → G sp sc [78, 105, 115] d mX11_thaw n 35 L r h Q) ∧ (¬ (a < b) → G sp sc [78, 105, 115] d mX11_thaw n 23 L r h Q))) ∧
  (∀ (n d : Nat) (L : List (Option iV)) (st : List iV) (h : iH) (Q : Option iV → iH → Prop), G sp sc [78, 105, 115] d mX11_thaw (n + 1) 23 L st h Q = (match ld L 3 with | some (.inl x) => G sp sc [78, 105, 115] d mX11_thaw n 24 L (.inl x :: st) h Q | _ => False)) ∧
  (∀ (n d : Nat) (L : List (Option iV)) (st : List iV) (h : iH) (Q : Option iV → iH → Prop), G sp sc [78, 105, 115] d mX11_thaw (n + 1) 24 L st h Q = ((-128 ≤ (9 : Int) ∧ (9 : Int) < 128) ∧ G sp sc [78, 105, 115] d mX11_thaw n 26 L (.inl 9 :: st) h Q)) ∧
  (∀ (n d : Nat) (L : List (Option iV)) (a : Int) (b : Int) (r : List iV) (h : iH) (Q : Option iV → iH → Prop), G sp sc [78, 105, 115] d mX11_thaw (n + 1) 26 L (.inl b :: .inl a :: r) h Q = ((inI a = true ∧ inI b = true) ∧ (b < a → G sp sc [78, 105, 115] d mX11_thaw n 35 L r h Q) ∧ (¬ (b < a) → G sp sc [78, 105, 115] d mX11_thaw n 29 L r h Q))) ∧
  (∀ (n d : Nat) (L : List (Option iV)) (st : List iV) (h : iH) (Q : Option iV → iH → Prop), G sp sc [78, 105, 115] d mX11_thaw (n + 1) 29 L st h Q = (match ld L 4 with | some (.inl x) => G sp sc [78, 105, 115] d mX11_thaw n 31 L (.inl x :: st) h Q | _ => False)) ∧
  (∀ (n d : Nat) (L : List (Option iV)) (st : List iV) (h : iH) (Q : Option iV → iH → Prop), G sp sc [78, 105, 115] d mX11_thaw (n + 1) 31 L st h Q = G sp sc [78, 105, 115] d mX11_thaw n 32 L (.inl (-1) :: st) h Q) ∧
  (∀ (n d : Nat) (L : List (Option iV)) (a : Int) (b : Int) (r : List iV) (h : iH) (Q : Option iV → iH → Prop), G sp sc [78, 105, 115] d mX11_thaw (n + 1) 32 L (.inl b :: .inl a :: r) h Q = ((inI a = true ∧ inI b = true) ∧ (b ≤ a → G sp sc [78, 105, 115] d mX11_thaw n 37 L r h Q) ∧ (¬ (b ≤ a) → G sp sc [78, 105, 115] d mX11_thaw n 35 L r h Q))) ∧
  (∀ (n d : Nat) (L : List (Option iV)) (st : List iV) (h : iH) (Q : Option iV → iH → Prop), G sp sc [78, 105, 115] d mX11_thaw (n + 1) 35 L st h Q = G sp sc [78, 105, 115] d mX11_thaw n 36 L (.inl (-1) :: st) h Q) ∧
  (∀ (n d : Nat) (L : List (Option iV)) (a : Int) (h : iH) (Q : Option iV → iH → Prop), G sp sc [78, 105, 115] d mX11_thaw (n + 1) 36 L [.inl a] h Q = Q (some (.inl a)) h) ∧
  (∀ (n d : Nat) (L : List (Option iV)) (st : List iV) (h : iH) (Q : Option iV → iH → Prop), G sp sc [78, 105, 115] d mX11_thaw (n + 1) 37 L st h Q = (match ld L 0 with | some (.inr (.inr (r + 1))) => G sp sc [78, 105, 115] d mX11_thaw n 38 L (.inr (.inr (r + 1)) :: st) h Q | _ => False)) ∧
  (∀ (n d : Nat) (L : List (Option iV)) (r : List iV) (m : Nat) (h : iH) (Q : Option iV → iH → Prop), G sp sc [78, 105, 115] d mX11_thaw (n + 1) 38 L (.inr (.inr (m + 2)) :: r) h Q = (match h.1[m]? with | some (.inl (ci, fs)) => (match lkF 11 17 ci with | some k => (match fs[k]? with | some v => G sp sc [78, 105, 115] d mX11_thaw n 41 L (v :: r) h Q | none => False) | none => False) | _ => False)) ∧
  (∀ (n d : Nat) (L : List (Option iV)) (st : List iV) (h : iH) (Q : Option iV → iH → Prop), G sp sc [78, 105, 115] d mX11_thaw (n + 1) 41 L st h Q = (match ld L 1 with | some (.inl x) => G sp sc [78, 105, 115] d mX11_thaw n 42 L (.inl x :: st) h Q | _ => False)) ∧
  (∀ (n d : Nat) (L : List (Option iV)) (r : List iV) (m : Nat) (z0 : iV) (h : iH) (Q : Option iV → iH → Prop), G sp sc [78, 105, 115] (d + 1) mX11_thaw (n + 1) 42 L (z0 :: .inr (.inr (m + 2)) :: r) h Q = (match h.1[m]? with | some (.inl (ci, _)) => (match lkC 11 200 ci with | some (y1, n1, kd) => (n1 = 1 ∧ (kd = 2 ∨ kd = 3 ∨ kd = 8) ∧ cs r ≤ 8) ∧ Call sp sc d y1 [.inr (.inr (m + 2)), z0] h (fun q h1 => GC sp sc [78, 105, 115] (d + 1) mX11_thaw n 45 L q r h h1 Q) | none => False) | _ => False)) ∧
  (∀ (n d : Nat) (L : List (Option iV)) (a : Int) (r : List iV) (h : iH) (Q : Option iV → iH → Prop), G sp sc [78, 105, 115] d mX11_thaw (n + 1) 45 L (.inl a :: r) h Q = (inI a = true ∧ (¬ a = 0 → G sp sc [78, 105, 115] d mX11_thaw n 51 L r h Q) ∧ (¬ (¬ a = 0) → G sp sc [78, 105, 115] d mX11_thaw n 48 L r h Q))) ∧
  (∀ (n d : Nat) (L : List (Option iV)) (st : List iV) (h : iH) (Q : Option iV → iH → Prop), G sp sc [78, 105, 115] d mX11_thaw (n + 1) 48 L st h Q = ((-128 ≤ ((-3) : Int) ∧ ((-3) : Int) < 128) ∧ G sp sc [78, 105, 115] d mX11_thaw n 50 L (.inl (-3) :: st) h Q)) ∧
  (∀ (n d : Nat) (L : List (Option iV)) (a : Int) (h : iH) (Q : Option iV → iH → Prop), G sp sc [78, 105, 115] d mX11_thaw (n + 1) 50 L [.inl a] h Q = Q (some (.inl a)) h) ∧
  (∀ (n d : Nat) (L : List (Option iV)) (st : List iV) (h : iH) (Q : Option iV → iH → Prop), G sp sc [78, 105, 115] d mX11_thaw (n + 1) 51 L st h Q = ((-128 ≤ (6 : Int) ∧ (6 : Int) < 128) ∧ G sp sc [78, 105, 115] d mX11_thaw n 53 L (.inl 6 :: st) h Q)) ∧
  (∀ (n d : Nat) (L : List (Option iV)) (st : List iV) (h : iH) (Q : Option iV → iH → Prop), G sp sc [78, 105, 115] d mX11_thaw (n + 1) 53 L st h Q = (match ld L 0 with | some (.inr (.inr (r + 1))) => G sp sc [78, 105, 115] d mX11_thaw n 54 L (.inr (.inr (r + 1)) :: st) h Q | _ => False)) ∧
  (∀ (n d : Nat) (L : List (Option iV)) (r : List iV) (m : Nat) (h : iH) (Q : Option iV → iH → Prop), G sp sc [78, 105, 115] d mX11_thaw (n + 1) 54 L (.inr (.inr (m + 2)) :: r) h Q = (match h.1[m]? with | some (.inl (ci, fs)) => (match lkF 11 17 ci with | some k => (match fs[k]? with | some v => G sp sc [78, 105, 115] d mX11_thaw n 57 L (v :: r) h Q | none => False) | none => False) | _ => False)) ∧
  (∀ (n d : Nat) (L : List (Option iV)) (r : List iV) (m : Nat) (h : iH) (Q : Option iV → iH → Prop), G sp sc [78, 105, 115] d mX11_thaw (n + 1) 57 L (.inr (.inr (m + 2)) :: r) h Q = (match h.1[m]? with | some (.inl (ci, fs)) => (match lkF 11 197 ci with | some k => (match fs[k]? with | some v => G sp sc [78, 105, 115] d mX11_thaw n 60 L (v :: r) h Q | none => False) | none => False) | _ => False)) ∧
  (∀ (n d : Nat) (L : List (Option iV)) (st : List iV) (h : iH) (Q : Option iV → iH → Prop), G sp sc [78, 105, 115] d mX11_thaw (n + 1) 60 L st h Q = (match ld L 1 with | some (.inl x) => G sp sc [78, 105, 115] d mX11_thaw n 61 L (.inl x :: st) h Q | _ => False)) ∧
  (∀ (n d : Nat) (L : List (Option iV)) (r : List iV) (j : Int) (m : Nat) (h : iH) (Q : Option iV → iH → Prop), G sp sc [78, 105, 115] d mX11_thaw (n + 1) 61 L (.inl j :: .inr (.inr (m + 2)) :: r) h Q = (match h.1[m]? with | some (.inr (.inl (0, xs))) => inA j xs.length = true ∧ G sp sc [78, 105, 115] d mX11_thaw n 62 L (.inl (xs.getD j.toNat 0) :: r) h Q | _ => False)) ∧
  (∀ (n d : Nat) (L : List (Option iV)) (a : Int) (b : Int) (r : List iV) (h : iH) (Q : Option iV → iH → Prop), G sp sc [78, 105, 115] d mX11_thaw (n + 1) 62 L (.inl b :: .inl a :: r) h Q = G sp sc [78, 105, 115] d mX11_thaw n 63 L (.inl (a - b) :: r) h Q) ∧
  (∀ (n d : Nat) (L : List (Option iV)) (r : List iV) (x : Int) (h : iH) (Q : Option iV → iH → Prop), G sp sc [78, 105, 115] d mX11_thaw (n + 1) 63 L (.inl x :: r) h Q = (match st1 L 5 (.inl x) with | some L' => G sp sc [78, 105, 115] d mX11_thaw n 65 L' r h Q | none => False)) ∧
  (∀ (n d : Nat) (L : List (Option iV)) (st : List iV) (h : iH) (Q : Option iV → iH → Prop), G sp sc [78, 105, 115] d mX11_thaw (n + 1) 65 L st h Q = (match ld L 0 with | some (.inr (.inr (r + 1))) => G sp sc [78, 105, 115] d mX11_thaw n 66 L (.inr (.inr (r + 1)) :: st) h Q | _ => False)) ∧
  (∀ (n d : Nat) (L : List (Option iV)) (r : List iV) (m : Nat) (h : iH) (Q : Option iV → iH → Prop), G sp sc [78, 105, 115] d mX11_thaw (n + 1) 66 L (.inr (.inr (m + 2)) :: r) h Q = (match h.1[m]? with | some (.inl (ci, fs)) => (match lkF 11 70 ci with | some k => (match fs[k]? with | some v => G sp sc [78, 105, 115] d mX11_thaw n 69 L (v :: r) h Q | none => False) | none => False) | _ => False)) ∧
  (∀ (n d : Nat) (L : List (Option iV)) (st : List iV) (h : iH) (Q : Option iV → iH → Prop), G sp sc [78, 105, 115] d mX11_thaw (n + 1) 69 L st h Q = G sp sc [78, 105, 115] d mX11_thaw n 70 L (.inl 0 :: st) h Q) ∧
  (∀ (n d : Nat) (L : List (Option iV)) (r : List iV) (j : Int) (m : Nat) (h : iH) (Q : Option iV → iH → Prop), G sp sc [78, 105, 115] d mX11_thaw (n + 1) 70 L (.inl j :: .inr (.inr (m + 2)) :: r) h Q = (match h.1[m]? with | some (.inr (.inr (t, rs))) => (inA j rs.length = true ∧ 3 ≤ t ∧ t < 6) ∧ G sp sc [78, 105, 115] d mX11_thaw n 71 L (.inr (.inr (rs.getD j.toNat 0)) :: r) h Q | _ => False)) ∧
  (∀ (n d : Nat) (L : List (Option iV)) (st : List iV) (h : iH) (Q : Option iV → iH → Prop), G sp sc [78, 105, 115] d mX11_thaw (n + 1) 71 L st h Q = G sp sc [78, 105, 115] d mX11_thaw n 72 L (.inr (.inl ((1 : Fin 2).val : Int)) :: st) h Q) ∧
  (∀ (n d : Nat) (L : List (Option iV)) (r : List iV) (m : Nat) (z0 : iV) (h : iH) (Q : Option iV → iH → Prop), G sp sc [78, 105, 115] (d + 1) mX11_thaw (n + 1) 72 L (z0 :: .inr (.inr (m + 2)) :: r) h Q = (match h.1[m]? with | some (.inl (ci, _)) => (match lkC 11 309 ci with | some (y1, n1, kd) => (n1 = 1 ∧ (kd = 2 ∨ kd = 3 ∨ kd = 8) ∧ cs r ≤ 8) ∧ Call sp sc d y1 [.inr (.inr (m + 2)), z0] h (fun q h1 => GC sp sc [78, 105, 115] (d + 1) mX11_thaw n 75 L q r h h1 Q) | none => False) | _ => False)) ∧
  (∀ (n d : Nat) (L : List (Option iV)) (st : List iV) (h : iH) (Q : Option iV → iH → Prop), G sp sc [78, 105, 115] d mX11_thaw (n + 1) 75 L st h Q = G sp sc [78, 105, 115] d mX11_thaw n 76 L (.inl 1 :: st) h Q) ∧
  (∀ (n d : Nat) (L : List (Option iV)) (r : List iV) (x : Int) (h : iH) (Q : Option iV → iH → Prop), G sp sc [78, 105, 115] d mX11_thaw (n + 1) 76 L (.inl x :: r) h Q = (match st1 L 6 (.inl x) with | some L' => Run sp sc d mX11_thaw 78 L' r h Q | none => False)) ∧
  (∀ (n d : Nat) (L : List (Option iV)) (st : List iV) (h : iH) (Q : Option iV → iH → Prop), G sp sc [78, 105, 115] d mX11_thaw (n + 1) 78 L st h Q = (match ld L 6 with | some (.inl x) => G sp sc [78, 105, 115] d mX11_thaw n 80 L (.inl x :: st) h Q | _ => False)) ∧
  (∀ (n d : Nat) (L : List (Option iV)) (st : List iV) (h : iH) (Q : Option iV → iH → Prop), G sp sc [78, 105, 115] d mX11_thaw (n + 1) 80 L st h Q = (match ld L 5 with | some (.inl x) => G sp sc [78, 105, 115] d mX11_thaw n 82 L (.inl x :: st) h Q | _ => False)) ∧
  (∀ (n d : Nat) (L : List (Option iV)) (a : Int) (b : Int) (r : List iV) (h : iH) (Q : Option iV → iH → Prop), G sp sc [78, 105, 115] d mX11_thaw (n + 1) 82 L (.inl b :: .inl a :: r) h Q = ((inI a = true ∧ inI b = true) ∧ (b < a → G sp sc [78, 105, 115] d mX11_thaw n 102 L r h Q) ∧ (¬ (b < a) → G sp sc [78, 105, 115] d mX11_thaw n 85 L r h Q))) ∧
  (∀ (n d : Nat) (L : List (Option iV)) (st : List iV) (h : iH) (Q : Option iV → iH → Prop), G sp sc [78, 105, 115] d mX11_thaw (n + 1) 85 L st h Q = (match ld L 0 with | some (.inr (.inr (r + 1))) => G sp sc [78, 105, 115] d mX11_thaw n 86 L (.inr (.inr (r + 1)) :: st) h Q | _ => False)) ∧
  (∀ (n d : Nat) (L : List (Option iV)) (r : List iV) (m : Nat) (h : iH) (Q : Option iV → iH → Prop), G sp sc [78, 105, 115] d mX11_thaw (n + 1) 86 L (.inr (.inr (m + 2)) :: r) h Q = (match h.1[m]? with | some (.inl (ci, fs)) => (match lkF 11 70 ci with | some k => (match fs[k]? with | some v => G sp sc [78, 105, 115] d mX11_thaw n 89 L (v :: r) h Q | none => False) | none => False) | _ => False)) ∧
  (∀ (n d : Nat) (L : List (Option iV)) (st : List iV) (h : iH) (Q : Option iV → iH → Prop), G sp sc [78, 105, 115] d mX11_thaw (n + 1) 89 L st h Q = (match ld L 6 with | some (.inl x) => G sp sc [78, 105, 115] d mX11_thaw n 91 L (.inl x :: st) h Q | _ => False)) ∧
  (∀ (n d : Nat) (L : List (Option iV)) (r : List iV) (j : Int) (m : Nat) (h : iH) (Q : Option iV → iH → Prop), G sp sc [78, 105, 115] d mX11_thaw (n + 1) 91 L (.inl j :: .inr (.inr (m + 2)) :: r) h Q = (match h.1[m]? with | some (.inr (.inr (t, rs))) => (inA j rs.length = true ∧ 3 ≤ t ∧ t < 6) ∧ G sp sc [78, 105, 115] d mX11_thaw n 92 L (.inr (.inr (rs.getD j.toNat 0)) :: r) h Q | _ => False)) ∧
  (∀ (n d : Nat) (L : List (Option iV)) (st : List iV) (h : iH) (Q : Option iV → iH → Prop), G sp sc [78, 105, 115] d mX11_thaw (n + 1) 92 L st h Q = G sp sc [78, 105, 115] d mX11_thaw n 93 L (.inr (.inl ((0 : Fin 2).val : Int)) :: st) h Q) ∧
  (∀ (n d : Nat) (L : List (Option iV)) (r : List iV) (m : Nat) (z0 : iV) (h : iH) (Q : Option iV → iH → Prop), G sp sc [78, 105, 115] (d + 1) mX11_thaw (n + 1) 93 L (z0 :: .inr (.inr (m + 2)) :: r) h Q = (match h.1[m]? with | some (.inl (ci, _)) => (match lkC 11 309 ci with | some (y1, n1, kd) => (n1 = 1 ∧ (kd = 2 ∨ kd = 3 ∨ kd = 8) ∧ cs r ≤ 8) ∧ Call sp sc d y1 [.inr (.inr (m + 2)), z0] h (fun q h1 => GC sp sc [78, 105, 115] (d + 1) mX11_thaw n 96 L q r h h1 Q) | none => False) | _ => False)) ∧
  (∀ (n d : Nat) (L : List (Option iV)) (st : List iV) (h : iH) (Q : Option iV → iH → Prop), G sp sc [78, 105, 115] d mX11_thaw (n + 1) 96 L st h Q = (match ld L 6 with | some (.inl x) => (match st1 L 6 (.inl (x + 1)) with | some L' => G sp sc [78, 105, 115] d mX11_thaw n 99 L' st h Q | none => False) | _ => False)) ∧
  (∀ (n d : Nat) (L : List (Option iV)) (st : List iV) (h : iH) (Q : Option iV → iH → Prop), G sp sc [78, 105, 115] d mX11_thaw (n + 1) 99 L st h Q = Run sp sc d mX11_thaw 78 L st h Q) ∧
  (∀ (n d : Nat) (L : List (Option iV)) (st : List iV) (h : iH) (Q : Option iV → iH → Prop), G sp sc [78, 105, 115] d mX11_thaw (n + 1) 102 L st h Q = G sp sc [78, 105, 115] d mX11_thaw n 103 L (.inl 0 :: st) h Q) ∧
  (∀ (n d : Nat) (L : List (Option iV)) (r : List iV) (x : Int) (h : iH) (Q : Option iV → iH → Prop), G sp sc [78, 105, 115] d mX11_thaw (n + 1) 103 L (.inl x :: r) h Q = (match st1 L 6 (.inl x) with | some L' => Run sp sc d mX11_thaw 105 L' r h Q | none => False)) ∧
  (∀ (n d : Nat) (L : List (Option iV)) (st : List iV) (h : iH) (Q : Option iV → iH → Prop), G sp sc [78, 105, 115] d mX11_thaw (n + 1) 105 L st h Q = (match ld L 6 with | some (.inl x) => G sp sc [78, 105, 115] d mX11_thaw n 107 L (.inl x :: st) h Q | _ => False)) ∧
  (∀ (n d : Nat) (L : List (Option iV)) (st : List iV) (h : iH) (Q : Option iV → iH → Prop), G sp sc [78, 105, 115] d mX11_thaw (n + 1) 107 L st h Q = (match ld L 2 with | some (.inl x) => G sp sc [78, 105, 115] d mX11_thaw n 108 L (.inl x :: st) h Q | _ => False)) ∧
  (∀ (n d : Nat) (L : List (Option iV)) (a : Int) (b : Int) (r : List iV) (h : iH) (Q : Option iV → iH → Prop), G sp sc [78, 105, 115] d mX11_thaw (n + 1) 108 L (.inl b :: .inl a :: r) h Q = ((inI a = true ∧ inI b = true) ∧ (b ≤ a → G sp sc [78, 105, 115] d mX11_thaw n 175 L r h Q) ∧ (¬ (b ≤ a) → G sp sc [78, 105, 115] d mX11_thaw n 111 L r h Q))) ∧
  (∀ (n d : Nat) (L : List (Option iV)) (st : List iV) (h : iH) (Q : Option iV → iH → Prop), G sp sc [78, 105, 115] d mX11_thaw (n + 1) 111 L st h Q = (match ld L 5 with | some (.inl x) => G sp sc [78, 105, 115] d mX11_thaw n 113 L (.inl x :: st) h Q | _ => False)) ∧
  (∀ (n d : Nat) (L : List (Option iV)) (r : List iV) (x : Int) (h : iH) (Q : Option iV → iH → Prop), G sp sc [78, 105, 115] d mX11_thaw (n + 1) 113 L (.inl x :: r) h Q = (match st1 L 7 (.inl x) with | some L' => Run sp sc d mX11_thaw 115 L' r h Q | none => False)) ∧
  (∀ (n d : Nat) (L : List (Option iV)) (st : List iV) (h : iH) (Q : Option iV → iH → Prop), G sp sc [78, 105, 115] d mX11_thaw (n + 1) 115 L st h Q = (match ld L 7 with | some (.inl x) => G sp sc [78, 105, 115] d mX11_thaw n 117 L (.inl x :: st) h Q | _ => False)) ∧
  (∀ (n d : Nat) (L : List (Option iV)) (st : List iV) (h : iH) (Q : Option iV → iH → Prop), G sp sc [78, 105, 115] d mX11_thaw (n + 1) 117 L st h Q = G sp sc [78, 105, 115] d mX11_thaw n 118 L (.inl 1 :: st) h Q) ∧
  (∀ (n d : Nat) (L : List (Option iV)) (a : Int) (b : Int) (r : List iV) (h : iH) (Q : Option iV → iH → Prop), G sp sc [78, 105, 115] d mX11_thaw (n + 1) 118 L (.inl b :: .inl a :: r) h Q = ((inI a = true ∧ inI b = true) ∧ (a < b → G sp sc [78, 105, 115] d mX11_thaw n 151 L r h Q) ∧ (¬ (a < b) → G sp sc [78, 105, 115] d mX11_thaw n 121 L r h Q))) ∧
  (∀ (n d : Nat) (L : List (Option iV)) (st : List iV) (h : iH) (Q : Option iV → iH → Prop), G sp sc [78, 105, 115] d mX11_thaw (n + 1) 121 L st h Q = (match ld L 0 with | some (.inr (.inr (r + 1))) => G sp sc [78, 105, 115] d mX11_thaw n 122 L (.inr (.inr (r + 1)) :: st) h Q | _ => False)) ∧
  (∀ (n d : Nat) (L : List (Option iV)) (r : List iV) (m : Nat) (h : iH) (Q : Option iV → iH → Prop), G sp sc [78, 105, 115] d mX11_thaw (n + 1) 122 L (.inr (.inr (m + 2)) :: r) h Q = (match h.1[m]? with | some (.inl (ci, fs)) => (match lkF 11 70 ci with | some k => (match fs[k]? with | some v => G sp sc [78, 105, 115] d mX11_thaw n 125 L (v :: r) h Q | none => False) | none => False) | _ => False)) ∧
  (∀ (n d : Nat) (L : List (Option iV)) (st : List iV) (h : iH) (Q : Option iV → iH → Prop), G sp sc [78, 105, 115] d mX11_thaw (n + 1) 125 L st h Q = (match ld L 7 with | some (.inl x) => G sp sc [78, 105, 115] d mX11_thaw n 127 L (.inl x :: st) h Q | _ => False)) ∧
  (∀ (n d : Nat) (L : List (Option iV)) (r : List iV) (j : Int) (m : Nat) (h : iH) (Q : Option iV → iH → Prop), G sp sc [78, 105, 115] d mX11_thaw (n + 1) 127 L (.inl j :: .inr (.inr (m + 2)) :: r) h Q = (match h.1[m]? with | some (.inr (.inr (t, rs))) => (inA j rs.length = true ∧ 3 ≤ t ∧ t < 6) ∧ G sp sc [78, 105, 115] d mX11_thaw n 128 L (.inr (.inr (rs.getD j.toNat 0)) :: r) h Q | _ => False)) ∧
  (∀ (n d : Nat) (L : List (Option iV)) (st : List iV) (h : iH) (Q : Option iV → iH → Prop), G sp sc [78, 105, 115] d mX11_thaw (n + 1) 128 L st h Q = ((-128 ≤ (10 : Int) ∧ (10 : Int) < 128) ∧ G sp sc [78, 105, 115] d mX11_thaw n 130 L (.inl 10 :: st) h Q)) ∧
  (∀ (n d : Nat) (L : List (Option iV)) (st : List iV) (h : iH) (Q : Option iV → iH → Prop), G sp sc [78, 105, 115] d mX11_thaw (n + 1) 130 L st h Q = (match ld L 3 with | some (.inl x) => G sp sc [78, 105, 115] d mX11_thaw n 131 L (.inl x :: st) h Q | _ => False)) ∧
  (∀ (n d : Nat) (L : List (Option iV)) (a : Int) (b : Int) (r : List iV) (h : iH) (Q : Option iV → iH → Prop), G sp sc [78, 105, 115] d mX11_thaw (n + 1) 131 L (.inl b :: .inl a :: r) h Q = G sp sc [78, 105, 115] d mX11_thaw n 132 L (.inl (a - b) :: r) h Q) ∧
  (∀ (n d : Nat) (L : List (Option iV)) (st : List iV) (h : iH) (Q : Option iV → iH → Prop), G sp sc [78, 105, 115] d mX11_thaw (n + 1) 132 L st h Q = (match ld L 0 with | some (.inr (.inr (r + 1))) => G sp sc [78, 105, 115] d mX11_thaw n 133 L (.inr (.inr (r + 1)) :: st) h Q | _ => False)) ∧
  (∀ (n d : Nat) (L : List (Option iV)) (r : List iV) (m : Nat) (h : iH) (Q : Option iV → iH → Prop), G sp sc [78, 105, 115] d mX11_thaw (n + 1) 133 L (.inr (.inr (m + 2)) :: r) h Q = (match h.1[m]? with | some (.inl (ci, fs)) => (match lkF 11 70 ci with | some k => (match fs[k]? with | some v => G sp sc [78, 105, 115] d mX11_thaw n 136 L (v :: r) h Q | none => False) | none => False) | _ => False)) ∧
  (∀ (n d : Nat) (L : List (Option iV)) (st : List iV) (h : iH) (Q : Option iV → iH → Prop), G sp sc [78, 105, 115] d mX11_thaw (n + 1) 136 L st h Q = (match ld L 7 with | some (.inl x) => G sp sc [78, 105, 115] d mX11_thaw n 138 L (.inl x :: st) h Q | _ => False)) ∧
  (∀ (n d : Nat) (L : List (Option iV)) (st : List iV) (h : iH) (Q : Option iV → iH → Prop), G sp sc [78, 105, 115] d mX11_thaw (n + 1) 138 L st h Q = G sp sc [78, 105, 115] d mX11_thaw n 139 L (.inl 1 :: st) h Q) ∧
  (∀ (n d : Nat) (L : List (Option iV)) (a : Int) (b : Int) (r : List iV) (h : iH) (Q : Option iV → iH → Prop), G sp sc [78, 105, 115] d mX11_thaw (n + 1) 139 L (.inl b :: .inl a :: r) h Q = G sp sc [78, 105, 115] d mX11_thaw n 140 L (.inl (a - b) :: r) h Q) ∧
  (∀ (n d : Nat) (L : List (Option iV)) (r : List iV) (j : Int) (m : Nat) (h : iH) (Q : Option iV → iH → Prop), G sp sc [78, 105, 115] d mX11_thaw (n + 1) 140 L (.inl j :: .inr (.inr (m + 2)) :: r) h Q = (match h.1[m]? with | some (.inr (.inr (t, rs))) => (inA j rs.length = true ∧ 3 ≤ t ∧ t < 6) ∧ G sp sc [78, 105, 115] d mX11_thaw n 141 L (.inr (.inr (rs.getD j.toNat 0)) :: r) h Q | _ => False)) ∧
  (∀ (n d : Nat) (L : List (Option iV)) (st : List iV) (h : iH) (Q : Option iV → iH → Prop), G sp sc [78, 105, 115] d mX11_thaw (n + 1) 141 L st h Q = (match ld L 3 with | some (.inl x) => G sp sc [78, 105, 115] d mX11_thaw n 142 L (.inl x :: st) h Q | _ => False)) ∧
  (∀ (n d : Nat) (L : List (Option iV)) (r : List iV) (m : Nat) (z0 : iV) (z1 : iV) (z2 : iV) (h : iH) (Q : Option iV → iH → Prop), G sp sc [78, 105, 115] (d + 1) mX11_thaw (n + 1) 142 L (z2 :: z1 :: z0 :: .inr (.inr (m + 2)) :: r) h Q = (match h.1[m]? with | some (.inl (ci, _)) => (match lkC 11 316 ci with | some (y1, n1, kd) => (n1 = 3 ∧ (kd = 2 ∨ kd = 3 ∨ kd = 8) ∧ cs r ≤ 8) ∧ Call sp sc d y1 [.inr (.inr (m + 2)), z0, z1, z2] h (fun q h1 => GC sp sc [78, 105, 115] (d + 1) mX11_thaw n 145 L q r h h1 Q) | none => False) | _ => False)) ∧
  (∀ (n d : Nat) (L : List (Option iV)) (st : List iV) (h : iH) (Q : Option iV → iH → Prop), G sp sc [78, 105, 115] d mX11_thaw (n + 1) 145 L st h Q = (match ld L 7 with | some (.inl x) => (match st1 L 7 (.inl (x + (-1))) with | some L' => G sp sc [78, 105, 115] d mX11_thaw n 148 L' st h Q | none => False) | _ => False)) ∧
  (∀ (n d : Nat) (L : List (Option iV)) (st : List iV) (h : iH) (Q : Option iV → iH → Prop), G sp sc [78, 105, 115] d mX11_thaw (n + 1) 148 L st h Q = Run sp sc d mX11_thaw 115 L st h Q) ∧
  (∀ (n d : Nat) (L : List (Option iV)) (st : List iV) (h : iH) (Q : Option iV → iH → Prop), G sp sc [78, 105, 115] d mX11_thaw (n + 1) 151 L st h Q = (match ld L 0 with | some (.inr (.inr (r + 1))) => G sp sc [78, 105, 115] d mX11_thaw n 152 L (.inr (.inr (r + 1)) :: st) h Q | _ => False)) ∧
  (∀ (n d : Nat) (L : List (Option iV)) (r : List iV) (m : Nat) (h : iH) (Q : Option iV → iH → Prop), G sp sc [78, 105, 115] d mX11_thaw (n + 1) 152 L (.inr (.inr (m + 2)) :: r) h Q = (match h.1[m]? with | some (.inl (ci, fs)) => (match lkF 11 70 ci with | some k => (match fs[k]? with | some v => G sp sc [78, 105, 115] d mX11_thaw n 155 L (v :: r) h Q | none => False) | none => False) | _ => False)) ∧
  (∀ (n d : Nat) (L : List (Option iV)) (st : List iV) (h : iH) (Q : Option iV → iH → Prop), G sp sc [78, 105, 115] d mX11_thaw (n + 1) 155 L st h Q = G sp sc [78, 105, 115] d mX11_thaw n 156 L (.inl 0 :: st) h Q) ∧
  (∀ (n d : Nat) (L : List (Option iV)) (r : List iV) (j : Int) (m : Nat) (h : iH) (Q : Option iV → iH → Prop), G sp sc [78, 105, 115] d mX11_thaw (n + 1) 156 L (.inl j :: .inr (.inr (m + 2)) :: r) h Q = (match h.1[m]? with | some (.inr (.inr (t, rs))) => (inA j rs.length = true ∧ 3 ≤ t ∧ t < 6) ∧ G sp sc [78, 105, 115] d mX11_thaw n 157 L (.inr (.inr (rs.getD j.toNat 0)) :: r) h Q | _ => False)) ∧
  (∀ (n d : Nat) (L : List (Option iV)) (st : List iV) (h : iH) (Q : Option iV → iH → Prop), G sp sc [78, 105, 115] d mX11_thaw (n + 1) 157 L st h Q = ((-128 ≤ (10 : Int) ∧ (10 : Int) < 128) ∧ G sp sc [78, 105, 115] d mX11_thaw n 159 L (.inl 10 :: st) h Q)) ∧
  (∀ (n d : Nat) (L : List (Option iV)) (st : List iV) (h : iH) (Q : Option iV → iH → Prop), G sp sc [78, 105, 115] d mX11_thaw (n + 1) 159 L st h Q = (match ld L 0 with | some (.inr (.inr (r + 1))) => G sp sc [78, 105, 115] d mX11_thaw n 160 L (.inr (.inr (r + 1)) :: st) h Q | _ => False)) ∧
  (∀ (n d : Nat) (L : List (Option iV)) (r : List iV) (m : Nat) (h : iH) (Q : Option iV → iH → Prop), G sp sc [78, 105, 115] d mX11_thaw (n + 1) 160 L (.inr (.inr (m + 2)) :: r) h Q = (match h.1[m]? with | some (.inl (ci, fs)) => (match lkF 11 70 ci with | some k => (match fs[k]? with | some v => G sp sc [78, 105, 115] d mX11_thaw n 163 L (v :: r) h Q | none => False) | none => False) | _ => False)) ∧
  (∀ (n d : Nat) (L : List (Option iV)) (st : List iV) (h : iH) (Q : Option iV → iH → Prop), G sp sc [78, 105, 115] d mX11_thaw (n + 1) 163 L st h Q = G sp sc [78, 105, 115] d mX11_thaw n 164 L (.inl 0 :: st) h Q) ∧
  (∀ (n d : Nat) (L : List (Option iV)) (r : List iV) (j : Int) (m : Nat) (h : iH) (Q : Option iV → iH → Prop), G sp sc [78, 105, 115] d mX11_thaw (n + 1) 164 L (.inl j :: .inr (.inr (m + 2)) :: r) h Q = (match h.1[m]? with | some (.inr (.inr (t, rs))) => (inA j rs.length = true ∧ 3 ≤ t ∧ t < 6) ∧ G sp sc [78, 105, 115] d mX11_thaw n 165 L (.inr (.inr (rs.getD j.toNat 0)) :: r) h Q | _ => False)) ∧
  (∀ (n d : Nat) (L : List (Option iV)) (st : List iV) (h : iH) (Q : Option iV → iH → Prop), G sp sc [78, 105, 115] d mX11_thaw (n + 1) 165 L st h Q = G sp sc [78, 105, 115] d mX11_thaw n 166 L (.inl 0 :: st) h Q) ∧
  (∀ (n d : Nat) (L : List (Option iV)) (r : List iV) (m : Nat) (z0 : iV) (z1 : iV) (z2 : iV) (h : iH) (Q : Option iV → iH → Prop), G sp sc [78, 105, 115] (d + 1) mX11_thaw (n + 1) 166 L (z2 :: z1 :: z0 :: .inr (.inr (m + 2)) :: r) h Q = (match h.1[m]? with | some (.inl (ci, _)) => (match lkC 11 316 ci with | some (y1, n1, kd) => (n1 = 3 ∧ (kd = 2 ∨ kd = 3 ∨ kd = 8) ∧ cs r ≤ 8) ∧ Call sp sc d y1 [.inr (.inr (m + 2)), z0, z1, z2] h (fun q h1 => GC sp sc [78, 105, 115] (d + 1) mX11_thaw n 169 L q r h h1 Q) | none => False) | _ => False)) ∧
  (∀ (n d : Nat) (L : List (Option iV)) (st : List iV) (h : iH) (Q : Option iV → iH → Prop), G sp sc [78, 105, 115] d mX11_thaw (n + 1) 169 L st h Q = (match ld L 6 with | some (.inl x) => (match st1 L 6 (.inl (x + 1)) with | some L' => G sp sc [78, 105, 115] d mX11_thaw n 172 L' st h Q | none => False) | _ => False)) ∧
  (∀ (n d : Nat) (L : List (Option iV)) (st : List iV) (h : iH) (Q : Option iV → iH → Prop), G sp sc [78, 105, 115] d mX11_thaw (n + 1) 172 L st h Q = Run sp sc d mX11_thaw 105 L st h Q) ∧
  (∀ (n d : Nat) (L : List (Option iV)) (st : List iV) (h : iH) (Q : Option iV → iH → Prop), G sp sc [78, 105, 115] d mX11_thaw (n + 1) 175 L st h Q = (match ld L 0 with | some (.inr (.inr (r + 1))) => G sp sc [78, 105, 115] d mX11_thaw n 176 L (.inr (.inr (r + 1)) :: st) h Q | _ => False)) ∧
  (∀ (n d : Nat) (L : List (Option iV)) (r : List iV) (m : Nat) (h : iH) (Q : Option iV → iH → Prop), G sp sc [78, 105, 115] d mX11_thaw (n + 1) 176 L (.inr (.inr (m + 2)) :: r) h Q = (match h.1[m]? with | some (.inl (ci, fs)) => (match lkF 11 70 ci with | some k => (match fs[k]? with | some v => G sp sc [78, 105, 115] d mX11_thaw n 179 L (v :: r) h Q | none => False) | none => False) | _ => False)) ∧
  (∀ (n d : Nat) (L : List (Option iV)) (st : List iV) (h : iH) (Q : Option iV → iH → Prop), G sp sc [78, 105, 115] d mX11_thaw (n + 1) 179 L st h Q = (match ld L 5 with | some (.inl x) => G sp sc [78, 105, 115] d mX11_thaw n 181 L (.inl x :: st) h Q | _ => False)) ∧
  (∀ (n d : Nat) (L : List (Option iV)) (r : List iV) (j : Int) (m : Nat) (h : iH) (Q : Option iV → iH → Prop), G sp sc [78, 105, 115] d mX11_thaw (n + 1) 181 L (.inl j :: .inr (.inr (m + 2)) :: r) h Q = (match h.1[m]? with | some (.inr (.inr (t, rs))) => (inA j rs.length = true ∧ 3 ≤ t ∧ t < 6) ∧ G sp sc [78, 105, 115] d mX11_thaw n 182 L (.inr (.inr (rs.getD j.toNat 0)) :: r) h Q | _ => False)) ∧
  (∀ (n d : Nat) (L : List (Option iV)) (st : List iV) (h : iH) (Q : Option iV → iH → Prop), G sp sc [78, 105, 115] d mX11_thaw (n + 1) 182 L st h Q = (match ld L 4 with | some (.inl x) => G sp sc [78, 105, 115] d mX11_thaw n 184 L (.inl x :: st) h Q | _ => False)) ∧
  (∀ (n d : Nat) (L : List (Option iV)) (r : List iV) (m : Nat) (z0 : iV) (h : iH) (Q : Option iV → iH → Prop), G sp sc [78, 105, 115] (d + 1) mX11_thaw (n + 1) 184 L (z0 :: .inr (.inr (m + 2)) :: r) h Q = (match h.1[m]? with | some (.inl (ci, _)) => (match lkC 11 313 ci with | some (y1, n1, kd) => (n1 = 1 ∧ (kd = 2 ∨ kd = 3 ∨ kd = 8) ∧ cs r ≤ 8) ∧ Call sp sc d y1 [.inr (.inr (m + 2)), z0] h (fun q h1 => GC sp sc [78, 105, 115] (d + 1) mX11_thaw n 187 L q r h h1 Q) | none => False) | _ => False)) ∧
  (∀ (n d : Nat) (L : List (Option iV)) (a : Int) (h : iH) (Q : Option iV → iH → Prop), G sp sc [78, 105, 115] d mX11_thaw (n + 1) 187 L [.inl a] h Q = Q (some (.inl a)) h) ∧
  lkC 11 185 8 = some (mX8_hasCouple, 1, 2) ∧
  lkC 11 200 8 = some (mX8_goesOn, 1, 2) ∧
  lkC 11 309 2 = some (mX2_become, 1, 2) ∧
  lkC 11 313 2 = some (mX2_tell, 1, 2) ∧
  lkC 11 316 2 = some (mX2_mix, 3, 2) ∧
  lkF 11 17 11 = some 2 ∧
  lkF 11 197 8 = some 9 ∧
  lkF 11 70 11 = some 7 := ⟨by intros; exact G_at (by decide +kernel : fetch mX11_thaw 0 = some (.aload_n 0)),
  by intros; exact G_own (by decide +kernel : fetch mX11_thaw 1 = some (.getfield 17)) (by decide +kernel),
  by intros; exact G_at (by decide +kernel : fetch mX11_thaw 4 = some (.iload_n 1)),
  by intros; exact G_callV (by decide +kernel : fetch mX11_thaw 5 = some (.invokevirtual 185)) (by decide +kernel) (by decide +kernel) rfl,
  by intros; exact G_at (by decide +kernel : fetch mX11_thaw 8 = some (.ifCond .eq 27)),
  by intros; exact G_at (by decide +kernel : fetch mX11_thaw 11 = some (.iload_n 2)),
  by intros; exact G_callS (k := 1) (kd := 0) (by decide +kernel : fetch mX11_thaw 12 = some (.invokestatic 224)) (by decide +kernel) (by decide +kernel) (by decide +kernel) rfl (by decide),
  by intros; exact G_at (by decide +kernel : fetch mX11_thaw 15 = some (.ifCond .eq 20)),
  by intros; exact G_at (by decide +kernel : fetch mX11_thaw 18 = some (.iload_n 3)),
  by intros; exact G_at (by decide +kernel : fetch mX11_thaw 19 = some (.iconst 1)),
  by intros; exact G_at (by decide +kernel : fetch mX11_thaw 20 = some (.if_icmp .lt 15)),
  by intros; exact G_at (by decide +kernel : fetch mX11_thaw 23 = some (.iload_n 3)),
  by intros; exact G_at (by decide +kernel : fetch mX11_thaw 24 = some (.bipush 9)),
  by intros; exact G_at (by decide +kernel : fetch mX11_thaw 26 = some (.if_icmp .gt 9)),
  by intros; exact G_at (by decide +kernel : fetch mX11_thaw 29 = some (.iload 4)),
  by intros; exact G_at (by decide +kernel : fetch mX11_thaw 31 = some (.iconst (-1))),
  by intros; exact G_at (by decide +kernel : fetch mX11_thaw 32 = some (.if_icmp .ge 5)),
  by intros; exact G_at (by decide +kernel : fetch mX11_thaw 35 = some (.iconst (-1))),
  by intros; exact G_reti (by decide +kernel : fetch mX11_thaw 36 = some (.ireturn)) (by decide +kernel),
  by intros; exact G_at (by decide +kernel : fetch mX11_thaw 37 = some (.aload_n 0)),
  by intros; exact G_own (by decide +kernel : fetch mX11_thaw 38 = some (.getfield 17)) (by decide +kernel),
  by intros; exact G_at (by decide +kernel : fetch mX11_thaw 41 = some (.iload_n 1)),
  by intros; exact G_callV (by decide +kernel : fetch mX11_thaw 42 = some (.invokevirtual 200)) (by decide +kernel) (by decide +kernel) rfl,
  by intros; exact G_at (by decide +kernel : fetch mX11_thaw 45 = some (.ifCond .ne 6)),
  by intros; exact G_at (by decide +kernel : fetch mX11_thaw 48 = some (.bipush (-3))),
  by intros; exact G_reti (by decide +kernel : fetch mX11_thaw 50 = some (.ireturn)) (by decide +kernel),
  by intros; exact G_at (by decide +kernel : fetch mX11_thaw 51 = some (.bipush 6)),
  by intros; exact G_at (by decide +kernel : fetch mX11_thaw 53 = some (.aload_n 0)),
  by intros; exact G_own (by decide +kernel : fetch mX11_thaw 54 = some (.getfield 17)) (by decide +kernel),
  by intros; exact G_own (by decide +kernel : fetch mX11_thaw 57 = some (.getfield 197)) (by decide +kernel),
  by intros; exact G_at (by decide +kernel : fetch mX11_thaw 60 = some (.iload_n 1)),
  by intros; exact G_at (by decide +kernel : fetch mX11_thaw 61 = some (.iaload)),
  by intros; exact G_at (by decide +kernel : fetch mX11_thaw 62 = some (.isub)),
  by intros; exact G_at (by decide +kernel : fetch mX11_thaw 63 = some (.istore 5)),
  by intros; exact G_at (by decide +kernel : fetch mX11_thaw 65 = some (.aload_n 0)),
  by intros; exact G_own (by decide +kernel : fetch mX11_thaw 66 = some (.getfield 70)) (by decide +kernel),
  by intros; exact G_at (by decide +kernel : fetch mX11_thaw 69 = some (.iconst 0)),
  by intros; exact G_at (by decide +kernel : fetch mX11_thaw 70 = some (.aaload)),
  by intros; exact G_at (by decide +kernel : fetch mX11_thaw 71 = some (.lconst 1)),
  by intros; exact G_callV (by decide +kernel : fetch mX11_thaw 72 = some (.invokevirtual 309)) (by decide +kernel) (by decide +kernel) rfl,
  by intros; exact G_at (by decide +kernel : fetch mX11_thaw 75 = some (.iconst 1)),
  by intros; exact G_at (by decide +kernel : fetch mX11_thaw 76 = some (.istore 6)),
  by intros; exact G_at (by decide +kernel : fetch mX11_thaw 78 = some (.iload 6)),
  by intros; exact G_at (by decide +kernel : fetch mX11_thaw 80 = some (.iload 5)),
  by intros; exact G_at (by decide +kernel : fetch mX11_thaw 82 = some (.if_icmp .gt 20)),
  by intros; exact G_at (by decide +kernel : fetch mX11_thaw 85 = some (.aload_n 0)),
  by intros; exact G_own (by decide +kernel : fetch mX11_thaw 86 = some (.getfield 70)) (by decide +kernel),
  by intros; exact G_at (by decide +kernel : fetch mX11_thaw 89 = some (.iload 6)),
  by intros; exact G_at (by decide +kernel : fetch mX11_thaw 91 = some (.aaload)),
  by intros; exact G_at (by decide +kernel : fetch mX11_thaw 92 = some (.lconst 0)),
  by intros; exact G_callV (by decide +kernel : fetch mX11_thaw 93 = some (.invokevirtual 309)) (by decide +kernel) (by decide +kernel) rfl,
  by intros; exact G_at (by decide +kernel : fetch mX11_thaw 96 = some (.iinc 6 1)),
  by intros; exact G_at (by decide +kernel : fetch mX11_thaw 99 = some (.goto (-21))),
  by intros; exact G_at (by decide +kernel : fetch mX11_thaw 102 = some (.iconst 0)),
  by intros; exact G_at (by decide +kernel : fetch mX11_thaw 103 = some (.istore 6)),
  by intros; exact G_at (by decide +kernel : fetch mX11_thaw 105 = some (.iload 6)),
  by intros; exact G_at (by decide +kernel : fetch mX11_thaw 107 = some (.iload_n 2)),
  by intros; exact G_at (by decide +kernel : fetch mX11_thaw 108 = some (.if_icmp .ge 67)),
  by intros; exact G_at (by decide +kernel : fetch mX11_thaw 111 = some (.iload 5)),
  by intros; exact G_at (by decide +kernel : fetch mX11_thaw 113 = some (.istore 7)),
  by intros; exact G_at (by decide +kernel : fetch mX11_thaw 115 = some (.iload 7)),
  by intros; exact G_at (by decide +kernel : fetch mX11_thaw 117 = some (.iconst 1)),
  by intros; exact G_at (by decide +kernel : fetch mX11_thaw 118 = some (.if_icmp .lt 33)),
  by intros; exact G_at (by decide +kernel : fetch mX11_thaw 121 = some (.aload_n 0)),
  by intros; exact G_own (by decide +kernel : fetch mX11_thaw 122 = some (.getfield 70)) (by decide +kernel),
  by intros; exact G_at (by decide +kernel : fetch mX11_thaw 125 = some (.iload 7)),
  by intros; exact G_at (by decide +kernel : fetch mX11_thaw 127 = some (.aaload)),
  by intros; exact G_at (by decide +kernel : fetch mX11_thaw 128 = some (.bipush 10)),
  by intros; exact G_at (by decide +kernel : fetch mX11_thaw 130 = some (.iload_n 3)),
  by intros; exact G_at (by decide +kernel : fetch mX11_thaw 131 = some (.isub)),
  by intros; exact G_at (by decide +kernel : fetch mX11_thaw 132 = some (.aload_n 0)),
  by intros; exact G_own (by decide +kernel : fetch mX11_thaw 133 = some (.getfield 70)) (by decide +kernel),
  by intros; exact G_at (by decide +kernel : fetch mX11_thaw 136 = some (.iload 7)),
  by intros; exact G_at (by decide +kernel : fetch mX11_thaw 138 = some (.iconst 1)),
  by intros; exact G_at (by decide +kernel : fetch mX11_thaw 139 = some (.isub)),
  by intros; exact G_at (by decide +kernel : fetch mX11_thaw 140 = some (.aaload)),
  by intros; exact G_at (by decide +kernel : fetch mX11_thaw 141 = some (.iload_n 3)),
  by intros; exact G_callV (by decide +kernel : fetch mX11_thaw 142 = some (.invokevirtual 316)) (by decide +kernel) (by decide +kernel) rfl,
  by intros; exact G_at (by decide +kernel : fetch mX11_thaw 145 = some (.iinc 7 (-1))),
  by intros; exact G_at (by decide +kernel : fetch mX11_thaw 148 = some (.goto (-33))),
  by intros; exact G_at (by decide +kernel : fetch mX11_thaw 151 = some (.aload_n 0)),
  by intros; exact G_own (by decide +kernel : fetch mX11_thaw 152 = some (.getfield 70)) (by decide +kernel),
  by intros; exact G_at (by decide +kernel : fetch mX11_thaw 155 = some (.iconst 0)),
  by intros; exact G_at (by decide +kernel : fetch mX11_thaw 156 = some (.aaload)),
  by intros; exact G_at (by decide +kernel : fetch mX11_thaw 157 = some (.bipush 10)),
  by intros; exact G_at (by decide +kernel : fetch mX11_thaw 159 = some (.aload_n 0)),
  by intros; exact G_own (by decide +kernel : fetch mX11_thaw 160 = some (.getfield 70)) (by decide +kernel),
  by intros; exact G_at (by decide +kernel : fetch mX11_thaw 163 = some (.iconst 0)),
  by intros; exact G_at (by decide +kernel : fetch mX11_thaw 164 = some (.aaload)),
  by intros; exact G_at (by decide +kernel : fetch mX11_thaw 165 = some (.iconst 0)),
  by intros; exact G_callV (by decide +kernel : fetch mX11_thaw 166 = some (.invokevirtual 316)) (by decide +kernel) (by decide +kernel) rfl,
  by intros; exact G_at (by decide +kernel : fetch mX11_thaw 169 = some (.iinc 6 1)),
  by intros; exact G_at (by decide +kernel : fetch mX11_thaw 172 = some (.goto (-67))),
  by intros; exact G_at (by decide +kernel : fetch mX11_thaw 175 = some (.aload_n 0)),
  by intros; exact G_own (by decide +kernel : fetch mX11_thaw 176 = some (.getfield 70)) (by decide +kernel),
  by intros; exact G_at (by decide +kernel : fetch mX11_thaw 179 = some (.iload 5)),
  by intros; exact G_at (by decide +kernel : fetch mX11_thaw 181 = some (.aaload)),
  by intros; exact G_at (by decide +kernel : fetch mX11_thaw 182 = some (.iload 4)),
  by intros; exact G_callV (by decide +kernel : fetch mX11_thaw 184 = some (.invokevirtual 313)) (by decide +kernel) (by decide +kernel) rfl,
  by intros; exact G_reti (by decide +kernel : fetch mX11_thaw 187 = some (.ireturn)) (by decide +kernel),
  by decide +kernel,
  by decide +kernel,
  by decide +kernel,
  by decide +kernel,
  by decide +kernel,
  by decide +kernel,
  by decide +kernel,
  by decide +kernel⟩
theorem gX11_judge : (∀ (n d : Nat) (L : List (Option iV)) (st : List iV) (h : iH) (Q : Option iV → iH → Prop), G sp sc [68] d mX11_judge (n + 1) 0 L st h Q = (match ld L 0 with | some (.inr (.inr (r + 1))) => G sp sc [68] d mX11_judge n 1 L (.inr (.inr (r + 1)) :: st) h Q | _ => False)) ∧
  (∀ (n d : Nat) (L : List (Option iV)) (r : List iV) (m : Nat) (h : iH) (Q : Option iV → iH → Prop), G sp sc [68] d mX11_judge (n + 1) 1 L (.inr (.inr (m + 2)) :: r) h Q = (match h.1[m]? with | some (.inl (ci, fs)) => (match lkF 11 17 ci with | some k => (match fs[k]? with | some v => G sp sc [68] d mX11_judge n 4 L (v :: r) h Q | none => False) | none => False) | _ => False)) ∧
  (∀ (n d : Nat) (L : List (Option iV)) (st : List iV) (h : iH) (Q : Option iV → iH → Prop), G sp sc [68] d mX11_judge (n + 1) 4 L st h Q = (match ld L 1 with | some (.inl x) => G sp sc [68] d mX11_judge n 5 L (.inl x :: st) h Q | _ => False)) ∧
  (∀ (n d : Nat) (L : List (Option iV)) (st : List iV) (h : iH) (Q : Option iV → iH → Prop), G sp sc [68] d mX11_judge (n + 1) 5 L st h Q = (match ld L 2 with | some (.inl x) => G sp sc [68] d mX11_judge n 6 L (.inl x :: st) h Q | _ => False)) ∧
  (∀ (n d : Nat) (L : List (Option iV)) (st : List iV) (h : iH) (Q : Option iV → iH → Prop), G sp sc [68] d mX11_judge (n + 1) 6 L st h Q = (match ld L 3 with | some (.inl x) => G sp sc [68] d mX11_judge n 7 L (.inl x :: st) h Q | _ => False)) ∧
  (∀ (n d : Nat) (L : List (Option iV)) (r : List iV) (m : Nat) (z0 : iV) (z1 : iV) (z2 : iV) (h : iH) (Q : Option iV → iH → Prop), G sp sc [68] (d + 1) mX11_judge (n + 1) 7 L (z2 :: z1 :: z0 :: .inr (.inr (m + 2)) :: r) h Q = (match h.1[m]? with | some (.inl (ci, _)) => (match lkC 11 166 ci with | some (y1, n1, kd) => (n1 = 3 ∧ (kd = 2 ∨ kd = 3 ∨ kd = 8) ∧ cs r ≤ 8) ∧ Call sp sc d y1 [.inr (.inr (m + 2)), z0, z1, z2] h (fun q h1 => GC sp sc [68] (d + 1) mX11_judge n 10 L q r h h1 Q) | none => False) | _ => False)) ∧
  (∀ (n d : Nat) (L : List (Option iV)) (a : Int) (r : List iV) (h : iH) (Q : Option iV → iH → Prop), G sp sc [68] d mX11_judge (n + 1) 10 L (.inl a :: r) h Q = (inI a = true ∧ (a = 0 → G sp sc [68] d mX11_judge n 21 L r h Q) ∧ (¬ (a = 0) → G sp sc [68] d mX11_judge n 13 L r h Q))) ∧
  (∀ (n d : Nat) (L : List (Option iV)) (st : List iV) (h : iH) (Q : Option iV → iH → Prop), G sp sc [68] d mX11_judge (n + 1) 13 L st h Q = (match ld L 4 with | some (.inl x) => G sp sc [68] d mX11_judge n 15 L (.inl x :: st) h Q | _ => False)) ∧
  (∀ (n d : Nat) (L : List (Option iV)) (r : List iV) (z0 : iV) (h : iH) (Q : Option iV → iH → Prop), G sp sc [68] (d + 1) mX11_judge (n + 1) 15 L (z0 :: r) h Q = (cs r ≤ 8 ∧ Call sp sc d mX11_isShelf [z0] h (fun q h1 => GC sp sc [68] (d + 1) mX11_judge n 18 L q r h h1 Q))) ∧
  (∀ (n d : Nat) (L : List (Option iV)) (a : Int) (r : List iV) (h : iH) (Q : Option iV → iH → Prop), G sp sc [68] d mX11_judge (n + 1) 18 L (.inl a :: r) h Q = (inI a = true ∧ (¬ a = 0 → G sp sc [68] d mX11_judge n 23 L r h Q) ∧ (¬ (¬ a = 0) → G sp sc [68] d mX11_judge n 21 L r h Q))) ∧
  (∀ (n d : Nat) (L : List (Option iV)) (st : List iV) (h : iH) (Q : Option iV → iH → Prop), G sp sc [68] d mX11_judge (n + 1) 21 L st h Q = G sp sc [68] d mX11_judge n 22 L (.inl (-1) :: st) h Q) ∧
  (∀ (n d : Nat) (L : List (Option iV)) (a : Int) (h : iH) (Q : Option iV → iH → Prop), G sp sc [68] d mX11_judge (n + 1) 22 L [.inl a] h Q = Q (some (.inl a)) h) ∧
  (∀ (n d : Nat) (L : List (Option iV)) (st : List iV) (h : iH) (Q : Option iV → iH → Prop), G sp sc [68] d mX11_judge (n + 1) 23 L st h Q = (match ld L 0 with | some (.inr (.inr (r + 1))) => G sp sc [68] d mX11_judge n 24 L (.inr (.inr (r + 1)) :: st) h Q | _ => False)) ∧
  (∀ (n d : Nat) (L : List (Option iV)) (r : List iV) (m : Nat) (h : iH) (Q : Option iV → iH → Prop), G sp sc [68] d mX11_judge (n + 1) 24 L (.inr (.inr (m + 2)) :: r) h Q = (match h.1[m]? with | some (.inl (ci, fs)) => (match lkF 11 63 ci with | some k => (match fs[k]? with | some v => G sp sc [68] d mX11_judge n 27 L (v :: r) h Q | none => False) | none => False) | _ => False)) ∧
  (∀ (n d : Nat) (L : List (Option iV)) (st : List iV) (h : iH) (Q : Option iV → iH → Prop), G sp sc [68] d mX11_judge (n + 1) 27 L st h Q = (match ld L 4 with | some (.inl x) => G sp sc [68] d mX11_judge n 29 L (.inl x :: st) h Q | _ => False)) ∧
  (∀ (n d : Nat) (L : List (Option iV)) (r : List iV) (j : Int) (m : Nat) (h : iH) (Q : Option iV → iH → Prop), G sp sc [68] d mX11_judge (n + 1) 29 L (.inl j :: .inr (.inr (m + 2)) :: r) h Q = (match h.1[m]? with | some (.inr (.inr (t, rs))) => (inA j rs.length = true ∧ 3 ≤ t ∧ t < 6) ∧ G sp sc [68] d mX11_judge n 30 L (.inr (.inr (rs.getD j.toNat 0)) :: r) h Q | _ => False)) ∧
  (∀ (n d : Nat) (L : List (Option iV)) (r : List iV) (x : Nat) (h : iH) (Q : Option iV → iH → Prop), G sp sc [68] d mX11_judge (n + 1) 30 L (.inr (.inr (x + 1)) :: r) h Q = (match st1 L 5 (.inr (.inr (x + 1))) with | some L' => G sp sc [68] d mX11_judge n 32 L' r h Q | none => False)) ∧
  (∀ (n d : Nat) (L : List (Option iV)) (st : List iV) (h : iH) (Q : Option iV → iH → Prop), G sp sc [68] d mX11_judge (n + 1) 32 L st h Q = (match ld L 5 with | some (.inr (.inr (r + 1))) => G sp sc [68] d mX11_judge n 34 L (.inr (.inr (r + 1)) :: st) h Q | _ => False)) ∧
  (∀ (n d : Nat) (L : List (Option iV)) (r : List iV) (m : Nat) (h : iH) (Q : Option iV → iH → Prop), G sp sc [68] (d + 1) mX11_judge (n + 1) 34 L (.inr (.inr (m + 2)) :: r) h Q = (match h.1[m]? with | some (.inl (ci, _)) => (match lkC 11 267 ci with | some (y1, n1, kd) => (n1 = 0 ∧ (kd = 2 ∨ kd = 3 ∨ kd = 8) ∧ cs r ≤ 8) ∧ Call sp sc d y1 [.inr (.inr (m + 2))] h (fun q h1 => GC sp sc [68] (d + 1) mX11_judge n 37 L q r h h1 Q) | none => False) | _ => False)) ∧
  (∀ (n d : Nat) (L : List (Option iV)) (r : List iV) (x : Int) (h : iH) (Q : Option iV → iH → Prop), G sp sc [68] d mX11_judge (n + 1) 37 L (.inl x :: r) h Q = (match st1 L 6 (.inl x) with | some L' => G sp sc [68] d mX11_judge n 39 L' r h Q | none => False)) ∧
  (∀ (n d : Nat) (L : List (Option iV)) (st : List iV) (h : iH) (Q : Option iV → iH → Prop), G sp sc [68] d mX11_judge (n + 1) 39 L st h Q = (match ld L 6 with | some (.inl x) => G sp sc [68] d mX11_judge n 41 L (.inl x :: st) h Q | _ => False)) ∧
  (∀ (n d : Nat) (L : List (Option iV)) (a : Int) (r : List iV) (h : iH) (Q : Option iV → iH → Prop), G sp sc [68] d mX11_judge (n + 1) 41 L (.inl a :: r) h Q = (inI a = true ∧ (a = 0 → G sp sc [68] d mX11_judge n 47 L r h Q) ∧ (¬ (a = 0) → G sp sc [68] d mX11_judge n 44 L r h Q))) ∧
  (∀ (n d : Nat) (L : List (Option iV)) (st : List iV) (h : iH) (Q : Option iV → iH → Prop), G sp sc [68] d mX11_judge (n + 1) 44 L st h Q = (match ld L 6 with | some (.inl x) => G sp sc [68] d mX11_judge n 46 L (.inl x :: st) h Q | _ => False)) ∧
  (∀ (n d : Nat) (L : List (Option iV)) (a : Int) (h : iH) (Q : Option iV → iH → Prop), G sp sc [68] d mX11_judge (n + 1) 46 L [.inl a] h Q = Q (some (.inl a)) h) ∧
  (∀ (n d : Nat) (L : List (Option iV)) (st : List iV) (h : iH) (Q : Option iV → iH → Prop), G sp sc [68] d mX11_judge (n + 1) 47 L st h Q = (match ld L 5 with | some (.inr (.inr (r + 1))) => G sp sc [68] d mX11_judge n 49 L (.inr (.inr (r + 1)) :: st) h Q | _ => False)) ∧
  (∀ (n d : Nat) (L : List (Option iV)) (r : List iV) (m : Nat) (h : iH) (Q : Option iV → iH → Prop), G sp sc [68] (d + 1) mX11_judge (n + 1) 49 L (.inr (.inr (m + 2)) :: r) h Q = (match h.1[m]? with | some (.inl (ci, _)) => (match lkC 11 320 ci with | some (y1, n1, kd) => (n1 = 0 ∧ (kd = 2 ∨ kd = 3 ∨ kd = 8) ∧ cs r ≤ 8) ∧ Call sp sc d y1 [.inr (.inr (m + 2))] h (fun q h1 => GC sp sc [68] (d + 1) mX11_judge n 52 L q r h h1 Q) | none => False) | _ => False)) ∧
  (∀ (n d : Nat) (L : List (Option iV)) (r : List iV) (x : Int) (h : iH) (Q : Option iV → iH → Prop), G sp sc [68] d mX11_judge (n + 1) 52 L (.inr (.inl x) :: r) h Q = (match st2 L 7 (.inr (.inl x)) with | some L' => G sp sc [68] d mX11_judge n 54 L' r h Q | none => False)) ∧
  (∀ (n d : Nat) (L : List (Option iV)) (st : List iV) (h : iH) (Q : Option iV → iH → Prop), G sp sc [68] d mX11_judge (n + 1) 54 L st h Q = (match ld L 0 with | some (.inr (.inr (r + 1))) => G sp sc [68] d mX11_judge n 55 L (.inr (.inr (r + 1)) :: st) h Q | _ => False)) ∧
  (∀ (n d : Nat) (L : List (Option iV)) (r : List iV) (m : Nat) (h : iH) (Q : Option iV → iH → Prop), G sp sc [68] d mX11_judge (n + 1) 55 L (.inr (.inr (m + 2)) :: r) h Q = (match h.1[m]? with | some (.inl (ci, fs)) => (match lkF 11 38 ci with | some k => (match fs[k]? with | some v => G sp sc [68] d mX11_judge n 58 L (v :: r) h Q | none => False) | none => False) | _ => False)) ∧
  (∀ (n d : Nat) (L : List (Option iV)) (st : List iV) (h : iH) (Q : Option iV → iH → Prop), G sp sc [68] d mX11_judge (n + 1) 58 L st h Q = (match ld L 0 with | some (.inr (.inr (r + 1))) => G sp sc [68] d mX11_judge n 59 L (.inr (.inr (r + 1)) :: st) h Q | _ => False)) ∧
  (∀ (n d : Nat) (L : List (Option iV)) (r : List iV) (m : Nat) (h : iH) (Q : Option iV → iH → Prop), G sp sc [68] d mX11_judge (n + 1) 59 L (.inr (.inr (m + 2)) :: r) h Q = (match h.1[m]? with | some (.inl (ci, fs)) => (match lkF 11 17 ci with | some k => (match fs[k]? with | some v => G sp sc [68] d mX11_judge n 62 L (v :: r) h Q | none => False) | none => False) | _ => False)) ∧
  (∀ (n d : Nat) (L : List (Option iV)) (r : List iV) (m : Nat) (z0 : iV) (h : iH) (Q : Option iV → iH → Prop), G sp sc [68] (d + 1) mX11_judge (n + 1) 62 L (z0 :: .inr (.inr (m + 2)) :: r) h Q = (match h.1[m]? with | some (.inl (ci, _)) => (match lkC 11 90 ci with | some (y1, n1, kd) => (n1 = 1 ∧ (kd = 2 ∨ kd = 3 ∨ kd = 8) ∧ cs r ≤ 8) ∧ Call sp sc d y1 [.inr (.inr (m + 2)), z0] h (fun q h1 => GC sp sc [68] (d + 1) mX11_judge n 65 L q r h h1 Q) | none => False) | _ => False)) ∧
  (∀ (n d : Nat) (L : List (Option iV)) (st : List iV) (h : iH) (Q : Option iV → iH → Prop), G sp sc [68] d mX11_judge (n + 1) 65 L st h Q = G sp sc [68] d mX11_judge n 66 L (.inl 0 :: st) h Q) ∧
  (∀ (n d : Nat) (L : List (Option iV)) (r : List iV) (x : Int) (h : iH) (Q : Option iV → iH → Prop), G sp sc [68] d mX11_judge (n + 1) 66 L (.inl x :: r) h Q = (match st1 L 9 (.inl x) with | some L' => Run sp sc d mX11_judge 68 L' r h Q | none => False)) ∧
  (∀ (n d : Nat) (L : List (Option iV)) (st : List iV) (h : iH) (Q : Option iV → iH → Prop), G sp sc [68] d mX11_judge (n + 1) 68 L st h Q = (match ld L 9 with | some (.inl x) => G sp sc [68] d mX11_judge n 70 L (.inl x :: st) h Q | _ => False)) ∧
  (∀ (n d : Nat) (L : List (Option iV)) (st : List iV) (h : iH) (Q : Option iV → iH → Prop), G sp sc [68] d mX11_judge (n + 1) 70 L st h Q = (match ld L 5 with | some (.inr (.inr (r + 1))) => G sp sc [68] d mX11_judge n 72 L (.inr (.inr (r + 1)) :: st) h Q | _ => False)) ∧
  (∀ (n d : Nat) (L : List (Option iV)) (r : List iV) (m : Nat) (h : iH) (Q : Option iV → iH → Prop), G sp sc [68] d mX11_judge (n + 1) 72 L (.inr (.inr (m + 2)) :: r) h Q = (match h.1[m]? with | some (.inl (ci, fs)) => (match lkF 11 93 ci with | some k => (match fs[k]? with | some v => G sp sc [68] d mX11_judge n 75 L (v :: r) h Q | none => False) | none => False) | _ => False)) ∧
  (∀ (n d : Nat) (L : List (Option iV)) (a : Int) (b : Int) (r : List iV) (h : iH) (Q : Option iV → iH → Prop), G sp sc [68] d mX11_judge (n + 1) 75 L (.inl b :: .inl a :: r) h Q = ((inI a = true ∧ inI b = true) ∧ (b ≤ a → G sp sc [68] d mX11_judge n 142 L r h Q) ∧ (¬ (b ≤ a) → G sp sc [68] d mX11_judge n 78 L r h Q))) ∧
  (∀ (n d : Nat) (L : List (Option iV)) (st : List iV) (h : iH) (Q : Option iV → iH → Prop), G sp sc [68] d mX11_judge (n + 1) 78 L st h Q = (match ld L 5 with | some (.inr (.inr (r + 1))) => G sp sc [68] d mX11_judge n 80 L (.inr (.inr (r + 1)) :: st) h Q | _ => False)) ∧
  (∀ (n d : Nat) (L : List (Option iV)) (r : List iV) (m : Nat) (h : iH) (Q : Option iV → iH → Prop), G sp sc [68] d mX11_judge (n + 1) 80 L (.inr (.inr (m + 2)) :: r) h Q = (match h.1[m]? with | some (.inl (ci, fs)) => (match lkF 11 273 ci with | some k => (match fs[k]? with | some v => G sp sc [68] d mX11_judge n 83 L (v :: r) h Q | none => False) | none => False) | _ => False)) ∧
  (∀ (n d : Nat) (L : List (Option iV)) (st : List iV) (h : iH) (Q : Option iV → iH → Prop), G sp sc [68] d mX11_judge (n + 1) 83 L st h Q = (match ld L 9 with | some (.inl x) => G sp sc [68] d mX11_judge n 85 L (.inl x :: st) h Q | _ => False)) ∧
  (∀ (n d : Nat) (L : List (Option iV)) (r : List iV) (j : Int) (m : Nat) (h : iH) (Q : Option iV → iH → Prop), G sp sc [68] d mX11_judge (n + 1) 85 L (.inl j :: .inr (.inr (m + 2)) :: r) h Q = (match h.1[m]? with | some (.inr (.inl (1, xs))) => inA j xs.length = true ∧ G sp sc [68] d mX11_judge n 86 L (.inr (.inl (xs.getD j.toNat 0)) :: r) h Q | _ => False)) ∧
  (∀ (n d : Nat) (L : List (Option iV)) (st : List iV) (h : iH) (Q : Option iV → iH → Prop), G sp sc [68] d mX11_judge (n + 1) 86 L st h Q = (match ld L 7 with | some (.inr (.inl x)) => G sp sc [68] d mX11_judge n 88 L (.inr (.inl x) :: st) h Q | _ => False)) ∧
  (∀ (n d : Nat) (L : List (Option iV)) (a : Int) (b : Int) (r : List iV) (h : iH) (Q : Option iV → iH → Prop), G sp sc [68] d mX11_judge (n + 1) 88 L (.inr (.inl b) :: .inr (.inl a) :: r) h Q = ((inJ a = true ∧ inJ b = true) ∧ G sp sc [68] d mX11_judge n 89 L (.inl (if b < a then 1 else if a = b then 0 else -1) :: r) h Q)) ∧
  (∀ (n d : Nat) (L : List (Option iV)) (a : Int) (r : List iV) (h : iH) (Q : Option iV → iH → Prop), G sp sc [68] d mX11_judge (n + 1) 89 L (.inl a :: r) h Q = (inI a = true ∧ (a = 0 → G sp sc [68] d mX11_judge n 128 L r h Q) ∧ (¬ (a = 0) → G sp sc [68] d mX11_judge n 92 L r h Q))) ∧
  (∀ (n d : Nat) (L : List (Option iV)) (st : List iV) (h : iH) (Q : Option iV → iH → Prop), G sp sc [68] d mX11_judge (n + 1) 92 L st h Q = (match ld L 9 with | some (.inl x) => G sp sc [68] d mX11_judge n 94 L (.inl x :: st) h Q | _ => False)) ∧
  (∀ (n d : Nat) (L : List (Option iV)) (st : List iV) (h : iH) (Q : Option iV → iH → Prop), G sp sc [68] d mX11_judge (n + 1) 94 L st h Q = ((-128 ≤ (60 : Int) ∧ (60 : Int) < 128) ∧ G sp sc [68] d mX11_judge n 96 L (.inl 60 :: st) h Q)) ∧
  (∀ (n d : Nat) (L : List (Option iV)) (a : Int) (b : Int) (r : List iV) (h : iH) (Q : Option iV → iH → Prop), G sp sc [68] d mX11_judge (n + 1) 96 L (.inl b :: .inl a :: r) h Q = ((inI a = true ∧ inI b = true) ∧ (b < a → G sp sc [68] d mX11_judge n 125 L r h Q) ∧ (¬ (b < a) → G sp sc [68] d mX11_judge n 99 L r h Q))) ∧
  (∀ (n d : Nat) (L : List (Option iV)) (st : List iV) (h : iH) (Q : Option iV → iH → Prop), G sp sc [68] d mX11_judge (n + 1) 99 L st h Q = (match ld L 5 with | some (.inr (.inr (r + 1))) => G sp sc [68] d mX11_judge n 101 L (.inr (.inr (r + 1)) :: st) h Q | _ => False)) ∧
  (∀ (n d : Nat) (L : List (Option iV)) (r : List iV) (m : Nat) (h : iH) (Q : Option iV → iH → Prop), G sp sc [68] d mX11_judge (n + 1) 101 L (.inr (.inr (m + 2)) :: r) h Q = (match h.1[m]? with | some (.inl (ci, fs)) => (match lkF 11 273 ci with | some k => (match fs[k]? with | some v => G sp sc [68] d mX11_judge n 104 L (v :: r) h Q | none => False) | none => False) | _ => False)) ∧
  (∀ (n d : Nat) (L : List (Option iV)) (st : List iV) (h : iH) (Q : Option iV → iH → Prop), G sp sc [68] d mX11_judge (n + 1) 104 L st h Q = (match ld L 9 with | some (.inl x) => G sp sc [68] d mX11_judge n 106 L (.inl x :: st) h Q | _ => False)) ∧
  (∀ (n d : Nat) (L : List (Option iV)) (r : List iV) (j : Int) (m : Nat) (h : iH) (Q : Option iV → iH → Prop), G sp sc [68] d mX11_judge (n + 1) 106 L (.inl j :: .inr (.inr (m + 2)) :: r) h Q = (match h.1[m]? with | some (.inr (.inl (1, xs))) => inA j xs.length = true ∧ G sp sc [68] d mX11_judge n 107 L (.inr (.inl (xs.getD j.toNat 0)) :: r) h Q | _ => False)) ∧
  (∀ (n d : Nat) (L : List (Option iV)) (st : List iV) (h : iH) (Q : Option iV → iH → Prop), G sp sc [68] d mX11_judge (n + 1) 107 L st h Q = (match ld L 0 with | some (.inr (.inr (r + 1))) => G sp sc [68] d mX11_judge n 108 L (.inr (.inr (r + 1)) :: st) h Q | _ => False)) ∧
  (∀ (n d : Nat) (L : List (Option iV)) (r : List iV) (m : Nat) (h : iH) (Q : Option iV → iH → Prop), G sp sc [68] d mX11_judge (n + 1) 108 L (.inr (.inr (m + 2)) :: r) h Q = (match h.1[m]? with | some (.inl (ci, fs)) => (match lkF 11 38 ci with | some k => (match fs[k]? with | some v => G sp sc [68] d mX11_judge n 111 L (v :: r) h Q | none => False) | none => False) | _ => False)) ∧
  (∀ (n d : Nat) (L : List (Option iV)) (r : List iV) (m : Nat) (h : iH) (Q : Option iV → iH → Prop), G sp sc [68] d mX11_judge (n + 1) 111 L (.inr (.inr (m + 2)) :: r) h Q = (match h.1[m]? with | some (.inl (ci, fs)) => (match lkF 11 107 ci with | some k => (match fs[k]? with | some v => G sp sc [68] d mX11_judge n 114 L (v :: r) h Q | none => False) | none => False) | _ => False)) ∧
  (∀ (n d : Nat) (L : List (Option iV)) (st : List iV) (h : iH) (Q : Option iV → iH → Prop), G sp sc [68] d mX11_judge (n + 1) 114 L st h Q = (match ld L 1 with | some (.inl x) => G sp sc [68] d mX11_judge n 115 L (.inl x :: st) h Q | _ => False)) ∧
  (∀ (n d : Nat) (L : List (Option iV)) (st : List iV) (h : iH) (Q : Option iV → iH → Prop), G sp sc [68] d mX11_judge (n + 1) 115 L st h Q = (match ld L 2 with | some (.inl x) => G sp sc [68] d mX11_judge n 116 L (.inl x :: st) h Q | _ => False)) ∧
  (∀ (n d : Nat) (L : List (Option iV)) (st : List iV) (h : iH) (Q : Option iV → iH → Prop), G sp sc [68] d mX11_judge (n + 1) 116 L st h Q = (match ld L 3 with | some (.inl x) => G sp sc [68] d mX11_judge n 117 L (.inl x :: st) h Q | _ => False)) ∧
  (∀ (n d : Nat) (L : List (Option iV)) (r : List iV) (m : Nat) (z0 : iV) (z1 : iV) (z2 : iV) (h : iH) (Q : Option iV → iH → Prop), G sp sc [68] (d + 1) mX11_judge (n + 1) 117 L (z2 :: z1 :: z0 :: .inr (.inr (m + 2)) :: r) h Q = (match h.1[m]? with | some (.inl (ci, _)) => (match lkC 11 170 ci with | some (y1, n1, kd) => (n1 = 3 ∧ (kd = 2 ∨ kd = 3 ∨ kd = 8) ∧ cs r ≤ 8) ∧ Call sp sc d y1 [.inr (.inr (m + 2)), z0, z1, z2] h (fun q h1 => GC sp sc [68] (d + 1) mX11_judge n 120 L q r h h1 Q) | none => False) | _ => False)) ∧
  (∀ (n d : Nat) (L : List (Option iV)) (a : Int) (r : List iV) (h : iH) (Q : Option iV → iH → Prop), G sp sc [68] d mX11_judge (n + 1) 120 L (.inl a :: r) h Q = (inI a = true ∧ G sp sc [68] d mX11_judge n 121 L (.inr (.inl a) :: r) h Q)) ∧
  (∀ (n d : Nat) (L : List (Option iV)) (a : Int) (b : Int) (r : List iV) (h : iH) (Q : Option iV → iH → Prop), G sp sc [68] d mX11_judge (n + 1) 121 L (.inr (.inl b) :: .inr (.inl a) :: r) h Q = ((inJ a = true ∧ inJ b = true) ∧ G sp sc [68] d mX11_judge n 122 L (.inl (if b < a then 1 else if a = b then 0 else -1) :: r) h Q)) ∧
  (∀ (n d : Nat) (L : List (Option iV)) (a : Int) (r : List iV) (h : iH) (Q : Option iV → iH → Prop), G sp sc [68] d mX11_judge (n + 1) 122 L (.inl a :: r) h Q = (inI a = true ∧ (a = 0 → G sp sc [68] d mX11_judge n 128 L r h Q) ∧ (¬ (a = 0) → G sp sc [68] d mX11_judge n 125 L r h Q))) ∧
  (∀ (n d : Nat) (L : List (Option iV)) (st : List iV) (h : iH) (Q : Option iV → iH → Prop), G sp sc [68] d mX11_judge (n + 1) 125 L st h Q = (match ld L 9 with | some (.inl x) => G sp sc [68] d mX11_judge n 127 L (.inl x :: st) h Q | _ => False)) ∧
  (∀ (n d : Nat) (L : List (Option iV)) (a : Int) (h : iH) (Q : Option iV → iH → Prop), G sp sc [68] d mX11_judge (n + 1) 127 L [.inl a] h Q = Q (some (.inl a)) h) ∧
  (∀ (n d : Nat) (L : List (Option iV)) (st : List iV) (h : iH) (Q : Option iV → iH → Prop), G sp sc [68] d mX11_judge (n + 1) 128 L st h Q = (match ld L 0 with | some (.inr (.inr (r + 1))) => G sp sc [68] d mX11_judge n 129 L (.inr (.inr (r + 1)) :: st) h Q | _ => False)) ∧
  (∀ (n d : Nat) (L : List (Option iV)) (r : List iV) (m : Nat) (h : iH) (Q : Option iV → iH → Prop), G sp sc [68] d mX11_judge (n + 1) 129 L (.inr (.inr (m + 2)) :: r) h Q = (match h.1[m]? with | some (.inl (ci, fs)) => (match lkF 11 38 ci with | some k => (match fs[k]? with | some v => G sp sc [68] d mX11_judge n 132 L (v :: r) h Q | none => False) | none => False) | _ => False)) ∧
  (∀ (n d : Nat) (L : List (Option iV)) (st : List iV) (h : iH) (Q : Option iV → iH → Prop), G sp sc [68] d mX11_judge (n + 1) 132 L st h Q = G sp sc [68] d mX11_judge n 133 L (.inl 1 :: st) h Q) ∧
  (∀ (n d : Nat) (L : List (Option iV)) (r : List iV) (m : Nat) (z0 : iV) (h : iH) (Q : Option iV → iH → Prop), G sp sc [68] (d + 1) mX11_judge (n + 1) 133 L (z0 :: .inr (.inr (m + 2)) :: r) h Q = (match h.1[m]? with | some (.inl (ci, _)) => (match lkC 11 218 ci with | some (y1, n1, kd) => (n1 = 1 ∧ (kd = 2 ∨ kd = 3 ∨ kd = 8) ∧ cs r ≤ 8) ∧ Call sp sc d y1 [.inr (.inr (m + 2)), z0] h (fun q h1 => GC sp sc [68] (d + 1) mX11_judge n 136 L q r h h1 Q) | none => False) | _ => False)) ∧
  (∀ (n d : Nat) (L : List (Option iV)) (st : List iV) (h : iH) (Q : Option iV → iH → Prop), G sp sc [68] d mX11_judge (n + 1) 136 L st h Q = (match ld L 9 with | some (.inl x) => (match st1 L 9 (.inl (x + 1)) with | some L' => G sp sc [68] d mX11_judge n 139 L' st h Q | none => False) | _ => False)) ∧
  (∀ (n d : Nat) (L : List (Option iV)) (st : List iV) (h : iH) (Q : Option iV → iH → Prop), G sp sc [68] d mX11_judge (n + 1) 139 L st h Q = Run sp sc d mX11_judge 68 L st h Q) ∧
  (∀ (n d : Nat) (L : List (Option iV)) (st : List iV) (h : iH) (Q : Option iV → iH → Prop), G sp sc [68] d mX11_judge (n + 1) 142 L st h Q = ((-128 ≤ ((-4) : Int) ∧ ((-4) : Int) < 128) ∧ G sp sc [68] d mX11_judge n 144 L (.inl (-4) :: st) h Q)) ∧
  (∀ (n d : Nat) (L : List (Option iV)) (a : Int) (h : iH) (Q : Option iV → iH → Prop), G sp sc [68] d mX11_judge (n + 1) 144 L [.inl a] h Q = Q (some (.inl a)) h) ∧
  lkC 11 166 8 = some (mX8_hasTwo, 3, 2) ∧
  lkC 11 170 8 = some (mX8_liking, 3, 2) ∧
  lkC 11 218 10 = some (mX10_pass, 1, 2) ∧
  lkC 11 267 5 = some (mX5_refusalAsRow, 0, 2) ∧
  lkC 11 320 5 = some (mX5_leastOfSort, 0, 2) ∧
  lkC 11 90 10 = some (mX10_begin, 1, 2) ∧
  lkF 11 107 10 = some 0 ∧
  lkF 11 17 11 = some 2 ∧
  lkF 11 273 5 = some 4 ∧
  lkF 11 38 11 = some 5 ∧
  lkF 11 63 11 = some 1 ∧
  lkF 11 93 5 = some 3 := ⟨by intros; exact G_at (by decide +kernel : fetch mX11_judge 0 = some (.aload_n 0)),
  by intros; exact G_own (by decide +kernel : fetch mX11_judge 1 = some (.getfield 17)) (by decide +kernel),
  by intros; exact G_at (by decide +kernel : fetch mX11_judge 4 = some (.iload_n 1)),
  by intros; exact G_at (by decide +kernel : fetch mX11_judge 5 = some (.iload_n 2)),
  by intros; exact G_at (by decide +kernel : fetch mX11_judge 6 = some (.iload_n 3)),
  by intros; exact G_callV (by decide +kernel : fetch mX11_judge 7 = some (.invokevirtual 166)) (by decide +kernel) (by decide +kernel) rfl,
  by intros; exact G_at (by decide +kernel : fetch mX11_judge 10 = some (.ifCond .eq 11)),
  by intros; exact G_at (by decide +kernel : fetch mX11_judge 13 = some (.iload 4)),
  by intros; exact G_callS (k := 1) (kd := 0) (by decide +kernel : fetch mX11_judge 15 = some (.invokestatic 75)) (by decide +kernel) (by decide +kernel) (by decide +kernel) rfl (by decide),
  by intros; exact G_at (by decide +kernel : fetch mX11_judge 18 = some (.ifCond .ne 5)),
  by intros; exact G_at (by decide +kernel : fetch mX11_judge 21 = some (.iconst (-1))),
  by intros; exact G_reti (by decide +kernel : fetch mX11_judge 22 = some (.ireturn)) (by decide +kernel),
  by intros; exact G_at (by decide +kernel : fetch mX11_judge 23 = some (.aload_n 0)),
  by intros; exact G_own (by decide +kernel : fetch mX11_judge 24 = some (.getfield 63)) (by decide +kernel),
  by intros; exact G_at (by decide +kernel : fetch mX11_judge 27 = some (.iload 4)),
  by intros; exact G_at (by decide +kernel : fetch mX11_judge 29 = some (.aaload)),
  by intros; exact G_at (by decide +kernel : fetch mX11_judge 30 = some (.astore 5)),
  by intros; exact G_at (by decide +kernel : fetch mX11_judge 32 = some (.aload 5)),
  by intros; exact G_callV (by decide +kernel : fetch mX11_judge 34 = some (.invokevirtual 267)) (by decide +kernel) (by decide +kernel) rfl,
  by intros; exact G_at (by decide +kernel : fetch mX11_judge 37 = some (.istore 6)),
  by intros; exact G_at (by decide +kernel : fetch mX11_judge 39 = some (.iload 6)),
  by intros; exact G_at (by decide +kernel : fetch mX11_judge 41 = some (.ifCond .eq 6)),
  by intros; exact G_at (by decide +kernel : fetch mX11_judge 44 = some (.iload 6)),
  by intros; exact G_reti (by decide +kernel : fetch mX11_judge 46 = some (.ireturn)) (by decide +kernel),
  by intros; exact G_at (by decide +kernel : fetch mX11_judge 47 = some (.aload 5)),
  by intros; exact G_callV (by decide +kernel : fetch mX11_judge 49 = some (.invokevirtual 320)) (by decide +kernel) (by decide +kernel) rfl,
  by intros; exact G_at (by decide +kernel : fetch mX11_judge 52 = some (.lstore 7)),
  by intros; exact G_at (by decide +kernel : fetch mX11_judge 54 = some (.aload_n 0)),
  by intros; exact G_own (by decide +kernel : fetch mX11_judge 55 = some (.getfield 38)) (by decide +kernel),
  by intros; exact G_at (by decide +kernel : fetch mX11_judge 58 = some (.aload_n 0)),
  by intros; exact G_own (by decide +kernel : fetch mX11_judge 59 = some (.getfield 17)) (by decide +kernel),
  by intros; exact G_callV (by decide +kernel : fetch mX11_judge 62 = some (.invokevirtual 90)) (by decide +kernel) (by decide +kernel) rfl,
  by intros; exact G_at (by decide +kernel : fetch mX11_judge 65 = some (.iconst 0)),
  by intros; exact G_at (by decide +kernel : fetch mX11_judge 66 = some (.istore 9)),
  by intros; exact G_at (by decide +kernel : fetch mX11_judge 68 = some (.iload 9)),
  by intros; exact G_at (by decide +kernel : fetch mX11_judge 70 = some (.aload 5)),
  by intros; exact G_own (by decide +kernel : fetch mX11_judge 72 = some (.getfield 93)) (by decide +kernel),
  by intros; exact G_at (by decide +kernel : fetch mX11_judge 75 = some (.if_icmp .ge 67)),
  by intros; exact G_at (by decide +kernel : fetch mX11_judge 78 = some (.aload 5)),
  by intros; exact G_own (by decide +kernel : fetch mX11_judge 80 = some (.getfield 273)) (by decide +kernel),
  by intros; exact G_at (by decide +kernel : fetch mX11_judge 83 = some (.iload 9)),
  by intros; exact G_at (by decide +kernel : fetch mX11_judge 85 = some (.laload)),
  by intros; exact G_at (by decide +kernel : fetch mX11_judge 86 = some (.lload 7)),
  by intros; exact G_at (by decide +kernel : fetch mX11_judge 88 = some (.lcmp)),
  by intros; exact G_at (by decide +kernel : fetch mX11_judge 89 = some (.ifCond .eq 39)),
  by intros; exact G_at (by decide +kernel : fetch mX11_judge 92 = some (.iload 9)),
  by intros; exact G_at (by decide +kernel : fetch mX11_judge 94 = some (.bipush 60)),
  by intros; exact G_at (by decide +kernel : fetch mX11_judge 96 = some (.if_icmp .gt 29)),
  by intros; exact G_at (by decide +kernel : fetch mX11_judge 99 = some (.aload 5)),
  by intros; exact G_own (by decide +kernel : fetch mX11_judge 101 = some (.getfield 273)) (by decide +kernel),
  by intros; exact G_at (by decide +kernel : fetch mX11_judge 104 = some (.iload 9)),
  by intros; exact G_at (by decide +kernel : fetch mX11_judge 106 = some (.laload)),
  by intros; exact G_at (by decide +kernel : fetch mX11_judge 107 = some (.aload_n 0)),
  by intros; exact G_own (by decide +kernel : fetch mX11_judge 108 = some (.getfield 38)) (by decide +kernel),
  by intros; exact G_own (by decide +kernel : fetch mX11_judge 111 = some (.getfield 107)) (by decide +kernel),
  by intros; exact G_at (by decide +kernel : fetch mX11_judge 114 = some (.iload_n 1)),
  by intros; exact G_at (by decide +kernel : fetch mX11_judge 115 = some (.iload_n 2)),
  by intros; exact G_at (by decide +kernel : fetch mX11_judge 116 = some (.iload_n 3)),
  by intros; exact G_callV (by decide +kernel : fetch mX11_judge 117 = some (.invokevirtual 170)) (by decide +kernel) (by decide +kernel) rfl,
  by intros; exact G_at (by decide +kernel : fetch mX11_judge 120 = some (.i2l)),
  by intros; exact G_at (by decide +kernel : fetch mX11_judge 121 = some (.lcmp)),
  by intros; exact G_at (by decide +kernel : fetch mX11_judge 122 = some (.ifCond .eq 6)),
  by intros; exact G_at (by decide +kernel : fetch mX11_judge 125 = some (.iload 9)),
  by intros; exact G_reti (by decide +kernel : fetch mX11_judge 127 = some (.ireturn)) (by decide +kernel),
  by intros; exact G_at (by decide +kernel : fetch mX11_judge 128 = some (.aload_n 0)),
  by intros; exact G_own (by decide +kernel : fetch mX11_judge 129 = some (.getfield 38)) (by decide +kernel),
  by intros; exact G_at (by decide +kernel : fetch mX11_judge 132 = some (.iconst 1)),
  by intros; exact G_callV (by decide +kernel : fetch mX11_judge 133 = some (.invokevirtual 218)) (by decide +kernel) (by decide +kernel) rfl,
  by intros; exact G_at (by decide +kernel : fetch mX11_judge 136 = some (.iinc 9 1)),
  by intros; exact G_at (by decide +kernel : fetch mX11_judge 139 = some (.goto (-71))),
  by intros; exact G_at (by decide +kernel : fetch mX11_judge 142 = some (.bipush (-4))),
  by intros; exact G_reti (by decide +kernel : fetch mX11_judge 144 = some (.ireturn)) (by decide +kernel),
  by decide +kernel,
  by decide +kernel,
  by decide +kernel,
  by decide +kernel,
  by decide +kernel,
  by decide +kernel,
  by decide +kernel,
  by decide +kernel,
  by decide +kernel,
  by decide +kernel,
  by decide +kernel,
  by decide +kernel⟩
theorem gX11_seeds : (∀ (n d : Nat) (L : List (Option iV)) (st : List iV) (h : iH) (Q : Option iV → iH → Prop), G sp sc [34] d mX11_seeds (n + 1) 0 L st h Q = (match ld L 1 with | some (.inl x) => G sp sc [34] d mX11_seeds n 1 L (.inl x :: st) h Q | _ => False)) ∧
  (∀ (n d : Nat) (L : List (Option iV)) (st : List iV) (h : iH) (Q : Option iV → iH → Prop), G sp sc [34] d mX11_seeds (n + 1) 1 L st h Q = G sp sc [34] d mX11_seeds n 2 L (.inl 1 :: st) h Q) ∧
  (∀ (n d : Nat) (L : List (Option iV)) (a : Int) (b : Int) (r : List iV) (h : iH) (Q : Option iV → iH → Prop), G sp sc [34] d mX11_seeds (n + 1) 2 L (.inl b :: .inl a :: r) h Q = ((inI a = true ∧ inI b = true) ∧ (a < b → G sp sc [34] d mX11_seeds n 20 L r h Q) ∧ (¬ (a < b) → G sp sc [34] d mX11_seeds n 5 L r h Q))) ∧
  (∀ (n d : Nat) (L : List (Option iV)) (st : List iV) (h : iH) (Q : Option iV → iH → Prop), G sp sc [34] d mX11_seeds (n + 1) 5 L st h Q = (match ld L 1 with | some (.inl x) => G sp sc [34] d mX11_seeds n 6 L (.inl x :: st) h Q | _ => False)) ∧
  (∀ (n d : Nat) (L : List (Option iV)) (st : List iV) (h : iH) (Q : Option iV → iH → Prop), G sp sc [34] d mX11_seeds (n + 1) 6 L st h Q = ((-128 ≤ (20 : Int) ∧ (20 : Int) < 128) ∧ G sp sc [34] d mX11_seeds n 8 L (.inl 20 :: st) h Q)) ∧
  (∀ (n d : Nat) (L : List (Option iV)) (a : Int) (b : Int) (r : List iV) (h : iH) (Q : Option iV → iH → Prop), G sp sc [34] d mX11_seeds (n + 1) 8 L (.inl b :: .inl a :: r) h Q = ((inI a = true ∧ inI b = true) ∧ (b < a → G sp sc [34] d mX11_seeds n 20 L r h Q) ∧ (¬ (b < a) → G sp sc [34] d mX11_seeds n 11 L r h Q))) ∧
  (∀ (n d : Nat) (L : List (Option iV)) (st : List iV) (h : iH) (Q : Option iV → iH → Prop), G sp sc [34] d mX11_seeds (n + 1) 11 L st h Q = (match ld L 3 with | some (.inl x) => G sp sc [34] d mX11_seeds n 12 L (.inl x :: st) h Q | _ => False)) ∧
  (∀ (n d : Nat) (L : List (Option iV)) (a : Int) (r : List iV) (h : iH) (Q : Option iV → iH → Prop), G sp sc [34] d mX11_seeds (n + 1) 12 L (.inl a :: r) h Q = (inI a = true ∧ (a < 0 → G sp sc [34] d mX11_seeds n 20 L r h Q) ∧ (¬ (a < 0) → G sp sc [34] d mX11_seeds n 15 L r h Q))) ∧
  (∀ (n d : Nat) (L : List (Option iV)) (st : List iV) (h : iH) (Q : Option iV → iH → Prop), G sp sc [34] d mX11_seeds (n + 1) 15 L st h Q = (match ld L 3 with | some (.inl x) => G sp sc [34] d mX11_seeds n 16 L (.inl x :: st) h Q | _ => False)) ∧
  (∀ (n d : Nat) (L : List (Option iV)) (st : List iV) (h : iH) (Q : Option iV → iH → Prop), G sp sc [34] d mX11_seeds (n + 1) 16 L st h Q = G sp sc [34] d mX11_seeds n 17 L (.inl 1 :: st) h Q) ∧
  (∀ (n d : Nat) (L : List (Option iV)) (a : Int) (b : Int) (r : List iV) (h : iH) (Q : Option iV → iH → Prop), G sp sc [34] d mX11_seeds (n + 1) 17 L (.inl b :: .inl a :: r) h Q = ((inI a = true ∧ inI b = true) ∧ (a ≤ b → G sp sc [34] d mX11_seeds n 22 L r h Q) ∧ (¬ (a ≤ b) → G sp sc [34] d mX11_seeds n 20 L r h Q))) ∧
  (∀ (n d : Nat) (L : List (Option iV)) (st : List iV) (h : iH) (Q : Option iV → iH → Prop), G sp sc [34] d mX11_seeds (n + 1) 20 L st h Q = G sp sc [34] d mX11_seeds n 21 L (.inl (-1) :: st) h Q) ∧
  (∀ (n d : Nat) (L : List (Option iV)) (a : Int) (h : iH) (Q : Option iV → iH → Prop), G sp sc [34] d mX11_seeds (n + 1) 21 L [.inl a] h Q = Q (some (.inl a)) h) ∧
  (∀ (n d : Nat) (L : List (Option iV)) (st : List iV) (h : iH) (Q : Option iV → iH → Prop), G sp sc [34] d mX11_seeds (n + 1) 22 L st h Q = G sp sc [34] d mX11_seeds n 23 L (.inl 0 :: st) h Q) ∧
  (∀ (n d : Nat) (L : List (Option iV)) (r : List iV) (x : Int) (h : iH) (Q : Option iV → iH → Prop), G sp sc [34] d mX11_seeds (n + 1) 23 L (.inl x :: r) h Q = (match st1 L 4 (.inl x) with | some L' => G sp sc [34] d mX11_seeds n 25 L' r h Q | none => False)) ∧
  (∀ (n d : Nat) (L : List (Option iV)) (st : List iV) (h : iH) (Q : Option iV → iH → Prop), G sp sc [34] d mX11_seeds (n + 1) 25 L st h Q = G sp sc [34] d mX11_seeds n 26 L (.inl 0 :: st) h Q) ∧
  (∀ (n d : Nat) (L : List (Option iV)) (r : List iV) (x : Int) (h : iH) (Q : Option iV → iH → Prop), G sp sc [34] d mX11_seeds (n + 1) 26 L (.inl x :: r) h Q = (match st1 L 5 (.inl x) with | some L' => G sp sc [34] d mX11_seeds n 28 L' r h Q | none => False)) ∧
  (∀ (n d : Nat) (L : List (Option iV)) (st : List iV) (h : iH) (Q : Option iV → iH → Prop), G sp sc [34] d mX11_seeds (n + 1) 28 L st h Q = (match ld L 2 with | some (.inl x) => G sp sc [34] d mX11_seeds n 29 L (.inl x :: st) h Q | _ => False)) ∧
  (∀ (n d : Nat) (L : List (Option iV)) (r : List iV) (x : Int) (h : iH) (Q : Option iV → iH → Prop), G sp sc [34] d mX11_seeds (n + 1) 29 L (.inl x :: r) h Q = (match st1 L 6 (.inl x) with | some L' => G sp sc [34] d mX11_seeds n 31 L' r h Q | none => False)) ∧
  (∀ (n d : Nat) (L : List (Option iV)) (st : List iV) (h : iH) (Q : Option iV → iH → Prop), G sp sc [34] d mX11_seeds (n + 1) 31 L st h Q = G sp sc [34] d mX11_seeds n 32 L (.inl 0 :: st) h Q) ∧
  (∀ (n d : Nat) (L : List (Option iV)) (r : List iV) (x : Int) (h : iH) (Q : Option iV → iH → Prop), G sp sc [34] d mX11_seeds (n + 1) 32 L (.inl x :: r) h Q = (match st1 L 7 (.inl x) with | some L' => Run sp sc d mX11_seeds 34 L' r h Q | none => False)) ∧
  (∀ (n d : Nat) (L : List (Option iV)) (st : List iV) (h : iH) (Q : Option iV → iH → Prop), G sp sc [34] d mX11_seeds (n + 1) 34 L st h Q = (match ld L 7 with | some (.inl x) => G sp sc [34] d mX11_seeds n 36 L (.inl x :: st) h Q | _ => False)) ∧
  (∀ (n d : Nat) (L : List (Option iV)) (st : List iV) (h : iH) (Q : Option iV → iH → Prop), G sp sc [34] d mX11_seeds (n + 1) 36 L st h Q = (match ld L 1 with | some (.inl x) => G sp sc [34] d mX11_seeds n 37 L (.inl x :: st) h Q | _ => False)) ∧
  (∀ (n d : Nat) (L : List (Option iV)) (a : Int) (b : Int) (r : List iV) (h : iH) (Q : Option iV → iH → Prop), G sp sc [34] d mX11_seeds (n + 1) 37 L (.inl b :: .inl a :: r) h Q = ((inI a = true ∧ inI b = true) ∧ (b ≤ a → G sp sc [34] d mX11_seeds n 108 L r h Q) ∧ (¬ (b ≤ a) → G sp sc [34] d mX11_seeds n 40 L r h Q))) ∧
  (∀ (n d : Nat) (L : List (Option iV)) (st : List iV) (h : iH) (Q : Option iV → iH → Prop), G sp sc [34] d mX11_seeds (n + 1) 40 L st h Q = (match ld L 0 with | some (.inr (.inr (r + 1))) => G sp sc [34] d mX11_seeds n 41 L (.inr (.inr (r + 1)) :: st) h Q | _ => False)) ∧
  (∀ (n d : Nat) (L : List (Option iV)) (r : List iV) (m : Nat) (h : iH) (Q : Option iV → iH → Prop), G sp sc [34] d mX11_seeds (n + 1) 41 L (.inr (.inr (m + 2)) :: r) h Q = (match h.1[m]? with | some (.inl (ci, fs)) => (match lkF 11 38 ci with | some k => (match fs[k]? with | some v => G sp sc [34] d mX11_seeds n 44 L (v :: r) h Q | none => False) | none => False) | _ => False)) ∧
  (∀ (n d : Nat) (L : List (Option iV)) (st : List iV) (h : iH) (Q : Option iV → iH → Prop), G sp sc [34] d mX11_seeds (n + 1) 44 L st h Q = (match ld L 0 with | some (.inr (.inr (r + 1))) => G sp sc [34] d mX11_seeds n 45 L (.inr (.inr (r + 1)) :: st) h Q | _ => False)) ∧
  (∀ (n d : Nat) (L : List (Option iV)) (r : List iV) (m : Nat) (h : iH) (Q : Option iV → iH → Prop), G sp sc [34] d mX11_seeds (n + 1) 45 L (.inr (.inr (m + 2)) :: r) h Q = (match h.1[m]? with | some (.inl (ci, fs)) => (match lkF 11 17 ci with | some k => (match fs[k]? with | some v => G sp sc [34] d mX11_seeds n 48 L (v :: r) h Q | none => False) | none => False) | _ => False)) ∧
  (∀ (n d : Nat) (L : List (Option iV)) (r : List iV) (m : Nat) (z0 : iV) (h : iH) (Q : Option iV → iH → Prop), G sp sc [34] (d + 1) mX11_seeds (n + 1) 48 L (z0 :: .inr (.inr (m + 2)) :: r) h Q = (match h.1[m]? with | some (.inl (ci, _)) => (match lkC 11 90 ci with | some (y1, n1, kd) => (n1 = 1 ∧ (kd = 2 ∨ kd = 3 ∨ kd = 8) ∧ cs r ≤ 8) ∧ Call sp sc d y1 [.inr (.inr (m + 2)), z0] h (fun q h1 => GC sp sc [34] (d + 1) mX11_seeds n 51 L q r h h1 Q) | none => False) | _ => False)) ∧
  (∀ (n d : Nat) (L : List (Option iV)) (st : List iV) (h : iH) (Q : Option iV → iH → Prop), G sp sc [34] d mX11_seeds (n + 1) 51 L st h Q = (match ld L 0 with | some (.inr (.inr (r + 1))) => G sp sc [34] d mX11_seeds n 52 L (.inr (.inr (r + 1)) :: st) h Q | _ => False)) ∧
  (∀ (n d : Nat) (L : List (Option iV)) (r : List iV) (m : Nat) (h : iH) (Q : Option iV → iH → Prop), G sp sc [34] d mX11_seeds (n + 1) 52 L (.inr (.inr (m + 2)) :: r) h Q = (match h.1[m]? with | some (.inl (ci, fs)) => (match lkF 11 38 ci with | some k => (match fs[k]? with | some v => G sp sc [34] d mX11_seeds n 55 L (v :: r) h Q | none => False) | none => False) | _ => False)) ∧
  (∀ (n d : Nat) (L : List (Option iV)) (r : List iV) (m : Nat) (h : iH) (Q : Option iV → iH → Prop), G sp sc [34] d mX11_seeds (n + 1) 55 L (.inr (.inr (m + 2)) :: r) h Q = (match h.1[m]? with | some (.inl (ci, fs)) => (match lkF 11 107 ci with | some k => (match fs[k]? with | some v => G sp sc [34] d mX11_seeds n 58 L (v :: r) h Q | none => False) | none => False) | _ => False)) ∧
  (∀ (n d : Nat) (L : List (Option iV)) (st : List iV) (h : iH) (Q : Option iV → iH → Prop), G sp sc [34] d mX11_seeds (n + 1) 58 L st h Q = (match ld L 6 with | some (.inl x) => G sp sc [34] d mX11_seeds n 60 L (.inl x :: st) h Q | _ => False)) ∧
  (∀ (n d : Nat) (L : List (Option iV)) (r : List iV) (m : Nat) (z0 : iV) (h : iH) (Q : Option iV → iH → Prop), G sp sc [34] (d + 1) mX11_seeds (n + 1) 60 L (z0 :: .inr (.inr (m + 2)) :: r) h Q = (match h.1[m]? with | some (.inl (ci, _)) => (match lkC 11 324 ci with | some (y1, n1, kd) => (n1 = 1 ∧ (kd = 2 ∨ kd = 3 ∨ kd = 8) ∧ cs r ≤ 8) ∧ Call sp sc d y1 [.inr (.inr (m + 2)), z0] h (fun q h1 => GC sp sc [34] (d + 1) mX11_seeds n 63 L q r h h1 Q) | none => False) | _ => False)) ∧
  (∀ (n d : Nat) (L : List (Option iV)) (r : List iV) (x : Int) (h : iH) (Q : Option iV → iH → Prop), G sp sc [34] d mX11_seeds (n + 1) 63 L (.inl x :: r) h Q = (match st1 L 6 (.inl x) with | some L' => G sp sc [34] d mX11_seeds n 65 L' r h Q | none => False)) ∧
  (∀ (n d : Nat) (L : List (Option iV)) (st : List iV) (h : iH) (Q : Option iV → iH → Prop), G sp sc [34] d mX11_seeds (n + 1) 65 L st h Q = (match ld L 0 with | some (.inr (.inr (r + 1))) => G sp sc [34] d mX11_seeds n 66 L (.inr (.inr (r + 1)) :: st) h Q | _ => False)) ∧
  (∀ (n d : Nat) (L : List (Option iV)) (r : List iV) (m : Nat) (h : iH) (Q : Option iV → iH → Prop), G sp sc [34] d mX11_seeds (n + 1) 66 L (.inr (.inr (m + 2)) :: r) h Q = (match h.1[m]? with | some (.inl (ci, fs)) => (match lkF 11 38 ci with | some k => (match fs[k]? with | some v => G sp sc [34] d mX11_seeds n 69 L (v :: r) h Q | none => False) | none => False) | _ => False)) ∧
  (∀ (n d : Nat) (L : List (Option iV)) (st : List iV) (h : iH) (Q : Option iV → iH → Prop), G sp sc [34] d mX11_seeds (n + 1) 69 L st h Q = ((-128 ≤ (30 : Int) ∧ (30 : Int) < 128) ∧ G sp sc [34] d mX11_seeds n 71 L (.inl 30 :: st) h Q)) ∧
  (∀ (n d : Nat) (L : List (Option iV)) (r : List iV) (m : Nat) (z0 : iV) (h : iH) (Q : Option iV → iH → Prop), G sp sc [34] (d + 1) mX11_seeds (n + 1) 71 L (z0 :: .inr (.inr (m + 2)) :: r) h Q = (match h.1[m]? with | some (.inl (ci, _)) => (match lkC 11 218 ci with | some (y1, n1, kd) => (n1 = 1 ∧ (kd = 2 ∨ kd = 3 ∨ kd = 8) ∧ cs r ≤ 8) ∧ Call sp sc d y1 [.inr (.inr (m + 2)), z0] h (fun q h1 => GC sp sc [34] (d + 1) mX11_seeds n 74 L q r h h1 Q) | none => False) | _ => False)) ∧
  (∀ (n d : Nat) (L : List (Option iV)) (st : List iV) (h : iH) (Q : Option iV → iH → Prop), G sp sc [34] d mX11_seeds (n + 1) 74 L st h Q = (match ld L 4 with | some (.inl x) => G sp sc [34] d mX11_seeds n 76 L (.inl x :: st) h Q | _ => False)) ∧
  (∀ (n d : Nat) (L : List (Option iV)) (st : List iV) (h : iH) (Q : Option iV → iH → Prop), G sp sc [34] d mX11_seeds (n + 1) 76 L st h Q = (match ld L 0 with | some (.inr (.inr (r + 1))) => G sp sc [34] d mX11_seeds n 77 L (.inr (.inr (r + 1)) :: st) h Q | _ => False)) ∧
  (∀ (n d : Nat) (L : List (Option iV)) (r : List iV) (m : Nat) (h : iH) (Q : Option iV → iH → Prop), G sp sc [34] d mX11_seeds (n + 1) 77 L (.inr (.inr (m + 2)) :: r) h Q = (match h.1[m]? with | some (.inl (ci, fs)) => (match lkF 11 38 ci with | some k => (match fs[k]? with | some v => G sp sc [34] d mX11_seeds n 80 L (v :: r) h Q | none => False) | none => False) | _ => False)) ∧
  (∀ (n d : Nat) (L : List (Option iV)) (r : List iV) (m : Nat) (h : iH) (Q : Option iV → iH → Prop), G sp sc [34] d mX11_seeds (n + 1) 80 L (.inr (.inr (m + 2)) :: r) h Q = (match h.1[m]? with | some (.inl (ci, fs)) => (match lkF 11 107 ci with | some k => (match fs[k]? with | some v => G sp sc [34] d mX11_seeds n 83 L (v :: r) h Q | none => False) | none => False) | _ => False)) ∧
  (∀ (n d : Nat) (L : List (Option iV)) (st : List iV) (h : iH) (Q : Option iV → iH → Prop), G sp sc [34] d mX11_seeds (n + 1) 83 L st h Q = G sp sc [34] d mX11_seeds n 84 L (.inl 1 :: st) h Q) ∧
  (∀ (n d : Nat) (L : List (Option iV)) (r : List iV) (m : Nat) (z0 : iV) (h : iH) (Q : Option iV → iH → Prop), G sp sc [34] (d + 1) mX11_seeds (n + 1) 84 L (z0 :: .inr (.inr (m + 2)) :: r) h Q = (match h.1[m]? with | some (.inl (ci, _)) => (match lkC 11 239 ci with | some (y1, n1, kd) => (n1 = 1 ∧ (kd = 2 ∨ kd = 3 ∨ kd = 8) ∧ cs r ≤ 8) ∧ Call sp sc d y1 [.inr (.inr (m + 2)), z0] h (fun q h1 => GC sp sc [34] (d + 1) mX11_seeds n 87 L q r h h1 Q) | none => False) | _ => False)) ∧
  (∀ (n d : Nat) (L : List (Option iV)) (a : Int) (b : Int) (r : List iV) (h : iH) (Q : Option iV → iH → Prop), G sp sc [34] d mX11_seeds (n + 1) 87 L (.inl b :: .inl a :: r) h Q = G sp sc [34] d mX11_seeds n 88 L (.inl (a + b) :: r) h Q) ∧
  (∀ (n d : Nat) (L : List (Option iV)) (r : List iV) (x : Int) (h : iH) (Q : Option iV → iH → Prop), G sp sc [34] d mX11_seeds (n + 1) 88 L (.inl x :: r) h Q = (match st1 L 4 (.inl x) with | some L' => G sp sc [34] d mX11_seeds n 90 L' r h Q | none => False)) ∧
  (∀ (n d : Nat) (L : List (Option iV)) (st : List iV) (h : iH) (Q : Option iV → iH → Prop), G sp sc [34] d mX11_seeds (n + 1) 90 L st h Q = (match ld L 5 with | some (.inl x) => G sp sc [34] d mX11_seeds n 92 L (.inl x :: st) h Q | _ => False)) ∧
  (∀ (n d : Nat) (L : List (Option iV)) (st : List iV) (h : iH) (Q : Option iV → iH → Prop), G sp sc [34] d mX11_seeds (n + 1) 92 L st h Q = (match ld L 0 with | some (.inr (.inr (r + 1))) => G sp sc [34] d mX11_seeds n 93 L (.inr (.inr (r + 1)) :: st) h Q | _ => False)) ∧
  (∀ (n d : Nat) (L : List (Option iV)) (r : List iV) (m : Nat) (h : iH) (Q : Option iV → iH → Prop), G sp sc [34] d mX11_seeds (n + 1) 93 L (.inr (.inr (m + 2)) :: r) h Q = (match h.1[m]? with | some (.inl (ci, fs)) => (match lkF 11 38 ci with | some k => (match fs[k]? with | some v => G sp sc [34] d mX11_seeds n 96 L (v :: r) h Q | none => False) | none => False) | _ => False)) ∧
  (∀ (n d : Nat) (L : List (Option iV)) (r : List iV) (m : Nat) (h : iH) (Q : Option iV → iH → Prop), G sp sc [34] d mX11_seeds (n + 1) 96 L (.inr (.inr (m + 2)) :: r) h Q = (match h.1[m]? with | some (.inl (ci, fs)) => (match lkF 11 233 ci with | some k => (match fs[k]? with | some v => G sp sc [34] d mX11_seeds n 99 L (v :: r) h Q | none => False) | none => False) | _ => False)) ∧
  (∀ (n d : Nat) (L : List (Option iV)) (a : Int) (b : Int) (r : List iV) (h : iH) (Q : Option iV → iH → Prop), G sp sc [34] d mX11_seeds (n + 1) 99 L (.inl b :: .inl a :: r) h Q = G sp sc [34] d mX11_seeds n 100 L (.inl (a + b) :: r) h Q) ∧
  (∀ (n d : Nat) (L : List (Option iV)) (r : List iV) (x : Int) (h : iH) (Q : Option iV → iH → Prop), G sp sc [34] d mX11_seeds (n + 1) 100 L (.inl x :: r) h Q = (match st1 L 5 (.inl x) with | some L' => G sp sc [34] d mX11_seeds n 102 L' r h Q | none => False)) ∧
  (∀ (n d : Nat) (L : List (Option iV)) (st : List iV) (h : iH) (Q : Option iV → iH → Prop), G sp sc [34] d mX11_seeds (n + 1) 102 L st h Q = (match ld L 7 with | some (.inl x) => (match st1 L 7 (.inl (x + 1)) with | some L' => G sp sc [34] d mX11_seeds n 105 L' st h Q | none => False) | _ => False)) ∧
  (∀ (n d : Nat) (L : List (Option iV)) (st : List iV) (h : iH) (Q : Option iV → iH → Prop), G sp sc [34] d mX11_seeds (n + 1) 105 L st h Q = Run sp sc d mX11_seeds 34 L st h Q) ∧
  (∀ (n d : Nat) (L : List (Option iV)) (st : List iV) (h : iH) (Q : Option iV → iH → Prop), G sp sc [34] d mX11_seeds (n + 1) 108 L st h Q = (match ld L 3 with | some (.inl x) => G sp sc [34] d mX11_seeds n 109 L (.inl x :: st) h Q | _ => False)) ∧
  (∀ (n d : Nat) (L : List (Option iV)) (a : Int) (r : List iV) (h : iH) (Q : Option iV → iH → Prop), G sp sc [34] d mX11_seeds (n + 1) 109 L (.inl a :: r) h Q = (inI a = true ∧ (¬ a = 0 → G sp sc [34] d mX11_seeds n 117 L r h Q) ∧ (¬ (¬ a = 0) → G sp sc [34] d mX11_seeds n 112 L r h Q))) ∧
  (∀ (n d : Nat) (L : List (Option iV)) (st : List iV) (h : iH) (Q : Option iV → iH → Prop), G sp sc [34] d mX11_seeds (n + 1) 112 L st h Q = (match ld L 4 with | some (.inl x) => G sp sc [34] d mX11_seeds n 114 L (.inl x :: st) h Q | _ => False)) ∧
  (∀ (n d : Nat) (L : List (Option iV)) (st : List iV) (h : iH) (Q : Option iV → iH → Prop), G sp sc [34] d mX11_seeds (n + 1) 114 L st h Q = G sp sc [34] d mX11_seeds n 119 L st h Q) ∧
  (∀ (n d : Nat) (L : List (Option iV)) (st : List iV) (h : iH) (Q : Option iV → iH → Prop), G sp sc [34] d mX11_seeds (n + 1) 117 L st h Q = (match ld L 5 with | some (.inl x) => G sp sc [34] d mX11_seeds n 119 L (.inl x :: st) h Q | _ => False)) ∧
  (∀ (n d : Nat) (L : List (Option iV)) (a : Int) (h : iH) (Q : Option iV → iH → Prop), G sp sc [34] d mX11_seeds (n + 1) 119 L [.inl a] h Q = Q (some (.inl a)) h) ∧
  lkC 11 218 10 = some (mX10_pass, 1, 2) ∧
  lkC 11 239 8 = some (mX8_howMany, 1, 2) ∧
  lkC 11 324 8 = some (mX8_drawLikings, 1, 2) ∧
  lkC 11 90 10 = some (mX10_begin, 1, 2) ∧
  lkF 11 107 10 = some 0 ∧
  lkF 11 17 11 = some 2 ∧
  lkF 11 233 10 = some 7 ∧
  lkF 11 38 11 = some 5 := ⟨by intros; exact G_at (by decide +kernel : fetch mX11_seeds 0 = some (.iload_n 1)),
  by intros; exact G_at (by decide +kernel : fetch mX11_seeds 1 = some (.iconst 1)),
  by intros; exact G_at (by decide +kernel : fetch mX11_seeds 2 = some (.if_icmp .lt 18)),
  by intros; exact G_at (by decide +kernel : fetch mX11_seeds 5 = some (.iload_n 1)),
  by intros; exact G_at (by decide +kernel : fetch mX11_seeds 6 = some (.bipush 20)),
  by intros; exact G_at (by decide +kernel : fetch mX11_seeds 8 = some (.if_icmp .gt 12)),
  by intros; exact G_at (by decide +kernel : fetch mX11_seeds 11 = some (.iload_n 3)),
  by intros; exact G_at (by decide +kernel : fetch mX11_seeds 12 = some (.ifCond .lt 8)),
  by intros; exact G_at (by decide +kernel : fetch mX11_seeds 15 = some (.iload_n 3)),
  by intros; exact G_at (by decide +kernel : fetch mX11_seeds 16 = some (.iconst 1)),
  by intros; exact G_at (by decide +kernel : fetch mX11_seeds 17 = some (.if_icmp .le 5)),
  by intros; exact G_at (by decide +kernel : fetch mX11_seeds 20 = some (.iconst (-1))),
  by intros; exact G_reti (by decide +kernel : fetch mX11_seeds 21 = some (.ireturn)) (by decide +kernel),
  by intros; exact G_at (by decide +kernel : fetch mX11_seeds 22 = some (.iconst 0)),
  by intros; exact G_at (by decide +kernel : fetch mX11_seeds 23 = some (.istore 4)),
  by intros; exact G_at (by decide +kernel : fetch mX11_seeds 25 = some (.iconst 0)),
  by intros; exact G_at (by decide +kernel : fetch mX11_seeds 26 = some (.istore 5)),
  by intros; exact G_at (by decide +kernel : fetch mX11_seeds 28 = some (.iload_n 2)),
  by intros; exact G_at (by decide +kernel : fetch mX11_seeds 29 = some (.istore 6)),
  by intros; exact G_at (by decide +kernel : fetch mX11_seeds 31 = some (.iconst 0)),
  by intros; exact G_at (by decide +kernel : fetch mX11_seeds 32 = some (.istore 7)),
  by intros; exact G_at (by decide +kernel : fetch mX11_seeds 34 = some (.iload 7)),
  by intros; exact G_at (by decide +kernel : fetch mX11_seeds 36 = some (.iload_n 1)),
  by intros; exact G_at (by decide +kernel : fetch mX11_seeds 37 = some (.if_icmp .ge 71)),
  by intros; exact G_at (by decide +kernel : fetch mX11_seeds 40 = some (.aload_n 0)),
  by intros; exact G_own (by decide +kernel : fetch mX11_seeds 41 = some (.getfield 38)) (by decide +kernel),
  by intros; exact G_at (by decide +kernel : fetch mX11_seeds 44 = some (.aload_n 0)),
  by intros; exact G_own (by decide +kernel : fetch mX11_seeds 45 = some (.getfield 17)) (by decide +kernel),
  by intros; exact G_callV (by decide +kernel : fetch mX11_seeds 48 = some (.invokevirtual 90)) (by decide +kernel) (by decide +kernel) rfl,
  by intros; exact G_at (by decide +kernel : fetch mX11_seeds 51 = some (.aload_n 0)),
  by intros; exact G_own (by decide +kernel : fetch mX11_seeds 52 = some (.getfield 38)) (by decide +kernel),
  by intros; exact G_own (by decide +kernel : fetch mX11_seeds 55 = some (.getfield 107)) (by decide +kernel),
  by intros; exact G_at (by decide +kernel : fetch mX11_seeds 58 = some (.iload 6)),
  by intros; exact G_callV (by decide +kernel : fetch mX11_seeds 60 = some (.invokevirtual 324)) (by decide +kernel) (by decide +kernel) rfl,
  by intros; exact G_at (by decide +kernel : fetch mX11_seeds 63 = some (.istore 6)),
  by intros; exact G_at (by decide +kernel : fetch mX11_seeds 65 = some (.aload_n 0)),
  by intros; exact G_own (by decide +kernel : fetch mX11_seeds 66 = some (.getfield 38)) (by decide +kernel),
  by intros; exact G_at (by decide +kernel : fetch mX11_seeds 69 = some (.bipush 30)),
  by intros; exact G_callV (by decide +kernel : fetch mX11_seeds 71 = some (.invokevirtual 218)) (by decide +kernel) (by decide +kernel) rfl,
  by intros; exact G_at (by decide +kernel : fetch mX11_seeds 74 = some (.iload 4)),
  by intros; exact G_at (by decide +kernel : fetch mX11_seeds 76 = some (.aload_n 0)),
  by intros; exact G_own (by decide +kernel : fetch mX11_seeds 77 = some (.getfield 38)) (by decide +kernel),
  by intros; exact G_own (by decide +kernel : fetch mX11_seeds 80 = some (.getfield 107)) (by decide +kernel),
  by intros; exact G_at (by decide +kernel : fetch mX11_seeds 83 = some (.iconst 1)),
  by intros; exact G_callV (by decide +kernel : fetch mX11_seeds 84 = some (.invokevirtual 239)) (by decide +kernel) (by decide +kernel) rfl,
  by intros; exact G_at (by decide +kernel : fetch mX11_seeds 87 = some (.iadd)),
  by intros; exact G_at (by decide +kernel : fetch mX11_seeds 88 = some (.istore 4)),
  by intros; exact G_at (by decide +kernel : fetch mX11_seeds 90 = some (.iload 5)),
  by intros; exact G_at (by decide +kernel : fetch mX11_seeds 92 = some (.aload_n 0)),
  by intros; exact G_own (by decide +kernel : fetch mX11_seeds 93 = some (.getfield 38)) (by decide +kernel),
  by intros; exact G_own (by decide +kernel : fetch mX11_seeds 96 = some (.getfield 233)) (by decide +kernel),
  by intros; exact G_at (by decide +kernel : fetch mX11_seeds 99 = some (.iadd)),
  by intros; exact G_at (by decide +kernel : fetch mX11_seeds 100 = some (.istore 5)),
  by intros; exact G_at (by decide +kernel : fetch mX11_seeds 102 = some (.iinc 7 1)),
  by intros; exact G_at (by decide +kernel : fetch mX11_seeds 105 = some (.goto (-71))),
  by intros; exact G_at (by decide +kernel : fetch mX11_seeds 108 = some (.iload_n 3)),
  by intros; exact G_at (by decide +kernel : fetch mX11_seeds 109 = some (.ifCond .ne 8)),
  by intros; exact G_at (by decide +kernel : fetch mX11_seeds 112 = some (.iload 4)),
  by intros; exact G_at (by decide +kernel : fetch mX11_seeds 114 = some (.goto 5)),
  by intros; exact G_at (by decide +kernel : fetch mX11_seeds 117 = some (.iload 5)),
  by intros; exact G_reti (by decide +kernel : fetch mX11_seeds 119 = some (.ireturn)) (by decide +kernel),
  by decide +kernel,
  by decide +kernel,
  by decide +kernel,
  by decide +kernel,
  by decide +kernel,
  by decide +kernel,
  by decide +kernel,
  by decide +kernel⟩
theorem gX11_image : (∀ (n d : Nat) (L : List (Option iV)) (st : List iV) (h : iH) (Q : Option iV → iH → Prop), G sp sc [] d mX11_image (n + 1) 0 L st h Q = (match ld L 0 with | some (.inr (.inr (r + 1))) => G sp sc [] d mX11_image n 1 L (.inr (.inr (r + 1)) :: st) h Q | _ => False)) ∧
  (∀ (n d : Nat) (L : List (Option iV)) (r : List iV) (m : Nat) (h : iH) (Q : Option iV → iH → Prop), G sp sc [] d mX11_image (n + 1) 1 L (.inr (.inr (m + 2)) :: r) h Q = (match h.1[m]? with | some (.inl (ci, fs)) => (match lkF 11 32 ci with | some k => (match fs[k]? with | some v => G sp sc [] d mX11_image n 4 L (v :: r) h Q | none => False) | none => False) | _ => False)) ∧
  (∀ (n d : Nat) (L : List (Option iV)) (st : List iV) (h : iH) (Q : Option iV → iH → Prop), G sp sc [] d mX11_image (n + 1) 4 L st h Q = (match ld L 0 with | some (.inr (.inr (r + 1))) => G sp sc [] d mX11_image n 5 L (.inr (.inr (r + 1)) :: st) h Q | _ => False)) ∧
  (∀ (n d : Nat) (L : List (Option iV)) (r : List iV) (m : Nat) (h : iH) (Q : Option iV → iH → Prop), G sp sc [] d mX11_image (n + 1) 5 L (.inr (.inr (m + 2)) :: r) h Q = (match h.1[m]? with | some (.inl (ci, fs)) => (match lkF 11 17 ci with | some k => (match fs[k]? with | some v => G sp sc [] d mX11_image n 8 L (v :: r) h Q | none => False) | none => False) | _ => False)) ∧
  (∀ (n d : Nat) (L : List (Option iV)) (r : List iV) (m : Nat) (z0 : iV) (h : iH) (Q : Option iV → iH → Prop), G sp sc [] (d + 1) mX11_image (n + 1) 8 L (z0 :: .inr (.inr (m + 2)) :: r) h Q = (match h.1[m]? with | some (.inl (ci, _)) => (match lkC 11 110 ci with | some (y1, n1, kd) => (n1 = 1 ∧ (kd = 2 ∨ kd = 3 ∨ kd = 8) ∧ cs r ≤ 8) ∧ Call sp sc d y1 [.inr (.inr (m + 2)), z0] h (fun q h1 => GC sp sc [] (d + 1) mX11_image n 11 L q r h h1 Q) | none => False) | _ => False)) ∧
  (∀ (n d : Nat) (L : List (Option iV)) (st : List iV) (h : iH) (Q : Option iV → iH → Prop), G sp sc [] d mX11_image (n + 1) 11 L st h Q = (match ld L 0 with | some (.inr (.inr (r + 1))) => G sp sc [] d mX11_image n 12 L (.inr (.inr (r + 1)) :: st) h Q | _ => False)) ∧
  (∀ (n d : Nat) (L : List (Option iV)) (st : List iV) (h : iH) (Q : Option iV → iH → Prop), G sp sc [] d mX11_image (n + 1) 12 L st h Q = G sp sc [] d mX11_image n 13 L (.inl 1 :: st) h Q) ∧
  (∀ (n d : Nat) (L : List (Option iV)) (r : List iV) (v : iV) (m : Nat) (h : iH) (Q : Option iV → iH → Prop), G sp sc [] d mX11_image (n + 1) 13 L (v :: .inr (.inr (m + 2)) :: r) h Q = (match h.1[m]? with | some (.inl (ci, fs)) => (match lkF 11 327 ci with | some k => (fitV (tyT ci k) v = true ∧ k < fs.length ∧ pOK 11 false ci k = true) ∧ G sp sc [] d mX11_image n 16 L r (h.1.set m (.inl (ci, fs.set k v)), h.2) Q | none => False) | _ => False)) ∧
  (∀ (n d : Nat) (L : List (Option iV)) (st : List iV) (h : iH) (Q : Option iV → iH → Prop), G sp sc [] d mX11_image (n + 1) 16 L st h Q = (match ld L 0 with | some (.inr (.inr (r + 1))) => G sp sc [] d mX11_image n 17 L (.inr (.inr (r + 1)) :: st) h Q | _ => False)) ∧
  (∀ (n d : Nat) (L : List (Option iV)) (r : List iV) (m : Nat) (h : iH) (Q : Option iV → iH → Prop), G sp sc [] d mX11_image (n + 1) 17 L (.inr (.inr (m + 2)) :: r) h Q = (match h.1[m]? with | some (.inl (ci, fs)) => (match lkF 11 17 ci with | some k => (match fs[k]? with | some v => G sp sc [] d mX11_image n 20 L (v :: r) h Q | none => False) | none => False) | _ => False)) ∧
  (∀ (n d : Nat) (L : List (Option iV)) (r : List iV) (m : Nat) (h : iH) (Q : Option iV → iH → Prop), G sp sc [] d mX11_image (n + 1) 20 L (.inr (.inr (m + 2)) :: r) h Q = (match h.1[m]? with | some (.inl (ci, fs)) => (match lkF 11 215 ci with | some k => (match fs[k]? with | some v => G sp sc [] d mX11_image n 23 L (v :: r) h Q | none => False) | none => False) | _ => False)) ∧
  (∀ (n d : Nat) (L : List (Option iV)) (a : Int) (h : iH) (Q : Option iV → iH → Prop), G sp sc [] d mX11_image (n + 1) 23 L [.inl a] h Q = Q (some (.inl a)) h) ∧
  lkC 11 110 8 = some (mX8_takeFrom, 1, 2) ∧
  lkF 11 17 11 = some 2 ∧
  lkF 11 215 8 = some 12 ∧
  lkF 11 32 11 = some 3 ∧
  lkF 11 327 11 = some 4 ∧
  pOK 11 false 11 4 = true := ⟨by intros; exact G_at (by decide +kernel : fetch mX11_image 0 = some (.aload_n 0)),
  by intros; exact G_own (by decide +kernel : fetch mX11_image 1 = some (.getfield 32)) (by decide +kernel),
  by intros; exact G_at (by decide +kernel : fetch mX11_image 4 = some (.aload_n 0)),
  by intros; exact G_own (by decide +kernel : fetch mX11_image 5 = some (.getfield 17)) (by decide +kernel),
  by intros; exact G_callV (by decide +kernel : fetch mX11_image 8 = some (.invokevirtual 110)) (by decide +kernel) (by decide +kernel) rfl,
  by intros; exact G_at (by decide +kernel : fetch mX11_image 11 = some (.aload_n 0)),
  by intros; exact G_at (by decide +kernel : fetch mX11_image 12 = some (.iconst 1)),
  by intros; exact G_ownW (by decide +kernel : fetch mX11_image 13 = some (.putfield 327)) (by decide +kernel) (by decide +kernel),
  by intros; exact G_at (by decide +kernel : fetch mX11_image 16 = some (.aload_n 0)),
  by intros; exact G_own (by decide +kernel : fetch mX11_image 17 = some (.getfield 17)) (by decide +kernel),
  by intros; exact G_own (by decide +kernel : fetch mX11_image 20 = some (.getfield 215)) (by decide +kernel),
  by intros; exact G_reti (by decide +kernel : fetch mX11_image 23 = some (.ireturn)) (by decide +kernel),
  by decide +kernel,
  by decide +kernel,
  by decide +kernel,
  by decide +kernel,
  by decide +kernel,
  by decide +kernel⟩
theorem gX11_restore : (∀ (n d : Nat) (L : List (Option iV)) (st : List iV) (h : iH) (Q : Option iV → iH → Prop), G sp sc [] d mX11_restore (n + 1) 0 L st h Q = (match ld L 0 with | some (.inr (.inr (r + 1))) => G sp sc [] d mX11_restore n 1 L (.inr (.inr (r + 1)) :: st) h Q | _ => False)) ∧
  (∀ (n d : Nat) (L : List (Option iV)) (r : List iV) (m : Nat) (h : iH) (Q : Option iV → iH → Prop), G sp sc [] d mX11_restore (n + 1) 1 L (.inr (.inr (m + 2)) :: r) h Q = (match h.1[m]? with | some (.inl (ci, fs)) => (match lkF 11 327 ci with | some k => (match fs[k]? with | some v => G sp sc [] d mX11_restore n 4 L (v :: r) h Q | none => False) | none => False) | _ => False)) ∧
  (∀ (n d : Nat) (L : List (Option iV)) (a : Int) (r : List iV) (h : iH) (Q : Option iV → iH → Prop), G sp sc [] d mX11_restore (n + 1) 4 L (.inl a :: r) h Q = (inI a = true ∧ (¬ a = 0 → G sp sc [] d mX11_restore n 10 L r h Q) ∧ (¬ (¬ a = 0) → G sp sc [] d mX11_restore n 7 L r h Q))) ∧
  (∀ (n d : Nat) (L : List (Option iV)) (st : List iV) (h : iH) (Q : Option iV → iH → Prop), G sp sc [] d mX11_restore (n + 1) 7 L st h Q = ((-128 ≤ ((-3) : Int) ∧ ((-3) : Int) < 128) ∧ G sp sc [] d mX11_restore n 9 L (.inl (-3) :: st) h Q)) ∧
  (∀ (n d : Nat) (L : List (Option iV)) (a : Int) (h : iH) (Q : Option iV → iH → Prop), G sp sc [] d mX11_restore (n + 1) 9 L [.inl a] h Q = Q (some (.inl a)) h) ∧
  (∀ (n d : Nat) (L : List (Option iV)) (st : List iV) (h : iH) (Q : Option iV → iH → Prop), G sp sc [] d mX11_restore (n + 1) 10 L st h Q = (match ld L 0 with | some (.inr (.inr (r + 1))) => G sp sc [] d mX11_restore n 11 L (.inr (.inr (r + 1)) :: st) h Q | _ => False)) ∧
  (∀ (n d : Nat) (L : List (Option iV)) (r : List iV) (m : Nat) (h : iH) (Q : Option iV → iH → Prop), G sp sc [] d mX11_restore (n + 1) 11 L (.inr (.inr (m + 2)) :: r) h Q = (match h.1[m]? with | some (.inl (ci, fs)) => (match lkF 11 17 ci with | some k => (match fs[k]? with | some v => G sp sc [] d mX11_restore n 14 L (v :: r) h Q | none => False) | none => False) | _ => False)) ∧
  (∀ (n d : Nat) (L : List (Option iV)) (st : List iV) (h : iH) (Q : Option iV → iH → Prop), G sp sc [] d mX11_restore (n + 1) 14 L st h Q = (match ld L 0 with | some (.inr (.inr (r + 1))) => G sp sc [] d mX11_restore n 15 L (.inr (.inr (r + 1)) :: st) h Q | _ => False)) ∧
  (∀ (n d : Nat) (L : List (Option iV)) (r : List iV) (m : Nat) (h : iH) (Q : Option iV → iH → Prop), G sp sc [] d mX11_restore (n + 1) 15 L (.inr (.inr (m + 2)) :: r) h Q = (match h.1[m]? with | some (.inl (ci, fs)) => (match lkF 11 32 ci with | some k => (match fs[k]? with | some v => G sp sc [] d mX11_restore n 18 L (v :: r) h Q | none => False) | none => False) | _ => False)) ∧
  (∀ (n d : Nat) (L : List (Option iV)) (r : List iV) (m : Nat) (z0 : iV) (h : iH) (Q : Option iV → iH → Prop), G sp sc [] (d + 1) mX11_restore (n + 1) 18 L (z0 :: .inr (.inr (m + 2)) :: r) h Q = (match h.1[m]? with | some (.inl (ci, _)) => (match lkC 11 110 ci with | some (y1, n1, kd) => (n1 = 1 ∧ (kd = 2 ∨ kd = 3 ∨ kd = 8) ∧ cs r ≤ 8) ∧ Call sp sc d y1 [.inr (.inr (m + 2)), z0] h (fun q h1 => GC sp sc [] (d + 1) mX11_restore n 21 L q r h h1 Q) | none => False) | _ => False)) ∧
  (∀ (n d : Nat) (L : List (Option iV)) (st : List iV) (h : iH) (Q : Option iV → iH → Prop), G sp sc [] d mX11_restore (n + 1) 21 L st h Q = (match ld L 0 with | some (.inr (.inr (r + 1))) => G sp sc [] d mX11_restore n 22 L (.inr (.inr (r + 1)) :: st) h Q | _ => False)) ∧
  (∀ (n d : Nat) (L : List (Option iV)) (r : List iV) (m : Nat) (h : iH) (Q : Option iV → iH → Prop), G sp sc [] d mX11_restore (n + 1) 22 L (.inr (.inr (m + 2)) :: r) h Q = (match h.1[m]? with | some (.inl (ci, fs)) => (match lkF 11 17 ci with | some k => (match fs[k]? with | some v => G sp sc [] d mX11_restore n 25 L (v :: r) h Q | none => False) | none => False) | _ => False)) ∧
  (∀ (n d : Nat) (L : List (Option iV)) (r : List iV) (m : Nat) (h : iH) (Q : Option iV → iH → Prop), G sp sc [] d mX11_restore (n + 1) 25 L (.inr (.inr (m + 2)) :: r) h Q = (match h.1[m]? with | some (.inl (ci, fs)) => (match lkF 11 215 ci with | some k => (match fs[k]? with | some v => G sp sc [] d mX11_restore n 28 L (v :: r) h Q | none => False) | none => False) | _ => False)) ∧
  (∀ (n d : Nat) (L : List (Option iV)) (a : Int) (h : iH) (Q : Option iV → iH → Prop), G sp sc [] d mX11_restore (n + 1) 28 L [.inl a] h Q = Q (some (.inl a)) h) ∧
  lkC 11 110 8 = some (mX8_takeFrom, 1, 2) ∧
  lkF 11 17 11 = some 2 ∧
  lkF 11 215 8 = some 12 ∧
  lkF 11 32 11 = some 3 ∧
  lkF 11 327 11 = some 4 := ⟨by intros; exact G_at (by decide +kernel : fetch mX11_restore 0 = some (.aload_n 0)),
  by intros; exact G_own (by decide +kernel : fetch mX11_restore 1 = some (.getfield 327)) (by decide +kernel),
  by intros; exact G_at (by decide +kernel : fetch mX11_restore 4 = some (.ifCond .ne 6)),
  by intros; exact G_at (by decide +kernel : fetch mX11_restore 7 = some (.bipush (-3))),
  by intros; exact G_reti (by decide +kernel : fetch mX11_restore 9 = some (.ireturn)) (by decide +kernel),
  by intros; exact G_at (by decide +kernel : fetch mX11_restore 10 = some (.aload_n 0)),
  by intros; exact G_own (by decide +kernel : fetch mX11_restore 11 = some (.getfield 17)) (by decide +kernel),
  by intros; exact G_at (by decide +kernel : fetch mX11_restore 14 = some (.aload_n 0)),
  by intros; exact G_own (by decide +kernel : fetch mX11_restore 15 = some (.getfield 32)) (by decide +kernel),
  by intros; exact G_callV (by decide +kernel : fetch mX11_restore 18 = some (.invokevirtual 110)) (by decide +kernel) (by decide +kernel) rfl,
  by intros; exact G_at (by decide +kernel : fetch mX11_restore 21 = some (.aload_n 0)),
  by intros; exact G_own (by decide +kernel : fetch mX11_restore 22 = some (.getfield 17)) (by decide +kernel),
  by intros; exact G_own (by decide +kernel : fetch mX11_restore 25 = some (.getfield 215)) (by decide +kernel),
  by intros; exact G_reti (by decide +kernel : fetch mX11_restore 28 = some (.ireturn)) (by decide +kernel),
  by decide +kernel,
  by decide +kernel,
  by decide +kernel,
  by decide +kernel,
  by decide +kernel⟩
theorem gX11_count : (∀ (n d : Nat) (L : List (Option iV)) (st : List iV) (h : iH) (Q : Option iV → iH → Prop), G sp sc [] d mX11_count (n + 1) 0 L st h Q = (match ld L 1 with | some (.inl x) => G sp sc [] d mX11_count n 1 L (.inl x :: st) h Q | _ => False)) ∧
  (∀ (n d : Nat) (L : List (Option iV)) (a : Int) (r : List iV) (h : iH) (Q : Option iV → iH → Prop), G sp sc [] d mX11_count (n + 1) 1 L (.inl a :: r) h Q = (inI a = true ∧ ((a < 0 ∨ 7 < a) → G sp sc [] d mX11_count n 119 L r h Q) ∧ (¬ (a < 0 ∨ 7 < a) → (match (#[47, 57, 67, 75, 83, 91, 100, 109] : Array Int)[(a - (0 : Int)).toNat]? with | some off => (match jmp 1 off with | some q => GK sp sc [] d mX11_count n q L r h Q | none => False) | none => False)))) ∧
  (∀ (n d : Nat) (L : List (Option iV)) (st : List iV) (h : iH) (Q : Option iV → iH → Prop), G sp sc [] d mX11_count (n + 1) 48 L st h Q = (match ld L 0 with | some (.inr (.inr (r + 1))) => G sp sc [] d mX11_count n 49 L (.inr (.inr (r + 1)) :: st) h Q | _ => False)) ∧
  (∀ (n d : Nat) (L : List (Option iV)) (r : List iV) (m : Nat) (h : iH) (Q : Option iV → iH → Prop), G sp sc [] d mX11_count (n + 1) 49 L (.inr (.inr (m + 2)) :: r) h Q = (match h.1[m]? with | some (.inl (ci, fs)) => (match lkF 11 17 ci with | some k => (match fs[k]? with | some v => G sp sc [] d mX11_count n 52 L (v :: r) h Q | none => False) | none => False) | _ => False)) ∧
  (∀ (n d : Nat) (L : List (Option iV)) (r : List iV) (m : Nat) (h : iH) (Q : Option iV → iH → Prop), G sp sc [] d mX11_count (n + 1) 52 L (.inr (.inr (m + 2)) :: r) h Q = (match h.1[m]? with | some (.inl (ci, fs)) => (match lkF 11 261 ci with | some k => (match fs[k]? with | some v => G sp sc [] d mX11_count n 55 L (v :: r) h Q | none => False) | none => False) | _ => False)) ∧
  (∀ (n d : Nat) (L : List (Option iV)) (st : List iV) (h : iH) (Q : Option iV → iH → Prop), G sp sc [] d mX11_count (n + 1) 55 L st h Q = G sp sc [] d mX11_count n 56 L (.inl 0 :: st) h Q) ∧
  (∀ (n d : Nat) (L : List (Option iV)) (r : List iV) (j : Int) (m : Nat) (h : iH) (Q : Option iV → iH → Prop), G sp sc [] d mX11_count (n + 1) 56 L (.inl j :: .inr (.inr (m + 2)) :: r) h Q = (match h.1[m]? with | some (.inr (.inl (0, xs))) => inA j xs.length = true ∧ G sp sc [] d mX11_count n 57 L (.inl (xs.getD j.toNat 0) :: r) h Q | _ => False)) ∧
  (∀ (n d : Nat) (L : List (Option iV)) (a : Int) (h : iH) (Q : Option iV → iH → Prop), G sp sc [] d mX11_count (n + 1) 57 L [.inl a] h Q = Q (some (.inl a)) h) ∧
  (∀ (n d : Nat) (L : List (Option iV)) (st : List iV) (h : iH) (Q : Option iV → iH → Prop), G sp sc [] d mX11_count (n + 1) 58 L st h Q = (match ld L 0 with | some (.inr (.inr (r + 1))) => G sp sc [] d mX11_count n 59 L (.inr (.inr (r + 1)) :: st) h Q | _ => False)) ∧
  (∀ (n d : Nat) (L : List (Option iV)) (r : List iV) (m : Nat) (h : iH) (Q : Option iV → iH → Prop), G sp sc [] d mX11_count (n + 1) 59 L (.inr (.inr (m + 2)) :: r) h Q = (match h.1[m]? with | some (.inl (ci, fs)) => (match lkF 11 17 ci with | some k => (match fs[k]? with | some v => G sp sc [] d mX11_count n 62 L (v :: r) h Q | none => False) | none => False) | _ => False)) ∧
  (∀ (n d : Nat) (L : List (Option iV)) (r : List iV) (m : Nat) (h : iH) (Q : Option iV → iH → Prop), G sp sc [] d mX11_count (n + 1) 62 L (.inr (.inr (m + 2)) :: r) h Q = (match h.1[m]? with | some (.inl (ci, fs)) => (match lkF 11 261 ci with | some k => (match fs[k]? with | some v => G sp sc [] d mX11_count n 65 L (v :: r) h Q | none => False) | none => False) | _ => False)) ∧
  (∀ (n d : Nat) (L : List (Option iV)) (st : List iV) (h : iH) (Q : Option iV → iH → Prop), G sp sc [] d mX11_count (n + 1) 65 L st h Q = G sp sc [] d mX11_count n 66 L (.inl 1 :: st) h Q) ∧
  (∀ (n d : Nat) (L : List (Option iV)) (r : List iV) (j : Int) (m : Nat) (h : iH) (Q : Option iV → iH → Prop), G sp sc [] d mX11_count (n + 1) 66 L (.inl j :: .inr (.inr (m + 2)) :: r) h Q = (match h.1[m]? with | some (.inr (.inl (0, xs))) => inA j xs.length = true ∧ G sp sc [] d mX11_count n 67 L (.inl (xs.getD j.toNat 0) :: r) h Q | _ => False)) ∧
  (∀ (n d : Nat) (L : List (Option iV)) (a : Int) (h : iH) (Q : Option iV → iH → Prop), G sp sc [] d mX11_count (n + 1) 67 L [.inl a] h Q = Q (some (.inl a)) h) ∧
  (∀ (n d : Nat) (L : List (Option iV)) (st : List iV) (h : iH) (Q : Option iV → iH → Prop), G sp sc [] d mX11_count (n + 1) 68 L st h Q = (match ld L 0 with | some (.inr (.inr (r + 1))) => G sp sc [] d mX11_count n 69 L (.inr (.inr (r + 1)) :: st) h Q | _ => False)) ∧
  (∀ (n d : Nat) (L : List (Option iV)) (r : List iV) (m : Nat) (h : iH) (Q : Option iV → iH → Prop), G sp sc [] d mX11_count (n + 1) 69 L (.inr (.inr (m + 2)) :: r) h Q = (match h.1[m]? with | some (.inl (ci, fs)) => (match lkF 11 17 ci with | some k => (match fs[k]? with | some v => G sp sc [] d mX11_count n 72 L (v :: r) h Q | none => False) | none => False) | _ => False)) ∧
  (∀ (n d : Nat) (L : List (Option iV)) (r : List iV) (m : Nat) (h : iH) (Q : Option iV → iH → Prop), G sp sc [] d mX11_count (n + 1) 72 L (.inr (.inr (m + 2)) :: r) h Q = (match h.1[m]? with | some (.inl (ci, fs)) => (match lkF 11 242 ci with | some k => (match fs[k]? with | some v => G sp sc [] d mX11_count n 75 L (v :: r) h Q | none => False) | none => False) | _ => False)) ∧
  (∀ (n d : Nat) (L : List (Option iV)) (a : Int) (h : iH) (Q : Option iV → iH → Prop), G sp sc [] d mX11_count (n + 1) 75 L [.inl a] h Q = Q (some (.inl a)) h) ∧
  (∀ (n d : Nat) (L : List (Option iV)) (st : List iV) (h : iH) (Q : Option iV → iH → Prop), G sp sc [] d mX11_count (n + 1) 76 L st h Q = (match ld L 0 with | some (.inr (.inr (r + 1))) => G sp sc [] d mX11_count n 77 L (.inr (.inr (r + 1)) :: st) h Q | _ => False)) ∧
  (∀ (n d : Nat) (L : List (Option iV)) (r : List iV) (m : Nat) (h : iH) (Q : Option iV → iH → Prop), G sp sc [] d mX11_count (n + 1) 77 L (.inr (.inr (m + 2)) :: r) h Q = (match h.1[m]? with | some (.inl (ci, fs)) => (match lkF 11 17 ci with | some k => (match fs[k]? with | some v => G sp sc [] d mX11_count n 80 L (v :: r) h Q | none => False) | none => False) | _ => False)) ∧
  (∀ (n d : Nat) (L : List (Option iV)) (r : List iV) (m : Nat) (h : iH) (Q : Option iV → iH → Prop), G sp sc [] d mX11_count (n + 1) 80 L (.inr (.inr (m + 2)) :: r) h Q = (match h.1[m]? with | some (.inl (ci, fs)) => (match lkF 11 215 ci with | some k => (match fs[k]? with | some v => G sp sc [] d mX11_count n 83 L (v :: r) h Q | none => False) | none => False) | _ => False)) ∧
  (∀ (n d : Nat) (L : List (Option iV)) (a : Int) (h : iH) (Q : Option iV → iH → Prop), G sp sc [] d mX11_count (n + 1) 83 L [.inl a] h Q = Q (some (.inl a)) h) ∧
  (∀ (n d : Nat) (L : List (Option iV)) (st : List iV) (h : iH) (Q : Option iV → iH → Prop), G sp sc [] d mX11_count (n + 1) 84 L st h Q = (match ld L 0 with | some (.inr (.inr (r + 1))) => G sp sc [] d mX11_count n 85 L (.inr (.inr (r + 1)) :: st) h Q | _ => False)) ∧
  (∀ (n d : Nat) (L : List (Option iV)) (r : List iV) (m : Nat) (h : iH) (Q : Option iV → iH → Prop), G sp sc [] d mX11_count (n + 1) 85 L (.inr (.inr (m + 2)) :: r) h Q = (match h.1[m]? with | some (.inl (ci, fs)) => (match lkF 11 17 ci with | some k => (match fs[k]? with | some v => G sp sc [] d mX11_count n 88 L (v :: r) h Q | none => False) | none => False) | _ => False)) ∧
  (∀ (n d : Nat) (L : List (Option iV)) (r : List iV) (m : Nat) (h : iH) (Q : Option iV → iH → Prop), G sp sc [] d mX11_count (n + 1) 88 L (.inr (.inr (m + 2)) :: r) h Q = (match h.1[m]? with | some (.inl (ci, fs)) => (match lkF 11 212 ci with | some k => (match fs[k]? with | some v => G sp sc [] d mX11_count n 91 L (v :: r) h Q | none => False) | none => False) | _ => False)) ∧
  (∀ (n d : Nat) (L : List (Option iV)) (a : Int) (h : iH) (Q : Option iV → iH → Prop), G sp sc [] d mX11_count (n + 1) 91 L [.inl a] h Q = Q (some (.inl a)) h) ∧
  (∀ (n d : Nat) (L : List (Option iV)) (st : List iV) (h : iH) (Q : Option iV → iH → Prop), G sp sc [] d mX11_count (n + 1) 92 L st h Q = (match ld L 0 with | some (.inr (.inr (r + 1))) => G sp sc [] d mX11_count n 93 L (.inr (.inr (r + 1)) :: st) h Q | _ => False)) ∧
  (∀ (n d : Nat) (L : List (Option iV)) (r : List iV) (m : Nat) (h : iH) (Q : Option iV → iH → Prop), G sp sc [] d mX11_count (n + 1) 93 L (.inr (.inr (m + 2)) :: r) h Q = (match h.1[m]? with | some (.inl (ci, fs)) => (match lkF 11 17 ci with | some k => (match fs[k]? with | some v => G sp sc [] d mX11_count n 96 L (v :: r) h Q | none => False) | none => False) | _ => False)) ∧
  (∀ (n d : Nat) (L : List (Option iV)) (st : List iV) (h : iH) (Q : Option iV → iH → Prop), G sp sc [] d mX11_count (n + 1) 96 L st h Q = G sp sc [] d mX11_count n 97 L (.inl 0 :: st) h Q) ∧
  (∀ (n d : Nat) (L : List (Option iV)) (r : List iV) (m : Nat) (z0 : iV) (h : iH) (Q : Option iV → iH → Prop), G sp sc [] (d + 1) mX11_count (n + 1) 97 L (z0 :: .inr (.inr (m + 2)) :: r) h Q = (match h.1[m]? with | some (.inl (ci, _)) => (match lkC 11 239 ci with | some (y1, n1, kd) => (n1 = 1 ∧ (kd = 2 ∨ kd = 3 ∨ kd = 8) ∧ cs r ≤ 8) ∧ Call sp sc d y1 [.inr (.inr (m + 2)), z0] h (fun q h1 => GC sp sc [] (d + 1) mX11_count n 100 L q r h h1 Q) | none => False) | _ => False)) ∧
  (∀ (n d : Nat) (L : List (Option iV)) (a : Int) (h : iH) (Q : Option iV → iH → Prop), G sp sc [] d mX11_count (n + 1) 100 L [.inl a] h Q = Q (some (.inl a)) h) ∧
  (∀ (n d : Nat) (L : List (Option iV)) (st : List iV) (h : iH) (Q : Option iV → iH → Prop), G sp sc [] d mX11_count (n + 1) 101 L st h Q = (match ld L 0 with | some (.inr (.inr (r + 1))) => G sp sc [] d mX11_count n 102 L (.inr (.inr (r + 1)) :: st) h Q | _ => False)) ∧
  (∀ (n d : Nat) (L : List (Option iV)) (r : List iV) (m : Nat) (h : iH) (Q : Option iV → iH → Prop), G sp sc [] d mX11_count (n + 1) 102 L (.inr (.inr (m + 2)) :: r) h Q = (match h.1[m]? with | some (.inl (ci, fs)) => (match lkF 11 17 ci with | some k => (match fs[k]? with | some v => G sp sc [] d mX11_count n 105 L (v :: r) h Q | none => False) | none => False) | _ => False)) ∧
  (∀ (n d : Nat) (L : List (Option iV)) (st : List iV) (h : iH) (Q : Option iV → iH → Prop), G sp sc [] d mX11_count (n + 1) 105 L st h Q = G sp sc [] d mX11_count n 106 L (.inl 1 :: st) h Q) ∧
  (∀ (n d : Nat) (L : List (Option iV)) (r : List iV) (m : Nat) (z0 : iV) (h : iH) (Q : Option iV → iH → Prop), G sp sc [] (d + 1) mX11_count (n + 1) 106 L (z0 :: .inr (.inr (m + 2)) :: r) h Q = (match h.1[m]? with | some (.inl (ci, _)) => (match lkC 11 239 ci with | some (y1, n1, kd) => (n1 = 1 ∧ (kd = 2 ∨ kd = 3 ∨ kd = 8) ∧ cs r ≤ 8) ∧ Call sp sc d y1 [.inr (.inr (m + 2)), z0] h (fun q h1 => GC sp sc [] (d + 1) mX11_count n 109 L q r h h1 Q) | none => False) | _ => False)) ∧
  (∀ (n d : Nat) (L : List (Option iV)) (a : Int) (h : iH) (Q : Option iV → iH → Prop), G sp sc [] d mX11_count (n + 1) 109 L [.inl a] h Q = Q (some (.inl a)) h) ∧
  (∀ (n d : Nat) (L : List (Option iV)) (st : List iV) (h : iH) (Q : Option iV → iH → Prop), G sp sc [] d mX11_count (n + 1) 110 L st h Q = (match ld L 0 with | some (.inr (.inr (r + 1))) => G sp sc [] d mX11_count n 111 L (.inr (.inr (r + 1)) :: st) h Q | _ => False)) ∧
  (∀ (n d : Nat) (L : List (Option iV)) (r : List iV) (m : Nat) (h : iH) (Q : Option iV → iH → Prop), G sp sc [] d mX11_count (n + 1) 111 L (.inr (.inr (m + 2)) :: r) h Q = (match h.1[m]? with | some (.inl (ci, fs)) => (match lkF 11 17 ci with | some k => (match fs[k]? with | some v => G sp sc [] d mX11_count n 114 L (v :: r) h Q | none => False) | none => False) | _ => False)) ∧
  (∀ (n d : Nat) (L : List (Option iV)) (st : List iV) (h : iH) (Q : Option iV → iH → Prop), G sp sc [] d mX11_count (n + 1) 114 L st h Q = G sp sc [] d mX11_count n 115 L (.inl 2 :: st) h Q) ∧
  (∀ (n d : Nat) (L : List (Option iV)) (r : List iV) (m : Nat) (z0 : iV) (h : iH) (Q : Option iV → iH → Prop), G sp sc [] (d + 1) mX11_count (n + 1) 115 L (z0 :: .inr (.inr (m + 2)) :: r) h Q = (match h.1[m]? with | some (.inl (ci, _)) => (match lkC 11 239 ci with | some (y1, n1, kd) => (n1 = 1 ∧ (kd = 2 ∨ kd = 3 ∨ kd = 8) ∧ cs r ≤ 8) ∧ Call sp sc d y1 [.inr (.inr (m + 2)), z0] h (fun q h1 => GC sp sc [] (d + 1) mX11_count n 118 L q r h h1 Q) | none => False) | _ => False)) ∧
  (∀ (n d : Nat) (L : List (Option iV)) (a : Int) (h : iH) (Q : Option iV → iH → Prop), G sp sc [] d mX11_count (n + 1) 118 L [.inl a] h Q = Q (some (.inl a)) h) ∧
  (∀ (n d : Nat) (L : List (Option iV)) (st : List iV) (h : iH) (Q : Option iV → iH → Prop), G sp sc [] d mX11_count (n + 1) 119 L st h Q = G sp sc [] d mX11_count n 120 L (.inl (-1) :: st) h Q) ∧
  (∀ (n d : Nat) (L : List (Option iV)) (a : Int) (h : iH) (Q : Option iV → iH → Prop), G sp sc [] d mX11_count (n + 1) 120 L [.inl a] h Q = Q (some (.inl a)) h) ∧
  lkC 11 239 8 = some (mX8_howMany, 1, 2) ∧
  lkF 11 17 11 = some 2 ∧
  lkF 11 212 8 = some 11 ∧
  lkF 11 215 8 = some 12 ∧
  lkF 11 242 8 = some 5 ∧
  lkF 11 261 8 = some 0 := ⟨by intros; exact G_at (by decide +kernel : fetch mX11_count 0 = some (.iload_n 1)),
  by intros; exact G_at (by decide +kernel : fetch mX11_count 1 = some (.tableswitch 118 0 7 #[47, 57, 67, 75, 83, 91, 100, 109])),
  by intros; exact G_at (by decide +kernel : fetch mX11_count 48 = some (.aload_n 0)),
  by intros; exact G_own (by decide +kernel : fetch mX11_count 49 = some (.getfield 17)) (by decide +kernel),
  by intros; exact G_own (by decide +kernel : fetch mX11_count 52 = some (.getfield 261)) (by decide +kernel),
  by intros; exact G_at (by decide +kernel : fetch mX11_count 55 = some (.iconst 0)),
  by intros; exact G_at (by decide +kernel : fetch mX11_count 56 = some (.iaload)),
  by intros; exact G_reti (by decide +kernel : fetch mX11_count 57 = some (.ireturn)) (by decide +kernel),
  by intros; exact G_at (by decide +kernel : fetch mX11_count 58 = some (.aload_n 0)),
  by intros; exact G_own (by decide +kernel : fetch mX11_count 59 = some (.getfield 17)) (by decide +kernel),
  by intros; exact G_own (by decide +kernel : fetch mX11_count 62 = some (.getfield 261)) (by decide +kernel),
  by intros; exact G_at (by decide +kernel : fetch mX11_count 65 = some (.iconst 1)),
  by intros; exact G_at (by decide +kernel : fetch mX11_count 66 = some (.iaload)),
  by intros; exact G_reti (by decide +kernel : fetch mX11_count 67 = some (.ireturn)) (by decide +kernel),
  by intros; exact G_at (by decide +kernel : fetch mX11_count 68 = some (.aload_n 0)),
  by intros; exact G_own (by decide +kernel : fetch mX11_count 69 = some (.getfield 17)) (by decide +kernel),
  by intros; exact G_own (by decide +kernel : fetch mX11_count 72 = some (.getfield 242)) (by decide +kernel),
  by intros; exact G_reti (by decide +kernel : fetch mX11_count 75 = some (.ireturn)) (by decide +kernel),
  by intros; exact G_at (by decide +kernel : fetch mX11_count 76 = some (.aload_n 0)),
  by intros; exact G_own (by decide +kernel : fetch mX11_count 77 = some (.getfield 17)) (by decide +kernel),
  by intros; exact G_own (by decide +kernel : fetch mX11_count 80 = some (.getfield 215)) (by decide +kernel),
  by intros; exact G_reti (by decide +kernel : fetch mX11_count 83 = some (.ireturn)) (by decide +kernel),
  by intros; exact G_at (by decide +kernel : fetch mX11_count 84 = some (.aload_n 0)),
  by intros; exact G_own (by decide +kernel : fetch mX11_count 85 = some (.getfield 17)) (by decide +kernel),
  by intros; exact G_own (by decide +kernel : fetch mX11_count 88 = some (.getfield 212)) (by decide +kernel),
  by intros; exact G_reti (by decide +kernel : fetch mX11_count 91 = some (.ireturn)) (by decide +kernel),
  by intros; exact G_at (by decide +kernel : fetch mX11_count 92 = some (.aload_n 0)),
  by intros; exact G_own (by decide +kernel : fetch mX11_count 93 = some (.getfield 17)) (by decide +kernel),
  by intros; exact G_at (by decide +kernel : fetch mX11_count 96 = some (.iconst 0)),
  by intros; exact G_callV (by decide +kernel : fetch mX11_count 97 = some (.invokevirtual 239)) (by decide +kernel) (by decide +kernel) rfl,
  by intros; exact G_reti (by decide +kernel : fetch mX11_count 100 = some (.ireturn)) (by decide +kernel),
  by intros; exact G_at (by decide +kernel : fetch mX11_count 101 = some (.aload_n 0)),
  by intros; exact G_own (by decide +kernel : fetch mX11_count 102 = some (.getfield 17)) (by decide +kernel),
  by intros; exact G_at (by decide +kernel : fetch mX11_count 105 = some (.iconst 1)),
  by intros; exact G_callV (by decide +kernel : fetch mX11_count 106 = some (.invokevirtual 239)) (by decide +kernel) (by decide +kernel) rfl,
  by intros; exact G_reti (by decide +kernel : fetch mX11_count 109 = some (.ireturn)) (by decide +kernel),
  by intros; exact G_at (by decide +kernel : fetch mX11_count 110 = some (.aload_n 0)),
  by intros; exact G_own (by decide +kernel : fetch mX11_count 111 = some (.getfield 17)) (by decide +kernel),
  by intros; exact G_at (by decide +kernel : fetch mX11_count 114 = some (.iconst 2)),
  by intros; exact G_callV (by decide +kernel : fetch mX11_count 115 = some (.invokevirtual 239)) (by decide +kernel) (by decide +kernel) rfl,
  by intros; exact G_reti (by decide +kernel : fetch mX11_count 118 = some (.ireturn)) (by decide +kernel),
  by intros; exact G_at (by decide +kernel : fetch mX11_count 119 = some (.iconst (-1))),
  by intros; exact G_reti (by decide +kernel : fetch mX11_count 120 = some (.ireturn)) (by decide +kernel),
  by decide +kernel,
  by decide +kernel,
  by decide +kernel,
  by decide +kernel,
  by decide +kernel,
  by decide +kernel⟩
theorem gX11_keep : (∀ (n d : Nat) (L : List (Option iV)) (st : List iV) (h : iH) (Q : Option iV → iH → Prop), G sp sc [] d mX11_keep (n + 1) 0 L st h Q = (match ld L 1 with | some (.inl x) => G sp sc [] d mX11_keep n 1 L (.inl x :: st) h Q | _ => False)) ∧
  (∀ (n d : Nat) (L : List (Option iV)) (r : List iV) (z0 : iV) (h : iH) (Q : Option iV → iH → Prop), G sp sc [] (d + 1) mX11_keep (n + 1) 1 L (z0 :: r) h Q = (cs r ≤ 8 ∧ Call sp sc d mX11_isShelf [z0] h (fun q h1 => GC sp sc [] (d + 1) mX11_keep n 4 L q r h h1 Q))) ∧
  (∀ (n d : Nat) (L : List (Option iV)) (a : Int) (r : List iV) (h : iH) (Q : Option iV → iH → Prop), G sp sc [] d mX11_keep (n + 1) 4 L (.inl a :: r) h Q = (inI a = true ∧ (a = 0 → G sp sc [] d mX11_keep n 16 L r h Q) ∧ (¬ (a = 0) → G sp sc [] d mX11_keep n 7 L r h Q))) ∧
  (∀ (n d : Nat) (L : List (Option iV)) (st : List iV) (h : iH) (Q : Option iV → iH → Prop), G sp sc [] d mX11_keep (n + 1) 7 L st h Q = (match ld L 2 with | some (.inl x) => G sp sc [] d mX11_keep n 8 L (.inl x :: st) h Q | _ => False)) ∧
  (∀ (n d : Nat) (L : List (Option iV)) (a : Int) (r : List iV) (h : iH) (Q : Option iV → iH → Prop), G sp sc [] d mX11_keep (n + 1) 8 L (.inl a :: r) h Q = (inI a = true ∧ (a < 0 → G sp sc [] d mX11_keep n 16 L r h Q) ∧ (¬ (a < 0) → G sp sc [] d mX11_keep n 11 L r h Q))) ∧
  (∀ (n d : Nat) (L : List (Option iV)) (st : List iV) (h : iH) (Q : Option iV → iH → Prop), G sp sc [] d mX11_keep (n + 1) 11 L st h Q = (match ld L 2 with | some (.inl x) => G sp sc [] d mX11_keep n 12 L (.inl x :: st) h Q | _ => False)) ∧
  (∀ (n d : Nat) (L : List (Option iV)) (st : List iV) (h : iH) (Q : Option iV → iH → Prop), G sp sc [] d mX11_keep (n + 1) 12 L st h Q = G sp sc [] d mX11_keep n 13 L (.inl 1 :: st) h Q) ∧
  (∀ (n d : Nat) (L : List (Option iV)) (a : Int) (b : Int) (r : List iV) (h : iH) (Q : Option iV → iH → Prop), G sp sc [] d mX11_keep (n + 1) 13 L (.inl b :: .inl a :: r) h Q = ((inI a = true ∧ inI b = true) ∧ (a ≤ b → G sp sc [] d mX11_keep n 18 L r h Q) ∧ (¬ (a ≤ b) → G sp sc [] d mX11_keep n 16 L r h Q))) ∧
  (∀ (n d : Nat) (L : List (Option iV)) (st : List iV) (h : iH) (Q : Option iV → iH → Prop), G sp sc [] d mX11_keep (n + 1) 16 L st h Q = G sp sc [] d mX11_keep n 17 L (.inl (-1) :: st) h Q) ∧
  (∀ (n d : Nat) (L : List (Option iV)) (a : Int) (h : iH) (Q : Option iV → iH → Prop), G sp sc [] d mX11_keep (n + 1) 17 L [.inl a] h Q = Q (some (.inl a)) h) ∧
  (∀ (n d : Nat) (L : List (Option iV)) (st : List iV) (h : iH) (Q : Option iV → iH → Prop), G sp sc [] d mX11_keep (n + 1) 18 L st h Q = (match ld L 2 with | some (.inl x) => G sp sc [] d mX11_keep n 19 L (.inl x :: st) h Q | _ => False)) ∧
  (∀ (n d : Nat) (L : List (Option iV)) (a : Int) (r : List iV) (h : iH) (Q : Option iV → iH → Prop), G sp sc [] d mX11_keep (n + 1) 19 L (.inl a :: r) h Q = (inI a = true ∧ (¬ a = 0 → G sp sc [] d mX11_keep n 34 L r h Q) ∧ (¬ (¬ a = 0) → G sp sc [] d mX11_keep n 22 L r h Q))) ∧
  (∀ (n d : Nat) (L : List (Option iV)) (st : List iV) (h : iH) (Q : Option iV → iH → Prop), G sp sc [] d mX11_keep (n + 1) 22 L st h Q = (match ld L 0 with | some (.inr (.inr (r + 1))) => G sp sc [] d mX11_keep n 23 L (.inr (.inr (r + 1)) :: st) h Q | _ => False)) ∧
  (∀ (n d : Nat) (L : List (Option iV)) (r : List iV) (m : Nat) (h : iH) (Q : Option iV → iH → Prop), G sp sc [] d mX11_keep (n + 1) 23 L (.inr (.inr (m + 2)) :: r) h Q = (match h.1[m]? with | some (.inl (ci, fs)) => (match lkF 11 63 ci with | some k => (match fs[k]? with | some v => G sp sc [] d mX11_keep n 26 L (v :: r) h Q | none => False) | none => False) | _ => False)) ∧
  (∀ (n d : Nat) (L : List (Option iV)) (st : List iV) (h : iH) (Q : Option iV → iH → Prop), G sp sc [] d mX11_keep (n + 1) 26 L st h Q = (match ld L 1 with | some (.inl x) => G sp sc [] d mX11_keep n 27 L (.inl x :: st) h Q | _ => False)) ∧
  (∀ (n d : Nat) (L : List (Option iV)) (r : List iV) (j : Int) (m : Nat) (h : iH) (Q : Option iV → iH → Prop), G sp sc [] d mX11_keep (n + 1) 27 L (.inl j :: .inr (.inr (m + 2)) :: r) h Q = (match h.1[m]? with | some (.inr (.inr (t, rs))) => (inA j rs.length = true ∧ 3 ≤ t ∧ t < 6) ∧ G sp sc [] d mX11_keep n 28 L (.inr (.inr (rs.getD j.toNat 0)) :: r) h Q | _ => False)) ∧
  (∀ (n d : Nat) (L : List (Option iV)) (st : List iV) (h : iH) (Q : Option iV → iH → Prop), G sp sc [] d mX11_keep (n + 1) 28 L st h Q = G sp sc [] d mX11_keep n 29 L (.inl 0 :: st) h Q) ∧
  (∀ (n d : Nat) (L : List (Option iV)) (r : List iV) (v : iV) (m : Nat) (h : iH) (Q : Option iV → iH → Prop), G sp sc [] d mX11_keep (n + 1) 29 L (v :: .inr (.inr (m + 2)) :: r) h Q = (match h.1[m]? with | some (.inl (ci, fs)) => (match lkF 11 79 ci with | some k => (fitV (tyT ci k) v = true ∧ k < fs.length ∧ pOK 11 false ci k = true) ∧ G sp sc [] d mX11_keep n 32 L r (h.1.set m (.inl (ci, fs.set k v)), h.2) Q | none => False) | _ => False)) ∧
  (∀ (n d : Nat) (L : List (Option iV)) (st : List iV) (h : iH) (Q : Option iV → iH → Prop), G sp sc [] d mX11_keep (n + 1) 32 L st h Q = G sp sc [] d mX11_keep n 33 L (.inl 0 :: st) h Q) ∧
  (∀ (n d : Nat) (L : List (Option iV)) (a : Int) (h : iH) (Q : Option iV → iH → Prop), G sp sc [] d mX11_keep (n + 1) 33 L [.inl a] h Q = Q (some (.inl a)) h) ∧
  (∀ (n d : Nat) (L : List (Option iV)) (st : List iV) (h : iH) (Q : Option iV → iH → Prop), G sp sc [] d mX11_keep (n + 1) 34 L st h Q = (match ld L 3 with | some (.inl x) => G sp sc [] d mX11_keep n 35 L (.inl x :: st) h Q | _ => False)) ∧
  (∀ (n d : Nat) (L : List (Option iV)) (r : List iV) (z0 : iV) (h : iH) (Q : Option iV → iH → Prop), G sp sc [] (d + 1) mX11_keep (n + 1) 35 L (z0 :: r) h Q = (cs r ≤ 8 ∧ Call sp sc d mX11_isKind [z0] h (fun q h1 => GC sp sc [] (d + 1) mX11_keep n 38 L q r h h1 Q))) ∧
  (∀ (n d : Nat) (L : List (Option iV)) (a : Int) (r : List iV) (h : iH) (Q : Option iV → iH → Prop), G sp sc [] d mX11_keep (n + 1) 38 L (.inl a :: r) h Q = (inI a = true ∧ (a = 0 → G sp sc [] d mX11_keep n 53 L r h Q) ∧ (¬ (a = 0) → G sp sc [] d mX11_keep n 41 L r h Q))) ∧
  (∀ (n d : Nat) (L : List (Option iV)) (st : List iV) (h : iH) (Q : Option iV → iH → Prop), G sp sc [] d mX11_keep (n + 1) 41 L st h Q = (match ld L 4 with | some (.inl x) => G sp sc [] d mX11_keep n 43 L (.inl x :: st) h Q | _ => False)) ∧
  (∀ (n d : Nat) (L : List (Option iV)) (a : Int) (r : List iV) (h : iH) (Q : Option iV → iH → Prop), G sp sc [] d mX11_keep (n + 1) 43 L (.inl a :: r) h Q = (inI a = true ∧ (a < 0 → G sp sc [] d mX11_keep n 53 L r h Q) ∧ (¬ (a < 0) → G sp sc [] d mX11_keep n 46 L r h Q))) ∧
  (∀ (n d : Nat) (L : List (Option iV)) (st : List iV) (h : iH) (Q : Option iV → iH → Prop), G sp sc [] d mX11_keep (n + 1) 46 L st h Q = (match ld L 4 with | some (.inl x) => G sp sc [] d mX11_keep n 48 L (.inl x :: st) h Q | _ => False)) ∧
  (∀ (n d : Nat) (L : List (Option iV)) (st : List iV) (h : iH) (Q : Option iV → iH → Prop), G sp sc [] d mX11_keep (n + 1) 48 L st h Q = ((-128 ≤ (10 : Int) ∧ (10 : Int) < 128) ∧ G sp sc [] d mX11_keep n 50 L (.inl 10 :: st) h Q)) ∧
  (∀ (n d : Nat) (L : List (Option iV)) (a : Int) (b : Int) (r : List iV) (h : iH) (Q : Option iV → iH → Prop), G sp sc [] d mX11_keep (n + 1) 50 L (.inl b :: .inl a :: r) h Q = ((inI a = true ∧ inI b = true) ∧ (a < b → G sp sc [] d mX11_keep n 55 L r h Q) ∧ (¬ (a < b) → G sp sc [] d mX11_keep n 53 L r h Q))) ∧
  (∀ (n d : Nat) (L : List (Option iV)) (st : List iV) (h : iH) (Q : Option iV → iH → Prop), G sp sc [] d mX11_keep (n + 1) 53 L st h Q = G sp sc [] d mX11_keep n 54 L (.inl (-1) :: st) h Q) ∧
  (∀ (n d : Nat) (L : List (Option iV)) (a : Int) (h : iH) (Q : Option iV → iH → Prop), G sp sc [] d mX11_keep (n + 1) 54 L [.inl a] h Q = Q (some (.inl a)) h) ∧
  (∀ (n d : Nat) (L : List (Option iV)) (st : List iV) (h : iH) (Q : Option iV → iH → Prop), G sp sc [] d mX11_keep (n + 1) 55 L st h Q = (match ld L 0 with | some (.inr (.inr (r + 1))) => G sp sc [] d mX11_keep n 56 L (.inr (.inr (r + 1)) :: st) h Q | _ => False)) ∧
  (∀ (n d : Nat) (L : List (Option iV)) (r : List iV) (m : Nat) (h : iH) (Q : Option iV → iH → Prop), G sp sc [] d mX11_keep (n + 1) 56 L (.inr (.inr (m + 2)) :: r) h Q = (match h.1[m]? with | some (.inl (ci, fs)) => (match lkF 11 63 ci with | some k => (match fs[k]? with | some v => G sp sc [] d mX11_keep n 59 L (v :: r) h Q | none => False) | none => False) | _ => False)) ∧
  (∀ (n d : Nat) (L : List (Option iV)) (st : List iV) (h : iH) (Q : Option iV → iH → Prop), G sp sc [] d mX11_keep (n + 1) 59 L st h Q = (match ld L 1 with | some (.inl x) => G sp sc [] d mX11_keep n 60 L (.inl x :: st) h Q | _ => False)) ∧
  (∀ (n d : Nat) (L : List (Option iV)) (r : List iV) (j : Int) (m : Nat) (h : iH) (Q : Option iV → iH → Prop), G sp sc [] d mX11_keep (n + 1) 60 L (.inl j :: .inr (.inr (m + 2)) :: r) h Q = (match h.1[m]? with | some (.inr (.inr (t, rs))) => (inA j rs.length = true ∧ 3 ≤ t ∧ t < 6) ∧ G sp sc [] d mX11_keep n 61 L (.inr (.inr (rs.getD j.toNat 0)) :: r) h Q | _ => False)) ∧
  (∀ (n d : Nat) (L : List (Option iV)) (st : List iV) (h : iH) (Q : Option iV → iH → Prop), G sp sc [] d mX11_keep (n + 1) 61 L st h Q = (match ld L 0 with | some (.inr (.inr (r + 1))) => G sp sc [] d mX11_keep n 62 L (.inr (.inr (r + 1)) :: st) h Q | _ => False)) ∧
  (∀ (n d : Nat) (L : List (Option iV)) (r : List iV) (m : Nat) (h : iH) (Q : Option iV → iH → Prop), G sp sc [] d mX11_keep (n + 1) 62 L (.inr (.inr (m + 2)) :: r) h Q = (match h.1[m]? with | some (.inl (ci, fs)) => (match lkF 11 42 ci with | some k => (match fs[k]? with | some v => G sp sc [] d mX11_keep n 65 L (v :: r) h Q | none => False) | none => False) | _ => False)) ∧
  (∀ (n d : Nat) (L : List (Option iV)) (st : List iV) (h : iH) (Q : Option iV → iH → Prop), G sp sc [] d mX11_keep (n + 1) 65 L st h Q = (match ld L 3 with | some (.inl x) => G sp sc [] d mX11_keep n 66 L (.inl x :: st) h Q | _ => False)) ∧
  (∀ (n d : Nat) (L : List (Option iV)) (st : List iV) (h : iH) (Q : Option iV → iH → Prop), G sp sc [] d mX11_keep (n + 1) 66 L st h Q = ((-128 ≤ (10 : Int) ∧ (10 : Int) < 128) ∧ G sp sc [] d mX11_keep n 68 L (.inl 10 :: st) h Q)) ∧
  (∀ (n d : Nat) (L : List (Option iV)) (a : Int) (b : Int) (r : List iV) (h : iH) (Q : Option iV → iH → Prop), G sp sc [] d mX11_keep (n + 1) 68 L (.inl b :: .inl a :: r) h Q = G sp sc [] d mX11_keep n 69 L (.inl (a * b) :: r) h Q) ∧
  (∀ (n d : Nat) (L : List (Option iV)) (st : List iV) (h : iH) (Q : Option iV → iH → Prop), G sp sc [] d mX11_keep (n + 1) 69 L st h Q = (match ld L 4 with | some (.inl x) => G sp sc [] d mX11_keep n 71 L (.inl x :: st) h Q | _ => False)) ∧
  (∀ (n d : Nat) (L : List (Option iV)) (a : Int) (b : Int) (r : List iV) (h : iH) (Q : Option iV → iH → Prop), G sp sc [] d mX11_keep (n + 1) 71 L (.inl b :: .inl a :: r) h Q = G sp sc [] d mX11_keep n 72 L (.inl (a + b) :: r) h Q) ∧
  (∀ (n d : Nat) (L : List (Option iV)) (r : List iV) (j : Int) (m : Nat) (h : iH) (Q : Option iV → iH → Prop), G sp sc [] d mX11_keep (n + 1) 72 L (.inl j :: .inr (.inr (m + 2)) :: r) h Q = (match h.1[m]? with | some (.inr (.inr (t, rs))) => (inA j rs.length = true ∧ 3 ≤ t ∧ t < 6) ∧ G sp sc [] d mX11_keep n 73 L (.inr (.inr (rs.getD j.toNat 0)) :: r) h Q | _ => False)) ∧
  (∀ (n d : Nat) (L : List (Option iV)) (r : List iV) (m : Nat) (z0 : iV) (h : iH) (Q : Option iV → iH → Prop), G sp sc [] (d + 1) mX11_keep (n + 1) 73 L (z0 :: .inr (.inr (m + 2)) :: r) h Q = (match h.1[m]? with | some (.inl (ci, _)) => (match lkC 11 334 ci with | some (y1, n1, kd) => (n1 = 1 ∧ (kd = 2 ∨ kd = 3 ∨ kd = 8) ∧ cs r ≤ 8) ∧ Call sp sc d y1 [.inr (.inr (m + 2)), z0] h (fun q h1 => GC sp sc [] (d + 1) mX11_keep n 76 L q r h h1 Q) | none => False) | _ => False)) ∧
  (∀ (n d : Nat) (L : List (Option iV)) (st : List iV) (h : iH) (Q : Option iV → iH → Prop), G sp sc [] d mX11_keep (n + 1) 76 L st h Q = G sp sc [] d mX11_keep n 77 L (.inl 0 :: st) h Q) ∧
  (∀ (n d : Nat) (L : List (Option iV)) (a : Int) (h : iH) (Q : Option iV → iH → Prop), G sp sc [] d mX11_keep (n + 1) 77 L [.inl a] h Q = Q (some (.inl a)) h) ∧
  lkC 11 334 5 = some (mX5_holdNature, 1, 2) ∧
  lkF 11 42 11 = some 0 ∧
  lkF 11 63 11 = some 1 ∧
  lkF 11 79 5 = some 0 ∧
  pOK 11 false 5 0 = true := ⟨by intros; exact G_at (by decide +kernel : fetch mX11_keep 0 = some (.iload_n 1)),
  by intros; exact G_callS (k := 1) (kd := 0) (by decide +kernel : fetch mX11_keep 1 = some (.invokestatic 75)) (by decide +kernel) (by decide +kernel) (by decide +kernel) rfl (by decide),
  by intros; exact G_at (by decide +kernel : fetch mX11_keep 4 = some (.ifCond .eq 12)),
  by intros; exact G_at (by decide +kernel : fetch mX11_keep 7 = some (.iload_n 2)),
  by intros; exact G_at (by decide +kernel : fetch mX11_keep 8 = some (.ifCond .lt 8)),
  by intros; exact G_at (by decide +kernel : fetch mX11_keep 11 = some (.iload_n 2)),
  by intros; exact G_at (by decide +kernel : fetch mX11_keep 12 = some (.iconst 1)),
  by intros; exact G_at (by decide +kernel : fetch mX11_keep 13 = some (.if_icmp .le 5)),
  by intros; exact G_at (by decide +kernel : fetch mX11_keep 16 = some (.iconst (-1))),
  by intros; exact G_reti (by decide +kernel : fetch mX11_keep 17 = some (.ireturn)) (by decide +kernel),
  by intros; exact G_at (by decide +kernel : fetch mX11_keep 18 = some (.iload_n 2)),
  by intros; exact G_at (by decide +kernel : fetch mX11_keep 19 = some (.ifCond .ne 15)),
  by intros; exact G_at (by decide +kernel : fetch mX11_keep 22 = some (.aload_n 0)),
  by intros; exact G_own (by decide +kernel : fetch mX11_keep 23 = some (.getfield 63)) (by decide +kernel),
  by intros; exact G_at (by decide +kernel : fetch mX11_keep 26 = some (.iload_n 1)),
  by intros; exact G_at (by decide +kernel : fetch mX11_keep 27 = some (.aaload)),
  by intros; exact G_at (by decide +kernel : fetch mX11_keep 28 = some (.iconst 0)),
  by intros; exact G_ownW (by decide +kernel : fetch mX11_keep 29 = some (.putfield 79)) (by decide +kernel) (by decide +kernel),
  by intros; exact G_at (by decide +kernel : fetch mX11_keep 32 = some (.iconst 0)),
  by intros; exact G_reti (by decide +kernel : fetch mX11_keep 33 = some (.ireturn)) (by decide +kernel),
  by intros; exact G_at (by decide +kernel : fetch mX11_keep 34 = some (.iload_n 3)),
  by intros; exact G_callS (k := 1) (kd := 0) (by decide +kernel : fetch mX11_keep 35 = some (.invokestatic 331)) (by decide +kernel) (by decide +kernel) (by decide +kernel) rfl (by decide),
  by intros; exact G_at (by decide +kernel : fetch mX11_keep 38 = some (.ifCond .eq 15)),
  by intros; exact G_at (by decide +kernel : fetch mX11_keep 41 = some (.iload 4)),
  by intros; exact G_at (by decide +kernel : fetch mX11_keep 43 = some (.ifCond .lt 10)),
  by intros; exact G_at (by decide +kernel : fetch mX11_keep 46 = some (.iload 4)),
  by intros; exact G_at (by decide +kernel : fetch mX11_keep 48 = some (.bipush 10)),
  by intros; exact G_at (by decide +kernel : fetch mX11_keep 50 = some (.if_icmp .lt 5)),
  by intros; exact G_at (by decide +kernel : fetch mX11_keep 53 = some (.iconst (-1))),
  by intros; exact G_reti (by decide +kernel : fetch mX11_keep 54 = some (.ireturn)) (by decide +kernel),
  by intros; exact G_at (by decide +kernel : fetch mX11_keep 55 = some (.aload_n 0)),
  by intros; exact G_own (by decide +kernel : fetch mX11_keep 56 = some (.getfield 63)) (by decide +kernel),
  by intros; exact G_at (by decide +kernel : fetch mX11_keep 59 = some (.iload_n 1)),
  by intros; exact G_at (by decide +kernel : fetch mX11_keep 60 = some (.aaload)),
  by intros; exact G_at (by decide +kernel : fetch mX11_keep 61 = some (.aload_n 0)),
  by intros; exact G_own (by decide +kernel : fetch mX11_keep 62 = some (.getfield 42)) (by decide +kernel),
  by intros; exact G_at (by decide +kernel : fetch mX11_keep 65 = some (.iload_n 3)),
  by intros; exact G_at (by decide +kernel : fetch mX11_keep 66 = some (.bipush 10)),
  by intros; exact G_at (by decide +kernel : fetch mX11_keep 68 = some (.imul)),
  by intros; exact G_at (by decide +kernel : fetch mX11_keep 69 = some (.iload 4)),
  by intros; exact G_at (by decide +kernel : fetch mX11_keep 71 = some (.iadd)),
  by intros; exact G_at (by decide +kernel : fetch mX11_keep 72 = some (.aaload)),
  by intros; exact G_callV (by decide +kernel : fetch mX11_keep 73 = some (.invokevirtual 334)) (by decide +kernel) (by decide +kernel) rfl,
  by intros; exact G_at (by decide +kernel : fetch mX11_keep 76 = some (.iconst 0)),
  by intros; exact G_reti (by decide +kernel : fetch mX11_keep 77 = some (.ireturn)) (by decide +kernel),
  by decide +kernel,
  by decide +kernel,
  by decide +kernel,
  by decide +kernel,
  by decide +kernel⟩
theorem gX11_row : (∀ (n d : Nat) (L : List (Option iV)) (st : List iV) (h : iH) (Q : Option iV → iH → Prop), G sp sc [] d mX11_row (n + 1) 0 L st h Q = (match ld L 1 with | some (.inl x) => G sp sc [] d mX11_row n 1 L (.inl x :: st) h Q | _ => False)) ∧
  (∀ (n d : Nat) (L : List (Option iV)) (r : List iV) (z0 : iV) (h : iH) (Q : Option iV → iH → Prop), G sp sc [] (d + 1) mX11_row (n + 1) 1 L (z0 :: r) h Q = (cs r ≤ 8 ∧ Call sp sc d mX11_isShelf [z0] h (fun q h1 => GC sp sc [] (d + 1) mX11_row n 4 L q r h h1 Q))) ∧
  (∀ (n d : Nat) (L : List (Option iV)) (a : Int) (r : List iV) (h : iH) (Q : Option iV → iH → Prop), G sp sc [] d mX11_row (n + 1) 4 L (.inl a :: r) h Q = (inI a = true ∧ (a = 0 → G sp sc [] d mX11_row n 22 L r h Q) ∧ (¬ (a = 0) → G sp sc [] d mX11_row n 7 L r h Q))) ∧
  (∀ (n d : Nat) (L : List (Option iV)) (st : List iV) (h : iH) (Q : Option iV → iH → Prop), G sp sc [] d mX11_row (n + 1) 7 L st h Q = (match ld L 2 with | some (.inl x) => G sp sc [] d mX11_row n 8 L (.inl x :: st) h Q | _ => False)) ∧
  (∀ (n d : Nat) (L : List (Option iV)) (a : Int) (r : List iV) (h : iH) (Q : Option iV → iH → Prop), G sp sc [] d mX11_row (n + 1) 8 L (.inl a :: r) h Q = (inI a = true ∧ (a < 0 → G sp sc [] d mX11_row n 22 L r h Q) ∧ (¬ (a < 0) → G sp sc [] d mX11_row n 11 L r h Q))) ∧
  (∀ (n d : Nat) (L : List (Option iV)) (st : List iV) (h : iH) (Q : Option iV → iH → Prop), G sp sc [] d mX11_row (n + 1) 11 L st h Q = (match ld L 2 with | some (.inl x) => G sp sc [] d mX11_row n 12 L (.inl x :: st) h Q | _ => False)) ∧
  (∀ (n d : Nat) (L : List (Option iV)) (st : List iV) (h : iH) (Q : Option iV → iH → Prop), G sp sc [] d mX11_row (n + 1) 12 L st h Q = G sp sc [] d mX11_row n 13 L (.inl 2 :: st) h Q) ∧
  (∀ (n d : Nat) (L : List (Option iV)) (a : Int) (b : Int) (r : List iV) (h : iH) (Q : Option iV → iH → Prop), G sp sc [] d mX11_row (n + 1) 13 L (.inl b :: .inl a :: r) h Q = ((inI a = true ∧ inI b = true) ∧ (b < a → G sp sc [] d mX11_row n 22 L r h Q) ∧ (¬ (b < a) → G sp sc [] d mX11_row n 16 L r h Q))) ∧
  (∀ (n d : Nat) (L : List (Option iV)) (st : List iV) (h : iH) (Q : Option iV → iH → Prop), G sp sc [] d mX11_row (n + 1) 16 L st h Q = (match ld L 3 with | some (.inl x) => G sp sc [] d mX11_row n 17 L (.inl x :: st) h Q | _ => False)) ∧
  (∀ (n d : Nat) (L : List (Option iV)) (st : List iV) (h : iH) (Q : Option iV → iH → Prop), G sp sc [] d mX11_row (n + 1) 17 L st h Q = ((-128 ≤ (100 : Int) ∧ (100 : Int) < 128) ∧ G sp sc [] d mX11_row n 19 L (.inl 100 :: st) h Q)) ∧
  (∀ (n d : Nat) (L : List (Option iV)) (a : Int) (b : Int) (r : List iV) (h : iH) (Q : Option iV → iH → Prop), G sp sc [] d mX11_row (n + 1) 19 L (.inl b :: .inl a :: r) h Q = ((inI a = true ∧ inI b = true) ∧ (a ≤ b → G sp sc [] d mX11_row n 24 L r h Q) ∧ (¬ (a ≤ b) → G sp sc [] d mX11_row n 22 L r h Q))) ∧
  (∀ (n d : Nat) (L : List (Option iV)) (st : List iV) (h : iH) (Q : Option iV → iH → Prop), G sp sc [] d mX11_row (n + 1) 22 L st h Q = G sp sc [] d mX11_row n 23 L (.inl (-1) :: st) h Q) ∧
  (∀ (n d : Nat) (L : List (Option iV)) (a : Int) (h : iH) (Q : Option iV → iH → Prop), G sp sc [] d mX11_row (n + 1) 23 L [.inl a] h Q = Q (some (.inl a)) h) ∧
  (∀ (n d : Nat) (L : List (Option iV)) (st : List iV) (h : iH) (Q : Option iV → iH → Prop), G sp sc [] d mX11_row (n + 1) 24 L st h Q = (match ld L 3 with | some (.inl x) => G sp sc [] d mX11_row n 25 L (.inl x :: st) h Q | _ => False)) ∧
  (∀ (n d : Nat) (L : List (Option iV)) (a : Int) (r : List iV) (h : iH) (Q : Option iV → iH → Prop), G sp sc [] d mX11_row (n + 1) 25 L (.inl a :: r) h Q = (inI a = true ∧ (0 ≤ a → G sp sc [] d mX11_row n 31 L r h Q) ∧ (¬ (0 ≤ a) → G sp sc [] d mX11_row n 28 L r h Q))) ∧
  (∀ (n d : Nat) (L : List (Option iV)) (st : List iV) (h : iH) (Q : Option iV → iH → Prop), G sp sc [] d mX11_row (n + 1) 28 L st h Q = ((-128 ≤ ((-14) : Int) ∧ ((-14) : Int) < 128) ∧ G sp sc [] d mX11_row n 30 L (.inl (-14) :: st) h Q)) ∧
  (∀ (n d : Nat) (L : List (Option iV)) (a : Int) (h : iH) (Q : Option iV → iH → Prop), G sp sc [] d mX11_row (n + 1) 30 L [.inl a] h Q = Q (some (.inl a)) h) ∧
  (∀ (n d : Nat) (L : List (Option iV)) (st : List iV) (h : iH) (Q : Option iV → iH → Prop), G sp sc [] d mX11_row (n + 1) 31 L st h Q = (match ld L 0 with | some (.inr (.inr (r + 1))) => G sp sc [] d mX11_row n 32 L (.inr (.inr (r + 1)) :: st) h Q | _ => False)) ∧
  (∀ (n d : Nat) (L : List (Option iV)) (r : List iV) (m : Nat) (h : iH) (Q : Option iV → iH → Prop), G sp sc [] d mX11_row (n + 1) 32 L (.inr (.inr (m + 2)) :: r) h Q = (match h.1[m]? with | some (.inl (ci, fs)) => (match lkF 11 63 ci with | some k => (match fs[k]? with | some v => G sp sc [] d mX11_row n 35 L (v :: r) h Q | none => False) | none => False) | _ => False)) ∧
  (∀ (n d : Nat) (L : List (Option iV)) (st : List iV) (h : iH) (Q : Option iV → iH → Prop), G sp sc [] d mX11_row (n + 1) 35 L st h Q = (match ld L 1 with | some (.inl x) => G sp sc [] d mX11_row n 36 L (.inl x :: st) h Q | _ => False)) ∧
  (∀ (n d : Nat) (L : List (Option iV)) (r : List iV) (j : Int) (m : Nat) (h : iH) (Q : Option iV → iH → Prop), G sp sc [] d mX11_row (n + 1) 36 L (.inl j :: .inr (.inr (m + 2)) :: r) h Q = (match h.1[m]? with | some (.inr (.inr (t, rs))) => (inA j rs.length = true ∧ 3 ≤ t ∧ t < 6) ∧ G sp sc [] d mX11_row n 37 L (.inr (.inr (rs.getD j.toNat 0)) :: r) h Q | _ => False)) ∧
  (∀ (n d : Nat) (L : List (Option iV)) (st : List iV) (h : iH) (Q : Option iV → iH → Prop), G sp sc [] d mX11_row (n + 1) 37 L st h Q = (match ld L 2 with | some (.inl x) => G sp sc [] d mX11_row n 38 L (.inl x :: st) h Q | _ => False)) ∧
  (∀ (n d : Nat) (L : List (Option iV)) (st : List iV) (h : iH) (Q : Option iV → iH → Prop), G sp sc [] d mX11_row (n + 1) 38 L st h Q = (match ld L 3 with | some (.inl x) => G sp sc [] d mX11_row n 39 L (.inl x :: st) h Q | _ => False)) ∧
  (∀ (n d : Nat) (L : List (Option iV)) (r : List iV) (m : Nat) (z0 : iV) (z1 : iV) (h : iH) (Q : Option iV → iH → Prop), G sp sc [] (d + 1) mX11_row (n + 1) 39 L (z1 :: z0 :: .inr (.inr (m + 2)) :: r) h Q = (match h.1[m]? with | some (.inl (ci, _)) => (match lkC 11 337 ci with | some (y1, n1, kd) => (n1 = 2 ∧ (kd = 2 ∨ kd = 3 ∨ kd = 8) ∧ cs r ≤ 8) ∧ Call sp sc d y1 [.inr (.inr (m + 2)), z0, z1] h (fun q h1 => GC sp sc [] (d + 1) mX11_row n 42 L q r h h1 Q) | none => False) | _ => False)) ∧
  (∀ (n d : Nat) (L : List (Option iV)) (st : List iV) (h : iH) (Q : Option iV → iH → Prop), G sp sc [] d mX11_row (n + 1) 42 L st h Q = G sp sc [] d mX11_row n 43 L (.inl 0 :: st) h Q) ∧
  (∀ (n d : Nat) (L : List (Option iV)) (a : Int) (h : iH) (Q : Option iV → iH → Prop), G sp sc [] d mX11_row (n + 1) 43 L [.inl a] h Q = Q (some (.inl a)) h) ∧
  lkC 11 337 5 = some (mX5_holdRow, 2, 2) ∧
  lkF 11 63 11 = some 1 := ⟨by intros; exact G_at (by decide +kernel : fetch mX11_row 0 = some (.iload_n 1)),
  by intros; exact G_callS (k := 1) (kd := 0) (by decide +kernel : fetch mX11_row 1 = some (.invokestatic 75)) (by decide +kernel) (by decide +kernel) (by decide +kernel) rfl (by decide),
  by intros; exact G_at (by decide +kernel : fetch mX11_row 4 = some (.ifCond .eq 18)),
  by intros; exact G_at (by decide +kernel : fetch mX11_row 7 = some (.iload_n 2)),
  by intros; exact G_at (by decide +kernel : fetch mX11_row 8 = some (.ifCond .lt 14)),
  by intros; exact G_at (by decide +kernel : fetch mX11_row 11 = some (.iload_n 2)),
  by intros; exact G_at (by decide +kernel : fetch mX11_row 12 = some (.iconst 2)),
  by intros; exact G_at (by decide +kernel : fetch mX11_row 13 = some (.if_icmp .gt 9)),
  by intros; exact G_at (by decide +kernel : fetch mX11_row 16 = some (.iload_n 3)),
  by intros; exact G_at (by decide +kernel : fetch mX11_row 17 = some (.bipush 100)),
  by intros; exact G_at (by decide +kernel : fetch mX11_row 19 = some (.if_icmp .le 5)),
  by intros; exact G_at (by decide +kernel : fetch mX11_row 22 = some (.iconst (-1))),
  by intros; exact G_reti (by decide +kernel : fetch mX11_row 23 = some (.ireturn)) (by decide +kernel),
  by intros; exact G_at (by decide +kernel : fetch mX11_row 24 = some (.iload_n 3)),
  by intros; exact G_at (by decide +kernel : fetch mX11_row 25 = some (.ifCond .ge 6)),
  by intros; exact G_at (by decide +kernel : fetch mX11_row 28 = some (.bipush (-14))),
  by intros; exact G_reti (by decide +kernel : fetch mX11_row 30 = some (.ireturn)) (by decide +kernel),
  by intros; exact G_at (by decide +kernel : fetch mX11_row 31 = some (.aload_n 0)),
  by intros; exact G_own (by decide +kernel : fetch mX11_row 32 = some (.getfield 63)) (by decide +kernel),
  by intros; exact G_at (by decide +kernel : fetch mX11_row 35 = some (.iload_n 1)),
  by intros; exact G_at (by decide +kernel : fetch mX11_row 36 = some (.aaload)),
  by intros; exact G_at (by decide +kernel : fetch mX11_row 37 = some (.iload_n 2)),
  by intros; exact G_at (by decide +kernel : fetch mX11_row 38 = some (.iload_n 3)),
  by intros; exact G_callV (by decide +kernel : fetch mX11_row 39 = some (.invokevirtual 337)) (by decide +kernel) (by decide +kernel) rfl,
  by intros; exact G_at (by decide +kernel : fetch mX11_row 42 = some (.iconst 0)),
  by intros; exact G_reti (by decide +kernel : fetch mX11_row 43 = some (.ireturn)) (by decide +kernel),
  by decide +kernel,
  by decide +kernel⟩
theorem gX11_put : (∀ (n d : Nat) (L : List (Option iV)) (st : List iV) (h : iH) (Q : Option iV → iH → Prop), G sp sc [] d mX11_put (n + 1) 0 L st h Q = (match ld L 1 with | some (.inl x) => G sp sc [] d mX11_put n 1 L (.inl x :: st) h Q | _ => False)) ∧
  (∀ (n d : Nat) (L : List (Option iV)) (r : List iV) (z0 : iV) (h : iH) (Q : Option iV → iH → Prop), G sp sc [] (d + 1) mX11_put (n + 1) 1 L (z0 :: r) h Q = (cs r ≤ 8 ∧ Call sp sc d mX11_isShelf [z0] h (fun q h1 => GC sp sc [] (d + 1) mX11_put n 4 L q r h h1 Q))) ∧
  (∀ (n d : Nat) (L : List (Option iV)) (a : Int) (r : List iV) (h : iH) (Q : Option iV → iH → Prop), G sp sc [] d mX11_put (n + 1) 4 L (.inl a :: r) h Q = (inI a = true ∧ (¬ a = 0 → G sp sc [] d mX11_put n 9 L r h Q) ∧ (¬ (¬ a = 0) → G sp sc [] d mX11_put n 7 L r h Q))) ∧
  (∀ (n d : Nat) (L : List (Option iV)) (st : List iV) (h : iH) (Q : Option iV → iH → Prop), G sp sc [] d mX11_put (n + 1) 7 L st h Q = G sp sc [] d mX11_put n 8 L (.inl (-1) :: st) h Q) ∧
  (∀ (n d : Nat) (L : List (Option iV)) (a : Int) (h : iH) (Q : Option iV → iH → Prop), G sp sc [] d mX11_put (n + 1) 8 L [.inl a] h Q = Q (some (.inl a)) h) ∧
  (∀ (n d : Nat) (L : List (Option iV)) (st : List iV) (h : iH) (Q : Option iV → iH → Prop), G sp sc [] d mX11_put (n + 1) 9 L st h Q = (match ld L 0 with | some (.inr (.inr (r + 1))) => G sp sc [] d mX11_put n 10 L (.inr (.inr (r + 1)) :: st) h Q | _ => False)) ∧
  (∀ (n d : Nat) (L : List (Option iV)) (r : List iV) (m : Nat) (h : iH) (Q : Option iV → iH → Prop), G sp sc [] d mX11_put (n + 1) 10 L (.inr (.inr (m + 2)) :: r) h Q = (match h.1[m]? with | some (.inl (ci, fs)) => (match lkF 11 63 ci with | some k => (match fs[k]? with | some v => G sp sc [] d mX11_put n 13 L (v :: r) h Q | none => False) | none => False) | _ => False)) ∧
  (∀ (n d : Nat) (L : List (Option iV)) (st : List iV) (h : iH) (Q : Option iV → iH → Prop), G sp sc [] d mX11_put (n + 1) 13 L st h Q = (match ld L 1 with | some (.inl x) => G sp sc [] d mX11_put n 14 L (.inl x :: st) h Q | _ => False)) ∧
  (∀ (n d : Nat) (L : List (Option iV)) (r : List iV) (j : Int) (m : Nat) (h : iH) (Q : Option iV → iH → Prop), G sp sc [] d mX11_put (n + 1) 14 L (.inl j :: .inr (.inr (m + 2)) :: r) h Q = (match h.1[m]? with | some (.inr (.inr (t, rs))) => (inA j rs.length = true ∧ 3 ≤ t ∧ t < 6) ∧ G sp sc [] d mX11_put n 15 L (.inr (.inr (rs.getD j.toNat 0)) :: r) h Q | _ => False)) ∧
  (∀ (n d : Nat) (L : List (Option iV)) (r : List iV) (m : Nat) (h : iH) (Q : Option iV → iH → Prop), G sp sc [] (d + 1) mX11_put (n + 1) 15 L (.inr (.inr (m + 2)) :: r) h Q = (match h.1[m]? with | some (.inl (ci, _)) => (match lkC 11 267 ci with | some (y1, n1, kd) => (n1 = 0 ∧ (kd = 2 ∨ kd = 3 ∨ kd = 8) ∧ cs r ≤ 8) ∧ Call sp sc d y1 [.inr (.inr (m + 2))] h (fun q h1 => GC sp sc [] (d + 1) mX11_put n 18 L q r h h1 Q) | none => False) | _ => False)) ∧
  (∀ (n d : Nat) (L : List (Option iV)) (r : List iV) (x : Int) (h : iH) (Q : Option iV → iH → Prop), G sp sc [] d mX11_put (n + 1) 18 L (.inl x :: r) h Q = (match st1 L 4 (.inl x) with | some L' => G sp sc [] d mX11_put n 20 L' r h Q | none => False)) ∧
  (∀ (n d : Nat) (L : List (Option iV)) (st : List iV) (h : iH) (Q : Option iV → iH → Prop), G sp sc [] d mX11_put (n + 1) 20 L st h Q = (match ld L 4 with | some (.inl x) => G sp sc [] d mX11_put n 22 L (.inl x :: st) h Q | _ => False)) ∧
  (∀ (n d : Nat) (L : List (Option iV)) (a : Int) (r : List iV) (h : iH) (Q : Option iV → iH → Prop), G sp sc [] d mX11_put (n + 1) 22 L (.inl a :: r) h Q = (inI a = true ∧ (a = 0 → G sp sc [] d mX11_put n 28 L r h Q) ∧ (¬ (a = 0) → G sp sc [] d mX11_put n 25 L r h Q))) ∧
  (∀ (n d : Nat) (L : List (Option iV)) (st : List iV) (h : iH) (Q : Option iV → iH → Prop), G sp sc [] d mX11_put (n + 1) 25 L st h Q = (match ld L 4 with | some (.inl x) => G sp sc [] d mX11_put n 27 L (.inl x :: st) h Q | _ => False)) ∧
  (∀ (n d : Nat) (L : List (Option iV)) (a : Int) (h : iH) (Q : Option iV → iH → Prop), G sp sc [] d mX11_put (n + 1) 27 L [.inl a] h Q = Q (some (.inl a)) h) ∧
  (∀ (n d : Nat) (L : List (Option iV)) (st : List iV) (h : iH) (Q : Option iV → iH → Prop), G sp sc [] d mX11_put (n + 1) 28 L st h Q = (match ld L 0 with | some (.inr (.inr (r + 1))) => G sp sc [] d mX11_put n 29 L (.inr (.inr (r + 1)) :: st) h Q | _ => False)) ∧
  (∀ (n d : Nat) (L : List (Option iV)) (r : List iV) (m : Nat) (h : iH) (Q : Option iV → iH → Prop), G sp sc [] d mX11_put (n + 1) 29 L (.inr (.inr (m + 2)) :: r) h Q = (match h.1[m]? with | some (.inl (ci, fs)) => (match lkF 11 63 ci with | some k => (match fs[k]? with | some v => G sp sc [] d mX11_put n 32 L (v :: r) h Q | none => False) | none => False) | _ => False)) ∧
  (∀ (n d : Nat) (L : List (Option iV)) (st : List iV) (h : iH) (Q : Option iV → iH → Prop), G sp sc [] d mX11_put (n + 1) 32 L st h Q = (match ld L 1 with | some (.inl x) => G sp sc [] d mX11_put n 33 L (.inl x :: st) h Q | _ => False)) ∧
  (∀ (n d : Nat) (L : List (Option iV)) (r : List iV) (j : Int) (m : Nat) (h : iH) (Q : Option iV → iH → Prop), G sp sc [] d mX11_put (n + 1) 33 L (.inl j :: .inr (.inr (m + 2)) :: r) h Q = (match h.1[m]? with | some (.inr (.inr (t, rs))) => (inA j rs.length = true ∧ 3 ≤ t ∧ t < 6) ∧ G sp sc [] d mX11_put n 34 L (.inr (.inr (rs.getD j.toNat 0)) :: r) h Q | _ => False)) ∧
  (∀ (n d : Nat) (L : List (Option iV)) (st : List iV) (h : iH) (Q : Option iV → iH → Prop), G sp sc [] d mX11_put (n + 1) 34 L st h Q = (match ld L 2 with | some (.inl x) => G sp sc [] d mX11_put n 35 L (.inl x :: st) h Q | _ => False)) ∧
  (∀ (n d : Nat) (L : List (Option iV)) (r : List iV) (m : Nat) (z0 : iV) (h : iH) (Q : Option iV → iH → Prop), G sp sc [] (d + 1) mX11_put (n + 1) 35 L (z0 :: .inr (.inr (m + 2)) :: r) h Q = (match h.1[m]? with | some (.inl (ci, _)) => (match lkC 11 341 ci with | some (y1, n1, kd) => (n1 = 1 ∧ (kd = 2 ∨ kd = 3 ∨ kd = 8) ∧ cs r ≤ 8) ∧ Call sp sc d y1 [.inr (.inr (m + 2)), z0] h (fun q h1 => GC sp sc [] (d + 1) mX11_put n 38 L q r h h1 Q) | none => False) | _ => False)) ∧
  (∀ (n d : Nat) (L : List (Option iV)) (a : Int) (r : List iV) (h : iH) (Q : Option iV → iH → Prop), G sp sc [] d mX11_put (n + 1) 38 L (.inl a :: r) h Q = (inI a = true ∧ (¬ a = 0 → G sp sc [] d mX11_put n 44 L r h Q) ∧ (¬ (¬ a = 0) → G sp sc [] d mX11_put n 41 L r h Q))) ∧
  (∀ (n d : Nat) (L : List (Option iV)) (st : List iV) (h : iH) (Q : Option iV → iH → Prop), G sp sc [] d mX11_put (n + 1) 41 L st h Q = ((-128 ≤ ((-13) : Int) ∧ ((-13) : Int) < 128) ∧ G sp sc [] d mX11_put n 43 L (.inl (-13) :: st) h Q)) ∧
  (∀ (n d : Nat) (L : List (Option iV)) (a : Int) (h : iH) (Q : Option iV → iH → Prop), G sp sc [] d mX11_put (n + 1) 43 L [.inl a] h Q = Q (some (.inl a)) h) ∧
  (∀ (n d : Nat) (L : List (Option iV)) (st : List iV) (h : iH) (Q : Option iV → iH → Prop), G sp sc [] d mX11_put (n + 1) 44 L st h Q = (match ld L 0 with | some (.inr (.inr (r + 1))) => G sp sc [] d mX11_put n 45 L (.inr (.inr (r + 1)) :: st) h Q | _ => False)) ∧
  (∀ (n d : Nat) (L : List (Option iV)) (r : List iV) (m : Nat) (h : iH) (Q : Option iV → iH → Prop), G sp sc [] d mX11_put (n + 1) 45 L (.inr (.inr (m + 2)) :: r) h Q = (match h.1[m]? with | some (.inl (ci, fs)) => (match lkF 11 63 ci with | some k => (match fs[k]? with | some v => G sp sc [] d mX11_put n 48 L (v :: r) h Q | none => False) | none => False) | _ => False)) ∧
  (∀ (n d : Nat) (L : List (Option iV)) (st : List iV) (h : iH) (Q : Option iV → iH → Prop), G sp sc [] d mX11_put (n + 1) 48 L st h Q = (match ld L 1 with | some (.inl x) => G sp sc [] d mX11_put n 49 L (.inl x :: st) h Q | _ => False)) ∧
  (∀ (n d : Nat) (L : List (Option iV)) (r : List iV) (j : Int) (m : Nat) (h : iH) (Q : Option iV → iH → Prop), G sp sc [] d mX11_put (n + 1) 49 L (.inl j :: .inr (.inr (m + 2)) :: r) h Q = (match h.1[m]? with | some (.inr (.inr (t, rs))) => (inA j rs.length = true ∧ 3 ≤ t ∧ t < 6) ∧ G sp sc [] d mX11_put n 50 L (.inr (.inr (rs.getD j.toNat 0)) :: r) h Q | _ => False)) ∧
  (∀ (n d : Nat) (L : List (Option iV)) (st : List iV) (h : iH) (Q : Option iV → iH → Prop), G sp sc [] d mX11_put (n + 1) 50 L st h Q = (match ld L 2 with | some (.inl x) => G sp sc [] d mX11_put n 51 L (.inl x :: st) h Q | _ => False)) ∧
  (∀ (n d : Nat) (L : List (Option iV)) (st : List iV) (h : iH) (Q : Option iV → iH → Prop), G sp sc [] d mX11_put (n + 1) 51 L st h Q = (match ld L 3 with | some (.inl x) => G sp sc [] d mX11_put n 52 L (.inl x :: st) h Q | _ => False)) ∧
  (∀ (n d : Nat) (L : List (Option iV)) (r : List iV) (m : Nat) (z0 : iV) (z1 : iV) (h : iH) (Q : Option iV → iH → Prop), G sp sc [] (d + 1) mX11_put (n + 1) 52 L (z1 :: z0 :: .inr (.inr (m + 2)) :: r) h Q = (match h.1[m]? with | some (.inl (ci, _)) => (match lkC 11 344 ci with | some (y1, n1, kd) => (n1 = 2 ∧ (kd = 2 ∨ kd = 3 ∨ kd = 8) ∧ cs r ≤ 8) ∧ Call sp sc d y1 [.inr (.inr (m + 2)), z0, z1] h (fun q h1 => GC sp sc [] (d + 1) mX11_put n 55 L q r h h1 Q) | none => False) | _ => False)) ∧
  (∀ (n d : Nat) (L : List (Option iV)) (st : List iV) (h : iH) (Q : Option iV → iH → Prop), G sp sc [] d mX11_put (n + 1) 55 L st h Q = G sp sc [] d mX11_put n 56 L (.inl 0 :: st) h Q) ∧
  (∀ (n d : Nat) (L : List (Option iV)) (a : Int) (h : iH) (Q : Option iV → iH → Prop), G sp sc [] d mX11_put (n + 1) 56 L [.inl a] h Q = Q (some (.inl a)) h) ∧
  lkC 11 267 5 = some (mX5_refusalAsRow, 0, 2) ∧
  lkC 11 341 5 = some (mX5_hasPlace, 1, 2) ∧
  lkC 11 344 5 = some (mX5_store, 2, 2) ∧
  lkF 11 63 11 = some 1 := ⟨by intros; exact G_at (by decide +kernel : fetch mX11_put 0 = some (.iload_n 1)),
  by intros; exact G_callS (k := 1) (kd := 0) (by decide +kernel : fetch mX11_put 1 = some (.invokestatic 75)) (by decide +kernel) (by decide +kernel) (by decide +kernel) rfl (by decide),
  by intros; exact G_at (by decide +kernel : fetch mX11_put 4 = some (.ifCond .ne 5)),
  by intros; exact G_at (by decide +kernel : fetch mX11_put 7 = some (.iconst (-1))),
  by intros; exact G_reti (by decide +kernel : fetch mX11_put 8 = some (.ireturn)) (by decide +kernel),
  by intros; exact G_at (by decide +kernel : fetch mX11_put 9 = some (.aload_n 0)),
  by intros; exact G_own (by decide +kernel : fetch mX11_put 10 = some (.getfield 63)) (by decide +kernel),
  by intros; exact G_at (by decide +kernel : fetch mX11_put 13 = some (.iload_n 1)),
  by intros; exact G_at (by decide +kernel : fetch mX11_put 14 = some (.aaload)),
  by intros; exact G_callV (by decide +kernel : fetch mX11_put 15 = some (.invokevirtual 267)) (by decide +kernel) (by decide +kernel) rfl,
  by intros; exact G_at (by decide +kernel : fetch mX11_put 18 = some (.istore 4)),
  by intros; exact G_at (by decide +kernel : fetch mX11_put 20 = some (.iload 4)),
  by intros; exact G_at (by decide +kernel : fetch mX11_put 22 = some (.ifCond .eq 6)),
  by intros; exact G_at (by decide +kernel : fetch mX11_put 25 = some (.iload 4)),
  by intros; exact G_reti (by decide +kernel : fetch mX11_put 27 = some (.ireturn)) (by decide +kernel),
  by intros; exact G_at (by decide +kernel : fetch mX11_put 28 = some (.aload_n 0)),
  by intros; exact G_own (by decide +kernel : fetch mX11_put 29 = some (.getfield 63)) (by decide +kernel),
  by intros; exact G_at (by decide +kernel : fetch mX11_put 32 = some (.iload_n 1)),
  by intros; exact G_at (by decide +kernel : fetch mX11_put 33 = some (.aaload)),
  by intros; exact G_at (by decide +kernel : fetch mX11_put 34 = some (.iload_n 2)),
  by intros; exact G_callV (by decide +kernel : fetch mX11_put 35 = some (.invokevirtual 341)) (by decide +kernel) (by decide +kernel) rfl,
  by intros; exact G_at (by decide +kernel : fetch mX11_put 38 = some (.ifCond .ne 6)),
  by intros; exact G_at (by decide +kernel : fetch mX11_put 41 = some (.bipush (-13))),
  by intros; exact G_reti (by decide +kernel : fetch mX11_put 43 = some (.ireturn)) (by decide +kernel),
  by intros; exact G_at (by decide +kernel : fetch mX11_put 44 = some (.aload_n 0)),
  by intros; exact G_own (by decide +kernel : fetch mX11_put 45 = some (.getfield 63)) (by decide +kernel),
  by intros; exact G_at (by decide +kernel : fetch mX11_put 48 = some (.iload_n 1)),
  by intros; exact G_at (by decide +kernel : fetch mX11_put 49 = some (.aaload)),
  by intros; exact G_at (by decide +kernel : fetch mX11_put 50 = some (.iload_n 2)),
  by intros; exact G_at (by decide +kernel : fetch mX11_put 51 = some (.iload_n 3)),
  by intros; exact G_callV (by decide +kernel : fetch mX11_put 52 = some (.invokevirtual 344)) (by decide +kernel) (by decide +kernel) rfl,
  by intros; exact G_at (by decide +kernel : fetch mX11_put 55 = some (.iconst 0)),
  by intros; exact G_reti (by decide +kernel : fetch mX11_put 56 = some (.ireturn)) (by decide +kernel),
  by decide +kernel,
  by decide +kernel,
  by decide +kernel,
  by decide +kernel⟩
theorem gX11_element : (∀ (n d : Nat) (L : List (Option iV)) (st : List iV) (h : iH) (Q : Option iV → iH → Prop), G sp sc [] d mX11_element (n + 1) 0 L st h Q = (match ld L 1 with | some (.inl x) => G sp sc [] d mX11_element n 1 L (.inl x :: st) h Q | _ => False)) ∧
  (∀ (n d : Nat) (L : List (Option iV)) (r : List iV) (z0 : iV) (h : iH) (Q : Option iV → iH → Prop), G sp sc [] (d + 1) mX11_element (n + 1) 1 L (z0 :: r) h Q = (cs r ≤ 8 ∧ Call sp sc d mX11_isShelf [z0] h (fun q h1 => GC sp sc [] (d + 1) mX11_element n 4 L q r h h1 Q))) ∧
  (∀ (n d : Nat) (L : List (Option iV)) (a : Int) (r : List iV) (h : iH) (Q : Option iV → iH → Prop), G sp sc [] d mX11_element (n + 1) 4 L (.inl a :: r) h Q = (inI a = true ∧ (¬ a = 0 → G sp sc [] d mX11_element n 18 L r h Q) ∧ (¬ (¬ a = 0) → G sp sc [] d mX11_element n 7 L r h Q))) ∧
  (∀ (n d : Nat) (L : List (Option iV)) (a : Int) (r : List iV) (h : iH) (Q : Option iV → iH → Prop), G sp sc [] d mX11_element (n + 1) 10 L (.inl a :: r) h Q = G sp sc [] d mX11_element n 11 L (.inl a :: .inl a :: r) h Q) ∧
  (∀ (n d : Nat) (L : List (Option iV)) (a : Nat) (r : List iV) (h : iH) (Q : Option iV → iH → Prop), G sp sc [] d mX11_element (n + 1) 10 L (.inr (.inr a) :: r) h Q = G sp sc [] d mX11_element n 11 L (.inr (.inr a) :: .inr (.inr a) :: r) h Q) ∧
  (∀ (n d : Nat) (L : List (Option iV)) (st : List iV) (h : iH) (Q : Option iV → iH → Prop), G sp sc [] d mX11_element (n + 1) 18 L st h Q = (match ld L 0 with | some (.inr (.inr (r + 1))) => G sp sc [] d mX11_element n 19 L (.inr (.inr (r + 1)) :: st) h Q | _ => False)) ∧
  (∀ (n d : Nat) (L : List (Option iV)) (r : List iV) (m : Nat) (h : iH) (Q : Option iV → iH → Prop), G sp sc [] d mX11_element (n + 1) 19 L (.inr (.inr (m + 2)) :: r) h Q = (match h.1[m]? with | some (.inl (ci, fs)) => (match lkF 11 63 ci with | some k => (match fs[k]? with | some v => G sp sc [] d mX11_element n 22 L (v :: r) h Q | none => False) | none => False) | _ => False)) ∧
  (∀ (n d : Nat) (L : List (Option iV)) (st : List iV) (h : iH) (Q : Option iV → iH → Prop), G sp sc [] d mX11_element (n + 1) 22 L st h Q = (match ld L 1 with | some (.inl x) => G sp sc [] d mX11_element n 23 L (.inl x :: st) h Q | _ => False)) ∧
  (∀ (n d : Nat) (L : List (Option iV)) (r : List iV) (j : Int) (m : Nat) (h : iH) (Q : Option iV → iH → Prop), G sp sc [] d mX11_element (n + 1) 23 L (.inl j :: .inr (.inr (m + 2)) :: r) h Q = (match h.1[m]? with | some (.inr (.inr (t, rs))) => (inA j rs.length = true ∧ 3 ≤ t ∧ t < 6) ∧ G sp sc [] d mX11_element n 24 L (.inr (.inr (rs.getD j.toNat 0)) :: r) h Q | _ => False)) ∧
  (∀ (n d : Nat) (L : List (Option iV)) (r : List iV) (m : Nat) (h : iH) (Q : Option iV → iH → Prop), G sp sc [] d mX11_element (n + 1) 24 L (.inr (.inr (m + 2)) :: r) h Q = (match h.1[m]? with | some (.inl (ci, fs)) => (match lkF 11 79 ci with | some k => (match fs[k]? with | some v => G sp sc [] d mX11_element n 27 L (v :: r) h Q | none => False) | none => False) | _ => False)) ∧
  (∀ (n d : Nat) (L : List (Option iV)) (st : List iV) (h : iH) (Q : Option iV → iH → Prop), G sp sc [] d mX11_element (n + 1) 27 L st h Q = G sp sc [] d mX11_element n 28 L (.inl 2 :: st) h Q) ∧
  (∀ (n d : Nat) (L : List (Option iV)) (a : Int) (b : Int) (r : List iV) (h : iH) (Q : Option iV → iH → Prop), G sp sc [] d mX11_element (n + 1) 28 L (.inl b :: .inl a :: r) h Q = ((inI a = true ∧ inI b = true) ∧ (¬ a = b → G sp sc [] d mX11_element n 44 L r h Q) ∧ (¬ (¬ a = b) → G sp sc [] d mX11_element n 31 L r h Q))) ∧
  (∀ (n d : Nat) (L : List (Option iV)) (st : List iV) (h : iH) (Q : Option iV → iH → Prop), G sp sc [] d mX11_element (n + 1) 31 L st h Q = (match ld L 0 with | some (.inr (.inr (r + 1))) => G sp sc [] d mX11_element n 32 L (.inr (.inr (r + 1)) :: st) h Q | _ => False)) ∧
  (∀ (n d : Nat) (L : List (Option iV)) (r : List iV) (m : Nat) (h : iH) (Q : Option iV → iH → Prop), G sp sc [] d mX11_element (n + 1) 32 L (.inr (.inr (m + 2)) :: r) h Q = (match h.1[m]? with | some (.inl (ci, fs)) => (match lkF 11 63 ci with | some k => (match fs[k]? with | some v => G sp sc [] d mX11_element n 35 L (v :: r) h Q | none => False) | none => False) | _ => False)) ∧
  (∀ (n d : Nat) (L : List (Option iV)) (st : List iV) (h : iH) (Q : Option iV → iH → Prop), G sp sc [] d mX11_element (n + 1) 35 L st h Q = (match ld L 1 with | some (.inl x) => G sp sc [] d mX11_element n 36 L (.inl x :: st) h Q | _ => False)) ∧
  (∀ (n d : Nat) (L : List (Option iV)) (r : List iV) (j : Int) (m : Nat) (h : iH) (Q : Option iV → iH → Prop), G sp sc [] d mX11_element (n + 1) 36 L (.inl j :: .inr (.inr (m + 2)) :: r) h Q = (match h.1[m]? with | some (.inr (.inr (t, rs))) => (inA j rs.length = true ∧ 3 ≤ t ∧ t < 6) ∧ G sp sc [] d mX11_element n 37 L (.inr (.inr (rs.getD j.toNat 0)) :: r) h Q | _ => False)) ∧
  (∀ (n d : Nat) (L : List (Option iV)) (st : List iV) (h : iH) (Q : Option iV → iH → Prop), G sp sc [] d mX11_element (n + 1) 37 L st h Q = (match ld L 2 with | some (.inl x) => G sp sc [] d mX11_element n 38 L (.inl x :: st) h Q | _ => False)) ∧
  (∀ (n d : Nat) (L : List (Option iV)) (r : List iV) (m : Nat) (z0 : iV) (h : iH) (Q : Option iV → iH → Prop), G sp sc [] (d + 1) mX11_element (n + 1) 38 L (z0 :: .inr (.inr (m + 2)) :: r) h Q = (match h.1[m]? with | some (.inl (ci, _)) => (match lkC 11 341 ci with | some (y1, n1, kd) => (n1 = 1 ∧ (kd = 2 ∨ kd = 3 ∨ kd = 8) ∧ cs r ≤ 8) ∧ Call sp sc d y1 [.inr (.inr (m + 2)), z0] h (fun q h1 => GC sp sc [] (d + 1) mX11_element n 41 L q r h h1 Q) | none => False) | _ => False)) ∧
  (∀ (n d : Nat) (L : List (Option iV)) (a : Int) (r : List iV) (h : iH) (Q : Option iV → iH → Prop), G sp sc [] d mX11_element (n + 1) 41 L (.inl a :: r) h Q = (inI a = true ∧ (¬ a = 0 → G sp sc [] d mX11_element n 55 L r h Q) ∧ (¬ (¬ a = 0) → G sp sc [] d mX11_element n 44 L r h Q))) ∧
  (∀ (n d : Nat) (L : List (Option iV)) (a : Int) (r : List iV) (h : iH) (Q : Option iV → iH → Prop), G sp sc [] d mX11_element (n + 1) 47 L (.inl a :: r) h Q = G sp sc [] d mX11_element n 48 L (.inl a :: .inl a :: r) h Q) ∧
  (∀ (n d : Nat) (L : List (Option iV)) (a : Nat) (r : List iV) (h : iH) (Q : Option iV → iH → Prop), G sp sc [] d mX11_element (n + 1) 47 L (.inr (.inr a) :: r) h Q = G sp sc [] d mX11_element n 48 L (.inr (.inr a) :: .inr (.inr a) :: r) h Q) ∧
  (∀ (n d : Nat) (L : List (Option iV)) (st : List iV) (h : iH) (Q : Option iV → iH → Prop), G sp sc [] d mX11_element (n + 1) 55 L st h Q = (match ld L 0 with | some (.inr (.inr (r + 1))) => G sp sc [] d mX11_element n 56 L (.inr (.inr (r + 1)) :: st) h Q | _ => False)) ∧
  (∀ (n d : Nat) (L : List (Option iV)) (r : List iV) (m : Nat) (h : iH) (Q : Option iV → iH → Prop), G sp sc [] d mX11_element (n + 1) 56 L (.inr (.inr (m + 2)) :: r) h Q = (match h.1[m]? with | some (.inl (ci, fs)) => (match lkF 11 63 ci with | some k => (match fs[k]? with | some v => G sp sc [] d mX11_element n 59 L (v :: r) h Q | none => False) | none => False) | _ => False)) ∧
  (∀ (n d : Nat) (L : List (Option iV)) (st : List iV) (h : iH) (Q : Option iV → iH → Prop), G sp sc [] d mX11_element (n + 1) 59 L st h Q = (match ld L 1 with | some (.inl x) => G sp sc [] d mX11_element n 60 L (.inl x :: st) h Q | _ => False)) ∧
  (∀ (n d : Nat) (L : List (Option iV)) (r : List iV) (j : Int) (m : Nat) (h : iH) (Q : Option iV → iH → Prop), G sp sc [] d mX11_element (n + 1) 60 L (.inl j :: .inr (.inr (m + 2)) :: r) h Q = (match h.1[m]? with | some (.inr (.inr (t, rs))) => (inA j rs.length = true ∧ 3 ≤ t ∧ t < 6) ∧ G sp sc [] d mX11_element n 61 L (.inr (.inr (rs.getD j.toNat 0)) :: r) h Q | _ => False)) ∧
  (∀ (n d : Nat) (L : List (Option iV)) (r : List iV) (m : Nat) (h : iH) (Q : Option iV → iH → Prop), G sp sc [] d mX11_element (n + 1) 61 L (.inr (.inr (m + 2)) :: r) h Q = (match h.1[m]? with | some (.inl (ci, fs)) => (match lkF 11 273 ci with | some k => (match fs[k]? with | some v => G sp sc [] d mX11_element n 64 L (v :: r) h Q | none => False) | none => False) | _ => False)) ∧
  (∀ (n d : Nat) (L : List (Option iV)) (st : List iV) (h : iH) (Q : Option iV → iH → Prop), G sp sc [] d mX11_element (n + 1) 64 L st h Q = (match ld L 2 with | some (.inl x) => G sp sc [] d mX11_element n 65 L (.inl x :: st) h Q | _ => False)) ∧
  (∀ (n d : Nat) (L : List (Option iV)) (r : List iV) (j : Int) (m : Nat) (h : iH) (Q : Option iV → iH → Prop), G sp sc [] d mX11_element (n + 1) 65 L (.inl j :: .inr (.inr (m + 2)) :: r) h Q = (match h.1[m]? with | some (.inr (.inl (1, xs))) => inA j xs.length = true ∧ G sp sc [] d mX11_element n 66 L (.inr (.inl (xs.getD j.toNat 0)) :: r) h Q | _ => False)) ∧
  (∀ (n d : Nat) (L : List (Option iV)) (a : Int) (h : iH) (Q : Option iV → iH → Prop), G sp sc [] d mX11_element (n + 1) 66 L [.inr (.inl a)] h Q = Q (some (.inr (.inl a))) h) ∧
  lkC 11 341 5 = some (mX5_hasPlace, 1, 2) ∧
  lkF 11 273 5 = some 4 ∧
  lkF 11 63 11 = some 1 ∧
  lkF 11 79 5 = some 0 := ⟨by intros; exact G_at (by decide +kernel : fetch mX11_element 0 = some (.iload_n 1)),
  by intros; exact G_callS (k := 1) (kd := 0) (by decide +kernel : fetch mX11_element 1 = some (.invokestatic 75)) (by decide +kernel) (by decide +kernel) (by decide +kernel) rfl (by decide),
  by intros; exact G_at (by decide +kernel : fetch mX11_element 4 = some (.ifCond .ne 14)),
  by intros; exact G_at (by decide +kernel : fetch mX11_element 10 = some (.dup)),
  by intros; exact G_at (by decide +kernel : fetch mX11_element 10 = some (.dup)),
  by intros; exact G_at (by decide +kernel : fetch mX11_element 18 = some (.aload_n 0)),
  by intros; exact G_own (by decide +kernel : fetch mX11_element 19 = some (.getfield 63)) (by decide +kernel),
  by intros; exact G_at (by decide +kernel : fetch mX11_element 22 = some (.iload_n 1)),
  by intros; exact G_at (by decide +kernel : fetch mX11_element 23 = some (.aaload)),
  by intros; exact G_own (by decide +kernel : fetch mX11_element 24 = some (.getfield 79)) (by decide +kernel),
  by intros; exact G_at (by decide +kernel : fetch mX11_element 27 = some (.iconst 2)),
  by intros; exact G_at (by decide +kernel : fetch mX11_element 28 = some (.if_icmp .ne 16)),
  by intros; exact G_at (by decide +kernel : fetch mX11_element 31 = some (.aload_n 0)),
  by intros; exact G_own (by decide +kernel : fetch mX11_element 32 = some (.getfield 63)) (by decide +kernel),
  by intros; exact G_at (by decide +kernel : fetch mX11_element 35 = some (.iload_n 1)),
  by intros; exact G_at (by decide +kernel : fetch mX11_element 36 = some (.aaload)),
  by intros; exact G_at (by decide +kernel : fetch mX11_element 37 = some (.iload_n 2)),
  by intros; exact G_callV (by decide +kernel : fetch mX11_element 38 = some (.invokevirtual 341)) (by decide +kernel) (by decide +kernel) rfl,
  by intros; exact G_at (by decide +kernel : fetch mX11_element 41 = some (.ifCond .ne 14)),
  by intros; exact G_at (by decide +kernel : fetch mX11_element 47 = some (.dup)),
  by intros; exact G_at (by decide +kernel : fetch mX11_element 47 = some (.dup)),
  by intros; exact G_at (by decide +kernel : fetch mX11_element 55 = some (.aload_n 0)),
  by intros; exact G_own (by decide +kernel : fetch mX11_element 56 = some (.getfield 63)) (by decide +kernel),
  by intros; exact G_at (by decide +kernel : fetch mX11_element 59 = some (.iload_n 1)),
  by intros; exact G_at (by decide +kernel : fetch mX11_element 60 = some (.aaload)),
  by intros; exact G_own (by decide +kernel : fetch mX11_element 61 = some (.getfield 273)) (by decide +kernel),
  by intros; exact G_at (by decide +kernel : fetch mX11_element 64 = some (.iload_n 2)),
  by intros; exact G_at (by decide +kernel : fetch mX11_element 65 = some (.laload)),
  by intros; exact G_retl (by decide +kernel : fetch mX11_element 66 = some (.lreturn)) (by decide +kernel),
  by decide +kernel,
  by decide +kernel,
  by decide +kernel,
  by decide +kernel⟩
end GG
