section GG
variable {sp : Nat → List iV → iH → Option (Option iV × iH)} {sc : List Int}
theorem gX10_init : (∀ (n d : Nat) (L : List (Option iV)) (st : List iV) (h : iH) (Q : Option iV → iH → Prop), G sp sc [] d mX10_init (n + 1) 0 L st h Q = (match ld L 0 with | some (.inr (.inr (r + 1))) => G sp sc [] d mX10_init n 1 L (.inr (.inr (r + 1)) :: st) h Q | _ => False)) ∧
  (∀ (n d : Nat) (L : List (Option iV)) (r : List iV) (m : Nat) (h : iH) (Q : Option iV → iH → Prop), G sp sc [] (d + 1) mX10_init (n + 1) 1 L (.inr (.inr (m + 2)) :: r) h Q = (cs r ≤ 8 ∧ G sp sc [] (d + 1) mX10_init n 4 L r h Q)) ∧
  (∀ (n d : Nat) (L : List (Option iV)) (st : List iV) (h : iH) (Q : Option iV → iH → Prop), G sp sc [] d mX10_init (n + 1) 4 L st h Q = (match ld L 0 with | some (.inr (.inr (r + 1))) => G sp sc [] d mX10_init n 5 L (.inr (.inr (r + 1)) :: st) h Q | _ => False)) ∧
  (∀ (n d : Nat) (L : List (Option iV)) (st : List iV) (h : iH) (Q : Option iV → iH → Prop), G sp sc [] d mX10_init (n + 1) 5 L st h Q = G sp sc [] d mX10_init n 6 L (.inl 4 :: st) h Q) ∧
  (∀ (n d : Nat) (L : List (Option iV)) (r : List iV) (v : iV) (m : Nat) (h : iH) (Q : Option iV → iH → Prop), G sp sc [] d mX10_init (n + 1) 8 L (v :: .inr (.inr (m + 2)) :: r) h Q = (match h.1[m]? with | some (.inl (ci, fs)) => (match lkF 10 9 ci with | some k => (fitV (tyT ci k) v = true ∧ k < fs.length ∧ pOK 10 true ci k = true) ∧ G sp sc [] d mX10_init n 11 L r (h.1.set m (.inl (ci, fs.set k v)), h.2) Q | none => False) | _ => False)) ∧
  (∀ (n d : Nat) (L : List (Option iV)) (st : List iV) (h : iH) (Q : Option iV → iH → Prop), G sp sc [] d mX10_init (n + 1) 11 L st h Q = (match ld L 0 with | some (.inr (.inr (r + 1))) => G sp sc [] d mX10_init n 12 L (.inr (.inr (r + 1)) :: st) h Q | _ => False)) ∧
  (∀ (n d : Nat) (L : List (Option iV)) (st : List iV) (h : iH) (Q : Option iV → iH → Prop), G sp sc [] d mX10_init (n + 1) 12 L st h Q = ((-128 ≤ (10 : Int) ∧ (10 : Int) < 128) ∧ G sp sc [] d mX10_init n 14 L (.inl 10 :: st) h Q)) ∧
  (∀ (n d : Nat) (L : List (Option iV)) (r : List iV) (v : iV) (m : Nat) (h : iH) (Q : Option iV → iH → Prop), G sp sc [] d mX10_init (n + 1) 16 L (v :: .inr (.inr (m + 2)) :: r) h Q = (match h.1[m]? with | some (.inl (ci, fs)) => (match lkF 10 15 ci with | some k => (fitV (tyT ci k) v = true ∧ k < fs.length ∧ pOK 10 true ci k = true) ∧ G sp sc [] d mX10_init n 19 L r (h.1.set m (.inl (ci, fs.set k v)), h.2) Q | none => False) | _ => False)) ∧
  (∀ (n d : Nat) (L : List (Option iV)) (st : List iV) (h : iH) (Q : Option iV → iH → Prop), G sp sc [] d mX10_init (n + 1) 19 L st h Q = (match ld L 0 with | some (.inr (.inr (r + 1))) => G sp sc [] d mX10_init n 20 L (.inr (.inr (r + 1)) :: st) h Q | _ => False)) ∧
  (∀ (n d : Nat) (L : List (Option iV)) (st : List iV) (h : iH) (Q : Option iV → iH → Prop), G sp sc [] d mX10_init (n + 1) 20 L st h Q = G sp sc [] d mX10_init n 21 L (.inl 4 :: st) h Q) ∧
  (∀ (n d : Nat) (L : List (Option iV)) (r : List iV) (v : iV) (m : Nat) (h : iH) (Q : Option iV → iH → Prop), G sp sc [] d mX10_init (n + 1) 23 L (v :: .inr (.inr (m + 2)) :: r) h Q = (match h.1[m]? with | some (.inl (ci, fs)) => (match lkF 10 19 ci with | some k => (fitV (tyT ci k) v = true ∧ k < fs.length ∧ pOK 10 true ci k = true) ∧ G sp sc [] d mX10_init n 26 L r (h.1.set m (.inl (ci, fs.set k v)), h.2) Q | none => False) | _ => False)) ∧
  (∀ (n d : Nat) (L : List (Option iV)) (st : List iV) (h : iH) (Q : Option iV → iH → Prop), G sp sc [] d mX10_init (n + 1) 26 L st h Q = (match ld L 0 with | some (.inr (.inr (r + 1))) => G sp sc [] d mX10_init n 27 L (.inr (.inr (r + 1)) :: st) h Q | _ => False)) ∧
  (∀ (n d : Nat) (L : List (Option iV)) (st : List iV) (h : iH) (Q : Option iV → iH → Prop), G sp sc [] d mX10_init (n + 1) 27 L st h Q = G sp sc [] d mX10_init n 28 L (.inl 4 :: st) h Q) ∧
  (∀ (n d : Nat) (L : List (Option iV)) (r : List iV) (v : iV) (m : Nat) (h : iH) (Q : Option iV → iH → Prop), G sp sc [] d mX10_init (n + 1) 30 L (v :: .inr (.inr (m + 2)) :: r) h Q = (match h.1[m]? with | some (.inl (ci, fs)) => (match lkF 10 22 ci with | some k => (fitV (tyT ci k) v = true ∧ k < fs.length ∧ pOK 10 true ci k = true) ∧ G sp sc [] d mX10_init n 33 L r (h.1.set m (.inl (ci, fs.set k v)), h.2) Q | none => False) | _ => False)) ∧
  (∀ (n d : Nat) (L : List (Option iV)) (st : List iV) (h : iH) (Q : Option iV → iH → Prop), G sp sc [] d mX10_init (n + 1) 33 L st h Q = (match ld L 0 with | some (.inr (.inr (r + 1))) => G sp sc [] d mX10_init n 34 L (.inr (.inr (r + 1)) :: st) h Q | _ => False)) ∧
  (∀ (n d : Nat) (L : List (Option iV)) (st : List iV) (h : iH) (Q : Option iV → iH → Prop), G sp sc [] d mX10_init (n + 1) 34 L st h Q = (match ld L 1 with | some (.inr (.inr (r + 1))) => G sp sc [] d mX10_init n 35 L (.inr (.inr (r + 1)) :: st) h Q | _ => False)) ∧
  (∀ (n d : Nat) (L : List (Option iV)) (r : List iV) (v : iV) (m : Nat) (h : iH) (Q : Option iV → iH → Prop), G sp sc [] d mX10_init (n + 1) 35 L (v :: .inr (.inr (m + 2)) :: r) h Q = (match h.1[m]? with | some (.inl (ci, fs)) => (match lkF 10 25 ci with | some k => (fitV (tyT ci k) v = true ∧ k < fs.length ∧ pOK 10 true ci k = true) ∧ G sp sc [] d mX10_init n 38 L r (h.1.set m (.inl (ci, fs.set k v)), h.2) Q | none => False) | _ => False)) ∧
  (∀ (n d : Nat) (L : List (Option iV))  (h : iH) (Q : Option iV → iH → Prop), G sp sc [] d mX10_init (n + 1) 38 L [] h Q = Q none h) ∧
  lkF 10 15 10 = some 2 ∧
  lkF 10 19 10 = some 3 ∧
  lkF 10 22 10 = some 4 ∧
  lkF 10 25 10 = some 0 ∧
  lkF 10 9 10 = some 1 ∧
  pOK 10 true 10 0 = true ∧
  pOK 10 true 10 1 = true ∧
  pOK 10 true 10 2 = true ∧
  pOK 10 true 10 3 = true ∧
  pOK 10 true 10 4 = true := ⟨by intros; exact G_at (by decide +kernel : fetch mX10_init 0 = some (.aload_n 0)),
  by intros; exact G_obj (by decide +kernel : fetch mX10_init 1 = some (.invokespecial 3)) (by decide +kernel),
  by intros; exact G_at (by decide +kernel : fetch mX10_init 4 = some (.aload_n 0)),
  by intros; exact G_at (by decide +kernel : fetch mX10_init 5 = some (.iconst 4)),
  by intros; exact G_ownW (by decide +kernel : fetch mX10_init 8 = some (.putfield 9)) (by decide +kernel) (by decide +kernel),
  by intros; exact G_at (by decide +kernel : fetch mX10_init 11 = some (.aload_n 0)),
  by intros; exact G_at (by decide +kernel : fetch mX10_init 12 = some (.bipush 10)),
  by intros; exact G_ownW (by decide +kernel : fetch mX10_init 16 = some (.putfield 15)) (by decide +kernel) (by decide +kernel),
  by intros; exact G_at (by decide +kernel : fetch mX10_init 19 = some (.aload_n 0)),
  by intros; exact G_at (by decide +kernel : fetch mX10_init 20 = some (.iconst 4)),
  by intros; exact G_ownW (by decide +kernel : fetch mX10_init 23 = some (.putfield 19)) (by decide +kernel) (by decide +kernel),
  by intros; exact G_at (by decide +kernel : fetch mX10_init 26 = some (.aload_n 0)),
  by intros; exact G_at (by decide +kernel : fetch mX10_init 27 = some (.iconst 4)),
  by intros; exact G_ownW (by decide +kernel : fetch mX10_init 30 = some (.putfield 22)) (by decide +kernel) (by decide +kernel),
  by intros; exact G_at (by decide +kernel : fetch mX10_init 33 = some (.aload_n 0)),
  by intros; exact G_at (by decide +kernel : fetch mX10_init 34 = some (.aload_n 1)),
  by intros; exact G_ownW (by decide +kernel : fetch mX10_init 35 = some (.putfield 25)) (by decide +kernel) (by decide +kernel),
  by intros; exact G_retv (by decide +kernel : fetch mX10_init 38 = some (.return_)) (by decide +kernel),
  by decide +kernel,
  by decide +kernel,
  by decide +kernel,
  by decide +kernel,
  by decide +kernel,
  by decide +kernel,
  by decide +kernel,
  by decide +kernel,
  by decide +kernel,
  by decide +kernel⟩
theorem gX10_begin : (∀ (n d : Nat) (L : List (Option iV)) (st : List iV) (h : iH) (Q : Option iV → iH → Prop), G sp sc [] d mX10_begin (n + 1) 0 L st h Q = (match ld L 0 with | some (.inr (.inr (r + 1))) => G sp sc [] d mX10_begin n 1 L (.inr (.inr (r + 1)) :: st) h Q | _ => False)) ∧
  (∀ (n d : Nat) (L : List (Option iV)) (r : List iV) (m : Nat) (h : iH) (Q : Option iV → iH → Prop), G sp sc [] (d + 1) mX10_begin (n + 1) 1 L (.inr (.inr (m + 2)) :: r) h Q = (match h.1[m]? with | some (.inl (ci, _)) => (match lkC 10 29 ci with | some (y1, n1, kd) => (n1 = 0 ∧ (kd = 2 ∨ kd = 3 ∨ kd = 8) ∧ cs r ≤ 8) ∧ Call sp sc d y1 [.inr (.inr (m + 2))] h (fun q h1 => GC sp sc [] (d + 1) mX10_begin n 4 L q r h h1 Q) | none => False) | _ => False)) ∧
  (∀ (n d : Nat) (L : List (Option iV)) (st : List iV) (h : iH) (Q : Option iV → iH → Prop), G sp sc [] d mX10_begin (n + 1) 4 L st h Q = (match ld L 0 with | some (.inr (.inr (r + 1))) => G sp sc [] d mX10_begin n 5 L (.inr (.inr (r + 1)) :: st) h Q | _ => False)) ∧
  (∀ (n d : Nat) (L : List (Option iV)) (st : List iV) (h : iH) (Q : Option iV → iH → Prop), G sp sc [] d mX10_begin (n + 1) 5 L st h Q = (match ld L 1 with | some (.inr (.inr (r + 1))) => G sp sc [] d mX10_begin n 6 L (.inr (.inr (r + 1)) :: st) h Q | _ => False)) ∧
  (∀ (n d : Nat) (L : List (Option iV)) (r : List iV) (m : Nat) (z0 : iV) (h : iH) (Q : Option iV → iH → Prop), G sp sc [] (d + 1) mX10_begin (n + 1) 6 L (z0 :: .inr (.inr (m + 2)) :: r) h Q = (match h.1[m]? with | some (.inl (ci, _)) => (match lkC 10 32 ci with | some (y1, n1, kd) => (n1 = 1 ∧ (kd = 2 ∨ kd = 3 ∨ kd = 8) ∧ cs r ≤ 8) ∧ Call sp sc d y1 [.inr (.inr (m + 2)), z0] h (fun q h1 => GC sp sc [] (d + 1) mX10_begin n 9 L q r h h1 Q) | none => False) | _ => False)) ∧
  (∀ (n d : Nat) (L : List (Option iV))  (h : iH) (Q : Option iV → iH → Prop), G sp sc [] d mX10_begin (n + 1) 9 L [] h Q = Q none h) ∧
  lkC 10 29 10 = some (mX10_orderByNumbers, 0, 2) ∧
  lkC 10 32 10 = some (mX10_again, 1, 2) := ⟨by intros; exact G_at (by decide +kernel : fetch mX10_begin 0 = some (.aload_n 0)),
  by intros; exact G_callV (by decide +kernel : fetch mX10_begin 1 = some (.invokevirtual 29)) (by decide +kernel) (by decide +kernel) rfl,
  by intros; exact G_at (by decide +kernel : fetch mX10_begin 4 = some (.aload_n 0)),
  by intros; exact G_at (by decide +kernel : fetch mX10_begin 5 = some (.aload_n 1)),
  by intros; exact G_callV (by decide +kernel : fetch mX10_begin 6 = some (.invokevirtual 32)) (by decide +kernel) (by decide +kernel) rfl,
  by intros; exact G_retv (by decide +kernel : fetch mX10_begin 9 = some (.return_)) (by decide +kernel),
  by decide +kernel,
  by decide +kernel⟩
theorem gX10_again : (∀ (n d : Nat) (L : List (Option iV)) (st : List iV) (h : iH) (Q : Option iV → iH → Prop), G sp sc [30] d mX10_again (n + 1) 0 L st h Q = (match ld L 0 with | some (.inr (.inr (r + 1))) => G sp sc [30] d mX10_again n 1 L (.inr (.inr (r + 1)) :: st) h Q | _ => False)) ∧
  (∀ (n d : Nat) (L : List (Option iV)) (r : List iV) (m : Nat) (h : iH) (Q : Option iV → iH → Prop), G sp sc [30] d mX10_again (n + 1) 1 L (.inr (.inr (m + 2)) :: r) h Q = (match h.1[m]? with | some (.inl (ci, fs)) => (match lkF 10 25 ci with | some k => (match fs[k]? with | some v => G sp sc [30] d mX10_again n 4 L (v :: r) h Q | none => False) | none => False) | _ => False)) ∧
  (∀ (n d : Nat) (L : List (Option iV)) (st : List iV) (h : iH) (Q : Option iV → iH → Prop), G sp sc [30] d mX10_again (n + 1) 4 L st h Q = (match ld L 1 with | some (.inr (.inr (r + 1))) => G sp sc [30] d mX10_again n 5 L (.inr (.inr (r + 1)) :: st) h Q | _ => False)) ∧
  (∀ (n d : Nat) (L : List (Option iV)) (r : List iV) (m : Nat) (z0 : iV) (h : iH) (Q : Option iV → iH → Prop), G sp sc [30] (d + 1) mX10_again (n + 1) 5 L (z0 :: .inr (.inr (m + 2)) :: r) h Q = (match h.1[m]? with | some (.inl (ci, _)) => (match lkC 10 36 ci with | some (y1, n1, kd) => (n1 = 1 ∧ (kd = 2 ∨ kd = 3 ∨ kd = 8) ∧ cs r ≤ 8) ∧ Call sp sc d y1 [.inr (.inr (m + 2)), z0] h (fun q h1 => GC sp sc [30] (d + 1) mX10_again n 8 L q r h h1 Q) | none => False) | _ => False)) ∧
  (∀ (n d : Nat) (L : List (Option iV)) (st : List iV) (h : iH) (Q : Option iV → iH → Prop), G sp sc [30] d mX10_again (n + 1) 8 L st h Q = (match ld L 0 with | some (.inr (.inr (r + 1))) => G sp sc [30] d mX10_again n 9 L (.inr (.inr (r + 1)) :: st) h Q | _ => False)) ∧
  (∀ (n d : Nat) (L : List (Option iV)) (st : List iV) (h : iH) (Q : Option iV → iH → Prop), G sp sc [30] d mX10_again (n + 1) 9 L st h Q = G sp sc [30] d mX10_again n 10 L (.inl 0 :: st) h Q) ∧
  (∀ (n d : Nat) (L : List (Option iV)) (r : List iV) (v : iV) (m : Nat) (h : iH) (Q : Option iV → iH → Prop), G sp sc [30] d mX10_again (n + 1) 10 L (v :: .inr (.inr (m + 2)) :: r) h Q = (match h.1[m]? with | some (.inl (ci, fs)) => (match lkF 10 41 ci with | some k => (fitV (tyT ci k) v = true ∧ k < fs.length ∧ pOK 10 false ci k = true) ∧ G sp sc [30] d mX10_again n 13 L r (h.1.set m (.inl (ci, fs.set k v)), h.2) Q | none => False) | _ => False)) ∧
  (∀ (n d : Nat) (L : List (Option iV)) (st : List iV) (h : iH) (Q : Option iV → iH → Prop), G sp sc [30] d mX10_again (n + 1) 13 L st h Q = (match ld L 0 with | some (.inr (.inr (r + 1))) => G sp sc [30] d mX10_again n 14 L (.inr (.inr (r + 1)) :: st) h Q | _ => False)) ∧
  (∀ (n d : Nat) (L : List (Option iV)) (st : List iV) (h : iH) (Q : Option iV → iH → Prop), G sp sc [30] d mX10_again (n + 1) 14 L st h Q = G sp sc [30] d mX10_again n 15 L (.inl 0 :: st) h Q) ∧
  (∀ (n d : Nat) (L : List (Option iV)) (r : List iV) (v : iV) (m : Nat) (h : iH) (Q : Option iV → iH → Prop), G sp sc [30] d mX10_again (n + 1) 15 L (v :: .inr (.inr (m + 2)) :: r) h Q = (match h.1[m]? with | some (.inl (ci, fs)) => (match lkF 10 45 ci with | some k => (fitV (tyT ci k) v = true ∧ k < fs.length ∧ pOK 10 false ci k = true) ∧ G sp sc [30] d mX10_again n 18 L r (h.1.set m (.inl (ci, fs.set k v)), h.2) Q | none => False) | _ => False)) ∧
  (∀ (n d : Nat) (L : List (Option iV)) (st : List iV) (h : iH) (Q : Option iV → iH → Prop), G sp sc [30] d mX10_again (n + 1) 18 L st h Q = (match ld L 0 with | some (.inr (.inr (r + 1))) => G sp sc [30] d mX10_again n 19 L (.inr (.inr (r + 1)) :: st) h Q | _ => False)) ∧
  (∀ (n d : Nat) (L : List (Option iV)) (st : List iV) (h : iH) (Q : Option iV → iH → Prop), G sp sc [30] d mX10_again (n + 1) 19 L st h Q = G sp sc [30] d mX10_again n 20 L (.inl 0 :: st) h Q) ∧
  (∀ (n d : Nat) (L : List (Option iV)) (r : List iV) (v : iV) (m : Nat) (h : iH) (Q : Option iV → iH → Prop), G sp sc [30] d mX10_again (n + 1) 20 L (v :: .inr (.inr (m + 2)) :: r) h Q = (match h.1[m]? with | some (.inl (ci, fs)) => (match lkF 10 48 ci with | some k => (fitV (tyT ci k) v = true ∧ k < fs.length ∧ pOK 10 false ci k = true) ∧ G sp sc [30] d mX10_again n 23 L r (h.1.set m (.inl (ci, fs.set k v)), h.2) Q | none => False) | _ => False)) ∧
  (∀ (n d : Nat) (L : List (Option iV)) (st : List iV) (h : iH) (Q : Option iV → iH → Prop), G sp sc [30] d mX10_again (n + 1) 23 L st h Q = (match ld L 0 with | some (.inr (.inr (r + 1))) => G sp sc [30] d mX10_again n 24 L (.inr (.inr (r + 1)) :: st) h Q | _ => False)) ∧
  (∀ (n d : Nat) (L : List (Option iV)) (st : List iV) (h : iH) (Q : Option iV → iH → Prop), G sp sc [30] d mX10_again (n + 1) 24 L st h Q = G sp sc [30] d mX10_again n 25 L (.inl 0 :: st) h Q) ∧
  (∀ (n d : Nat) (L : List (Option iV)) (r : List iV) (v : iV) (m : Nat) (h : iH) (Q : Option iV → iH → Prop), G sp sc [30] d mX10_again (n + 1) 25 L (v :: .inr (.inr (m + 2)) :: r) h Q = (match h.1[m]? with | some (.inl (ci, fs)) => (match lkF 10 51 ci with | some k => (fitV (tyT ci k) v = true ∧ k < fs.length ∧ pOK 10 false ci k = true) ∧ G sp sc [30] d mX10_again n 28 L r (h.1.set m (.inl (ci, fs.set k v)), h.2) Q | none => False) | _ => False)) ∧
  (∀ (n d : Nat) (L : List (Option iV)) (st : List iV) (h : iH) (Q : Option iV → iH → Prop), G sp sc [30] d mX10_again (n + 1) 28 L st h Q = G sp sc [30] d mX10_again n 29 L (.inl 0 :: st) h Q) ∧
  (∀ (n d : Nat) (L : List (Option iV)) (r : List iV) (x : Int) (h : iH) (Q : Option iV → iH → Prop), G sp sc [30] d mX10_again (n + 1) 29 L (.inl x :: r) h Q = (match st1 L 2 (.inl x) with | some L' => Run sp sc d mX10_again 30 L' r h Q | none => False)) ∧
  (∀ (n d : Nat) (L : List (Option iV)) (st : List iV) (h : iH) (Q : Option iV → iH → Prop), G sp sc [30] d mX10_again (n + 1) 30 L st h Q = (match ld L 2 with | some (.inl x) => G sp sc [30] d mX10_again n 31 L (.inl x :: st) h Q | _ => False)) ∧
  (∀ (n d : Nat) (L : List (Option iV)) (st : List iV) (h : iH) (Q : Option iV → iH → Prop), G sp sc [30] d mX10_again (n + 1) 31 L st h Q = G sp sc [30] d mX10_again n 32 L (.inl 4 :: st) h Q) ∧
  (∀ (n d : Nat) (L : List (Option iV)) (a : Int) (b : Int) (r : List iV) (h : iH) (Q : Option iV → iH → Prop), G sp sc [30] d mX10_again (n + 1) 32 L (.inl b :: .inl a :: r) h Q = ((inI a = true ∧ inI b = true) ∧ (b ≤ a → G sp sc [30] d mX10_again n 55 L r h Q) ∧ (¬ (b ≤ a) → G sp sc [30] d mX10_again n 35 L r h Q))) ∧
  (∀ (n d : Nat) (L : List (Option iV)) (st : List iV) (h : iH) (Q : Option iV → iH → Prop), G sp sc [30] d mX10_again (n + 1) 35 L st h Q = (match ld L 0 with | some (.inr (.inr (r + 1))) => G sp sc [30] d mX10_again n 36 L (.inr (.inr (r + 1)) :: st) h Q | _ => False)) ∧
  (∀ (n d : Nat) (L : List (Option iV)) (r : List iV) (m : Nat) (h : iH) (Q : Option iV → iH → Prop), G sp sc [30] d mX10_again (n + 1) 36 L (.inr (.inr (m + 2)) :: r) h Q = (match h.1[m]? with | some (.inl (ci, fs)) => (match lkF 10 19 ci with | some k => (match fs[k]? with | some v => G sp sc [30] d mX10_again n 39 L (v :: r) h Q | none => False) | none => False) | _ => False)) ∧
  (∀ (n d : Nat) (L : List (Option iV)) (st : List iV) (h : iH) (Q : Option iV → iH → Prop), G sp sc [30] d mX10_again (n + 1) 39 L st h Q = (match ld L 2 with | some (.inl x) => G sp sc [30] d mX10_again n 40 L (.inl x :: st) h Q | _ => False)) ∧
  (∀ (n d : Nat) (L : List (Option iV)) (st : List iV) (h : iH) (Q : Option iV → iH → Prop), G sp sc [30] d mX10_again (n + 1) 40 L st h Q = G sp sc [30] d mX10_again n 41 L (.inl 0 :: st) h Q) ∧
  (∀ (n d : Nat) (L : List (Option iV)) (r : List iV) (v : Int) (j : Int) (m : Nat) (h : iH) (Q : Option iV → iH → Prop), G sp sc [30] d mX10_again (n + 1) 41 L (.inl v :: .inl j :: .inr (.inr (m + 2)) :: r) h Q = (match h.1[m]? with | some (.inr (.inl (0, xs))) => inA j xs.length = true ∧ G sp sc [30] d mX10_again n 42 L r (h.1.set m (.inr (.inl (0, xs.set j.toNat v))), h.2) Q | _ => False)) ∧
  (∀ (n d : Nat) (L : List (Option iV)) (st : List iV) (h : iH) (Q : Option iV → iH → Prop), G sp sc [30] d mX10_again (n + 1) 42 L st h Q = (match ld L 0 with | some (.inr (.inr (r + 1))) => G sp sc [30] d mX10_again n 43 L (.inr (.inr (r + 1)) :: st) h Q | _ => False)) ∧
  (∀ (n d : Nat) (L : List (Option iV)) (r : List iV) (m : Nat) (h : iH) (Q : Option iV → iH → Prop), G sp sc [30] d mX10_again (n + 1) 43 L (.inr (.inr (m + 2)) :: r) h Q = (match h.1[m]? with | some (.inl (ci, fs)) => (match lkF 10 22 ci with | some k => (match fs[k]? with | some v => G sp sc [30] d mX10_again n 46 L (v :: r) h Q | none => False) | none => False) | _ => False)) ∧
  (∀ (n d : Nat) (L : List (Option iV)) (st : List iV) (h : iH) (Q : Option iV → iH → Prop), G sp sc [30] d mX10_again (n + 1) 46 L st h Q = (match ld L 2 with | some (.inl x) => G sp sc [30] d mX10_again n 47 L (.inl x :: st) h Q | _ => False)) ∧
  (∀ (n d : Nat) (L : List (Option iV)) (st : List iV) (h : iH) (Q : Option iV → iH → Prop), G sp sc [30] d mX10_again (n + 1) 47 L st h Q = G sp sc [30] d mX10_again n 48 L (.inl 0 :: st) h Q) ∧
  (∀ (n d : Nat) (L : List (Option iV)) (r : List iV) (v : Int) (j : Int) (m : Nat) (h : iH) (Q : Option iV → iH → Prop), G sp sc [30] d mX10_again (n + 1) 48 L (.inl v :: .inl j :: .inr (.inr (m + 2)) :: r) h Q = (match h.1[m]? with | some (.inr (.inl (0, xs))) => inA j xs.length = true ∧ G sp sc [30] d mX10_again n 49 L r (h.1.set m (.inr (.inl (0, xs.set j.toNat v))), h.2) Q | _ => False)) ∧
  (∀ (n d : Nat) (L : List (Option iV)) (st : List iV) (h : iH) (Q : Option iV → iH → Prop), G sp sc [30] d mX10_again (n + 1) 49 L st h Q = (match ld L 2 with | some (.inl x) => (match st1 L 2 (.inl (x + 1)) with | some L' => G sp sc [30] d mX10_again n 52 L' st h Q | none => False) | _ => False)) ∧
  (∀ (n d : Nat) (L : List (Option iV)) (st : List iV) (h : iH) (Q : Option iV → iH → Prop), G sp sc [30] d mX10_again (n + 1) 52 L st h Q = Run sp sc d mX10_again 30 L st h Q) ∧
  (∀ (n d : Nat) (L : List (Option iV))  (h : iH) (Q : Option iV → iH → Prop), G sp sc [30] d mX10_again (n + 1) 55 L [] h Q = Q none h) ∧
  lkC 10 36 8 = some (mX8_takeFrom, 1, 2) ∧
  lkF 10 19 10 = some 3 ∧
  lkF 10 22 10 = some 4 ∧
  lkF 10 25 10 = some 0 ∧
  lkF 10 41 10 = some 5 ∧
  lkF 10 45 10 = some 6 ∧
  lkF 10 48 10 = some 7 ∧
  lkF 10 51 10 = some 8 ∧
  pOK 10 false 10 5 = true ∧
  pOK 10 false 10 6 = true ∧
  pOK 10 false 10 7 = true ∧
  pOK 10 false 10 8 = true := ⟨by intros; exact G_at (by decide +kernel : fetch mX10_again 0 = some (.aload_n 0)),
  by intros; exact G_own (by decide +kernel : fetch mX10_again 1 = some (.getfield 25)) (by decide +kernel),
  by intros; exact G_at (by decide +kernel : fetch mX10_again 4 = some (.aload_n 1)),
  by intros; exact G_callV (by decide +kernel : fetch mX10_again 5 = some (.invokevirtual 36)) (by decide +kernel) (by decide +kernel) rfl,
  by intros; exact G_at (by decide +kernel : fetch mX10_again 8 = some (.aload_n 0)),
  by intros; exact G_at (by decide +kernel : fetch mX10_again 9 = some (.iconst 0)),
  by intros; exact G_ownW (by decide +kernel : fetch mX10_again 10 = some (.putfield 41)) (by decide +kernel) (by decide +kernel),
  by intros; exact G_at (by decide +kernel : fetch mX10_again 13 = some (.aload_n 0)),
  by intros; exact G_at (by decide +kernel : fetch mX10_again 14 = some (.iconst 0)),
  by intros; exact G_ownW (by decide +kernel : fetch mX10_again 15 = some (.putfield 45)) (by decide +kernel) (by decide +kernel),
  by intros; exact G_at (by decide +kernel : fetch mX10_again 18 = some (.aload_n 0)),
  by intros; exact G_at (by decide +kernel : fetch mX10_again 19 = some (.iconst 0)),
  by intros; exact G_ownW (by decide +kernel : fetch mX10_again 20 = some (.putfield 48)) (by decide +kernel) (by decide +kernel),
  by intros; exact G_at (by decide +kernel : fetch mX10_again 23 = some (.aload_n 0)),
  by intros; exact G_at (by decide +kernel : fetch mX10_again 24 = some (.iconst 0)),
  by intros; exact G_ownW (by decide +kernel : fetch mX10_again 25 = some (.putfield 51)) (by decide +kernel) (by decide +kernel),
  by intros; exact G_at (by decide +kernel : fetch mX10_again 28 = some (.iconst 0)),
  by intros; exact G_at (by decide +kernel : fetch mX10_again 29 = some (.istore_n 2)),
  by intros; exact G_at (by decide +kernel : fetch mX10_again 30 = some (.iload_n 2)),
  by intros; exact G_at (by decide +kernel : fetch mX10_again 31 = some (.iconst 4)),
  by intros; exact G_at (by decide +kernel : fetch mX10_again 32 = some (.if_icmp .ge 23)),
  by intros; exact G_at (by decide +kernel : fetch mX10_again 35 = some (.aload_n 0)),
  by intros; exact G_own (by decide +kernel : fetch mX10_again 36 = some (.getfield 19)) (by decide +kernel),
  by intros; exact G_at (by decide +kernel : fetch mX10_again 39 = some (.iload_n 2)),
  by intros; exact G_at (by decide +kernel : fetch mX10_again 40 = some (.iconst 0)),
  by intros; exact G_at (by decide +kernel : fetch mX10_again 41 = some (.iastore)),
  by intros; exact G_at (by decide +kernel : fetch mX10_again 42 = some (.aload_n 0)),
  by intros; exact G_own (by decide +kernel : fetch mX10_again 43 = some (.getfield 22)) (by decide +kernel),
  by intros; exact G_at (by decide +kernel : fetch mX10_again 46 = some (.iload_n 2)),
  by intros; exact G_at (by decide +kernel : fetch mX10_again 47 = some (.iconst 0)),
  by intros; exact G_at (by decide +kernel : fetch mX10_again 48 = some (.iastore)),
  by intros; exact G_at (by decide +kernel : fetch mX10_again 49 = some (.iinc 2 1)),
  by intros; exact G_at (by decide +kernel : fetch mX10_again 52 = some (.goto (-22))),
  by intros; exact G_retv (by decide +kernel : fetch mX10_again 55 = some (.return_)) (by decide +kernel),
  by decide +kernel,
  by decide +kernel,
  by decide +kernel,
  by decide +kernel,
  by decide +kernel,
  by decide +kernel,
  by decide +kernel,
  by decide +kernel,
  by decide +kernel,
  by decide +kernel,
  by decide +kernel,
  by decide +kernel⟩
theorem gX10_orderByNumbers : (∀ (n d : Nat) (L : List (Option iV)) (st : List iV) (h : iH) (Q : Option iV → iH → Prop), G sp sc [2] d mX10_orderByNumbers (n + 1) 0 L st h Q = G sp sc [2] d mX10_orderByNumbers n 1 L (.inl 0 :: st) h Q) ∧
  (∀ (n d : Nat) (L : List (Option iV)) (r : List iV) (x : Int) (h : iH) (Q : Option iV → iH → Prop), G sp sc [2] d mX10_orderByNumbers (n + 1) 1 L (.inl x :: r) h Q = (match st1 L 1 (.inl x) with | some L' => Run sp sc d mX10_orderByNumbers 2 L' r h Q | none => False)) ∧
  (∀ (n d : Nat) (L : List (Option iV)) (st : List iV) (h : iH) (Q : Option iV → iH → Prop), G sp sc [2] d mX10_orderByNumbers (n + 1) 2 L st h Q = (match ld L 1 with | some (.inl x) => G sp sc [2] d mX10_orderByNumbers n 3 L (.inl x :: st) h Q | _ => False)) ∧
  (∀ (n d : Nat) (L : List (Option iV)) (st : List iV) (h : iH) (Q : Option iV → iH → Prop), G sp sc [2] d mX10_orderByNumbers (n + 1) 3 L st h Q = G sp sc [2] d mX10_orderByNumbers n 4 L (.inl 4 :: st) h Q) ∧
  (∀ (n d : Nat) (L : List (Option iV)) (a : Int) (b : Int) (r : List iV) (h : iH) (Q : Option iV → iH → Prop), G sp sc [2] d mX10_orderByNumbers (n + 1) 4 L (.inl b :: .inl a :: r) h Q = ((inI a = true ∧ inI b = true) ∧ (b ≤ a → G sp sc [2] d mX10_orderByNumbers n 20 L r h Q) ∧ (¬ (b ≤ a) → G sp sc [2] d mX10_orderByNumbers n 7 L r h Q))) ∧
  (∀ (n d : Nat) (L : List (Option iV)) (st : List iV) (h : iH) (Q : Option iV → iH → Prop), G sp sc [2] d mX10_orderByNumbers (n + 1) 7 L st h Q = (match ld L 0 with | some (.inr (.inr (r + 1))) => G sp sc [2] d mX10_orderByNumbers n 8 L (.inr (.inr (r + 1)) :: st) h Q | _ => False)) ∧
  (∀ (n d : Nat) (L : List (Option iV)) (r : List iV) (m : Nat) (h : iH) (Q : Option iV → iH → Prop), G sp sc [2] d mX10_orderByNumbers (n + 1) 8 L (.inr (.inr (m + 2)) :: r) h Q = (match h.1[m]? with | some (.inl (ci, fs)) => (match lkF 10 9 ci with | some k => (match fs[k]? with | some v => G sp sc [2] d mX10_orderByNumbers n 11 L (v :: r) h Q | none => False) | none => False) | _ => False)) ∧
  (∀ (n d : Nat) (L : List (Option iV)) (st : List iV) (h : iH) (Q : Option iV → iH → Prop), G sp sc [2] d mX10_orderByNumbers (n + 1) 11 L st h Q = (match ld L 1 with | some (.inl x) => G sp sc [2] d mX10_orderByNumbers n 12 L (.inl x :: st) h Q | _ => False)) ∧
  (∀ (n d : Nat) (L : List (Option iV)) (st : List iV) (h : iH) (Q : Option iV → iH → Prop), G sp sc [2] d mX10_orderByNumbers (n + 1) 12 L st h Q = (match ld L 1 with | some (.inl x) => G sp sc [2] d mX10_orderByNumbers n 13 L (.inl x :: st) h Q | _ => False)) ∧
  (∀ (n d : Nat) (L : List (Option iV)) (r : List iV) (v : Int) (j : Int) (m : Nat) (h : iH) (Q : Option iV → iH → Prop), G sp sc [2] d mX10_orderByNumbers (n + 1) 13 L (.inl v :: .inl j :: .inr (.inr (m + 2)) :: r) h Q = (match h.1[m]? with | some (.inr (.inl (0, xs))) => inA j xs.length = true ∧ G sp sc [2] d mX10_orderByNumbers n 14 L r (h.1.set m (.inr (.inl (0, xs.set j.toNat v))), h.2) Q | _ => False)) ∧
  (∀ (n d : Nat) (L : List (Option iV)) (st : List iV) (h : iH) (Q : Option iV → iH → Prop), G sp sc [2] d mX10_orderByNumbers (n + 1) 14 L st h Q = (match ld L 1 with | some (.inl x) => (match st1 L 1 (.inl (x + 1)) with | some L' => G sp sc [2] d mX10_orderByNumbers n 17 L' st h Q | none => False) | _ => False)) ∧
  (∀ (n d : Nat) (L : List (Option iV)) (st : List iV) (h : iH) (Q : Option iV → iH → Prop), G sp sc [2] d mX10_orderByNumbers (n + 1) 17 L st h Q = Run sp sc d mX10_orderByNumbers 2 L st h Q) ∧
  (∀ (n d : Nat) (L : List (Option iV))  (h : iH) (Q : Option iV → iH → Prop), G sp sc [2] d mX10_orderByNumbers (n + 1) 20 L [] h Q = Q none h) ∧
  lkF 10 9 10 = some 1 := ⟨by intros; exact G_at (by decide +kernel : fetch mX10_orderByNumbers 0 = some (.iconst 0)),
  by intros; exact G_at (by decide +kernel : fetch mX10_orderByNumbers 1 = some (.istore_n 1)),
  by intros; exact G_at (by decide +kernel : fetch mX10_orderByNumbers 2 = some (.iload_n 1)),
  by intros; exact G_at (by decide +kernel : fetch mX10_orderByNumbers 3 = some (.iconst 4)),
  by intros; exact G_at (by decide +kernel : fetch mX10_orderByNumbers 4 = some (.if_icmp .ge 16)),
  by intros; exact G_at (by decide +kernel : fetch mX10_orderByNumbers 7 = some (.aload_n 0)),
  by intros; exact G_own (by decide +kernel : fetch mX10_orderByNumbers 8 = some (.getfield 9)) (by decide +kernel),
  by intros; exact G_at (by decide +kernel : fetch mX10_orderByNumbers 11 = some (.iload_n 1)),
  by intros; exact G_at (by decide +kernel : fetch mX10_orderByNumbers 12 = some (.iload_n 1)),
  by intros; exact G_at (by decide +kernel : fetch mX10_orderByNumbers 13 = some (.iastore)),
  by intros; exact G_at (by decide +kernel : fetch mX10_orderByNumbers 14 = some (.iinc 1 1)),
  by intros; exact G_at (by decide +kernel : fetch mX10_orderByNumbers 17 = some (.goto (-15))),
  by intros; exact G_retv (by decide +kernel : fetch mX10_orderByNumbers 20 = some (.return_)) (by decide +kernel),
  by decide +kernel⟩
theorem gX10_orderDigits : (∀ (n d : Nat) (L : List (Option iV)) (st : List iV) (h : iH) (Q : Option iV → iH → Prop), G sp sc [4] d mX10_orderDigits (n + 1) 0 L st h Q = G sp sc [4] d mX10_orderDigits n 1 L (.inl 0 :: st) h Q) ∧
  (∀ (n d : Nat) (L : List (Option iV)) (r : List iV) (x : Int) (h : iH) (Q : Option iV → iH → Prop), G sp sc [4] d mX10_orderDigits (n + 1) 1 L (.inl x :: r) h Q = (match st1 L 1 (.inl x) with | some L' => G sp sc [4] d mX10_orderDigits n 2 L' r h Q | none => False)) ∧
  (∀ (n d : Nat) (L : List (Option iV)) (st : List iV) (h : iH) (Q : Option iV → iH → Prop), G sp sc [4] d mX10_orderDigits (n + 1) 2 L st h Q = G sp sc [4] d mX10_orderDigits n 3 L (.inl 0 :: st) h Q) ∧
  (∀ (n d : Nat) (L : List (Option iV)) (r : List iV) (x : Int) (h : iH) (Q : Option iV → iH → Prop), G sp sc [4] d mX10_orderDigits (n + 1) 3 L (.inl x :: r) h Q = (match st1 L 2 (.inl x) with | some L' => Run sp sc d mX10_orderDigits 4 L' r h Q | none => False)) ∧
  (∀ (n d : Nat) (L : List (Option iV)) (st : List iV) (h : iH) (Q : Option iV → iH → Prop), G sp sc [4] d mX10_orderDigits (n + 1) 4 L st h Q = (match ld L 2 with | some (.inl x) => G sp sc [4] d mX10_orderDigits n 5 L (.inl x :: st) h Q | _ => False)) ∧
  (∀ (n d : Nat) (L : List (Option iV)) (st : List iV) (h : iH) (Q : Option iV → iH → Prop), G sp sc [4] d mX10_orderDigits (n + 1) 5 L st h Q = (match ld L 0 with | some (.inr (.inr (r + 1))) => G sp sc [4] d mX10_orderDigits n 6 L (.inr (.inr (r + 1)) :: st) h Q | _ => False)) ∧
  (∀ (n d : Nat) (L : List (Option iV)) (r : List iV) (m : Nat) (h : iH) (Q : Option iV → iH → Prop), G sp sc [4] d mX10_orderDigits (n + 1) 6 L (.inr (.inr (m + 2)) :: r) h Q = (match h.1[m]? with | some (.inl (ci, fs)) => (match lkF 10 25 ci with | some k => (match fs[k]? with | some v => G sp sc [4] d mX10_orderDigits n 9 L (v :: r) h Q | none => False) | none => False) | _ => False)) ∧
  (∀ (n d : Nat) (L : List (Option iV)) (r : List iV) (m : Nat) (h : iH) (Q : Option iV → iH → Prop), G sp sc [4] d mX10_orderDigits (n + 1) 9 L (.inr (.inr (m + 2)) :: r) h Q = (match h.1[m]? with | some (.inl (ci, fs)) => (match lkF 10 54 ci with | some k => (match fs[k]? with | some v => G sp sc [4] d mX10_orderDigits n 12 L (v :: r) h Q | none => False) | none => False) | _ => False)) ∧
  (∀ (n d : Nat) (L : List (Option iV)) (a : Int) (b : Int) (r : List iV) (h : iH) (Q : Option iV → iH → Prop), G sp sc [4] d mX10_orderDigits (n + 1) 12 L (.inl b :: .inl a :: r) h Q = ((inI a = true ∧ inI b = true) ∧ (b ≤ a → G sp sc [4] d mX10_orderDigits n 33 L r h Q) ∧ (¬ (b ≤ a) → G sp sc [4] d mX10_orderDigits n 15 L r h Q))) ∧
  (∀ (n d : Nat) (L : List (Option iV)) (st : List iV) (h : iH) (Q : Option iV → iH → Prop), G sp sc [4] d mX10_orderDigits (n + 1) 15 L st h Q = ((-128 ≤ (10 : Int) ∧ (10 : Int) < 128) ∧ G sp sc [4] d mX10_orderDigits n 17 L (.inl 10 :: st) h Q)) ∧
  (∀ (n d : Nat) (L : List (Option iV)) (st : List iV) (h : iH) (Q : Option iV → iH → Prop), G sp sc [4] d mX10_orderDigits (n + 1) 17 L st h Q = (match ld L 1 with | some (.inl x) => G sp sc [4] d mX10_orderDigits n 18 L (.inl x :: st) h Q | _ => False)) ∧
  (∀ (n d : Nat) (L : List (Option iV)) (a : Int) (b : Int) (r : List iV) (h : iH) (Q : Option iV → iH → Prop), G sp sc [4] d mX10_orderDigits (n + 1) 18 L (.inl b :: .inl a :: r) h Q = G sp sc [4] d mX10_orderDigits n 19 L (.inl (a * b) :: r) h Q) ∧
  (∀ (n d : Nat) (L : List (Option iV)) (st : List iV) (h : iH) (Q : Option iV → iH → Prop), G sp sc [4] d mX10_orderDigits (n + 1) 19 L st h Q = (match ld L 0 with | some (.inr (.inr (r + 1))) => G sp sc [4] d mX10_orderDigits n 20 L (.inr (.inr (r + 1)) :: st) h Q | _ => False)) ∧
  (∀ (n d : Nat) (L : List (Option iV)) (r : List iV) (m : Nat) (h : iH) (Q : Option iV → iH → Prop), G sp sc [4] d mX10_orderDigits (n + 1) 20 L (.inr (.inr (m + 2)) :: r) h Q = (match h.1[m]? with | some (.inl (ci, fs)) => (match lkF 10 9 ci with | some k => (match fs[k]? with | some v => G sp sc [4] d mX10_orderDigits n 23 L (v :: r) h Q | none => False) | none => False) | _ => False)) ∧
  (∀ (n d : Nat) (L : List (Option iV)) (st : List iV) (h : iH) (Q : Option iV → iH → Prop), G sp sc [4] d mX10_orderDigits (n + 1) 23 L st h Q = (match ld L 2 with | some (.inl x) => G sp sc [4] d mX10_orderDigits n 24 L (.inl x :: st) h Q | _ => False)) ∧
  (∀ (n d : Nat) (L : List (Option iV)) (r : List iV) (j : Int) (m : Nat) (h : iH) (Q : Option iV → iH → Prop), G sp sc [4] d mX10_orderDigits (n + 1) 24 L (.inl j :: .inr (.inr (m + 2)) :: r) h Q = (match h.1[m]? with | some (.inr (.inl (0, xs))) => inA j xs.length = true ∧ G sp sc [4] d mX10_orderDigits n 25 L (.inl (xs.getD j.toNat 0) :: r) h Q | _ => False)) ∧
  (∀ (n d : Nat) (L : List (Option iV)) (a : Int) (b : Int) (r : List iV) (h : iH) (Q : Option iV → iH → Prop), G sp sc [4] d mX10_orderDigits (n + 1) 25 L (.inl b :: .inl a :: r) h Q = G sp sc [4] d mX10_orderDigits n 26 L (.inl (a + b) :: r) h Q) ∧
  (∀ (n d : Nat) (L : List (Option iV)) (r : List iV) (x : Int) (h : iH) (Q : Option iV → iH → Prop), G sp sc [4] d mX10_orderDigits (n + 1) 26 L (.inl x :: r) h Q = (match st1 L 1 (.inl x) with | some L' => G sp sc [4] d mX10_orderDigits n 27 L' r h Q | none => False)) ∧
  (∀ (n d : Nat) (L : List (Option iV)) (st : List iV) (h : iH) (Q : Option iV → iH → Prop), G sp sc [4] d mX10_orderDigits (n + 1) 27 L st h Q = (match ld L 2 with | some (.inl x) => (match st1 L 2 (.inl (x + 1)) with | some L' => G sp sc [4] d mX10_orderDigits n 30 L' st h Q | none => False) | _ => False)) ∧
  (∀ (n d : Nat) (L : List (Option iV)) (st : List iV) (h : iH) (Q : Option iV → iH → Prop), G sp sc [4] d mX10_orderDigits (n + 1) 30 L st h Q = Run sp sc d mX10_orderDigits 4 L st h Q) ∧
  (∀ (n d : Nat) (L : List (Option iV)) (st : List iV) (h : iH) (Q : Option iV → iH → Prop), G sp sc [4] d mX10_orderDigits (n + 1) 33 L st h Q = (match ld L 1 with | some (.inl x) => G sp sc [4] d mX10_orderDigits n 34 L (.inl x :: st) h Q | _ => False)) ∧
  (∀ (n d : Nat) (L : List (Option iV)) (a : Int) (h : iH) (Q : Option iV → iH → Prop), G sp sc [4] d mX10_orderDigits (n + 1) 34 L [.inl a] h Q = Q (some (.inl a)) h) ∧
  lkF 10 25 10 = some 0 ∧
  lkF 10 54 8 = some 5 ∧
  lkF 10 9 10 = some 1 := ⟨by intros; exact G_at (by decide +kernel : fetch mX10_orderDigits 0 = some (.iconst 0)),
  by intros; exact G_at (by decide +kernel : fetch mX10_orderDigits 1 = some (.istore_n 1)),
  by intros; exact G_at (by decide +kernel : fetch mX10_orderDigits 2 = some (.iconst 0)),
  by intros; exact G_at (by decide +kernel : fetch mX10_orderDigits 3 = some (.istore_n 2)),
  by intros; exact G_at (by decide +kernel : fetch mX10_orderDigits 4 = some (.iload_n 2)),
  by intros; exact G_at (by decide +kernel : fetch mX10_orderDigits 5 = some (.aload_n 0)),
  by intros; exact G_own (by decide +kernel : fetch mX10_orderDigits 6 = some (.getfield 25)) (by decide +kernel),
  by intros; exact G_own (by decide +kernel : fetch mX10_orderDigits 9 = some (.getfield 54)) (by decide +kernel),
  by intros; exact G_at (by decide +kernel : fetch mX10_orderDigits 12 = some (.if_icmp .ge 21)),
  by intros; exact G_at (by decide +kernel : fetch mX10_orderDigits 15 = some (.bipush 10)),
  by intros; exact G_at (by decide +kernel : fetch mX10_orderDigits 17 = some (.iload_n 1)),
  by intros; exact G_at (by decide +kernel : fetch mX10_orderDigits 18 = some (.imul)),
  by intros; exact G_at (by decide +kernel : fetch mX10_orderDigits 19 = some (.aload_n 0)),
  by intros; exact G_own (by decide +kernel : fetch mX10_orderDigits 20 = some (.getfield 9)) (by decide +kernel),
  by intros; exact G_at (by decide +kernel : fetch mX10_orderDigits 23 = some (.iload_n 2)),
  by intros; exact G_at (by decide +kernel : fetch mX10_orderDigits 24 = some (.iaload)),
  by intros; exact G_at (by decide +kernel : fetch mX10_orderDigits 25 = some (.iadd)),
  by intros; exact G_at (by decide +kernel : fetch mX10_orderDigits 26 = some (.istore_n 1)),
  by intros; exact G_at (by decide +kernel : fetch mX10_orderDigits 27 = some (.iinc 2 1)),
  by intros; exact G_at (by decide +kernel : fetch mX10_orderDigits 30 = some (.goto (-26))),
  by intros; exact G_at (by decide +kernel : fetch mX10_orderDigits 33 = some (.iload_n 1)),
  by intros; exact G_reti (by decide +kernel : fetch mX10_orderDigits 34 = some (.ireturn)) (by decide +kernel),
  by decide +kernel,
  by decide +kernel,
  by decide +kernel⟩
theorem gX10_nextOrder : (∀ (n d : Nat) (L : List (Option iV)) (st : List iV) (h : iH) (Q : Option iV → iH → Prop), G sp sc [14, 49, 89] d mX10_nextOrder (n + 1) 0 L st h Q = (match ld L 0 with | some (.inr (.inr (r + 1))) => G sp sc [14, 49, 89] d mX10_nextOrder n 1 L (.inr (.inr (r + 1)) :: st) h Q | _ => False)) ∧
  (∀ (n d : Nat) (L : List (Option iV)) (r : List iV) (m : Nat) (h : iH) (Q : Option iV → iH → Prop), G sp sc [14, 49, 89] d mX10_nextOrder (n + 1) 1 L (.inr (.inr (m + 2)) :: r) h Q = (match h.1[m]? with | some (.inl (ci, fs)) => (match lkF 10 25 ci with | some k => (match fs[k]? with | some v => G sp sc [14, 49, 89] d mX10_nextOrder n 4 L (v :: r) h Q | none => False) | none => False) | _ => False)) ∧
  (∀ (n d : Nat) (L : List (Option iV)) (r : List iV) (m : Nat) (h : iH) (Q : Option iV → iH → Prop), G sp sc [14, 49, 89] d mX10_nextOrder (n + 1) 4 L (.inr (.inr (m + 2)) :: r) h Q = (match h.1[m]? with | some (.inl (ci, fs)) => (match lkF 10 54 ci with | some k => (match fs[k]? with | some v => G sp sc [14, 49, 89] d mX10_nextOrder n 7 L (v :: r) h Q | none => False) | none => False) | _ => False)) ∧
  (∀ (n d : Nat) (L : List (Option iV)) (st : List iV) (h : iH) (Q : Option iV → iH → Prop), G sp sc [14, 49, 89] d mX10_nextOrder (n + 1) 7 L st h Q = G sp sc [14, 49, 89] d mX10_nextOrder n 8 L (.inl 1 :: st) h Q) ∧
  (∀ (n d : Nat) (L : List (Option iV)) (a : Int) (b : Int) (r : List iV) (h : iH) (Q : Option iV → iH → Prop), G sp sc [14, 49, 89] d mX10_nextOrder (n + 1) 8 L (.inl b :: .inl a :: r) h Q = G sp sc [14, 49, 89] d mX10_nextOrder n 9 L (.inl (a - b) :: r) h Q) ∧
  (∀ (n d : Nat) (L : List (Option iV)) (r : List iV) (x : Int) (h : iH) (Q : Option iV → iH → Prop), G sp sc [14, 49, 89] d mX10_nextOrder (n + 1) 9 L (.inl x :: r) h Q = (match st1 L 1 (.inl x) with | some L' => G sp sc [14, 49, 89] d mX10_nextOrder n 10 L' r h Q | none => False)) ∧
  (∀ (n d : Nat) (L : List (Option iV)) (st : List iV) (h : iH) (Q : Option iV → iH → Prop), G sp sc [14, 49, 89] d mX10_nextOrder (n + 1) 10 L st h Q = (match ld L 1 with | some (.inl x) => G sp sc [14, 49, 89] d mX10_nextOrder n 11 L (.inl x :: st) h Q | _ => False)) ∧
  (∀ (n d : Nat) (L : List (Option iV)) (st : List iV) (h : iH) (Q : Option iV → iH → Prop), G sp sc [14, 49, 89] d mX10_nextOrder (n + 1) 11 L st h Q = G sp sc [14, 49, 89] d mX10_nextOrder n 12 L (.inl 1 :: st) h Q) ∧
  (∀ (n d : Nat) (L : List (Option iV)) (a : Int) (b : Int) (r : List iV) (h : iH) (Q : Option iV → iH → Prop), G sp sc [14, 49, 89] d mX10_nextOrder (n + 1) 12 L (.inl b :: .inl a :: r) h Q = G sp sc [14, 49, 89] d mX10_nextOrder n 13 L (.inl (a - b) :: r) h Q) ∧
  (∀ (n d : Nat) (L : List (Option iV)) (r : List iV) (x : Int) (h : iH) (Q : Option iV → iH → Prop), G sp sc [14, 49, 89] d mX10_nextOrder (n + 1) 13 L (.inl x :: r) h Q = (match st1 L 2 (.inl x) with | some L' => Run sp sc d mX10_nextOrder 14 L' r h Q | none => False)) ∧
  (∀ (n d : Nat) (L : List (Option iV)) (st : List iV) (h : iH) (Q : Option iV → iH → Prop), G sp sc [14, 49, 89] d mX10_nextOrder (n + 1) 14 L st h Q = (match ld L 2 with | some (.inl x) => G sp sc [14, 49, 89] d mX10_nextOrder n 15 L (.inl x :: st) h Q | _ => False)) ∧
  (∀ (n d : Nat) (L : List (Option iV)) (a : Int) (r : List iV) (h : iH) (Q : Option iV → iH → Prop), G sp sc [14, 49, 89] d mX10_nextOrder (n + 1) 15 L (.inl a :: r) h Q = (inI a = true ∧ (a < 0 → G sp sc [14, 49, 89] d mX10_nextOrder n 41 L r h Q) ∧ (¬ (a < 0) → G sp sc [14, 49, 89] d mX10_nextOrder n 18 L r h Q))) ∧
  (∀ (n d : Nat) (L : List (Option iV)) (st : List iV) (h : iH) (Q : Option iV → iH → Prop), G sp sc [14, 49, 89] d mX10_nextOrder (n + 1) 18 L st h Q = (match ld L 0 with | some (.inr (.inr (r + 1))) => G sp sc [14, 49, 89] d mX10_nextOrder n 19 L (.inr (.inr (r + 1)) :: st) h Q | _ => False)) ∧
  (∀ (n d : Nat) (L : List (Option iV)) (r : List iV) (m : Nat) (h : iH) (Q : Option iV → iH → Prop), G sp sc [14, 49, 89] d mX10_nextOrder (n + 1) 19 L (.inr (.inr (m + 2)) :: r) h Q = (match h.1[m]? with | some (.inl (ci, fs)) => (match lkF 10 9 ci with | some k => (match fs[k]? with | some v => G sp sc [14, 49, 89] d mX10_nextOrder n 22 L (v :: r) h Q | none => False) | none => False) | _ => False)) ∧
  (∀ (n d : Nat) (L : List (Option iV)) (st : List iV) (h : iH) (Q : Option iV → iH → Prop), G sp sc [14, 49, 89] d mX10_nextOrder (n + 1) 22 L st h Q = (match ld L 2 with | some (.inl x) => G sp sc [14, 49, 89] d mX10_nextOrder n 23 L (.inl x :: st) h Q | _ => False)) ∧
  (∀ (n d : Nat) (L : List (Option iV)) (r : List iV) (j : Int) (m : Nat) (h : iH) (Q : Option iV → iH → Prop), G sp sc [14, 49, 89] d mX10_nextOrder (n + 1) 23 L (.inl j :: .inr (.inr (m + 2)) :: r) h Q = (match h.1[m]? with | some (.inr (.inl (0, xs))) => inA j xs.length = true ∧ G sp sc [14, 49, 89] d mX10_nextOrder n 24 L (.inl (xs.getD j.toNat 0) :: r) h Q | _ => False)) ∧
  (∀ (n d : Nat) (L : List (Option iV)) (st : List iV) (h : iH) (Q : Option iV → iH → Prop), G sp sc [14, 49, 89] d mX10_nextOrder (n + 1) 24 L st h Q = (match ld L 0 with | some (.inr (.inr (r + 1))) => G sp sc [14, 49, 89] d mX10_nextOrder n 25 L (.inr (.inr (r + 1)) :: st) h Q | _ => False)) ∧
  (∀ (n d : Nat) (L : List (Option iV)) (r : List iV) (m : Nat) (h : iH) (Q : Option iV → iH → Prop), G sp sc [14, 49, 89] d mX10_nextOrder (n + 1) 25 L (.inr (.inr (m + 2)) :: r) h Q = (match h.1[m]? with | some (.inl (ci, fs)) => (match lkF 10 9 ci with | some k => (match fs[k]? with | some v => G sp sc [14, 49, 89] d mX10_nextOrder n 28 L (v :: r) h Q | none => False) | none => False) | _ => False)) ∧
  (∀ (n d : Nat) (L : List (Option iV)) (st : List iV) (h : iH) (Q : Option iV → iH → Prop), G sp sc [14, 49, 89] d mX10_nextOrder (n + 1) 28 L st h Q = (match ld L 2 with | some (.inl x) => G sp sc [14, 49, 89] d mX10_nextOrder n 29 L (.inl x :: st) h Q | _ => False)) ∧
  (∀ (n d : Nat) (L : List (Option iV)) (st : List iV) (h : iH) (Q : Option iV → iH → Prop), G sp sc [14, 49, 89] d mX10_nextOrder (n + 1) 29 L st h Q = G sp sc [14, 49, 89] d mX10_nextOrder n 30 L (.inl 1 :: st) h Q) ∧
  (∀ (n d : Nat) (L : List (Option iV)) (a : Int) (b : Int) (r : List iV) (h : iH) (Q : Option iV → iH → Prop), G sp sc [14, 49, 89] d mX10_nextOrder (n + 1) 30 L (.inl b :: .inl a :: r) h Q = G sp sc [14, 49, 89] d mX10_nextOrder n 31 L (.inl (a + b) :: r) h Q) ∧
  (∀ (n d : Nat) (L : List (Option iV)) (r : List iV) (j : Int) (m : Nat) (h : iH) (Q : Option iV → iH → Prop), G sp sc [14, 49, 89] d mX10_nextOrder (n + 1) 31 L (.inl j :: .inr (.inr (m + 2)) :: r) h Q = (match h.1[m]? with | some (.inr (.inl (0, xs))) => inA j xs.length = true ∧ G sp sc [14, 49, 89] d mX10_nextOrder n 32 L (.inl (xs.getD j.toNat 0) :: r) h Q | _ => False)) ∧
  (∀ (n d : Nat) (L : List (Option iV)) (a : Int) (b : Int) (r : List iV) (h : iH) (Q : Option iV → iH → Prop), G sp sc [14, 49, 89] d mX10_nextOrder (n + 1) 32 L (.inl b :: .inl a :: r) h Q = ((inI a = true ∧ inI b = true) ∧ (a ≤ b → G sp sc [14, 49, 89] d mX10_nextOrder n 41 L r h Q) ∧ (¬ (a ≤ b) → G sp sc [14, 49, 89] d mX10_nextOrder n 35 L r h Q))) ∧
  (∀ (n d : Nat) (L : List (Option iV)) (st : List iV) (h : iH) (Q : Option iV → iH → Prop), G sp sc [14, 49, 89] d mX10_nextOrder (n + 1) 35 L st h Q = (match ld L 2 with | some (.inl x) => (match st1 L 2 (.inl (x + (-1))) with | some L' => G sp sc [14, 49, 89] d mX10_nextOrder n 38 L' st h Q | none => False) | _ => False)) ∧
  (∀ (n d : Nat) (L : List (Option iV)) (st : List iV) (h : iH) (Q : Option iV → iH → Prop), G sp sc [14, 49, 89] d mX10_nextOrder (n + 1) 38 L st h Q = Run sp sc d mX10_nextOrder 14 L st h Q) ∧
  (∀ (n d : Nat) (L : List (Option iV)) (st : List iV) (h : iH) (Q : Option iV → iH → Prop), G sp sc [14, 49, 89] d mX10_nextOrder (n + 1) 41 L st h Q = (match ld L 2 with | some (.inl x) => G sp sc [14, 49, 89] d mX10_nextOrder n 42 L (.inl x :: st) h Q | _ => False)) ∧
  (∀ (n d : Nat) (L : List (Option iV)) (a : Int) (r : List iV) (h : iH) (Q : Option iV → iH → Prop), G sp sc [14, 49, 89] d mX10_nextOrder (n + 1) 42 L (.inl a :: r) h Q = (inI a = true ∧ (0 ≤ a → G sp sc [14, 49, 89] d mX10_nextOrder n 47 L r h Q) ∧ (¬ (0 ≤ a) → G sp sc [14, 49, 89] d mX10_nextOrder n 45 L r h Q))) ∧
  (∀ (n d : Nat) (L : List (Option iV)) (st : List iV) (h : iH) (Q : Option iV → iH → Prop), G sp sc [14, 49, 89] d mX10_nextOrder (n + 1) 45 L st h Q = G sp sc [14, 49, 89] d mX10_nextOrder n 46 L (.inl 0 :: st) h Q) ∧
  (∀ (n d : Nat) (L : List (Option iV)) (a : Int) (h : iH) (Q : Option iV → iH → Prop), G sp sc [14, 49, 89] d mX10_nextOrder (n + 1) 46 L [.inl a] h Q = ((a = 0 ∨ a = 1) ∧ Q (some (.inl a)) h)) ∧
  (∀ (n d : Nat) (L : List (Option iV)) (st : List iV) (h : iH) (Q : Option iV → iH → Prop), G sp sc [14, 49, 89] d mX10_nextOrder (n + 1) 47 L st h Q = (match ld L 1 with | some (.inl x) => G sp sc [14, 49, 89] d mX10_nextOrder n 48 L (.inl x :: st) h Q | _ => False)) ∧
  (∀ (n d : Nat) (L : List (Option iV)) (r : List iV) (x : Int) (h : iH) (Q : Option iV → iH → Prop), G sp sc [14, 49, 89] d mX10_nextOrder (n + 1) 48 L (.inl x :: r) h Q = (match st1 L 3 (.inl x) with | some L' => Run sp sc d mX10_nextOrder 49 L' r h Q | none => False)) ∧
  (∀ (n d : Nat) (L : List (Option iV)) (st : List iV) (h : iH) (Q : Option iV → iH → Prop), G sp sc [14, 49, 89] d mX10_nextOrder (n + 1) 49 L st h Q = (match ld L 3 with | some (.inl x) => G sp sc [14, 49, 89] d mX10_nextOrder n 50 L (.inl x :: st) h Q | _ => False)) ∧
  (∀ (n d : Nat) (L : List (Option iV)) (st : List iV) (h : iH) (Q : Option iV → iH → Prop), G sp sc [14, 49, 89] d mX10_nextOrder (n + 1) 50 L st h Q = (match ld L 2 with | some (.inl x) => G sp sc [14, 49, 89] d mX10_nextOrder n 51 L (.inl x :: st) h Q | _ => False)) ∧
  (∀ (n d : Nat) (L : List (Option iV)) (a : Int) (b : Int) (r : List iV) (h : iH) (Q : Option iV → iH → Prop), G sp sc [14, 49, 89] d mX10_nextOrder (n + 1) 51 L (.inl b :: .inl a :: r) h Q = ((inI a = true ∧ inI b = true) ∧ (a ≤ b → G sp sc [14, 49, 89] d mX10_nextOrder n 75 L r h Q) ∧ (¬ (a ≤ b) → G sp sc [14, 49, 89] d mX10_nextOrder n 54 L r h Q))) ∧
  (∀ (n d : Nat) (L : List (Option iV)) (st : List iV) (h : iH) (Q : Option iV → iH → Prop), G sp sc [14, 49, 89] d mX10_nextOrder (n + 1) 54 L st h Q = (match ld L 0 with | some (.inr (.inr (r + 1))) => G sp sc [14, 49, 89] d mX10_nextOrder n 55 L (.inr (.inr (r + 1)) :: st) h Q | _ => False)) ∧
  (∀ (n d : Nat) (L : List (Option iV)) (r : List iV) (m : Nat) (h : iH) (Q : Option iV → iH → Prop), G sp sc [14, 49, 89] d mX10_nextOrder (n + 1) 55 L (.inr (.inr (m + 2)) :: r) h Q = (match h.1[m]? with | some (.inl (ci, fs)) => (match lkF 10 9 ci with | some k => (match fs[k]? with | some v => G sp sc [14, 49, 89] d mX10_nextOrder n 58 L (v :: r) h Q | none => False) | none => False) | _ => False)) ∧
  (∀ (n d : Nat) (L : List (Option iV)) (st : List iV) (h : iH) (Q : Option iV → iH → Prop), G sp sc [14, 49, 89] d mX10_nextOrder (n + 1) 58 L st h Q = (match ld L 3 with | some (.inl x) => G sp sc [14, 49, 89] d mX10_nextOrder n 59 L (.inl x :: st) h Q | _ => False)) ∧
  (∀ (n d : Nat) (L : List (Option iV)) (r : List iV) (j : Int) (m : Nat) (h : iH) (Q : Option iV → iH → Prop), G sp sc [14, 49, 89] d mX10_nextOrder (n + 1) 59 L (.inl j :: .inr (.inr (m + 2)) :: r) h Q = (match h.1[m]? with | some (.inr (.inl (0, xs))) => inA j xs.length = true ∧ G sp sc [14, 49, 89] d mX10_nextOrder n 60 L (.inl (xs.getD j.toNat 0) :: r) h Q | _ => False)) ∧
  (∀ (n d : Nat) (L : List (Option iV)) (st : List iV) (h : iH) (Q : Option iV → iH → Prop), G sp sc [14, 49, 89] d mX10_nextOrder (n + 1) 60 L st h Q = (match ld L 0 with | some (.inr (.inr (r + 1))) => G sp sc [14, 49, 89] d mX10_nextOrder n 61 L (.inr (.inr (r + 1)) :: st) h Q | _ => False)) ∧
  (∀ (n d : Nat) (L : List (Option iV)) (r : List iV) (m : Nat) (h : iH) (Q : Option iV → iH → Prop), G sp sc [14, 49, 89] d mX10_nextOrder (n + 1) 61 L (.inr (.inr (m + 2)) :: r) h Q = (match h.1[m]? with | some (.inl (ci, fs)) => (match lkF 10 9 ci with | some k => (match fs[k]? with | some v => G sp sc [14, 49, 89] d mX10_nextOrder n 64 L (v :: r) h Q | none => False) | none => False) | _ => False)) ∧
  (∀ (n d : Nat) (L : List (Option iV)) (st : List iV) (h : iH) (Q : Option iV → iH → Prop), G sp sc [14, 49, 89] d mX10_nextOrder (n + 1) 64 L st h Q = (match ld L 2 with | some (.inl x) => G sp sc [14, 49, 89] d mX10_nextOrder n 65 L (.inl x :: st) h Q | _ => False)) ∧
  (∀ (n d : Nat) (L : List (Option iV)) (r : List iV) (j : Int) (m : Nat) (h : iH) (Q : Option iV → iH → Prop), G sp sc [14, 49, 89] d mX10_nextOrder (n + 1) 65 L (.inl j :: .inr (.inr (m + 2)) :: r) h Q = (match h.1[m]? with | some (.inr (.inl (0, xs))) => inA j xs.length = true ∧ G sp sc [14, 49, 89] d mX10_nextOrder n 66 L (.inl (xs.getD j.toNat 0) :: r) h Q | _ => False)) ∧
  (∀ (n d : Nat) (L : List (Option iV)) (a : Int) (b : Int) (r : List iV) (h : iH) (Q : Option iV → iH → Prop), G sp sc [14, 49, 89] d mX10_nextOrder (n + 1) 66 L (.inl b :: .inl a :: r) h Q = ((inI a = true ∧ inI b = true) ∧ (b ≤ a → G sp sc [14, 49, 89] d mX10_nextOrder n 75 L r h Q) ∧ (¬ (b ≤ a) → G sp sc [14, 49, 89] d mX10_nextOrder n 69 L r h Q))) ∧
  (∀ (n d : Nat) (L : List (Option iV)) (st : List iV) (h : iH) (Q : Option iV → iH → Prop), G sp sc [14, 49, 89] d mX10_nextOrder (n + 1) 69 L st h Q = (match ld L 3 with | some (.inl x) => (match st1 L 3 (.inl (x + (-1))) with | some L' => G sp sc [14, 49, 89] d mX10_nextOrder n 72 L' st h Q | none => False) | _ => False)) ∧
  (∀ (n d : Nat) (L : List (Option iV)) (st : List iV) (h : iH) (Q : Option iV → iH → Prop), G sp sc [14, 49, 89] d mX10_nextOrder (n + 1) 72 L st h Q = Run sp sc d mX10_nextOrder 49 L st h Q) ∧
  (∀ (n d : Nat) (L : List (Option iV)) (st : List iV) (h : iH) (Q : Option iV → iH → Prop), G sp sc [14, 49, 89] d mX10_nextOrder (n + 1) 75 L st h Q = (match ld L 0 with | some (.inr (.inr (r + 1))) => G sp sc [14, 49, 89] d mX10_nextOrder n 76 L (.inr (.inr (r + 1)) :: st) h Q | _ => False)) ∧
  (∀ (n d : Nat) (L : List (Option iV)) (st : List iV) (h : iH) (Q : Option iV → iH → Prop), G sp sc [14, 49, 89] d mX10_nextOrder (n + 1) 76 L st h Q = (match ld L 2 with | some (.inl x) => G sp sc [14, 49, 89] d mX10_nextOrder n 77 L (.inl x :: st) h Q | _ => False)) ∧
  (∀ (n d : Nat) (L : List (Option iV)) (st : List iV) (h : iH) (Q : Option iV → iH → Prop), G sp sc [14, 49, 89] d mX10_nextOrder (n + 1) 77 L st h Q = (match ld L 3 with | some (.inl x) => G sp sc [14, 49, 89] d mX10_nextOrder n 78 L (.inl x :: st) h Q | _ => False)) ∧
  (∀ (n d : Nat) (L : List (Option iV)) (r : List iV) (m : Nat) (z0 : iV) (z1 : iV) (h : iH) (Q : Option iV → iH → Prop), G sp sc [14, 49, 89] (d + 1) mX10_nextOrder (n + 1) 78 L (z1 :: z0 :: .inr (.inr (m + 2)) :: r) h Q = (match h.1[m]? with | some (.inl (ci, _)) => (match lkC 10 57 ci with | some (y1, n1, kd) => (n1 = 2 ∧ (kd = 2 ∨ kd = 3 ∨ kd = 8) ∧ cs r ≤ 8) ∧ Call sp sc d y1 [.inr (.inr (m + 2)), z0, z1] h (fun q h1 => GC sp sc [14, 49, 89] (d + 1) mX10_nextOrder n 81 L q r h h1 Q) | none => False) | _ => False)) ∧
  (∀ (n d : Nat) (L : List (Option iV)) (st : List iV) (h : iH) (Q : Option iV → iH → Prop), G sp sc [14, 49, 89] d mX10_nextOrder (n + 1) 81 L st h Q = (match ld L 1 with | some (.inl x) => G sp sc [14, 49, 89] d mX10_nextOrder n 82 L (.inl x :: st) h Q | _ => False)) ∧
  (∀ (n d : Nat) (L : List (Option iV)) (r : List iV) (x : Int) (h : iH) (Q : Option iV → iH → Prop), G sp sc [14, 49, 89] d mX10_nextOrder (n + 1) 82 L (.inl x :: r) h Q = (match st1 L 4 (.inl x) with | some L' => G sp sc [14, 49, 89] d mX10_nextOrder n 84 L' r h Q | none => False)) ∧
  (∀ (n d : Nat) (L : List (Option iV)) (st : List iV) (h : iH) (Q : Option iV → iH → Prop), G sp sc [14, 49, 89] d mX10_nextOrder (n + 1) 84 L st h Q = (match ld L 2 with | some (.inl x) => G sp sc [14, 49, 89] d mX10_nextOrder n 85 L (.inl x :: st) h Q | _ => False)) ∧
  (∀ (n d : Nat) (L : List (Option iV)) (st : List iV) (h : iH) (Q : Option iV → iH → Prop), G sp sc [14, 49, 89] d mX10_nextOrder (n + 1) 85 L st h Q = G sp sc [14, 49, 89] d mX10_nextOrder n 86 L (.inl 1 :: st) h Q) ∧
  (∀ (n d : Nat) (L : List (Option iV)) (a : Int) (b : Int) (r : List iV) (h : iH) (Q : Option iV → iH → Prop), G sp sc [14, 49, 89] d mX10_nextOrder (n + 1) 86 L (.inl b :: .inl a :: r) h Q = G sp sc [14, 49, 89] d mX10_nextOrder n 87 L (.inl (a + b) :: r) h Q) ∧
  (∀ (n d : Nat) (L : List (Option iV)) (r : List iV) (x : Int) (h : iH) (Q : Option iV → iH → Prop), G sp sc [14, 49, 89] d mX10_nextOrder (n + 1) 87 L (.inl x :: r) h Q = (match st1 L 5 (.inl x) with | some L' => Run sp sc d mX10_nextOrder 89 L' r h Q | none => False)) ∧
  (∀ (n d : Nat) (L : List (Option iV)) (st : List iV) (h : iH) (Q : Option iV → iH → Prop), G sp sc [14, 49, 89] d mX10_nextOrder (n + 1) 89 L st h Q = (match ld L 5 with | some (.inl x) => G sp sc [14, 49, 89] d mX10_nextOrder n 91 L (.inl x :: st) h Q | _ => False)) ∧
  (∀ (n d : Nat) (L : List (Option iV)) (st : List iV) (h : iH) (Q : Option iV → iH → Prop), G sp sc [14, 49, 89] d mX10_nextOrder (n + 1) 91 L st h Q = (match ld L 4 with | some (.inl x) => G sp sc [14, 49, 89] d mX10_nextOrder n 93 L (.inl x :: st) h Q | _ => False)) ∧
  (∀ (n d : Nat) (L : List (Option iV)) (a : Int) (b : Int) (r : List iV) (h : iH) (Q : Option iV → iH → Prop), G sp sc [14, 49, 89] d mX10_nextOrder (n + 1) 93 L (.inl b :: .inl a :: r) h Q = ((inI a = true ∧ inI b = true) ∧ (b ≤ a → G sp sc [14, 49, 89] d mX10_nextOrder n 113 L r h Q) ∧ (¬ (b ≤ a) → G sp sc [14, 49, 89] d mX10_nextOrder n 96 L r h Q))) ∧
  (∀ (n d : Nat) (L : List (Option iV)) (st : List iV) (h : iH) (Q : Option iV → iH → Prop), G sp sc [14, 49, 89] d mX10_nextOrder (n + 1) 96 L st h Q = (match ld L 0 with | some (.inr (.inr (r + 1))) => G sp sc [14, 49, 89] d mX10_nextOrder n 97 L (.inr (.inr (r + 1)) :: st) h Q | _ => False)) ∧
  (∀ (n d : Nat) (L : List (Option iV)) (st : List iV) (h : iH) (Q : Option iV → iH → Prop), G sp sc [14, 49, 89] d mX10_nextOrder (n + 1) 97 L st h Q = (match ld L 5 with | some (.inl x) => G sp sc [14, 49, 89] d mX10_nextOrder n 99 L (.inl x :: st) h Q | _ => False)) ∧
  (∀ (n d : Nat) (L : List (Option iV)) (st : List iV) (h : iH) (Q : Option iV → iH → Prop), G sp sc [14, 49, 89] d mX10_nextOrder (n + 1) 99 L st h Q = (match ld L 4 with | some (.inl x) => G sp sc [14, 49, 89] d mX10_nextOrder n 101 L (.inl x :: st) h Q | _ => False)) ∧
  (∀ (n d : Nat) (L : List (Option iV)) (r : List iV) (m : Nat) (z0 : iV) (z1 : iV) (h : iH) (Q : Option iV → iH → Prop), G sp sc [14, 49, 89] (d + 1) mX10_nextOrder (n + 1) 101 L (z1 :: z0 :: .inr (.inr (m + 2)) :: r) h Q = (match h.1[m]? with | some (.inl (ci, _)) => (match lkC 10 57 ci with | some (y1, n1, kd) => (n1 = 2 ∧ (kd = 2 ∨ kd = 3 ∨ kd = 8) ∧ cs r ≤ 8) ∧ Call sp sc d y1 [.inr (.inr (m + 2)), z0, z1] h (fun q h1 => GC sp sc [14, 49, 89] (d + 1) mX10_nextOrder n 104 L q r h h1 Q) | none => False) | _ => False)) ∧
  (∀ (n d : Nat) (L : List (Option iV)) (st : List iV) (h : iH) (Q : Option iV → iH → Prop), G sp sc [14, 49, 89] d mX10_nextOrder (n + 1) 104 L st h Q = (match ld L 4 with | some (.inl x) => (match st1 L 4 (.inl (x + (-1))) with | some L' => G sp sc [14, 49, 89] d mX10_nextOrder n 107 L' st h Q | none => False) | _ => False)) ∧
  (∀ (n d : Nat) (L : List (Option iV)) (st : List iV) (h : iH) (Q : Option iV → iH → Prop), G sp sc [14, 49, 89] d mX10_nextOrder (n + 1) 107 L st h Q = (match ld L 5 with | some (.inl x) => (match st1 L 5 (.inl (x + 1)) with | some L' => G sp sc [14, 49, 89] d mX10_nextOrder n 110 L' st h Q | none => False) | _ => False)) ∧
  (∀ (n d : Nat) (L : List (Option iV)) (st : List iV) (h : iH) (Q : Option iV → iH → Prop), G sp sc [14, 49, 89] d mX10_nextOrder (n + 1) 110 L st h Q = Run sp sc d mX10_nextOrder 89 L st h Q) ∧
  (∀ (n d : Nat) (L : List (Option iV)) (st : List iV) (h : iH) (Q : Option iV → iH → Prop), G sp sc [14, 49, 89] d mX10_nextOrder (n + 1) 113 L st h Q = G sp sc [14, 49, 89] d mX10_nextOrder n 114 L (.inl 1 :: st) h Q) ∧
  (∀ (n d : Nat) (L : List (Option iV)) (a : Int) (h : iH) (Q : Option iV → iH → Prop), G sp sc [14, 49, 89] d mX10_nextOrder (n + 1) 114 L [.inl a] h Q = ((a = 0 ∨ a = 1) ∧ Q (some (.inl a)) h)) ∧
  lkC 10 57 10 = some (mX10_swap, 2, 2) ∧
  lkF 10 25 10 = some 0 ∧
  lkF 10 54 8 = some 5 ∧
  lkF 10 9 10 = some 1 := ⟨by intros; exact G_at (by decide +kernel : fetch mX10_nextOrder 0 = some (.aload_n 0)),
  by intros; exact G_own (by decide +kernel : fetch mX10_nextOrder 1 = some (.getfield 25)) (by decide +kernel),
  by intros; exact G_own (by decide +kernel : fetch mX10_nextOrder 4 = some (.getfield 54)) (by decide +kernel),
  by intros; exact G_at (by decide +kernel : fetch mX10_nextOrder 7 = some (.iconst 1)),
  by intros; exact G_at (by decide +kernel : fetch mX10_nextOrder 8 = some (.isub)),
  by intros; exact G_at (by decide +kernel : fetch mX10_nextOrder 9 = some (.istore_n 1)),
  by intros; exact G_at (by decide +kernel : fetch mX10_nextOrder 10 = some (.iload_n 1)),
  by intros; exact G_at (by decide +kernel : fetch mX10_nextOrder 11 = some (.iconst 1)),
  by intros; exact G_at (by decide +kernel : fetch mX10_nextOrder 12 = some (.isub)),
  by intros; exact G_at (by decide +kernel : fetch mX10_nextOrder 13 = some (.istore_n 2)),
  by intros; exact G_at (by decide +kernel : fetch mX10_nextOrder 14 = some (.iload_n 2)),
  by intros; exact G_at (by decide +kernel : fetch mX10_nextOrder 15 = some (.ifCond .lt 26)),
  by intros; exact G_at (by decide +kernel : fetch mX10_nextOrder 18 = some (.aload_n 0)),
  by intros; exact G_own (by decide +kernel : fetch mX10_nextOrder 19 = some (.getfield 9)) (by decide +kernel),
  by intros; exact G_at (by decide +kernel : fetch mX10_nextOrder 22 = some (.iload_n 2)),
  by intros; exact G_at (by decide +kernel : fetch mX10_nextOrder 23 = some (.iaload)),
  by intros; exact G_at (by decide +kernel : fetch mX10_nextOrder 24 = some (.aload_n 0)),
  by intros; exact G_own (by decide +kernel : fetch mX10_nextOrder 25 = some (.getfield 9)) (by decide +kernel),
  by intros; exact G_at (by decide +kernel : fetch mX10_nextOrder 28 = some (.iload_n 2)),
  by intros; exact G_at (by decide +kernel : fetch mX10_nextOrder 29 = some (.iconst 1)),
  by intros; exact G_at (by decide +kernel : fetch mX10_nextOrder 30 = some (.iadd)),
  by intros; exact G_at (by decide +kernel : fetch mX10_nextOrder 31 = some (.iaload)),
  by intros; exact G_at (by decide +kernel : fetch mX10_nextOrder 32 = some (.if_icmp .le 9)),
  by intros; exact G_at (by decide +kernel : fetch mX10_nextOrder 35 = some (.iinc 2 (-1))),
  by intros; exact G_at (by decide +kernel : fetch mX10_nextOrder 38 = some (.goto (-24))),
  by intros; exact G_at (by decide +kernel : fetch mX10_nextOrder 41 = some (.iload_n 2)),
  by intros; exact G_at (by decide +kernel : fetch mX10_nextOrder 42 = some (.ifCond .ge 5)),
  by intros; exact G_at (by decide +kernel : fetch mX10_nextOrder 45 = some (.iconst 0)),
  by intros; exact G_retz (by decide +kernel : fetch mX10_nextOrder 46 = some (.ireturn)) (by decide +kernel),
  by intros; exact G_at (by decide +kernel : fetch mX10_nextOrder 47 = some (.iload_n 1)),
  by intros; exact G_at (by decide +kernel : fetch mX10_nextOrder 48 = some (.istore_n 3)),
  by intros; exact G_at (by decide +kernel : fetch mX10_nextOrder 49 = some (.iload_n 3)),
  by intros; exact G_at (by decide +kernel : fetch mX10_nextOrder 50 = some (.iload_n 2)),
  by intros; exact G_at (by decide +kernel : fetch mX10_nextOrder 51 = some (.if_icmp .le 24)),
  by intros; exact G_at (by decide +kernel : fetch mX10_nextOrder 54 = some (.aload_n 0)),
  by intros; exact G_own (by decide +kernel : fetch mX10_nextOrder 55 = some (.getfield 9)) (by decide +kernel),
  by intros; exact G_at (by decide +kernel : fetch mX10_nextOrder 58 = some (.iload_n 3)),
  by intros; exact G_at (by decide +kernel : fetch mX10_nextOrder 59 = some (.iaload)),
  by intros; exact G_at (by decide +kernel : fetch mX10_nextOrder 60 = some (.aload_n 0)),
  by intros; exact G_own (by decide +kernel : fetch mX10_nextOrder 61 = some (.getfield 9)) (by decide +kernel),
  by intros; exact G_at (by decide +kernel : fetch mX10_nextOrder 64 = some (.iload_n 2)),
  by intros; exact G_at (by decide +kernel : fetch mX10_nextOrder 65 = some (.iaload)),
  by intros; exact G_at (by decide +kernel : fetch mX10_nextOrder 66 = some (.if_icmp .ge 9)),
  by intros; exact G_at (by decide +kernel : fetch mX10_nextOrder 69 = some (.iinc 3 (-1))),
  by intros; exact G_at (by decide +kernel : fetch mX10_nextOrder 72 = some (.goto (-23))),
  by intros; exact G_at (by decide +kernel : fetch mX10_nextOrder 75 = some (.aload_n 0)),
  by intros; exact G_at (by decide +kernel : fetch mX10_nextOrder 76 = some (.iload_n 2)),
  by intros; exact G_at (by decide +kernel : fetch mX10_nextOrder 77 = some (.iload_n 3)),
  by intros; exact G_callV (by decide +kernel : fetch mX10_nextOrder 78 = some (.invokevirtual 57)) (by decide +kernel) (by decide +kernel) rfl,
  by intros; exact G_at (by decide +kernel : fetch mX10_nextOrder 81 = some (.iload_n 1)),
  by intros; exact G_at (by decide +kernel : fetch mX10_nextOrder 82 = some (.istore 4)),
  by intros; exact G_at (by decide +kernel : fetch mX10_nextOrder 84 = some (.iload_n 2)),
  by intros; exact G_at (by decide +kernel : fetch mX10_nextOrder 85 = some (.iconst 1)),
  by intros; exact G_at (by decide +kernel : fetch mX10_nextOrder 86 = some (.iadd)),
  by intros; exact G_at (by decide +kernel : fetch mX10_nextOrder 87 = some (.istore 5)),
  by intros; exact G_at (by decide +kernel : fetch mX10_nextOrder 89 = some (.iload 5)),
  by intros; exact G_at (by decide +kernel : fetch mX10_nextOrder 91 = some (.iload 4)),
  by intros; exact G_at (by decide +kernel : fetch mX10_nextOrder 93 = some (.if_icmp .ge 20)),
  by intros; exact G_at (by decide +kernel : fetch mX10_nextOrder 96 = some (.aload_n 0)),
  by intros; exact G_at (by decide +kernel : fetch mX10_nextOrder 97 = some (.iload 5)),
  by intros; exact G_at (by decide +kernel : fetch mX10_nextOrder 99 = some (.iload 4)),
  by intros; exact G_callV (by decide +kernel : fetch mX10_nextOrder 101 = some (.invokevirtual 57)) (by decide +kernel) (by decide +kernel) rfl,
  by intros; exact G_at (by decide +kernel : fetch mX10_nextOrder 104 = some (.iinc 4 (-1))),
  by intros; exact G_at (by decide +kernel : fetch mX10_nextOrder 107 = some (.iinc 5 1)),
  by intros; exact G_at (by decide +kernel : fetch mX10_nextOrder 110 = some (.goto (-21))),
  by intros; exact G_at (by decide +kernel : fetch mX10_nextOrder 113 = some (.iconst 1)),
  by intros; exact G_retz (by decide +kernel : fetch mX10_nextOrder 114 = some (.ireturn)) (by decide +kernel),
  by decide +kernel,
  by decide +kernel,
  by decide +kernel,
  by decide +kernel⟩
theorem gX10_swap : (∀ (n d : Nat) (L : List (Option iV)) (st : List iV) (h : iH) (Q : Option iV → iH → Prop), G sp sc [] d mX10_swap (n + 1) 0 L st h Q = (match ld L 0 with | some (.inr (.inr (r + 1))) => G sp sc [] d mX10_swap n 1 L (.inr (.inr (r + 1)) :: st) h Q | _ => False)) ∧
  (∀ (n d : Nat) (L : List (Option iV)) (r : List iV) (m : Nat) (h : iH) (Q : Option iV → iH → Prop), G sp sc [] d mX10_swap (n + 1) 1 L (.inr (.inr (m + 2)) :: r) h Q = (match h.1[m]? with | some (.inl (ci, fs)) => (match lkF 10 9 ci with | some k => (match fs[k]? with | some v => G sp sc [] d mX10_swap n 4 L (v :: r) h Q | none => False) | none => False) | _ => False)) ∧
  (∀ (n d : Nat) (L : List (Option iV)) (st : List iV) (h : iH) (Q : Option iV → iH → Prop), G sp sc [] d mX10_swap (n + 1) 4 L st h Q = (match ld L 1 with | some (.inl x) => G sp sc [] d mX10_swap n 5 L (.inl x :: st) h Q | _ => False)) ∧
  (∀ (n d : Nat) (L : List (Option iV)) (r : List iV) (j : Int) (m : Nat) (h : iH) (Q : Option iV → iH → Prop), G sp sc [] d mX10_swap (n + 1) 5 L (.inl j :: .inr (.inr (m + 2)) :: r) h Q = (match h.1[m]? with | some (.inr (.inl (0, xs))) => inA j xs.length = true ∧ G sp sc [] d mX10_swap n 6 L (.inl (xs.getD j.toNat 0) :: r) h Q | _ => False)) ∧
  (∀ (n d : Nat) (L : List (Option iV)) (r : List iV) (x : Int) (h : iH) (Q : Option iV → iH → Prop), G sp sc [] d mX10_swap (n + 1) 6 L (.inl x :: r) h Q = (match st1 L 3 (.inl x) with | some L' => G sp sc [] d mX10_swap n 7 L' r h Q | none => False)) ∧
  (∀ (n d : Nat) (L : List (Option iV)) (st : List iV) (h : iH) (Q : Option iV → iH → Prop), G sp sc [] d mX10_swap (n + 1) 7 L st h Q = (match ld L 0 with | some (.inr (.inr (r + 1))) => G sp sc [] d mX10_swap n 8 L (.inr (.inr (r + 1)) :: st) h Q | _ => False)) ∧
  (∀ (n d : Nat) (L : List (Option iV)) (r : List iV) (m : Nat) (h : iH) (Q : Option iV → iH → Prop), G sp sc [] d mX10_swap (n + 1) 8 L (.inr (.inr (m + 2)) :: r) h Q = (match h.1[m]? with | some (.inl (ci, fs)) => (match lkF 10 9 ci with | some k => (match fs[k]? with | some v => G sp sc [] d mX10_swap n 11 L (v :: r) h Q | none => False) | none => False) | _ => False)) ∧
  (∀ (n d : Nat) (L : List (Option iV)) (st : List iV) (h : iH) (Q : Option iV → iH → Prop), G sp sc [] d mX10_swap (n + 1) 11 L st h Q = (match ld L 1 with | some (.inl x) => G sp sc [] d mX10_swap n 12 L (.inl x :: st) h Q | _ => False)) ∧
  (∀ (n d : Nat) (L : List (Option iV)) (st : List iV) (h : iH) (Q : Option iV → iH → Prop), G sp sc [] d mX10_swap (n + 1) 12 L st h Q = (match ld L 0 with | some (.inr (.inr (r + 1))) => G sp sc [] d mX10_swap n 13 L (.inr (.inr (r + 1)) :: st) h Q | _ => False)) ∧
  (∀ (n d : Nat) (L : List (Option iV)) (r : List iV) (m : Nat) (h : iH) (Q : Option iV → iH → Prop), G sp sc [] d mX10_swap (n + 1) 13 L (.inr (.inr (m + 2)) :: r) h Q = (match h.1[m]? with | some (.inl (ci, fs)) => (match lkF 10 9 ci with | some k => (match fs[k]? with | some v => G sp sc [] d mX10_swap n 16 L (v :: r) h Q | none => False) | none => False) | _ => False)) ∧
  (∀ (n d : Nat) (L : List (Option iV)) (st : List iV) (h : iH) (Q : Option iV → iH → Prop), G sp sc [] d mX10_swap (n + 1) 16 L st h Q = (match ld L 2 with | some (.inl x) => G sp sc [] d mX10_swap n 17 L (.inl x :: st) h Q | _ => False)) ∧
  (∀ (n d : Nat) (L : List (Option iV)) (r : List iV) (j : Int) (m : Nat) (h : iH) (Q : Option iV → iH → Prop), G sp sc [] d mX10_swap (n + 1) 17 L (.inl j :: .inr (.inr (m + 2)) :: r) h Q = (match h.1[m]? with | some (.inr (.inl (0, xs))) => inA j xs.length = true ∧ G sp sc [] d mX10_swap n 18 L (.inl (xs.getD j.toNat 0) :: r) h Q | _ => False)) ∧
  (∀ (n d : Nat) (L : List (Option iV)) (r : List iV) (v : Int) (j : Int) (m : Nat) (h : iH) (Q : Option iV → iH → Prop), G sp sc [] d mX10_swap (n + 1) 18 L (.inl v :: .inl j :: .inr (.inr (m + 2)) :: r) h Q = (match h.1[m]? with | some (.inr (.inl (0, xs))) => inA j xs.length = true ∧ G sp sc [] d mX10_swap n 19 L r (h.1.set m (.inr (.inl (0, xs.set j.toNat v))), h.2) Q | _ => False)) ∧
  (∀ (n d : Nat) (L : List (Option iV)) (st : List iV) (h : iH) (Q : Option iV → iH → Prop), G sp sc [] d mX10_swap (n + 1) 19 L st h Q = (match ld L 0 with | some (.inr (.inr (r + 1))) => G sp sc [] d mX10_swap n 20 L (.inr (.inr (r + 1)) :: st) h Q | _ => False)) ∧
  (∀ (n d : Nat) (L : List (Option iV)) (r : List iV) (m : Nat) (h : iH) (Q : Option iV → iH → Prop), G sp sc [] d mX10_swap (n + 1) 20 L (.inr (.inr (m + 2)) :: r) h Q = (match h.1[m]? with | some (.inl (ci, fs)) => (match lkF 10 9 ci with | some k => (match fs[k]? with | some v => G sp sc [] d mX10_swap n 23 L (v :: r) h Q | none => False) | none => False) | _ => False)) ∧
  (∀ (n d : Nat) (L : List (Option iV)) (st : List iV) (h : iH) (Q : Option iV → iH → Prop), G sp sc [] d mX10_swap (n + 1) 23 L st h Q = (match ld L 2 with | some (.inl x) => G sp sc [] d mX10_swap n 24 L (.inl x :: st) h Q | _ => False)) ∧
  (∀ (n d : Nat) (L : List (Option iV)) (st : List iV) (h : iH) (Q : Option iV → iH → Prop), G sp sc [] d mX10_swap (n + 1) 24 L st h Q = (match ld L 3 with | some (.inl x) => G sp sc [] d mX10_swap n 25 L (.inl x :: st) h Q | _ => False)) ∧
  (∀ (n d : Nat) (L : List (Option iV)) (r : List iV) (v : Int) (j : Int) (m : Nat) (h : iH) (Q : Option iV → iH → Prop), G sp sc [] d mX10_swap (n + 1) 25 L (.inl v :: .inl j :: .inr (.inr (m + 2)) :: r) h Q = (match h.1[m]? with | some (.inr (.inl (0, xs))) => inA j xs.length = true ∧ G sp sc [] d mX10_swap n 26 L r (h.1.set m (.inr (.inl (0, xs.set j.toNat v))), h.2) Q | _ => False)) ∧
  (∀ (n d : Nat) (L : List (Option iV))  (h : iH) (Q : Option iV → iH → Prop), G sp sc [] d mX10_swap (n + 1) 26 L [] h Q = Q none h) ∧
  lkF 10 9 10 = some 1 := ⟨by intros; exact G_at (by decide +kernel : fetch mX10_swap 0 = some (.aload_n 0)),
  by intros; exact G_own (by decide +kernel : fetch mX10_swap 1 = some (.getfield 9)) (by decide +kernel),
  by intros; exact G_at (by decide +kernel : fetch mX10_swap 4 = some (.iload_n 1)),
  by intros; exact G_at (by decide +kernel : fetch mX10_swap 5 = some (.iaload)),
  by intros; exact G_at (by decide +kernel : fetch mX10_swap 6 = some (.istore_n 3)),
  by intros; exact G_at (by decide +kernel : fetch mX10_swap 7 = some (.aload_n 0)),
  by intros; exact G_own (by decide +kernel : fetch mX10_swap 8 = some (.getfield 9)) (by decide +kernel),
  by intros; exact G_at (by decide +kernel : fetch mX10_swap 11 = some (.iload_n 1)),
  by intros; exact G_at (by decide +kernel : fetch mX10_swap 12 = some (.aload_n 0)),
  by intros; exact G_own (by decide +kernel : fetch mX10_swap 13 = some (.getfield 9)) (by decide +kernel),
  by intros; exact G_at (by decide +kernel : fetch mX10_swap 16 = some (.iload_n 2)),
  by intros; exact G_at (by decide +kernel : fetch mX10_swap 17 = some (.iaload)),
  by intros; exact G_at (by decide +kernel : fetch mX10_swap 18 = some (.iastore)),
  by intros; exact G_at (by decide +kernel : fetch mX10_swap 19 = some (.aload_n 0)),
  by intros; exact G_own (by decide +kernel : fetch mX10_swap 20 = some (.getfield 9)) (by decide +kernel),
  by intros; exact G_at (by decide +kernel : fetch mX10_swap 23 = some (.iload_n 2)),
  by intros; exact G_at (by decide +kernel : fetch mX10_swap 24 = some (.iload_n 3)),
  by intros; exact G_at (by decide +kernel : fetch mX10_swap 25 = some (.iastore)),
  by intros; exact G_retv (by decide +kernel : fetch mX10_swap 26 = some (.return_)) (by decide +kernel),
  by decide +kernel⟩
theorem gX10_pass : (∀ (n d : Nat) (L : List (Option iV)) (st : List iV) (h : iH) (Q : Option iV → iH → Prop), G sp sc [2, 9, 59] d mX10_pass (n + 1) 0 L st h Q = G sp sc [2, 9, 59] d mX10_pass n 1 L (.inl 0 :: st) h Q) ∧
  (∀ (n d : Nat) (L : List (Option iV)) (r : List iV) (x : Int) (h : iH) (Q : Option iV → iH → Prop), G sp sc [2, 9, 59] d mX10_pass (n + 1) 1 L (.inl x :: r) h Q = (match st1 L 2 (.inl x) with | some L' => Run sp sc d mX10_pass 2 L' r h Q | none => False)) ∧
  (∀ (n d : Nat) (L : List (Option iV)) (st : List iV) (h : iH) (Q : Option iV → iH → Prop), G sp sc [2, 9, 59] d mX10_pass (n + 1) 2 L st h Q = (match ld L 2 with | some (.inl x) => G sp sc [2, 9, 59] d mX10_pass n 3 L (.inl x :: st) h Q | _ => False)) ∧
  (∀ (n d : Nat) (L : List (Option iV)) (st : List iV) (h : iH) (Q : Option iV → iH → Prop), G sp sc [2, 9, 59] d mX10_pass (n + 1) 3 L st h Q = (match ld L 1 with | some (.inl x) => G sp sc [2, 9, 59] d mX10_pass n 4 L (.inl x :: st) h Q | _ => False)) ∧
  (∀ (n d : Nat) (L : List (Option iV)) (a : Int) (b : Int) (r : List iV) (h : iH) (Q : Option iV → iH → Prop), G sp sc [2, 9, 59] d mX10_pass (n + 1) 4 L (.inl b :: .inl a :: r) h Q = ((inI a = true ∧ inI b = true) ∧ (b ≤ a → G sp sc [2, 9, 59] d mX10_pass n 130 L r h Q) ∧ (¬ (b ≤ a) → G sp sc [2, 9, 59] d mX10_pass n 7 L r h Q))) ∧
  (∀ (n d : Nat) (L : List (Option iV)) (st : List iV) (h : iH) (Q : Option iV → iH → Prop), G sp sc [2, 9, 59] d mX10_pass (n + 1) 7 L st h Q = G sp sc [2, 9, 59] d mX10_pass n 8 L (.inl 0 :: st) h Q) ∧
  (∀ (n d : Nat) (L : List (Option iV)) (r : List iV) (x : Int) (h : iH) (Q : Option iV → iH → Prop), G sp sc [2, 9, 59] d mX10_pass (n + 1) 8 L (.inl x :: r) h Q = (match st1 L 3 (.inl x) with | some L' => Run sp sc d mX10_pass 9 L' r h Q | none => False)) ∧
  (∀ (n d : Nat) (L : List (Option iV)) (st : List iV) (h : iH) (Q : Option iV → iH → Prop), G sp sc [2, 9, 59] d mX10_pass (n + 1) 9 L st h Q = (match ld L 3 with | some (.inl x) => G sp sc [2, 9, 59] d mX10_pass n 10 L (.inl x :: st) h Q | _ => False)) ∧
  (∀ (n d : Nat) (L : List (Option iV)) (st : List iV) (h : iH) (Q : Option iV → iH → Prop), G sp sc [2, 9, 59] d mX10_pass (n + 1) 10 L st h Q = (match ld L 0 with | some (.inr (.inr (r + 1))) => G sp sc [2, 9, 59] d mX10_pass n 11 L (.inr (.inr (r + 1)) :: st) h Q | _ => False)) ∧
  (∀ (n d : Nat) (L : List (Option iV)) (r : List iV) (m : Nat) (h : iH) (Q : Option iV → iH → Prop), G sp sc [2, 9, 59] d mX10_pass (n + 1) 11 L (.inr (.inr (m + 2)) :: r) h Q = (match h.1[m]? with | some (.inl (ci, fs)) => (match lkF 10 15 ci with | some k => (match fs[k]? with | some v => G sp sc [2, 9, 59] d mX10_pass n 14 L (v :: r) h Q | none => False) | none => False) | _ => False)) ∧
  (∀ (n d : Nat) (L : List (Option iV)) (r : List iV) (m : Nat) (h : iH) (Q : Option iV → iH → Prop), G sp sc [2, 9, 59] d mX10_pass (n + 1) 14 L (.inr (.inr (m + 2)) :: r) h Q = (match h.1[m]? with | some (.inr (.inl (t, xs))) => t < 6 ∧ G sp sc [2, 9, 59] d mX10_pass n 15 L (.inl (xs.length : Int) :: r) h Q | some (.inr (.inr (t, rs))) => t < 6 ∧ G sp sc [2, 9, 59] d mX10_pass n 15 L (.inl (rs.length : Int) :: r) h Q | _ => False)) ∧
  (∀ (n d : Nat) (L : List (Option iV)) (a : Int) (b : Int) (r : List iV) (h : iH) (Q : Option iV → iH → Prop), G sp sc [2, 9, 59] d mX10_pass (n + 1) 15 L (.inl b :: .inl a :: r) h Q = ((inI a = true ∧ inI b = true) ∧ (b ≤ a → G sp sc [2, 9, 59] d mX10_pass n 31 L r h Q) ∧ (¬ (b ≤ a) → G sp sc [2, 9, 59] d mX10_pass n 18 L r h Q))) ∧
  (∀ (n d : Nat) (L : List (Option iV)) (st : List iV) (h : iH) (Q : Option iV → iH → Prop), G sp sc [2, 9, 59] d mX10_pass (n + 1) 18 L st h Q = (match ld L 0 with | some (.inr (.inr (r + 1))) => G sp sc [2, 9, 59] d mX10_pass n 19 L (.inr (.inr (r + 1)) :: st) h Q | _ => False)) ∧
  (∀ (n d : Nat) (L : List (Option iV)) (r : List iV) (m : Nat) (h : iH) (Q : Option iV → iH → Prop), G sp sc [2, 9, 59] d mX10_pass (n + 1) 19 L (.inr (.inr (m + 2)) :: r) h Q = (match h.1[m]? with | some (.inl (ci, fs)) => (match lkF 10 15 ci with | some k => (match fs[k]? with | some v => G sp sc [2, 9, 59] d mX10_pass n 22 L (v :: r) h Q | none => False) | none => False) | _ => False)) ∧
  (∀ (n d : Nat) (L : List (Option iV)) (st : List iV) (h : iH) (Q : Option iV → iH → Prop), G sp sc [2, 9, 59] d mX10_pass (n + 1) 22 L st h Q = (match ld L 3 with | some (.inl x) => G sp sc [2, 9, 59] d mX10_pass n 23 L (.inl x :: st) h Q | _ => False)) ∧
  (∀ (n d : Nat) (L : List (Option iV)) (st : List iV) (h : iH) (Q : Option iV → iH → Prop), G sp sc [2, 9, 59] d mX10_pass (n + 1) 23 L st h Q = G sp sc [2, 9, 59] d mX10_pass n 24 L (.inl 0 :: st) h Q) ∧
  (∀ (n d : Nat) (L : List (Option iV)) (r : List iV) (v : Int) (j : Int) (m : Nat) (h : iH) (Q : Option iV → iH → Prop), G sp sc [2, 9, 59] d mX10_pass (n + 1) 24 L (.inl v :: .inl j :: .inr (.inr (m + 2)) :: r) h Q = (match h.1[m]? with | some (.inr (.inl (2, xs))) => (inA j xs.length = true ∧ (v = 0 ∨ v = 1)) ∧ G sp sc [2, 9, 59] d mX10_pass n 25 L r (h.1.set m (.inr (.inl (2, xs.set j.toNat v))), h.2) Q | _ => False)) ∧
  (∀ (n d : Nat) (L : List (Option iV)) (st : List iV) (h : iH) (Q : Option iV → iH → Prop), G sp sc [2, 9, 59] d mX10_pass (n + 1) 25 L st h Q = (match ld L 3 with | some (.inl x) => (match st1 L 3 (.inl (x + 1)) with | some L' => G sp sc [2, 9, 59] d mX10_pass n 28 L' st h Q | none => False) | _ => False)) ∧
  (∀ (n d : Nat) (L : List (Option iV)) (st : List iV) (h : iH) (Q : Option iV → iH → Prop), G sp sc [2, 9, 59] d mX10_pass (n + 1) 28 L st h Q = Run sp sc d mX10_pass 9 L st h Q) ∧
  (∀ (n d : Nat) (L : List (Option iV)) (st : List iV) (h : iH) (Q : Option iV → iH → Prop), G sp sc [2, 9, 59] d mX10_pass (n + 1) 31 L st h Q = (match ld L 0 with | some (.inr (.inr (r + 1))) => G sp sc [2, 9, 59] d mX10_pass n 32 L (.inr (.inr (r + 1)) :: st) h Q | _ => False)) ∧
  (∀ (n d : Nat) (L : List (Option iV)) (a : Int) (r : List iV) (h : iH) (Q : Option iV → iH → Prop), G sp sc [2, 9, 59] d mX10_pass (n + 1) 32 L (.inl a :: r) h Q = G sp sc [2, 9, 59] d mX10_pass n 33 L (.inl a :: .inl a :: r) h Q) ∧
  (∀ (n d : Nat) (L : List (Option iV)) (a : Nat) (r : List iV) (h : iH) (Q : Option iV → iH → Prop), G sp sc [2, 9, 59] d mX10_pass (n + 1) 32 L (.inr (.inr a) :: r) h Q = G sp sc [2, 9, 59] d mX10_pass n 33 L (.inr (.inr a) :: .inr (.inr a) :: r) h Q) ∧
  (∀ (n d : Nat) (L : List (Option iV)) (r : List iV) (m : Nat) (h : iH) (Q : Option iV → iH → Prop), G sp sc [2, 9, 59] d mX10_pass (n + 1) 33 L (.inr (.inr (m + 2)) :: r) h Q = (match h.1[m]? with | some (.inl (ci, fs)) => (match lkF 10 41 ci with | some k => (match fs[k]? with | some v => G sp sc [2, 9, 59] d mX10_pass n 36 L (v :: r) h Q | none => False) | none => False) | _ => False)) ∧
  (∀ (n d : Nat) (L : List (Option iV)) (st : List iV) (h : iH) (Q : Option iV → iH → Prop), G sp sc [2, 9, 59] d mX10_pass (n + 1) 36 L st h Q = G sp sc [2, 9, 59] d mX10_pass n 37 L (.inl 1 :: st) h Q) ∧
  (∀ (n d : Nat) (L : List (Option iV)) (a : Int) (b : Int) (r : List iV) (h : iH) (Q : Option iV → iH → Prop), G sp sc [2, 9, 59] d mX10_pass (n + 1) 37 L (.inl b :: .inl a :: r) h Q = G sp sc [2, 9, 59] d mX10_pass n 38 L (.inl (a + b) :: r) h Q) ∧
  (∀ (n d : Nat) (L : List (Option iV)) (r : List iV) (v : iV) (m : Nat) (h : iH) (Q : Option iV → iH → Prop), G sp sc [2, 9, 59] d mX10_pass (n + 1) 38 L (v :: .inr (.inr (m + 2)) :: r) h Q = (match h.1[m]? with | some (.inl (ci, fs)) => (match lkF 10 41 ci with | some k => (fitV (tyT ci k) v = true ∧ k < fs.length ∧ pOK 10 false ci k = true) ∧ G sp sc [2, 9, 59] d mX10_pass n 41 L r (h.1.set m (.inl (ci, fs.set k v)), h.2) Q | none => False) | _ => False)) ∧
  (∀ (n d : Nat) (L : List (Option iV)) (st : List iV) (h : iH) (Q : Option iV → iH → Prop), G sp sc [2, 9, 59] d mX10_pass (n + 1) 41 L st h Q = (match ld L 0 with | some (.inr (.inr (r + 1))) => G sp sc [2, 9, 59] d mX10_pass n 42 L (.inr (.inr (r + 1)) :: st) h Q | _ => False)) ∧
  (∀ (n d : Nat) (L : List (Option iV)) (r : List iV) (m : Nat) (h : iH) (Q : Option iV → iH → Prop), G sp sc [2, 9, 59] d mX10_pass (n + 1) 42 L (.inr (.inr (m + 2)) :: r) h Q = (match h.1[m]? with | some (.inl (ci, fs)) => (match lkF 10 25 ci with | some k => (match fs[k]? with | some v => G sp sc [2, 9, 59] d mX10_pass n 45 L (v :: r) h Q | none => False) | none => False) | _ => False)) ∧
  (∀ (n d : Nat) (L : List (Option iV)) (a : Int) (r : List iV) (h : iH) (Q : Option iV → iH → Prop), G sp sc [2, 9, 59] d mX10_pass (n + 1) 45 L (.inl a :: r) h Q = G sp sc [2, 9, 59] d mX10_pass n 46 L (.inl a :: .inl a :: r) h Q) ∧
  (∀ (n d : Nat) (L : List (Option iV)) (a : Nat) (r : List iV) (h : iH) (Q : Option iV → iH → Prop), G sp sc [2, 9, 59] d mX10_pass (n + 1) 45 L (.inr (.inr a) :: r) h Q = G sp sc [2, 9, 59] d mX10_pass n 46 L (.inr (.inr a) :: .inr (.inr a) :: r) h Q) ∧
  (∀ (n d : Nat) (L : List (Option iV)) (r : List iV) (m : Nat) (h : iH) (Q : Option iV → iH → Prop), G sp sc [2, 9, 59] d mX10_pass (n + 1) 46 L (.inr (.inr (m + 2)) :: r) h Q = (match h.1[m]? with | some (.inl (ci, fs)) => (match lkF 10 61 ci with | some k => (match fs[k]? with | some v => G sp sc [2, 9, 59] d mX10_pass n 49 L (v :: r) h Q | none => False) | none => False) | _ => False)) ∧
  (∀ (n d : Nat) (L : List (Option iV)) (st : List iV) (h : iH) (Q : Option iV → iH → Prop), G sp sc [2, 9, 59] d mX10_pass (n + 1) 49 L st h Q = G sp sc [2, 9, 59] d mX10_pass n 50 L (.inl 1 :: st) h Q) ∧
  (∀ (n d : Nat) (L : List (Option iV)) (a : Int) (b : Int) (r : List iV) (h : iH) (Q : Option iV → iH → Prop), G sp sc [2, 9, 59] d mX10_pass (n + 1) 50 L (.inl b :: .inl a :: r) h Q = G sp sc [2, 9, 59] d mX10_pass n 51 L (.inl (a + b) :: r) h Q) ∧
  (∀ (n d : Nat) (L : List (Option iV)) (r : List iV) (v : iV) (m : Nat) (h : iH) (Q : Option iV → iH → Prop), G sp sc [2, 9, 59] d mX10_pass (n + 1) 51 L (v :: .inr (.inr (m + 2)) :: r) h Q = (match h.1[m]? with | some (.inl (ci, fs)) => (match lkF 10 61 ci with | some k => (fitV (tyT ci k) v = true ∧ k < fs.length ∧ pOK 10 false ci k = true) ∧ G sp sc [2, 9, 59] d mX10_pass n 54 L r (h.1.set m (.inl (ci, fs.set k v)), h.2) Q | none => False) | _ => False)) ∧
  (∀ (n d : Nat) (L : List (Option iV)) (st : List iV) (h : iH) (Q : Option iV → iH → Prop), G sp sc [2, 9, 59] d mX10_pass (n + 1) 54 L st h Q = G sp sc [2, 9, 59] d mX10_pass n 55 L (.inl 0 :: st) h Q) ∧
  (∀ (n d : Nat) (L : List (Option iV)) (r : List iV) (x : Int) (h : iH) (Q : Option iV → iH → Prop), G sp sc [2, 9, 59] d mX10_pass (n + 1) 55 L (.inl x :: r) h Q = (match st1 L 3 (.inl x) with | some L' => G sp sc [2, 9, 59] d mX10_pass n 56 L' r h Q | none => False)) ∧
  (∀ (n d : Nat) (L : List (Option iV)) (st : List iV) (h : iH) (Q : Option iV → iH → Prop), G sp sc [2, 9, 59] d mX10_pass (n + 1) 56 L st h Q = G sp sc [2, 9, 59] d mX10_pass n 57 L (.inl 0 :: st) h Q) ∧
  (∀ (n d : Nat) (L : List (Option iV)) (r : List iV) (x : Int) (h : iH) (Q : Option iV → iH → Prop), G sp sc [2, 9, 59] d mX10_pass (n + 1) 57 L (.inl x :: r) h Q = (match st1 L 4 (.inl x) with | some L' => Run sp sc d mX10_pass 59 L' r h Q | none => False)) ∧
  (∀ (n d : Nat) (L : List (Option iV)) (st : List iV) (h : iH) (Q : Option iV → iH → Prop), G sp sc [2, 9, 59] d mX10_pass (n + 1) 59 L st h Q = (match ld L 4 with | some (.inl x) => G sp sc [2, 9, 59] d mX10_pass n 61 L (.inl x :: st) h Q | _ => False)) ∧
  (∀ (n d : Nat) (L : List (Option iV)) (st : List iV) (h : iH) (Q : Option iV → iH → Prop), G sp sc [2, 9, 59] d mX10_pass (n + 1) 61 L st h Q = (match ld L 0 with | some (.inr (.inr (r + 1))) => G sp sc [2, 9, 59] d mX10_pass n 62 L (.inr (.inr (r + 1)) :: st) h Q | _ => False)) ∧
  (∀ (n d : Nat) (L : List (Option iV)) (r : List iV) (m : Nat) (h : iH) (Q : Option iV → iH → Prop), G sp sc [2, 9, 59] d mX10_pass (n + 1) 62 L (.inr (.inr (m + 2)) :: r) h Q = (match h.1[m]? with | some (.inl (ci, fs)) => (match lkF 10 25 ci with | some k => (match fs[k]? with | some v => G sp sc [2, 9, 59] d mX10_pass n 65 L (v :: r) h Q | none => False) | none => False) | _ => False)) ∧
  (∀ (n d : Nat) (L : List (Option iV)) (r : List iV) (m : Nat) (h : iH) (Q : Option iV → iH → Prop), G sp sc [2, 9, 59] d mX10_pass (n + 1) 65 L (.inr (.inr (m + 2)) :: r) h Q = (match h.1[m]? with | some (.inl (ci, fs)) => (match lkF 10 54 ci with | some k => (match fs[k]? with | some v => G sp sc [2, 9, 59] d mX10_pass n 68 L (v :: r) h Q | none => False) | none => False) | _ => False)) ∧
  (∀ (n d : Nat) (L : List (Option iV)) (a : Int) (b : Int) (r : List iV) (h : iH) (Q : Option iV → iH → Prop), G sp sc [2, 9, 59] d mX10_pass (n + 1) 68 L (.inl b :: .inl a :: r) h Q = ((inI a = true ∧ inI b = true) ∧ (b ≤ a → G sp sc [2, 9, 59] d mX10_pass n 110 L r h Q) ∧ (¬ (b ≤ a) → G sp sc [2, 9, 59] d mX10_pass n 71 L r h Q))) ∧
  (∀ (n d : Nat) (L : List (Option iV)) (st : List iV) (h : iH) (Q : Option iV → iH → Prop), G sp sc [2, 9, 59] d mX10_pass (n + 1) 71 L st h Q = (match ld L 0 with | some (.inr (.inr (r + 1))) => G sp sc [2, 9, 59] d mX10_pass n 72 L (.inr (.inr (r + 1)) :: st) h Q | _ => False)) ∧
  (∀ (n d : Nat) (L : List (Option iV)) (r : List iV) (m : Nat) (h : iH) (Q : Option iV → iH → Prop), G sp sc [2, 9, 59] d mX10_pass (n + 1) 72 L (.inr (.inr (m + 2)) :: r) h Q = (match h.1[m]? with | some (.inl (ci, fs)) => (match lkF 10 25 ci with | some k => (match fs[k]? with | some v => G sp sc [2, 9, 59] d mX10_pass n 75 L (v :: r) h Q | none => False) | none => False) | _ => False)) ∧
  (∀ (n d : Nat) (L : List (Option iV)) (st : List iV) (h : iH) (Q : Option iV → iH → Prop), G sp sc [2, 9, 59] d mX10_pass (n + 1) 75 L st h Q = (match ld L 0 with | some (.inr (.inr (r + 1))) => G sp sc [2, 9, 59] d mX10_pass n 76 L (.inr (.inr (r + 1)) :: st) h Q | _ => False)) ∧
  (∀ (n d : Nat) (L : List (Option iV)) (r : List iV) (m : Nat) (h : iH) (Q : Option iV → iH → Prop), G sp sc [2, 9, 59] d mX10_pass (n + 1) 76 L (.inr (.inr (m + 2)) :: r) h Q = (match h.1[m]? with | some (.inl (ci, fs)) => (match lkF 10 9 ci with | some k => (match fs[k]? with | some v => G sp sc [2, 9, 59] d mX10_pass n 79 L (v :: r) h Q | none => False) | none => False) | _ => False)) ∧
  (∀ (n d : Nat) (L : List (Option iV)) (st : List iV) (h : iH) (Q : Option iV → iH → Prop), G sp sc [2, 9, 59] d mX10_pass (n + 1) 79 L st h Q = (match ld L 4 with | some (.inl x) => G sp sc [2, 9, 59] d mX10_pass n 81 L (.inl x :: st) h Q | _ => False)) ∧
  (∀ (n d : Nat) (L : List (Option iV)) (r : List iV) (j : Int) (m : Nat) (h : iH) (Q : Option iV → iH → Prop), G sp sc [2, 9, 59] d mX10_pass (n + 1) 81 L (.inl j :: .inr (.inr (m + 2)) :: r) h Q = (match h.1[m]? with | some (.inr (.inl (0, xs))) => inA j xs.length = true ∧ G sp sc [2, 9, 59] d mX10_pass n 82 L (.inl (xs.getD j.toNat 0) :: r) h Q | _ => False)) ∧
  (∀ (n d : Nat) (L : List (Option iV)) (r : List iV) (m : Nat) (z0 : iV) (h : iH) (Q : Option iV → iH → Prop), G sp sc [2, 9, 59] (d + 1) mX10_pass (n + 1) 82 L (z0 :: .inr (.inr (m + 2)) :: r) h Q = (match h.1[m]? with | some (.inl (ci, _)) => (match lkC 10 64 ci with | some (y1, n1, kd) => (n1 = 1 ∧ (kd = 2 ∨ kd = 3 ∨ kd = 8) ∧ cs r ≤ 8) ∧ Call sp sc d y1 [.inr (.inr (m + 2)), z0] h (fun q h1 => GC sp sc [2, 9, 59] (d + 1) mX10_pass n 85 L q r h h1 Q) | none => False) | _ => False)) ∧
  (∀ (n d : Nat) (L : List (Option iV)) (a : Int) (r : List iV) (h : iH) (Q : Option iV → iH → Prop), G sp sc [2, 9, 59] d mX10_pass (n + 1) 85 L (.inl a :: r) h Q = (inI a = true ∧ (a = 0 → G sp sc [2, 9, 59] d mX10_pass n 104 L r h Q) ∧ (¬ (a = 0) → G sp sc [2, 9, 59] d mX10_pass n 88 L r h Q))) ∧
  (∀ (n d : Nat) (L : List (Option iV)) (st : List iV) (h : iH) (Q : Option iV → iH → Prop), G sp sc [2, 9, 59] d mX10_pass (n + 1) 88 L st h Q = (match ld L 0 with | some (.inr (.inr (r + 1))) => G sp sc [2, 9, 59] d mX10_pass n 89 L (.inr (.inr (r + 1)) :: st) h Q | _ => False)) ∧
  (∀ (n d : Nat) (L : List (Option iV)) (st : List iV) (h : iH) (Q : Option iV → iH → Prop), G sp sc [2, 9, 59] d mX10_pass (n + 1) 89 L st h Q = (match ld L 0 with | some (.inr (.inr (r + 1))) => G sp sc [2, 9, 59] d mX10_pass n 90 L (.inr (.inr (r + 1)) :: st) h Q | _ => False)) ∧
  (∀ (n d : Nat) (L : List (Option iV)) (r : List iV) (m : Nat) (h : iH) (Q : Option iV → iH → Prop), G sp sc [2, 9, 59] d mX10_pass (n + 1) 90 L (.inr (.inr (m + 2)) :: r) h Q = (match h.1[m]? with | some (.inl (ci, fs)) => (match lkF 10 9 ci with | some k => (match fs[k]? with | some v => G sp sc [2, 9, 59] d mX10_pass n 93 L (v :: r) h Q | none => False) | none => False) | _ => False)) ∧
  (∀ (n d : Nat) (L : List (Option iV)) (st : List iV) (h : iH) (Q : Option iV → iH → Prop), G sp sc [2, 9, 59] d mX10_pass (n + 1) 93 L st h Q = (match ld L 4 with | some (.inl x) => G sp sc [2, 9, 59] d mX10_pass n 95 L (.inl x :: st) h Q | _ => False)) ∧
  (∀ (n d : Nat) (L : List (Option iV)) (r : List iV) (j : Int) (m : Nat) (h : iH) (Q : Option iV → iH → Prop), G sp sc [2, 9, 59] d mX10_pass (n + 1) 95 L (.inl j :: .inr (.inr (m + 2)) :: r) h Q = (match h.1[m]? with | some (.inr (.inl (0, xs))) => inA j xs.length = true ∧ G sp sc [2, 9, 59] d mX10_pass n 96 L (.inl (xs.getD j.toNat 0) :: r) h Q | _ => False)) ∧
  (∀ (n d : Nat) (L : List (Option iV)) (r : List iV) (m : Nat) (z0 : iV) (h : iH) (Q : Option iV → iH → Prop), G sp sc [2, 9, 59] (d + 1) mX10_pass (n + 1) 96 L (z0 :: .inr (.inr (m + 2)) :: r) h Q = (match h.1[m]? with | some (.inl (ci, _)) => (match lkC 10 68 ci with | some (y1, n1, kd) => (n1 = 1 ∧ (kd = 2 ∨ kd = 3 ∨ kd = 8) ∧ cs r ≤ 8) ∧ Call sp sc d y1 [.inr (.inr (m + 2)), z0] h (fun q h1 => GC sp sc [2, 9, 59] (d + 1) mX10_pass n 99 L q r h h1 Q) | none => False) | _ => False)) ∧
  (∀ (n d : Nat) (L : List (Option iV)) (a : Int) (r : List iV) (h : iH) (Q : Option iV → iH → Prop), G sp sc [2, 9, 59] d mX10_pass (n + 1) 99 L (.inl a :: r) h Q = (inI a = true ∧ (a = 0 → G sp sc [2, 9, 59] d mX10_pass n 104 L r h Q) ∧ (¬ (a = 0) → G sp sc [2, 9, 59] d mX10_pass n 102 L r h Q))) ∧
  (∀ (n d : Nat) (L : List (Option iV)) (st : List iV) (h : iH) (Q : Option iV → iH → Prop), G sp sc [2, 9, 59] d mX10_pass (n + 1) 102 L st h Q = G sp sc [2, 9, 59] d mX10_pass n 103 L (.inl 1 :: st) h Q) ∧
  (∀ (n d : Nat) (L : List (Option iV)) (r : List iV) (x : Int) (h : iH) (Q : Option iV → iH → Prop), G sp sc [2, 9, 59] d mX10_pass (n + 1) 103 L (.inl x :: r) h Q = (match st1 L 3 (.inl x) with | some L' => G sp sc [2, 9, 59] d mX10_pass n 104 L' r h Q | none => False)) ∧
  (∀ (n d : Nat) (L : List (Option iV)) (st : List iV) (h : iH) (Q : Option iV → iH → Prop), G sp sc [2, 9, 59] d mX10_pass (n + 1) 104 L st h Q = (match ld L 4 with | some (.inl x) => (match st1 L 4 (.inl (x + 1)) with | some L' => G sp sc [2, 9, 59] d mX10_pass n 107 L' st h Q | none => False) | _ => False)) ∧
  (∀ (n d : Nat) (L : List (Option iV)) (st : List iV) (h : iH) (Q : Option iV → iH → Prop), G sp sc [2, 9, 59] d mX10_pass (n + 1) 107 L st h Q = Run sp sc d mX10_pass 59 L st h Q) ∧
  (∀ (n d : Nat) (L : List (Option iV)) (st : List iV) (h : iH) (Q : Option iV → iH → Prop), G sp sc [2, 9, 59] d mX10_pass (n + 1) 110 L st h Q = (match ld L 3 with | some (.inl x) => G sp sc [2, 9, 59] d mX10_pass n 111 L (.inl x :: st) h Q | _ => False)) ∧
  (∀ (n d : Nat) (L : List (Option iV)) (a : Int) (r : List iV) (h : iH) (Q : Option iV → iH → Prop), G sp sc [2, 9, 59] d mX10_pass (n + 1) 111 L (.inl a :: r) h Q = (inI a = true ∧ (¬ a = 0 → G sp sc [2, 9, 59] d mX10_pass n 124 L r h Q) ∧ (¬ (¬ a = 0) → G sp sc [2, 9, 59] d mX10_pass n 114 L r h Q))) ∧
  (∀ (n d : Nat) (L : List (Option iV)) (st : List iV) (h : iH) (Q : Option iV → iH → Prop), G sp sc [2, 9, 59] d mX10_pass (n + 1) 114 L st h Q = (match ld L 0 with | some (.inr (.inr (r + 1))) => G sp sc [2, 9, 59] d mX10_pass n 115 L (.inr (.inr (r + 1)) :: st) h Q | _ => False)) ∧
  (∀ (n d : Nat) (L : List (Option iV)) (st : List iV) (h : iH) (Q : Option iV → iH → Prop), G sp sc [2, 9, 59] d mX10_pass (n + 1) 115 L st h Q = (match ld L 1 with | some (.inl x) => G sp sc [2, 9, 59] d mX10_pass n 116 L (.inl x :: st) h Q | _ => False)) ∧
  (∀ (n d : Nat) (L : List (Option iV)) (st : List iV) (h : iH) (Q : Option iV → iH → Prop), G sp sc [2, 9, 59] d mX10_pass (n + 1) 116 L st h Q = (match ld L 2 with | some (.inl x) => G sp sc [2, 9, 59] d mX10_pass n 117 L (.inl x :: st) h Q | _ => False)) ∧
  (∀ (n d : Nat) (L : List (Option iV)) (a : Int) (b : Int) (r : List iV) (h : iH) (Q : Option iV → iH → Prop), G sp sc [2, 9, 59] d mX10_pass (n + 1) 117 L (.inl b :: .inl a :: r) h Q = G sp sc [2, 9, 59] d mX10_pass n 118 L (.inl (a - b) :: r) h Q) ∧
  (∀ (n d : Nat) (L : List (Option iV)) (st : List iV) (h : iH) (Q : Option iV → iH → Prop), G sp sc [2, 9, 59] d mX10_pass (n + 1) 118 L st h Q = G sp sc [2, 9, 59] d mX10_pass n 119 L (.inl 1 :: st) h Q) ∧
  (∀ (n d : Nat) (L : List (Option iV)) (a : Int) (b : Int) (r : List iV) (h : iH) (Q : Option iV → iH → Prop), G sp sc [2, 9, 59] d mX10_pass (n + 1) 119 L (.inl b :: .inl a :: r) h Q = G sp sc [2, 9, 59] d mX10_pass n 120 L (.inl (a - b) :: r) h Q) ∧
  (∀ (n d : Nat) (L : List (Option iV)) (r : List iV) (m : Nat) (z0 : iV) (h : iH) (Q : Option iV → iH → Prop), G sp sc [2, 9, 59] (d + 1) mX10_pass (n + 1) 120 L (z0 :: .inr (.inr (m + 2)) :: r) h Q = (match h.1[m]? with | some (.inl (ci, _)) => (match lkC 10 71 ci with | some (y1, n1, kd) => (n1 = 1 ∧ (kd = 2 ∨ kd = 3 ∨ kd = 8) ∧ cs r ≤ 8) ∧ Call sp sc d y1 [.inr (.inr (m + 2)), z0] h (fun q h1 => GC sp sc [2, 9, 59] (d + 1) mX10_pass n 123 L q r h h1 Q) | none => False) | _ => False)) ∧
  (∀ (n d : Nat) (L : List (Option iV))  (h : iH) (Q : Option iV → iH → Prop), G sp sc [2, 9, 59] d mX10_pass (n + 1) 123 L [] h Q = Q none h) ∧
  (∀ (n d : Nat) (L : List (Option iV)) (st : List iV) (h : iH) (Q : Option iV → iH → Prop), G sp sc [2, 9, 59] d mX10_pass (n + 1) 124 L st h Q = (match ld L 2 with | some (.inl x) => (match st1 L 2 (.inl (x + 1)) with | some L' => G sp sc [2, 9, 59] d mX10_pass n 127 L' st h Q | none => False) | _ => False)) ∧
  (∀ (n d : Nat) (L : List (Option iV)) (st : List iV) (h : iH) (Q : Option iV → iH → Prop), G sp sc [2, 9, 59] d mX10_pass (n + 1) 127 L st h Q = Run sp sc d mX10_pass 2 L st h Q) ∧
  (∀ (n d : Nat) (L : List (Option iV))  (h : iH) (Q : Option iV → iH → Prop), G sp sc [2, 9, 59] d mX10_pass (n + 1) 130 L [] h Q = Q none h) ∧
  lkC 10 64 8 = some (mX8_goesOn, 1, 2) ∧
  lkC 10 68 10 = some (mX10_takeTurn, 1, 2) ∧
  lkC 10 71 10 = some (mX10_waitAll, 1, 2) ∧
  lkF 10 15 10 = some 2 ∧
  lkF 10 25 10 = some 0 ∧
  lkF 10 41 10 = some 5 ∧
  lkF 10 54 8 = some 5 ∧
  lkF 10 61 8 = some 12 ∧
  lkF 10 9 10 = some 1 ∧
  pOK 10 false 10 5 = true ∧
  pOK 10 false 8 12 = true := ⟨by intros; exact G_at (by decide +kernel : fetch mX10_pass 0 = some (.iconst 0)),
  by intros; exact G_at (by decide +kernel : fetch mX10_pass 1 = some (.istore_n 2)),
  by intros; exact G_at (by decide +kernel : fetch mX10_pass 2 = some (.iload_n 2)),
  by intros; exact G_at (by decide +kernel : fetch mX10_pass 3 = some (.iload_n 1)),
  by intros; exact G_at (by decide +kernel : fetch mX10_pass 4 = some (.if_icmp .ge 126)),
  by intros; exact G_at (by decide +kernel : fetch mX10_pass 7 = some (.iconst 0)),
  by intros; exact G_at (by decide +kernel : fetch mX10_pass 8 = some (.istore_n 3)),
  by intros; exact G_at (by decide +kernel : fetch mX10_pass 9 = some (.iload_n 3)),
  by intros; exact G_at (by decide +kernel : fetch mX10_pass 10 = some (.aload_n 0)),
  by intros; exact G_own (by decide +kernel : fetch mX10_pass 11 = some (.getfield 15)) (by decide +kernel),
  by intros; exact G_at (by decide +kernel : fetch mX10_pass 14 = some (.arraylength)),
  by intros; exact G_at (by decide +kernel : fetch mX10_pass 15 = some (.if_icmp .ge 16)),
  by intros; exact G_at (by decide +kernel : fetch mX10_pass 18 = some (.aload_n 0)),
  by intros; exact G_own (by decide +kernel : fetch mX10_pass 19 = some (.getfield 15)) (by decide +kernel),
  by intros; exact G_at (by decide +kernel : fetch mX10_pass 22 = some (.iload_n 3)),
  by intros; exact G_at (by decide +kernel : fetch mX10_pass 23 = some (.iconst 0)),
  by intros; exact G_at (by decide +kernel : fetch mX10_pass 24 = some (.bastore)),
  by intros; exact G_at (by decide +kernel : fetch mX10_pass 25 = some (.iinc 3 1)),
  by intros; exact G_at (by decide +kernel : fetch mX10_pass 28 = some (.goto (-19))),
  by intros; exact G_at (by decide +kernel : fetch mX10_pass 31 = some (.aload_n 0)),
  by intros; exact G_at (by decide +kernel : fetch mX10_pass 32 = some (.dup)),
  by intros; exact G_at (by decide +kernel : fetch mX10_pass 32 = some (.dup)),
  by intros; exact G_own (by decide +kernel : fetch mX10_pass 33 = some (.getfield 41)) (by decide +kernel),
  by intros; exact G_at (by decide +kernel : fetch mX10_pass 36 = some (.iconst 1)),
  by intros; exact G_at (by decide +kernel : fetch mX10_pass 37 = some (.iadd)),
  by intros; exact G_ownW (by decide +kernel : fetch mX10_pass 38 = some (.putfield 41)) (by decide +kernel) (by decide +kernel),
  by intros; exact G_at (by decide +kernel : fetch mX10_pass 41 = some (.aload_n 0)),
  by intros; exact G_own (by decide +kernel : fetch mX10_pass 42 = some (.getfield 25)) (by decide +kernel),
  by intros; exact G_at (by decide +kernel : fetch mX10_pass 45 = some (.dup)),
  by intros; exact G_at (by decide +kernel : fetch mX10_pass 45 = some (.dup)),
  by intros; exact G_own (by decide +kernel : fetch mX10_pass 46 = some (.getfield 61)) (by decide +kernel),
  by intros; exact G_at (by decide +kernel : fetch mX10_pass 49 = some (.iconst 1)),
  by intros; exact G_at (by decide +kernel : fetch mX10_pass 50 = some (.iadd)),
  by intros; exact G_ownW (by decide +kernel : fetch mX10_pass 51 = some (.putfield 61)) (by decide +kernel) (by decide +kernel),
  by intros; exact G_at (by decide +kernel : fetch mX10_pass 54 = some (.iconst 0)),
  by intros; exact G_at (by decide +kernel : fetch mX10_pass 55 = some (.istore_n 3)),
  by intros; exact G_at (by decide +kernel : fetch mX10_pass 56 = some (.iconst 0)),
  by intros; exact G_at (by decide +kernel : fetch mX10_pass 57 = some (.istore 4)),
  by intros; exact G_at (by decide +kernel : fetch mX10_pass 59 = some (.iload 4)),
  by intros; exact G_at (by decide +kernel : fetch mX10_pass 61 = some (.aload_n 0)),
  by intros; exact G_own (by decide +kernel : fetch mX10_pass 62 = some (.getfield 25)) (by decide +kernel),
  by intros; exact G_own (by decide +kernel : fetch mX10_pass 65 = some (.getfield 54)) (by decide +kernel),
  by intros; exact G_at (by decide +kernel : fetch mX10_pass 68 = some (.if_icmp .ge 42)),
  by intros; exact G_at (by decide +kernel : fetch mX10_pass 71 = some (.aload_n 0)),
  by intros; exact G_own (by decide +kernel : fetch mX10_pass 72 = some (.getfield 25)) (by decide +kernel),
  by intros; exact G_at (by decide +kernel : fetch mX10_pass 75 = some (.aload_n 0)),
  by intros; exact G_own (by decide +kernel : fetch mX10_pass 76 = some (.getfield 9)) (by decide +kernel),
  by intros; exact G_at (by decide +kernel : fetch mX10_pass 79 = some (.iload 4)),
  by intros; exact G_at (by decide +kernel : fetch mX10_pass 81 = some (.iaload)),
  by intros; exact G_callV (by decide +kernel : fetch mX10_pass 82 = some (.invokevirtual 64)) (by decide +kernel) (by decide +kernel) rfl,
  by intros; exact G_at (by decide +kernel : fetch mX10_pass 85 = some (.ifCond .eq 19)),
  by intros; exact G_at (by decide +kernel : fetch mX10_pass 88 = some (.aload_n 0)),
  by intros; exact G_at (by decide +kernel : fetch mX10_pass 89 = some (.aload_n 0)),
  by intros; exact G_own (by decide +kernel : fetch mX10_pass 90 = some (.getfield 9)) (by decide +kernel),
  by intros; exact G_at (by decide +kernel : fetch mX10_pass 93 = some (.iload 4)),
  by intros; exact G_at (by decide +kernel : fetch mX10_pass 95 = some (.iaload)),
  by intros; exact G_callV (by decide +kernel : fetch mX10_pass 96 = some (.invokevirtual 68)) (by decide +kernel) (by decide +kernel) rfl,
  by intros; exact G_at (by decide +kernel : fetch mX10_pass 99 = some (.ifCond .eq 5)),
  by intros; exact G_at (by decide +kernel : fetch mX10_pass 102 = some (.iconst 1)),
  by intros; exact G_at (by decide +kernel : fetch mX10_pass 103 = some (.istore_n 3)),
  by intros; exact G_at (by decide +kernel : fetch mX10_pass 104 = some (.iinc 4 1)),
  by intros; exact G_at (by decide +kernel : fetch mX10_pass 107 = some (.goto (-48))),
  by intros; exact G_at (by decide +kernel : fetch mX10_pass 110 = some (.iload_n 3)),
  by intros; exact G_at (by decide +kernel : fetch mX10_pass 111 = some (.ifCond .ne 13)),
  by intros; exact G_at (by decide +kernel : fetch mX10_pass 114 = some (.aload_n 0)),
  by intros; exact G_at (by decide +kernel : fetch mX10_pass 115 = some (.iload_n 1)),
  by intros; exact G_at (by decide +kernel : fetch mX10_pass 116 = some (.iload_n 2)),
  by intros; exact G_at (by decide +kernel : fetch mX10_pass 117 = some (.isub)),
  by intros; exact G_at (by decide +kernel : fetch mX10_pass 118 = some (.iconst 1)),
  by intros; exact G_at (by decide +kernel : fetch mX10_pass 119 = some (.isub)),
  by intros; exact G_callV (by decide +kernel : fetch mX10_pass 120 = some (.invokevirtual 71)) (by decide +kernel) (by decide +kernel) rfl,
  by intros; exact G_retv (by decide +kernel : fetch mX10_pass 123 = some (.return_)) (by decide +kernel),
  by intros; exact G_at (by decide +kernel : fetch mX10_pass 124 = some (.iinc 2 1)),
  by intros; exact G_at (by decide +kernel : fetch mX10_pass 127 = some (.goto (-125))),
  by intros; exact G_retv (by decide +kernel : fetch mX10_pass 130 = some (.return_)) (by decide +kernel),
  by decide +kernel,
  by decide +kernel,
  by decide +kernel,
  by decide +kernel,
  by decide +kernel,
  by decide +kernel,
  by decide +kernel,
  by decide +kernel,
  by decide +kernel,
  by decide +kernel,
  by decide +kernel⟩
theorem gX10_waitAll : (∀ (n d : Nat) (L : List (Option iV)) (st : List iV) (h : iH) (Q : Option iV → iH → Prop), G sp sc [25] d mX10_waitAll (n + 1) 0 L st h Q = (match ld L 0 with | some (.inr (.inr (r + 1))) => G sp sc [25] d mX10_waitAll n 1 L (.inr (.inr (r + 1)) :: st) h Q | _ => False)) ∧
  (∀ (n d : Nat) (L : List (Option iV)) (a : Int) (r : List iV) (h : iH) (Q : Option iV → iH → Prop), G sp sc [25] d mX10_waitAll (n + 1) 1 L (.inl a :: r) h Q = G sp sc [25] d mX10_waitAll n 2 L (.inl a :: .inl a :: r) h Q) ∧
  (∀ (n d : Nat) (L : List (Option iV)) (a : Nat) (r : List iV) (h : iH) (Q : Option iV → iH → Prop), G sp sc [25] d mX10_waitAll (n + 1) 1 L (.inr (.inr a) :: r) h Q = G sp sc [25] d mX10_waitAll n 2 L (.inr (.inr a) :: .inr (.inr a) :: r) h Q) ∧
  (∀ (n d : Nat) (L : List (Option iV)) (r : List iV) (m : Nat) (h : iH) (Q : Option iV → iH → Prop), G sp sc [25] d mX10_waitAll (n + 1) 2 L (.inr (.inr (m + 2)) :: r) h Q = (match h.1[m]? with | some (.inl (ci, fs)) => (match lkF 10 41 ci with | some k => (match fs[k]? with | some v => G sp sc [25] d mX10_waitAll n 5 L (v :: r) h Q | none => False) | none => False) | _ => False)) ∧
  (∀ (n d : Nat) (L : List (Option iV)) (st : List iV) (h : iH) (Q : Option iV → iH → Prop), G sp sc [25] d mX10_waitAll (n + 1) 5 L st h Q = (match ld L 1 with | some (.inl x) => G sp sc [25] d mX10_waitAll n 6 L (.inl x :: st) h Q | _ => False)) ∧
  (∀ (n d : Nat) (L : List (Option iV)) (a : Int) (b : Int) (r : List iV) (h : iH) (Q : Option iV → iH → Prop), G sp sc [25] d mX10_waitAll (n + 1) 6 L (.inl b :: .inl a :: r) h Q = G sp sc [25] d mX10_waitAll n 7 L (.inl (a + b) :: r) h Q) ∧
  (∀ (n d : Nat) (L : List (Option iV)) (r : List iV) (v : iV) (m : Nat) (h : iH) (Q : Option iV → iH → Prop), G sp sc [25] d mX10_waitAll (n + 1) 7 L (v :: .inr (.inr (m + 2)) :: r) h Q = (match h.1[m]? with | some (.inl (ci, fs)) => (match lkF 10 41 ci with | some k => (fitV (tyT ci k) v = true ∧ k < fs.length ∧ pOK 10 false ci k = true) ∧ G sp sc [25] d mX10_waitAll n 10 L r (h.1.set m (.inl (ci, fs.set k v)), h.2) Q | none => False) | _ => False)) ∧
  (∀ (n d : Nat) (L : List (Option iV)) (st : List iV) (h : iH) (Q : Option iV → iH → Prop), G sp sc [25] d mX10_waitAll (n + 1) 10 L st h Q = (match ld L 0 with | some (.inr (.inr (r + 1))) => G sp sc [25] d mX10_waitAll n 11 L (.inr (.inr (r + 1)) :: st) h Q | _ => False)) ∧
  (∀ (n d : Nat) (L : List (Option iV)) (r : List iV) (m : Nat) (h : iH) (Q : Option iV → iH → Prop), G sp sc [25] d mX10_waitAll (n + 1) 11 L (.inr (.inr (m + 2)) :: r) h Q = (match h.1[m]? with | some (.inl (ci, fs)) => (match lkF 10 25 ci with | some k => (match fs[k]? with | some v => G sp sc [25] d mX10_waitAll n 14 L (v :: r) h Q | none => False) | none => False) | _ => False)) ∧
  (∀ (n d : Nat) (L : List (Option iV)) (a : Int) (r : List iV) (h : iH) (Q : Option iV → iH → Prop), G sp sc [25] d mX10_waitAll (n + 1) 14 L (.inl a :: r) h Q = G sp sc [25] d mX10_waitAll n 15 L (.inl a :: .inl a :: r) h Q) ∧
  (∀ (n d : Nat) (L : List (Option iV)) (a : Nat) (r : List iV) (h : iH) (Q : Option iV → iH → Prop), G sp sc [25] d mX10_waitAll (n + 1) 14 L (.inr (.inr a) :: r) h Q = G sp sc [25] d mX10_waitAll n 15 L (.inr (.inr a) :: .inr (.inr a) :: r) h Q) ∧
  (∀ (n d : Nat) (L : List (Option iV)) (r : List iV) (m : Nat) (h : iH) (Q : Option iV → iH → Prop), G sp sc [25] d mX10_waitAll (n + 1) 15 L (.inr (.inr (m + 2)) :: r) h Q = (match h.1[m]? with | some (.inl (ci, fs)) => (match lkF 10 61 ci with | some k => (match fs[k]? with | some v => G sp sc [25] d mX10_waitAll n 18 L (v :: r) h Q | none => False) | none => False) | _ => False)) ∧
  (∀ (n d : Nat) (L : List (Option iV)) (st : List iV) (h : iH) (Q : Option iV → iH → Prop), G sp sc [25] d mX10_waitAll (n + 1) 18 L st h Q = (match ld L 1 with | some (.inl x) => G sp sc [25] d mX10_waitAll n 19 L (.inl x :: st) h Q | _ => False)) ∧
  (∀ (n d : Nat) (L : List (Option iV)) (a : Int) (b : Int) (r : List iV) (h : iH) (Q : Option iV → iH → Prop), G sp sc [25] d mX10_waitAll (n + 1) 19 L (.inl b :: .inl a :: r) h Q = G sp sc [25] d mX10_waitAll n 20 L (.inl (a + b) :: r) h Q) ∧
  (∀ (n d : Nat) (L : List (Option iV)) (r : List iV) (v : iV) (m : Nat) (h : iH) (Q : Option iV → iH → Prop), G sp sc [25] d mX10_waitAll (n + 1) 20 L (v :: .inr (.inr (m + 2)) :: r) h Q = (match h.1[m]? with | some (.inl (ci, fs)) => (match lkF 10 61 ci with | some k => (fitV (tyT ci k) v = true ∧ k < fs.length ∧ pOK 10 false ci k = true) ∧ G sp sc [25] d mX10_waitAll n 23 L r (h.1.set m (.inl (ci, fs.set k v)), h.2) Q | none => False) | _ => False)) ∧
  (∀ (n d : Nat) (L : List (Option iV)) (st : List iV) (h : iH) (Q : Option iV → iH → Prop), G sp sc [25] d mX10_waitAll (n + 1) 23 L st h Q = G sp sc [25] d mX10_waitAll n 24 L (.inl 0 :: st) h Q) ∧
  (∀ (n d : Nat) (L : List (Option iV)) (r : List iV) (x : Int) (h : iH) (Q : Option iV → iH → Prop), G sp sc [25] d mX10_waitAll (n + 1) 24 L (.inl x :: r) h Q = (match st1 L 2 (.inl x) with | some L' => Run sp sc d mX10_waitAll 25 L' r h Q | none => False)) ∧
  (∀ (n d : Nat) (L : List (Option iV)) (st : List iV) (h : iH) (Q : Option iV → iH → Prop), G sp sc [25] d mX10_waitAll (n + 1) 25 L st h Q = (match ld L 2 with | some (.inl x) => G sp sc [25] d mX10_waitAll n 26 L (.inl x :: st) h Q | _ => False)) ∧
  (∀ (n d : Nat) (L : List (Option iV)) (st : List iV) (h : iH) (Q : Option iV → iH → Prop), G sp sc [25] d mX10_waitAll (n + 1) 26 L st h Q = (match ld L 0 with | some (.inr (.inr (r + 1))) => G sp sc [25] d mX10_waitAll n 27 L (.inr (.inr (r + 1)) :: st) h Q | _ => False)) ∧
  (∀ (n d : Nat) (L : List (Option iV)) (r : List iV) (m : Nat) (h : iH) (Q : Option iV → iH → Prop), G sp sc [25] d mX10_waitAll (n + 1) 27 L (.inr (.inr (m + 2)) :: r) h Q = (match h.1[m]? with | some (.inl (ci, fs)) => (match lkF 10 25 ci with | some k => (match fs[k]? with | some v => G sp sc [25] d mX10_waitAll n 30 L (v :: r) h Q | none => False) | none => False) | _ => False)) ∧
  (∀ (n d : Nat) (L : List (Option iV)) (r : List iV) (m : Nat) (h : iH) (Q : Option iV → iH → Prop), G sp sc [25] d mX10_waitAll (n + 1) 30 L (.inr (.inr (m + 2)) :: r) h Q = (match h.1[m]? with | some (.inl (ci, fs)) => (match lkF 10 54 ci with | some k => (match fs[k]? with | some v => G sp sc [25] d mX10_waitAll n 33 L (v :: r) h Q | none => False) | none => False) | _ => False)) ∧
  (∀ (n d : Nat) (L : List (Option iV)) (a : Int) (b : Int) (r : List iV) (h : iH) (Q : Option iV → iH → Prop), G sp sc [25] d mX10_waitAll (n + 1) 33 L (.inl b :: .inl a :: r) h Q = ((inI a = true ∧ inI b = true) ∧ (b ≤ a → G sp sc [25] d mX10_waitAll n 63 L r h Q) ∧ (¬ (b ≤ a) → G sp sc [25] d mX10_waitAll n 36 L r h Q))) ∧
  (∀ (n d : Nat) (L : List (Option iV)) (st : List iV) (h : iH) (Q : Option iV → iH → Prop), G sp sc [25] d mX10_waitAll (n + 1) 36 L st h Q = (match ld L 0 with | some (.inr (.inr (r + 1))) => G sp sc [25] d mX10_waitAll n 37 L (.inr (.inr (r + 1)) :: st) h Q | _ => False)) ∧
  (∀ (n d : Nat) (L : List (Option iV)) (r : List iV) (m : Nat) (h : iH) (Q : Option iV → iH → Prop), G sp sc [25] d mX10_waitAll (n + 1) 37 L (.inr (.inr (m + 2)) :: r) h Q = (match h.1[m]? with | some (.inl (ci, fs)) => (match lkF 10 25 ci with | some k => (match fs[k]? with | some v => G sp sc [25] d mX10_waitAll n 40 L (v :: r) h Q | none => False) | none => False) | _ => False)) ∧
  (∀ (n d : Nat) (L : List (Option iV)) (st : List iV) (h : iH) (Q : Option iV → iH → Prop), G sp sc [25] d mX10_waitAll (n + 1) 40 L st h Q = (match ld L 2 with | some (.inl x) => G sp sc [25] d mX10_waitAll n 41 L (.inl x :: st) h Q | _ => False)) ∧
  (∀ (n d : Nat) (L : List (Option iV)) (r : List iV) (m : Nat) (z0 : iV) (h : iH) (Q : Option iV → iH → Prop), G sp sc [25] (d + 1) mX10_waitAll (n + 1) 41 L (z0 :: .inr (.inr (m + 2)) :: r) h Q = (match h.1[m]? with | some (.inl (ci, _)) => (match lkC 10 64 ci with | some (y1, n1, kd) => (n1 = 1 ∧ (kd = 2 ∨ kd = 3 ∨ kd = 8) ∧ cs r ≤ 8) ∧ Call sp sc d y1 [.inr (.inr (m + 2)), z0] h (fun q h1 => GC sp sc [25] (d + 1) mX10_waitAll n 44 L q r h h1 Q) | none => False) | _ => False)) ∧
  (∀ (n d : Nat) (L : List (Option iV)) (a : Int) (r : List iV) (h : iH) (Q : Option iV → iH → Prop), G sp sc [25] d mX10_waitAll (n + 1) 44 L (.inl a :: r) h Q = (inI a = true ∧ (a = 0 → G sp sc [25] d mX10_waitAll n 57 L r h Q) ∧ (¬ (a = 0) → G sp sc [25] d mX10_waitAll n 47 L r h Q))) ∧
  (∀ (n d : Nat) (L : List (Option iV)) (st : List iV) (h : iH) (Q : Option iV → iH → Prop), G sp sc [25] d mX10_waitAll (n + 1) 47 L st h Q = (match ld L 0 with | some (.inr (.inr (r + 1))) => G sp sc [25] d mX10_waitAll n 48 L (.inr (.inr (r + 1)) :: st) h Q | _ => False)) ∧
  (∀ (n d : Nat) (L : List (Option iV)) (r : List iV) (m : Nat) (h : iH) (Q : Option iV → iH → Prop), G sp sc [25] d mX10_waitAll (n + 1) 48 L (.inr (.inr (m + 2)) :: r) h Q = (match h.1[m]? with | some (.inl (ci, fs)) => (match lkF 10 19 ci with | some k => (match fs[k]? with | some v => G sp sc [25] d mX10_waitAll n 51 L (v :: r) h Q | none => False) | none => False) | _ => False)) ∧
  (∀ (n d : Nat) (L : List (Option iV)) (st : List iV) (h : iH) (Q : Option iV → iH → Prop), G sp sc [25] d mX10_waitAll (n + 1) 51 L st h Q = (match ld L 2 with | some (.inl x) => G sp sc [25] d mX10_waitAll n 52 L (.inl x :: st) h Q | _ => False)) ∧
  (∀ (n d : Nat) (L : List (Option iV)) (a : Int) (b : Nat) (r : List iV) (h : iH) (Q : Option iV → iH → Prop), G sp sc [25] d mX10_waitAll (n + 1) 52 L (.inl a :: .inr (.inr b) :: r) h Q = G sp sc [25] d mX10_waitAll n 53 L (.inl a :: .inr (.inr b) :: .inl a :: .inr (.inr b) :: r) h Q) ∧
  (∀ (n d : Nat) (L : List (Option iV)) (r : List iV) (j : Int) (m : Nat) (h : iH) (Q : Option iV → iH → Prop), G sp sc [25] d mX10_waitAll (n + 1) 53 L (.inl j :: .inr (.inr (m + 2)) :: r) h Q = (match h.1[m]? with | some (.inr (.inl (0, xs))) => inA j xs.length = true ∧ G sp sc [25] d mX10_waitAll n 54 L (.inl (xs.getD j.toNat 0) :: r) h Q | _ => False)) ∧
  (∀ (n d : Nat) (L : List (Option iV)) (st : List iV) (h : iH) (Q : Option iV → iH → Prop), G sp sc [25] d mX10_waitAll (n + 1) 54 L st h Q = (match ld L 1 with | some (.inl x) => G sp sc [25] d mX10_waitAll n 55 L (.inl x :: st) h Q | _ => False)) ∧
  (∀ (n d : Nat) (L : List (Option iV)) (a : Int) (b : Int) (r : List iV) (h : iH) (Q : Option iV → iH → Prop), G sp sc [25] d mX10_waitAll (n + 1) 55 L (.inl b :: .inl a :: r) h Q = G sp sc [25] d mX10_waitAll n 56 L (.inl (a + b) :: r) h Q) ∧
  (∀ (n d : Nat) (L : List (Option iV)) (r : List iV) (v : Int) (j : Int) (m : Nat) (h : iH) (Q : Option iV → iH → Prop), G sp sc [25] d mX10_waitAll (n + 1) 56 L (.inl v :: .inl j :: .inr (.inr (m + 2)) :: r) h Q = (match h.1[m]? with | some (.inr (.inl (0, xs))) => inA j xs.length = true ∧ G sp sc [25] d mX10_waitAll n 57 L r (h.1.set m (.inr (.inl (0, xs.set j.toNat v))), h.2) Q | _ => False)) ∧
  (∀ (n d : Nat) (L : List (Option iV)) (st : List iV) (h : iH) (Q : Option iV → iH → Prop), G sp sc [25] d mX10_waitAll (n + 1) 57 L st h Q = (match ld L 2 with | some (.inl x) => (match st1 L 2 (.inl (x + 1)) with | some L' => G sp sc [25] d mX10_waitAll n 60 L' st h Q | none => False) | _ => False)) ∧
  (∀ (n d : Nat) (L : List (Option iV)) (st : List iV) (h : iH) (Q : Option iV → iH → Prop), G sp sc [25] d mX10_waitAll (n + 1) 60 L st h Q = Run sp sc d mX10_waitAll 25 L st h Q) ∧
  (∀ (n d : Nat) (L : List (Option iV))  (h : iH) (Q : Option iV → iH → Prop), G sp sc [25] d mX10_waitAll (n + 1) 63 L [] h Q = Q none h) ∧
  lkC 10 64 8 = some (mX8_goesOn, 1, 2) ∧
  lkF 10 19 10 = some 3 ∧
  lkF 10 25 10 = some 0 ∧
  lkF 10 41 10 = some 5 ∧
  lkF 10 54 8 = some 5 ∧
  lkF 10 61 8 = some 12 ∧
  pOK 10 false 10 5 = true ∧
  pOK 10 false 8 12 = true := ⟨by intros; exact G_at (by decide +kernel : fetch mX10_waitAll 0 = some (.aload_n 0)),
  by intros; exact G_at (by decide +kernel : fetch mX10_waitAll 1 = some (.dup)),
  by intros; exact G_at (by decide +kernel : fetch mX10_waitAll 1 = some (.dup)),
  by intros; exact G_own (by decide +kernel : fetch mX10_waitAll 2 = some (.getfield 41)) (by decide +kernel),
  by intros; exact G_at (by decide +kernel : fetch mX10_waitAll 5 = some (.iload_n 1)),
  by intros; exact G_at (by decide +kernel : fetch mX10_waitAll 6 = some (.iadd)),
  by intros; exact G_ownW (by decide +kernel : fetch mX10_waitAll 7 = some (.putfield 41)) (by decide +kernel) (by decide +kernel),
  by intros; exact G_at (by decide +kernel : fetch mX10_waitAll 10 = some (.aload_n 0)),
  by intros; exact G_own (by decide +kernel : fetch mX10_waitAll 11 = some (.getfield 25)) (by decide +kernel),
  by intros; exact G_at (by decide +kernel : fetch mX10_waitAll 14 = some (.dup)),
  by intros; exact G_at (by decide +kernel : fetch mX10_waitAll 14 = some (.dup)),
  by intros; exact G_own (by decide +kernel : fetch mX10_waitAll 15 = some (.getfield 61)) (by decide +kernel),
  by intros; exact G_at (by decide +kernel : fetch mX10_waitAll 18 = some (.iload_n 1)),
  by intros; exact G_at (by decide +kernel : fetch mX10_waitAll 19 = some (.iadd)),
  by intros; exact G_ownW (by decide +kernel : fetch mX10_waitAll 20 = some (.putfield 61)) (by decide +kernel) (by decide +kernel),
  by intros; exact G_at (by decide +kernel : fetch mX10_waitAll 23 = some (.iconst 0)),
  by intros; exact G_at (by decide +kernel : fetch mX10_waitAll 24 = some (.istore_n 2)),
  by intros; exact G_at (by decide +kernel : fetch mX10_waitAll 25 = some (.iload_n 2)),
  by intros; exact G_at (by decide +kernel : fetch mX10_waitAll 26 = some (.aload_n 0)),
  by intros; exact G_own (by decide +kernel : fetch mX10_waitAll 27 = some (.getfield 25)) (by decide +kernel),
  by intros; exact G_own (by decide +kernel : fetch mX10_waitAll 30 = some (.getfield 54)) (by decide +kernel),
  by intros; exact G_at (by decide +kernel : fetch mX10_waitAll 33 = some (.if_icmp .ge 30)),
  by intros; exact G_at (by decide +kernel : fetch mX10_waitAll 36 = some (.aload_n 0)),
  by intros; exact G_own (by decide +kernel : fetch mX10_waitAll 37 = some (.getfield 25)) (by decide +kernel),
  by intros; exact G_at (by decide +kernel : fetch mX10_waitAll 40 = some (.iload_n 2)),
  by intros; exact G_callV (by decide +kernel : fetch mX10_waitAll 41 = some (.invokevirtual 64)) (by decide +kernel) (by decide +kernel) rfl,
  by intros; exact G_at (by decide +kernel : fetch mX10_waitAll 44 = some (.ifCond .eq 13)),
  by intros; exact G_at (by decide +kernel : fetch mX10_waitAll 47 = some (.aload_n 0)),
  by intros; exact G_own (by decide +kernel : fetch mX10_waitAll 48 = some (.getfield 19)) (by decide +kernel),
  by intros; exact G_at (by decide +kernel : fetch mX10_waitAll 51 = some (.iload_n 2)),
  by intros; exact G_at (by decide +kernel : fetch mX10_waitAll 52 = some (.dup2)),
  by intros; exact G_at (by decide +kernel : fetch mX10_waitAll 53 = some (.iaload)),
  by intros; exact G_at (by decide +kernel : fetch mX10_waitAll 54 = some (.iload_n 1)),
  by intros; exact G_at (by decide +kernel : fetch mX10_waitAll 55 = some (.iadd)),
  by intros; exact G_at (by decide +kernel : fetch mX10_waitAll 56 = some (.iastore)),
  by intros; exact G_at (by decide +kernel : fetch mX10_waitAll 57 = some (.iinc 2 1)),
  by intros; exact G_at (by decide +kernel : fetch mX10_waitAll 60 = some (.goto (-35))),
  by intros; exact G_retv (by decide +kernel : fetch mX10_waitAll 63 = some (.return_)) (by decide +kernel),
  by decide +kernel,
  by decide +kernel,
  by decide +kernel,
  by decide +kernel,
  by decide +kernel,
  by decide +kernel,
  by decide +kernel,
  by decide +kernel⟩
theorem gX10_takeTurn : (∀ (n d : Nat) (L : List (Option iV)) (st : List iV) (h : iH) (Q : Option iV → iH → Prop), G sp sc [] d mX10_takeTurn (n + 1) 0 L st h Q = (match ld L 0 with | some (.inr (.inr (r + 1))) => G sp sc [] d mX10_takeTurn n 1 L (.inr (.inr (r + 1)) :: st) h Q | _ => False)) ∧
  (∀ (n d : Nat) (L : List (Option iV)) (r : List iV) (m : Nat) (h : iH) (Q : Option iV → iH → Prop), G sp sc [] d mX10_takeTurn (n + 1) 1 L (.inr (.inr (m + 2)) :: r) h Q = (match h.1[m]? with | some (.inl (ci, fs)) => (match lkF 10 25 ci with | some k => (match fs[k]? with | some v => G sp sc [] d mX10_takeTurn n 4 L (v :: r) h Q | none => False) | none => False) | _ => False)) ∧
  (∀ (n d : Nat) (L : List (Option iV)) (st : List iV) (h : iH) (Q : Option iV → iH → Prop), G sp sc [] d mX10_takeTurn (n + 1) 4 L st h Q = G sp sc [] d mX10_takeTurn n 5 L (.inl 0 :: st) h Q) ∧
  (∀ (n d : Nat) (L : List (Option iV)) (st : List iV) (h : iH) (Q : Option iV → iH → Prop), G sp sc [] d mX10_takeTurn (n + 1) 5 L st h Q = (match ld L 1 with | some (.inl x) => G sp sc [] d mX10_takeTurn n 6 L (.inl x :: st) h Q | _ => False)) ∧
  (∀ (n d : Nat) (L : List (Option iV)) (r : List iV) (m : Nat) (z0 : iV) (z1 : iV) (h : iH) (Q : Option iV → iH → Prop), G sp sc [] (d + 1) mX10_takeTurn (n + 1) 6 L (z1 :: z0 :: .inr (.inr (m + 2)) :: r) h Q = (match h.1[m]? with | some (.inl (ci, _)) => (match lkC 10 75 ci with | some (y1, n1, kd) => (n1 = 2 ∧ (kd = 2 ∨ kd = 3 ∨ kd = 8) ∧ cs r ≤ 8) ∧ Call sp sc d y1 [.inr (.inr (m + 2)), z0, z1] h (fun q h1 => GC sp sc [] (d + 1) mX10_takeTurn n 9 L q r h h1 Q) | none => False) | _ => False)) ∧
  (∀ (n d : Nat) (L : List (Option iV)) (r : List iV) (x : Int) (h : iH) (Q : Option iV → iH → Prop), G sp sc [] d mX10_takeTurn (n + 1) 9 L (.inl x :: r) h Q = (match st1 L 2 (.inl x) with | some L' => G sp sc [] d mX10_takeTurn n 10 L' r h Q | none => False)) ∧
  (∀ (n d : Nat) (L : List (Option iV)) (st : List iV) (h : iH) (Q : Option iV → iH → Prop), G sp sc [] d mX10_takeTurn (n + 1) 10 L st h Q = (match ld L 0 with | some (.inr (.inr (r + 1))) => G sp sc [] d mX10_takeTurn n 11 L (.inr (.inr (r + 1)) :: st) h Q | _ => False)) ∧
  (∀ (n d : Nat) (L : List (Option iV)) (r : List iV) (m : Nat) (h : iH) (Q : Option iV → iH → Prop), G sp sc [] d mX10_takeTurn (n + 1) 11 L (.inr (.inr (m + 2)) :: r) h Q = (match h.1[m]? with | some (.inl (ci, fs)) => (match lkF 10 25 ci with | some k => (match fs[k]? with | some v => G sp sc [] d mX10_takeTurn n 14 L (v :: r) h Q | none => False) | none => False) | _ => False)) ∧
  (∀ (n d : Nat) (L : List (Option iV)) (st : List iV) (h : iH) (Q : Option iV → iH → Prop), G sp sc [] d mX10_takeTurn (n + 1) 14 L st h Q = G sp sc [] d mX10_takeTurn n 15 L (.inl 1 :: st) h Q) ∧
  (∀ (n d : Nat) (L : List (Option iV)) (st : List iV) (h : iH) (Q : Option iV → iH → Prop), G sp sc [] d mX10_takeTurn (n + 1) 15 L st h Q = (match ld L 1 with | some (.inl x) => G sp sc [] d mX10_takeTurn n 16 L (.inl x :: st) h Q | _ => False)) ∧
  (∀ (n d : Nat) (L : List (Option iV)) (r : List iV) (m : Nat) (z0 : iV) (z1 : iV) (h : iH) (Q : Option iV → iH → Prop), G sp sc [] (d + 1) mX10_takeTurn (n + 1) 16 L (z1 :: z0 :: .inr (.inr (m + 2)) :: r) h Q = (match h.1[m]? with | some (.inl (ci, _)) => (match lkC 10 75 ci with | some (y1, n1, kd) => (n1 = 2 ∧ (kd = 2 ∨ kd = 3 ∨ kd = 8) ∧ cs r ≤ 8) ∧ Call sp sc d y1 [.inr (.inr (m + 2)), z0, z1] h (fun q h1 => GC sp sc [] (d + 1) mX10_takeTurn n 19 L q r h h1 Q) | none => False) | _ => False)) ∧
  (∀ (n d : Nat) (L : List (Option iV)) (r : List iV) (x : Int) (h : iH) (Q : Option iV → iH → Prop), G sp sc [] d mX10_takeTurn (n + 1) 19 L (.inl x :: r) h Q = (match st1 L 3 (.inl x) with | some L' => G sp sc [] d mX10_takeTurn n 20 L' r h Q | none => False)) ∧
  (∀ (n d : Nat) (L : List (Option iV)) (st : List iV) (h : iH) (Q : Option iV → iH → Prop), G sp sc [] d mX10_takeTurn (n + 1) 20 L st h Q = (match ld L 0 with | some (.inr (.inr (r + 1))) => G sp sc [] d mX10_takeTurn n 21 L (.inr (.inr (r + 1)) :: st) h Q | _ => False)) ∧
  (∀ (n d : Nat) (L : List (Option iV)) (st : List iV) (h : iH) (Q : Option iV → iH → Prop), G sp sc [] d mX10_takeTurn (n + 1) 21 L st h Q = G sp sc [] d mX10_takeTurn n 22 L (.inl 0 :: st) h Q) ∧
  (∀ (n d : Nat) (L : List (Option iV)) (st : List iV) (h : iH) (Q : Option iV → iH → Prop), G sp sc [] d mX10_takeTurn (n + 1) 22 L st h Q = (match ld L 2 with | some (.inl x) => G sp sc [] d mX10_takeTurn n 23 L (.inl x :: st) h Q | _ => False)) ∧
  (∀ (n d : Nat) (L : List (Option iV)) (r : List iV) (m : Nat) (z0 : iV) (z1 : iV) (h : iH) (Q : Option iV → iH → Prop), G sp sc [] (d + 1) mX10_takeTurn (n + 1) 23 L (z1 :: z0 :: .inr (.inr (m + 2)) :: r) h Q = (match h.1[m]? with | some (.inl (ci, _)) => (match lkC 10 79 ci with | some (y1, n1, kd) => (n1 = 2 ∧ (kd = 2 ∨ kd = 3 ∨ kd = 8) ∧ cs r ≤ 8) ∧ Call sp sc d y1 [.inr (.inr (m + 2)), z0, z1] h (fun q h1 => GC sp sc [] (d + 1) mX10_takeTurn n 26 L q r h h1 Q) | none => False) | _ => False)) ∧
  (∀ (n d : Nat) (L : List (Option iV)) (a : Int) (r : List iV) (h : iH) (Q : Option iV → iH → Prop), G sp sc [] d mX10_takeTurn (n + 1) 26 L (.inl a :: r) h Q = (inI a = true ∧ (¬ a = 0 → G sp sc [] d mX10_takeTurn n 38 L r h Q) ∧ (¬ (¬ a = 0) → G sp sc [] d mX10_takeTurn n 29 L r h Q))) ∧
  (∀ (n d : Nat) (L : List (Option iV)) (st : List iV) (h : iH) (Q : Option iV → iH → Prop), G sp sc [] d mX10_takeTurn (n + 1) 29 L st h Q = (match ld L 0 with | some (.inr (.inr (r + 1))) => G sp sc [] d mX10_takeTurn n 30 L (.inr (.inr (r + 1)) :: st) h Q | _ => False)) ∧
  (∀ (n d : Nat) (L : List (Option iV)) (st : List iV) (h : iH) (Q : Option iV → iH → Prop), G sp sc [] d mX10_takeTurn (n + 1) 30 L st h Q = G sp sc [] d mX10_takeTurn n 31 L (.inl 1 :: st) h Q) ∧
  (∀ (n d : Nat) (L : List (Option iV)) (st : List iV) (h : iH) (Q : Option iV → iH → Prop), G sp sc [] d mX10_takeTurn (n + 1) 31 L st h Q = (match ld L 3 with | some (.inl x) => G sp sc [] d mX10_takeTurn n 32 L (.inl x :: st) h Q | _ => False)) ∧
  (∀ (n d : Nat) (L : List (Option iV)) (r : List iV) (m : Nat) (z0 : iV) (z1 : iV) (h : iH) (Q : Option iV → iH → Prop), G sp sc [] (d + 1) mX10_takeTurn (n + 1) 32 L (z1 :: z0 :: .inr (.inr (m + 2)) :: r) h Q = (match h.1[m]? with | some (.inl (ci, _)) => (match lkC 10 79 ci with | some (y1, n1, kd) => (n1 = 2 ∧ (kd = 2 ∨ kd = 3 ∨ kd = 8) ∧ cs r ≤ 8) ∧ Call sp sc d y1 [.inr (.inr (m + 2)), z0, z1] h (fun q h1 => GC sp sc [] (d + 1) mX10_takeTurn n 35 L q r h h1 Q) | none => False) | _ => False)) ∧
  (∀ (n d : Nat) (L : List (Option iV)) (a : Int) (r : List iV) (h : iH) (Q : Option iV → iH → Prop), G sp sc [] d mX10_takeTurn (n + 1) 35 L (.inl a :: r) h Q = (inI a = true ∧ (a = 0 → G sp sc [] d mX10_takeTurn n 50 L r h Q) ∧ (¬ (a = 0) → G sp sc [] d mX10_takeTurn n 38 L r h Q))) ∧
  (∀ (n d : Nat) (L : List (Option iV)) (st : List iV) (h : iH) (Q : Option iV → iH → Prop), G sp sc [] d mX10_takeTurn (n + 1) 38 L st h Q = (match ld L 0 with | some (.inr (.inr (r + 1))) => G sp sc [] d mX10_takeTurn n 39 L (.inr (.inr (r + 1)) :: st) h Q | _ => False)) ∧
  (∀ (n d : Nat) (L : List (Option iV)) (r : List iV) (m : Nat) (h : iH) (Q : Option iV → iH → Prop), G sp sc [] d mX10_takeTurn (n + 1) 39 L (.inr (.inr (m + 2)) :: r) h Q = (match h.1[m]? with | some (.inl (ci, fs)) => (match lkF 10 19 ci with | some k => (match fs[k]? with | some v => G sp sc [] d mX10_takeTurn n 42 L (v :: r) h Q | none => False) | none => False) | _ => False)) ∧
  (∀ (n d : Nat) (L : List (Option iV)) (st : List iV) (h : iH) (Q : Option iV → iH → Prop), G sp sc [] d mX10_takeTurn (n + 1) 42 L st h Q = (match ld L 1 with | some (.inl x) => G sp sc [] d mX10_takeTurn n 43 L (.inl x :: st) h Q | _ => False)) ∧
  (∀ (n d : Nat) (L : List (Option iV)) (a : Int) (b : Nat) (r : List iV) (h : iH) (Q : Option iV → iH → Prop), G sp sc [] d mX10_takeTurn (n + 1) 43 L (.inl a :: .inr (.inr b) :: r) h Q = G sp sc [] d mX10_takeTurn n 44 L (.inl a :: .inr (.inr b) :: .inl a :: .inr (.inr b) :: r) h Q) ∧
  (∀ (n d : Nat) (L : List (Option iV)) (r : List iV) (j : Int) (m : Nat) (h : iH) (Q : Option iV → iH → Prop), G sp sc [] d mX10_takeTurn (n + 1) 44 L (.inl j :: .inr (.inr (m + 2)) :: r) h Q = (match h.1[m]? with | some (.inr (.inl (0, xs))) => inA j xs.length = true ∧ G sp sc [] d mX10_takeTurn n 45 L (.inl (xs.getD j.toNat 0) :: r) h Q | _ => False)) ∧
  (∀ (n d : Nat) (L : List (Option iV)) (st : List iV) (h : iH) (Q : Option iV → iH → Prop), G sp sc [] d mX10_takeTurn (n + 1) 45 L st h Q = G sp sc [] d mX10_takeTurn n 46 L (.inl 1 :: st) h Q) ∧
  (∀ (n d : Nat) (L : List (Option iV)) (a : Int) (b : Int) (r : List iV) (h : iH) (Q : Option iV → iH → Prop), G sp sc [] d mX10_takeTurn (n + 1) 46 L (.inl b :: .inl a :: r) h Q = G sp sc [] d mX10_takeTurn n 47 L (.inl (a + b) :: r) h Q) ∧
  (∀ (n d : Nat) (L : List (Option iV)) (r : List iV) (v : Int) (j : Int) (m : Nat) (h : iH) (Q : Option iV → iH → Prop), G sp sc [] d mX10_takeTurn (n + 1) 47 L (.inl v :: .inl j :: .inr (.inr (m + 2)) :: r) h Q = (match h.1[m]? with | some (.inr (.inl (0, xs))) => inA j xs.length = true ∧ G sp sc [] d mX10_takeTurn n 48 L r (h.1.set m (.inr (.inl (0, xs.set j.toNat v))), h.2) Q | _ => False)) ∧
  (∀ (n d : Nat) (L : List (Option iV)) (st : List iV) (h : iH) (Q : Option iV → iH → Prop), G sp sc [] d mX10_takeTurn (n + 1) 48 L st h Q = G sp sc [] d mX10_takeTurn n 49 L (.inl 0 :: st) h Q) ∧
  (∀ (n d : Nat) (L : List (Option iV)) (a : Int) (h : iH) (Q : Option iV → iH → Prop), G sp sc [] d mX10_takeTurn (n + 1) 49 L [.inl a] h Q = ((a = 0 ∨ a = 1) ∧ Q (some (.inl a)) h)) ∧
  (∀ (n d : Nat) (L : List (Option iV)) (st : List iV) (h : iH) (Q : Option iV → iH → Prop), G sp sc [] d mX10_takeTurn (n + 1) 50 L st h Q = (match ld L 0 with | some (.inr (.inr (r + 1))) => G sp sc [] d mX10_takeTurn n 51 L (.inr (.inr (r + 1)) :: st) h Q | _ => False)) ∧
  (∀ (n d : Nat) (L : List (Option iV)) (r : List iV) (m : Nat) (h : iH) (Q : Option iV → iH → Prop), G sp sc [] d mX10_takeTurn (n + 1) 51 L (.inr (.inr (m + 2)) :: r) h Q = (match h.1[m]? with | some (.inl (ci, fs)) => (match lkF 10 15 ci with | some k => (match fs[k]? with | some v => G sp sc [] d mX10_takeTurn n 54 L (v :: r) h Q | none => False) | none => False) | _ => False)) ∧
  (∀ (n d : Nat) (L : List (Option iV)) (st : List iV) (h : iH) (Q : Option iV → iH → Prop), G sp sc [] d mX10_takeTurn (n + 1) 54 L st h Q = G sp sc [] d mX10_takeTurn n 55 L (.inl 0 :: st) h Q) ∧
  (∀ (n d : Nat) (L : List (Option iV)) (st : List iV) (h : iH) (Q : Option iV → iH → Prop), G sp sc [] d mX10_takeTurn (n + 1) 55 L st h Q = (match ld L 2 with | some (.inl x) => G sp sc [] d mX10_takeTurn n 56 L (.inl x :: st) h Q | _ => False)) ∧
  (∀ (n d : Nat) (L : List (Option iV)) (r : List iV) (z0 : iV) (z1 : iV) (h : iH) (Q : Option iV → iH → Prop), G sp sc [] (d + 1) mX10_takeTurn (n + 1) 56 L (z1 :: z0 :: r) h Q = (cs r ≤ 8 ∧ Call sp sc d mX8_place [z0, z1] h (fun q h1 => GC sp sc [] (d + 1) mX10_takeTurn n 59 L q r h h1 Q))) ∧
  (∀ (n d : Nat) (L : List (Option iV)) (st : List iV) (h : iH) (Q : Option iV → iH → Prop), G sp sc [] d mX10_takeTurn (n + 1) 59 L st h Q = G sp sc [] d mX10_takeTurn n 60 L (.inl 1 :: st) h Q) ∧
  (∀ (n d : Nat) (L : List (Option iV)) (r : List iV) (v : Int) (j : Int) (m : Nat) (h : iH) (Q : Option iV → iH → Prop), G sp sc [] d mX10_takeTurn (n + 1) 60 L (.inl v :: .inl j :: .inr (.inr (m + 2)) :: r) h Q = (match h.1[m]? with | some (.inr (.inl (2, xs))) => (inA j xs.length = true ∧ (v = 0 ∨ v = 1)) ∧ G sp sc [] d mX10_takeTurn n 61 L r (h.1.set m (.inr (.inl (2, xs.set j.toNat v))), h.2) Q | _ => False)) ∧
  (∀ (n d : Nat) (L : List (Option iV)) (st : List iV) (h : iH) (Q : Option iV → iH → Prop), G sp sc [] d mX10_takeTurn (n + 1) 61 L st h Q = (match ld L 0 with | some (.inr (.inr (r + 1))) => G sp sc [] d mX10_takeTurn n 62 L (.inr (.inr (r + 1)) :: st) h Q | _ => False)) ∧
  (∀ (n d : Nat) (L : List (Option iV)) (r : List iV) (m : Nat) (h : iH) (Q : Option iV → iH → Prop), G sp sc [] d mX10_takeTurn (n + 1) 62 L (.inr (.inr (m + 2)) :: r) h Q = (match h.1[m]? with | some (.inl (ci, fs)) => (match lkF 10 15 ci with | some k => (match fs[k]? with | some v => G sp sc [] d mX10_takeTurn n 65 L (v :: r) h Q | none => False) | none => False) | _ => False)) ∧
  (∀ (n d : Nat) (L : List (Option iV)) (st : List iV) (h : iH) (Q : Option iV → iH → Prop), G sp sc [] d mX10_takeTurn (n + 1) 65 L st h Q = G sp sc [] d mX10_takeTurn n 66 L (.inl 1 :: st) h Q) ∧
  (∀ (n d : Nat) (L : List (Option iV)) (st : List iV) (h : iH) (Q : Option iV → iH → Prop), G sp sc [] d mX10_takeTurn (n + 1) 66 L st h Q = (match ld L 3 with | some (.inl x) => G sp sc [] d mX10_takeTurn n 67 L (.inl x :: st) h Q | _ => False)) ∧
  (∀ (n d : Nat) (L : List (Option iV)) (r : List iV) (z0 : iV) (z1 : iV) (h : iH) (Q : Option iV → iH → Prop), G sp sc [] (d + 1) mX10_takeTurn (n + 1) 67 L (z1 :: z0 :: r) h Q = (cs r ≤ 8 ∧ Call sp sc d mX8_place [z0, z1] h (fun q h1 => GC sp sc [] (d + 1) mX10_takeTurn n 70 L q r h h1 Q))) ∧
  (∀ (n d : Nat) (L : List (Option iV)) (st : List iV) (h : iH) (Q : Option iV → iH → Prop), G sp sc [] d mX10_takeTurn (n + 1) 70 L st h Q = G sp sc [] d mX10_takeTurn n 71 L (.inl 1 :: st) h Q) ∧
  (∀ (n d : Nat) (L : List (Option iV)) (r : List iV) (v : Int) (j : Int) (m : Nat) (h : iH) (Q : Option iV → iH → Prop), G sp sc [] d mX10_takeTurn (n + 1) 71 L (.inl v :: .inl j :: .inr (.inr (m + 2)) :: r) h Q = (match h.1[m]? with | some (.inr (.inl (2, xs))) => (inA j xs.length = true ∧ (v = 0 ∨ v = 1)) ∧ G sp sc [] d mX10_takeTurn n 72 L r (h.1.set m (.inr (.inl (2, xs.set j.toNat v))), h.2) Q | _ => False)) ∧
  (∀ (n d : Nat) (L : List (Option iV)) (st : List iV) (h : iH) (Q : Option iV → iH → Prop), G sp sc [] d mX10_takeTurn (n + 1) 72 L st h Q = (match ld L 0 with | some (.inr (.inr (r + 1))) => G sp sc [] d mX10_takeTurn n 73 L (.inr (.inr (r + 1)) :: st) h Q | _ => False)) ∧
  (∀ (n d : Nat) (L : List (Option iV)) (st : List iV) (h : iH) (Q : Option iV → iH → Prop), G sp sc [] d mX10_takeTurn (n + 1) 73 L st h Q = (match ld L 2 with | some (.inl x) => G sp sc [] d mX10_takeTurn n 74 L (.inl x :: st) h Q | _ => False)) ∧
  (∀ (n d : Nat) (L : List (Option iV)) (st : List iV) (h : iH) (Q : Option iV → iH → Prop), G sp sc [] d mX10_takeTurn (n + 1) 74 L st h Q = (match ld L 3 with | some (.inl x) => G sp sc [] d mX10_takeTurn n 75 L (.inl x :: st) h Q | _ => False)) ∧
  (∀ (n d : Nat) (L : List (Option iV)) (r : List iV) (m : Nat) (z0 : iV) (z1 : iV) (h : iH) (Q : Option iV → iH → Prop), G sp sc [] (d + 1) mX10_takeTurn (n + 1) 75 L (z1 :: z0 :: .inr (.inr (m + 2)) :: r) h Q = (match h.1[m]? with | some (.inl (ci, _)) => (match lkC 10 86 ci with | some (y1, n1, kd) => (n1 = 2 ∧ (kd = 2 ∨ kd = 3 ∨ kd = 8) ∧ cs r ≤ 8) ∧ Call sp sc d y1 [.inr (.inr (m + 2)), z0, z1] h (fun q h1 => GC sp sc [] (d + 1) mX10_takeTurn n 78 L q r h h1 Q) | none => False) | _ => False)) ∧
  (∀ (n d : Nat) (L : List (Option iV)) (st : List iV) (h : iH) (Q : Option iV → iH → Prop), G sp sc [] d mX10_takeTurn (n + 1) 78 L st h Q = (match ld L 0 with | some (.inr (.inr (r + 1))) => G sp sc [] d mX10_takeTurn n 79 L (.inr (.inr (r + 1)) :: st) h Q | _ => False)) ∧
  (∀ (n d : Nat) (L : List (Option iV)) (st : List iV) (h : iH) (Q : Option iV → iH → Prop), G sp sc [] d mX10_takeTurn (n + 1) 79 L st h Q = (match ld L 2 with | some (.inl x) => G sp sc [] d mX10_takeTurn n 80 L (.inl x :: st) h Q | _ => False)) ∧
  (∀ (n d : Nat) (L : List (Option iV)) (st : List iV) (h : iH) (Q : Option iV → iH → Prop), G sp sc [] d mX10_takeTurn (n + 1) 80 L st h Q = (match ld L 3 with | some (.inl x) => G sp sc [] d mX10_takeTurn n 81 L (.inl x :: st) h Q | _ => False)) ∧
  (∀ (n d : Nat) (L : List (Option iV)) (r : List iV) (m : Nat) (z0 : iV) (z1 : iV) (h : iH) (Q : Option iV → iH → Prop), G sp sc [] (d + 1) mX10_takeTurn (n + 1) 81 L (z1 :: z0 :: .inr (.inr (m + 2)) :: r) h Q = (match h.1[m]? with | some (.inl (ci, _)) => (match lkC 10 89 ci with | some (y1, n1, kd) => (n1 = 2 ∧ (kd = 2 ∨ kd = 3 ∨ kd = 8) ∧ cs r ≤ 8) ∧ Call sp sc d y1 [.inr (.inr (m + 2)), z0, z1] h (fun q h1 => GC sp sc [] (d + 1) mX10_takeTurn n 84 L q r h h1 Q) | none => False) | _ => False)) ∧
  (∀ (n d : Nat) (L : List (Option iV)) (st : List iV) (h : iH) (Q : Option iV → iH → Prop), G sp sc [] d mX10_takeTurn (n + 1) 84 L st h Q = (match ld L 2 with | some (.inl x) => G sp sc [] d mX10_takeTurn n 85 L (.inl x :: st) h Q | _ => False)) ∧
  (∀ (n d : Nat) (L : List (Option iV)) (st : List iV) (h : iH) (Q : Option iV → iH → Prop), G sp sc [] d mX10_takeTurn (n + 1) 85 L st h Q = (match ld L 0 with | some (.inr (.inr (r + 1))) => G sp sc [] d mX10_takeTurn n 86 L (.inr (.inr (r + 1)) :: st) h Q | _ => False)) ∧
  (∀ (n d : Nat) (L : List (Option iV)) (r : List iV) (m : Nat) (h : iH) (Q : Option iV → iH → Prop), G sp sc [] d mX10_takeTurn (n + 1) 86 L (.inr (.inr (m + 2)) :: r) h Q = (match h.1[m]? with | some (.inl (ci, fs)) => (match lkF 10 25 ci with | some k => (match fs[k]? with | some v => G sp sc [] d mX10_takeTurn n 89 L (v :: r) h Q | none => False) | none => False) | _ => False)) ∧
  (∀ (n d : Nat) (L : List (Option iV)) (r : List iV) (m : Nat) (h : iH) (Q : Option iV → iH → Prop), G sp sc [] d mX10_takeTurn (n + 1) 89 L (.inr (.inr (m + 2)) :: r) h Q = (match h.1[m]? with | some (.inl (ci, fs)) => (match lkF 10 92 ci with | some k => (match fs[k]? with | some v => G sp sc [] d mX10_takeTurn n 92 L (v :: r) h Q | none => False) | none => False) | _ => False)) ∧
  (∀ (n d : Nat) (L : List (Option iV)) (st : List iV) (h : iH) (Q : Option iV → iH → Prop), G sp sc [] d mX10_takeTurn (n + 1) 92 L st h Q = (match ld L 1 with | some (.inl x) => G sp sc [] d mX10_takeTurn n 93 L (.inl x :: st) h Q | _ => False)) ∧
  (∀ (n d : Nat) (L : List (Option iV)) (r : List iV) (j : Int) (m : Nat) (h : iH) (Q : Option iV → iH → Prop), G sp sc [] d mX10_takeTurn (n + 1) 93 L (.inl j :: .inr (.inr (m + 2)) :: r) h Q = (match h.1[m]? with | some (.inr (.inl (0, xs))) => inA j xs.length = true ∧ G sp sc [] d mX10_takeTurn n 94 L (.inl (xs.getD j.toNat 0) :: r) h Q | _ => False)) ∧
  (∀ (n d : Nat) (L : List (Option iV)) (a : Int) (b : Int) (r : List iV) (h : iH) (Q : Option iV → iH → Prop), G sp sc [] d mX10_takeTurn (n + 1) 94 L (.inl b :: .inl a :: r) h Q = ((inI a = true ∧ inI b = true) ∧ (¬ a = b → G sp sc [] d mX10_takeTurn n 114 L r h Q) ∧ (¬ (¬ a = b) → G sp sc [] d mX10_takeTurn n 97 L r h Q))) ∧
  (∀ (n d : Nat) (L : List (Option iV)) (st : List iV) (h : iH) (Q : Option iV → iH → Prop), G sp sc [] d mX10_takeTurn (n + 1) 97 L st h Q = (match ld L 3 with | some (.inl x) => G sp sc [] d mX10_takeTurn n 98 L (.inl x :: st) h Q | _ => False)) ∧
  (∀ (n d : Nat) (L : List (Option iV)) (st : List iV) (h : iH) (Q : Option iV → iH → Prop), G sp sc [] d mX10_takeTurn (n + 1) 98 L st h Q = (match ld L 0 with | some (.inr (.inr (r + 1))) => G sp sc [] d mX10_takeTurn n 99 L (.inr (.inr (r + 1)) :: st) h Q | _ => False)) ∧
  (∀ (n d : Nat) (L : List (Option iV)) (r : List iV) (m : Nat) (h : iH) (Q : Option iV → iH → Prop), G sp sc [] d mX10_takeTurn (n + 1) 99 L (.inr (.inr (m + 2)) :: r) h Q = (match h.1[m]? with | some (.inl (ci, fs)) => (match lkF 10 25 ci with | some k => (match fs[k]? with | some v => G sp sc [] d mX10_takeTurn n 102 L (v :: r) h Q | none => False) | none => False) | _ => False)) ∧
  (∀ (n d : Nat) (L : List (Option iV)) (r : List iV) (m : Nat) (h : iH) (Q : Option iV → iH → Prop), G sp sc [] d mX10_takeTurn (n + 1) 102 L (.inr (.inr (m + 2)) :: r) h Q = (match h.1[m]? with | some (.inl (ci, fs)) => (match lkF 10 95 ci with | some k => (match fs[k]? with | some v => G sp sc [] d mX10_takeTurn n 105 L (v :: r) h Q | none => False) | none => False) | _ => False)) ∧
  (∀ (n d : Nat) (L : List (Option iV)) (st : List iV) (h : iH) (Q : Option iV → iH → Prop), G sp sc [] d mX10_takeTurn (n + 1) 105 L st h Q = (match ld L 1 with | some (.inl x) => G sp sc [] d mX10_takeTurn n 106 L (.inl x :: st) h Q | _ => False)) ∧
  (∀ (n d : Nat) (L : List (Option iV)) (r : List iV) (j : Int) (m : Nat) (h : iH) (Q : Option iV → iH → Prop), G sp sc [] d mX10_takeTurn (n + 1) 106 L (.inl j :: .inr (.inr (m + 2)) :: r) h Q = (match h.1[m]? with | some (.inr (.inl (0, xs))) => inA j xs.length = true ∧ G sp sc [] d mX10_takeTurn n 107 L (.inl (xs.getD j.toNat 0) :: r) h Q | _ => False)) ∧
  (∀ (n d : Nat) (L : List (Option iV)) (a : Int) (b : Int) (r : List iV) (h : iH) (Q : Option iV → iH → Prop), G sp sc [] d mX10_takeTurn (n + 1) 107 L (.inl b :: .inl a :: r) h Q = ((inI a = true ∧ inI b = true) ∧ (¬ a = b → G sp sc [] d mX10_takeTurn n 114 L r h Q) ∧ (¬ (¬ a = b) → G sp sc [] d mX10_takeTurn n 110 L r h Q))) ∧
  (∀ (n d : Nat) (L : List (Option iV)) (st : List iV) (h : iH) (Q : Option iV → iH → Prop), G sp sc [] d mX10_takeTurn (n + 1) 110 L st h Q = G sp sc [] d mX10_takeTurn n 111 L (.inl 1 :: st) h Q) ∧
  (∀ (n d : Nat) (L : List (Option iV)) (st : List iV) (h : iH) (Q : Option iV → iH → Prop), G sp sc [] d mX10_takeTurn (n + 1) 111 L st h Q = G sp sc [] d mX10_takeTurn n 115 L st h Q) ∧
  (∀ (n d : Nat) (L : List (Option iV)) (st : List iV) (h : iH) (Q : Option iV → iH → Prop), G sp sc [] d mX10_takeTurn (n + 1) 114 L st h Q = G sp sc [] d mX10_takeTurn n 115 L (.inl 0 :: st) h Q) ∧
  (∀ (n d : Nat) (L : List (Option iV)) (r : List iV) (x : Int) (h : iH) (Q : Option iV → iH → Prop), G sp sc [] d mX10_takeTurn (n + 1) 115 L (.inl x :: r) h Q = (match st1 L 4 (.inl x) with | some L' => G sp sc [] d mX10_takeTurn n 117 L' r h Q | none => False)) ∧
  (∀ (n d : Nat) (L : List (Option iV)) (st : List iV) (h : iH) (Q : Option iV → iH → Prop), G sp sc [] d mX10_takeTurn (n + 1) 117 L st h Q = (match ld L 4 with | some (.inl x) => G sp sc [] d mX10_takeTurn n 119 L (.inl x :: st) h Q | _ => False)) ∧
  (∀ (n d : Nat) (L : List (Option iV)) (a : Int) (r : List iV) (h : iH) (Q : Option iV → iH → Prop), G sp sc [] d mX10_takeTurn (n + 1) 119 L (.inl a :: r) h Q = (inI a = true ∧ (¬ a = 0 → G sp sc [] d mX10_takeTurn n 144 L r h Q) ∧ (¬ (¬ a = 0) → G sp sc [] d mX10_takeTurn n 122 L r h Q))) ∧
  (∀ (n d : Nat) (L : List (Option iV)) (st : List iV) (h : iH) (Q : Option iV → iH → Prop), G sp sc [] d mX10_takeTurn (n + 1) 122 L st h Q = (match ld L 0 with | some (.inr (.inr (r + 1))) => G sp sc [] d mX10_takeTurn n 123 L (.inr (.inr (r + 1)) :: st) h Q | _ => False)) ∧
  (∀ (n d : Nat) (L : List (Option iV)) (r : List iV) (m : Nat) (h : iH) (Q : Option iV → iH → Prop), G sp sc [] d mX10_takeTurn (n + 1) 123 L (.inr (.inr (m + 2)) :: r) h Q = (match h.1[m]? with | some (.inl (ci, fs)) => (match lkF 10 25 ci with | some k => (match fs[k]? with | some v => G sp sc [] d mX10_takeTurn n 126 L (v :: r) h Q | none => False) | none => False) | _ => False)) ∧
  (∀ (n d : Nat) (L : List (Option iV)) (st : List iV) (h : iH) (Q : Option iV → iH → Prop), G sp sc [] d mX10_takeTurn (n + 1) 126 L st h Q = (match ld L 2 with | some (.inl x) => G sp sc [] d mX10_takeTurn n 127 L (.inl x :: st) h Q | _ => False)) ∧
  (∀ (n d : Nat) (L : List (Option iV)) (st : List iV) (h : iH) (Q : Option iV → iH → Prop), G sp sc [] d mX10_takeTurn (n + 1) 127 L st h Q = (match ld L 3 with | some (.inl x) => G sp sc [] d mX10_takeTurn n 128 L (.inl x :: st) h Q | _ => False)) ∧
  (∀ (n d : Nat) (L : List (Option iV)) (r : List iV) (m : Nat) (z0 : iV) (z1 : iV) (h : iH) (Q : Option iV → iH → Prop), G sp sc [] (d + 1) mX10_takeTurn (n + 1) 128 L (z1 :: z0 :: .inr (.inr (m + 2)) :: r) h Q = (match h.1[m]? with | some (.inl (ci, _)) => (match lkC 10 98 ci with | some (y1, n1, kd) => (n1 = 2 ∧ (kd = 2 ∨ kd = 3 ∨ kd = 8) ∧ cs r ≤ 8) ∧ Call sp sc d y1 [.inr (.inr (m + 2)), z0, z1] h (fun q h1 => GC sp sc [] (d + 1) mX10_takeTurn n 131 L q r h h1 Q) | none => False) | _ => False)) ∧
  (∀ (n d : Nat) (L : List (Option iV)) (a : Int) (r : List iV) (h : iH) (Q : Option iV → iH → Prop), G sp sc [] d mX10_takeTurn (n + 1) 131 L (.inl a :: r) h Q = (inI a = true ∧ (a = 0 → G sp sc [] d mX10_takeTurn n 144 L r h Q) ∧ (¬ (a = 0) → G sp sc [] d mX10_takeTurn n 134 L r h Q))) ∧
  (∀ (n d : Nat) (L : List (Option iV)) (st : List iV) (h : iH) (Q : Option iV → iH → Prop), G sp sc [] d mX10_takeTurn (n + 1) 134 L st h Q = (match ld L 0 with | some (.inr (.inr (r + 1))) => G sp sc [] d mX10_takeTurn n 135 L (.inr (.inr (r + 1)) :: st) h Q | _ => False)) ∧
  (∀ (n d : Nat) (L : List (Option iV)) (st : List iV) (h : iH) (Q : Option iV → iH → Prop), G sp sc [] d mX10_takeTurn (n + 1) 135 L st h Q = (match ld L 1 with | some (.inl x) => G sp sc [] d mX10_takeTurn n 136 L (.inl x :: st) h Q | _ => False)) ∧
  (∀ (n d : Nat) (L : List (Option iV)) (st : List iV) (h : iH) (Q : Option iV → iH → Prop), G sp sc [] d mX10_takeTurn (n + 1) 136 L st h Q = (match ld L 2 with | some (.inl x) => G sp sc [] d mX10_takeTurn n 137 L (.inl x :: st) h Q | _ => False)) ∧
  (∀ (n d : Nat) (L : List (Option iV)) (st : List iV) (h : iH) (Q : Option iV → iH → Prop), G sp sc [] d mX10_takeTurn (n + 1) 137 L st h Q = (match ld L 3 with | some (.inl x) => G sp sc [] d mX10_takeTurn n 138 L (.inl x :: st) h Q | _ => False)) ∧
  (∀ (n d : Nat) (L : List (Option iV)) (r : List iV) (m : Nat) (z0 : iV) (z1 : iV) (z2 : iV) (h : iH) (Q : Option iV → iH → Prop), G sp sc [] (d + 1) mX10_takeTurn (n + 1) 138 L (z2 :: z1 :: z0 :: .inr (.inr (m + 2)) :: r) h Q = (match h.1[m]? with | some (.inl (ci, _)) => (match lkC 10 101 ci with | some (y1, n1, kd) => (n1 = 3 ∧ (kd = 2 ∨ kd = 3 ∨ kd = 8) ∧ cs r ≤ 8) ∧ Call sp sc d y1 [.inr (.inr (m + 2)), z0, z1, z2] h (fun q h1 => GC sp sc [] (d + 1) mX10_takeTurn n 141 L q r h h1 Q) | none => False) | _ => False)) ∧
  (∀ (n d : Nat) (L : List (Option iV)) (st : List iV) (h : iH) (Q : Option iV → iH → Prop), G sp sc [] d mX10_takeTurn (n + 1) 141 L st h Q = G sp sc [] d mX10_takeTurn n 149 L st h Q) ∧
  (∀ (n d : Nat) (L : List (Option iV)) (st : List iV) (h : iH) (Q : Option iV → iH → Prop), G sp sc [] d mX10_takeTurn (n + 1) 144 L st h Q = (match ld L 0 with | some (.inr (.inr (r + 1))) => G sp sc [] d mX10_takeTurn n 145 L (.inr (.inr (r + 1)) :: st) h Q | _ => False)) ∧
  (∀ (n d : Nat) (L : List (Option iV)) (st : List iV) (h : iH) (Q : Option iV → iH → Prop), G sp sc [] d mX10_takeTurn (n + 1) 145 L st h Q = (match ld L 1 with | some (.inl x) => G sp sc [] d mX10_takeTurn n 146 L (.inl x :: st) h Q | _ => False)) ∧
  (∀ (n d : Nat) (L : List (Option iV)) (r : List iV) (m : Nat) (z0 : iV) (h : iH) (Q : Option iV → iH → Prop), G sp sc [] (d + 1) mX10_takeTurn (n + 1) 146 L (z0 :: .inr (.inr (m + 2)) :: r) h Q = (match h.1[m]? with | some (.inl (ci, _)) => (match lkC 10 105 ci with | some (y1, n1, kd) => (n1 = 1 ∧ (kd = 2 ∨ kd = 3 ∨ kd = 8) ∧ cs r ≤ 8) ∧ Call sp sc d y1 [.inr (.inr (m + 2)), z0] h (fun q h1 => GC sp sc [] (d + 1) mX10_takeTurn n 149 L q r h h1 Q) | none => False) | _ => False)) ∧
  (∀ (n d : Nat) (L : List (Option iV)) (st : List iV) (h : iH) (Q : Option iV → iH → Prop), G sp sc [] d mX10_takeTurn (n + 1) 149 L st h Q = G sp sc [] d mX10_takeTurn n 150 L (.inl 1 :: st) h Q) ∧
  (∀ (n d : Nat) (L : List (Option iV)) (a : Int) (h : iH) (Q : Option iV → iH → Prop), G sp sc [] d mX10_takeTurn (n + 1) 150 L [.inl a] h Q = ((a = 0 ∨ a = 1) ∧ Q (some (.inl a)) h)) ∧
  lkC 10 101 10 = some (mX10_bindBySlip, 3, 2) ∧
  lkC 10 105 10 = some (mX10_doDeed, 1, 2) ∧
  lkC 10 75 8 = some (mX8_doer, 2, 2) ∧
  lkC 10 79 10 = some (mX10_isTaken, 2, 2) ∧
  lkC 10 86 10 = some (mX10_meet, 2, 2) ∧
  lkC 10 89 10 = some (mX10_sulkOver, 2, 2) ∧
  lkC 10 98 8 = some (mX8_likeAboveSlip, 2, 2) ∧
  lkF 10 15 10 = some 2 ∧
  lkF 10 19 10 = some 3 ∧
  lkF 10 25 10 = some 0 ∧
  lkF 10 92 8 = some 6 ∧
  lkF 10 95 8 = some 7 := ⟨by intros; exact G_at (by decide +kernel : fetch mX10_takeTurn 0 = some (.aload_n 0)),
  by intros; exact G_own (by decide +kernel : fetch mX10_takeTurn 1 = some (.getfield 25)) (by decide +kernel),
  by intros; exact G_at (by decide +kernel : fetch mX10_takeTurn 4 = some (.iconst 0)),
  by intros; exact G_at (by decide +kernel : fetch mX10_takeTurn 5 = some (.iload_n 1)),
  by intros; exact G_callV (by decide +kernel : fetch mX10_takeTurn 6 = some (.invokevirtual 75)) (by decide +kernel) (by decide +kernel) rfl,
  by intros; exact G_at (by decide +kernel : fetch mX10_takeTurn 9 = some (.istore_n 2)),
  by intros; exact G_at (by decide +kernel : fetch mX10_takeTurn 10 = some (.aload_n 0)),
  by intros; exact G_own (by decide +kernel : fetch mX10_takeTurn 11 = some (.getfield 25)) (by decide +kernel),
  by intros; exact G_at (by decide +kernel : fetch mX10_takeTurn 14 = some (.iconst 1)),
  by intros; exact G_at (by decide +kernel : fetch mX10_takeTurn 15 = some (.iload_n 1)),
  by intros; exact G_callV (by decide +kernel : fetch mX10_takeTurn 16 = some (.invokevirtual 75)) (by decide +kernel) (by decide +kernel) rfl,
  by intros; exact G_at (by decide +kernel : fetch mX10_takeTurn 19 = some (.istore_n 3)),
  by intros; exact G_at (by decide +kernel : fetch mX10_takeTurn 20 = some (.aload_n 0)),
  by intros; exact G_at (by decide +kernel : fetch mX10_takeTurn 21 = some (.iconst 0)),
  by intros; exact G_at (by decide +kernel : fetch mX10_takeTurn 22 = some (.iload_n 2)),
  by intros; exact G_callV (by decide +kernel : fetch mX10_takeTurn 23 = some (.invokevirtual 79)) (by decide +kernel) (by decide +kernel) rfl,
  by intros; exact G_at (by decide +kernel : fetch mX10_takeTurn 26 = some (.ifCond .ne 12)),
  by intros; exact G_at (by decide +kernel : fetch mX10_takeTurn 29 = some (.aload_n 0)),
  by intros; exact G_at (by decide +kernel : fetch mX10_takeTurn 30 = some (.iconst 1)),
  by intros; exact G_at (by decide +kernel : fetch mX10_takeTurn 31 = some (.iload_n 3)),
  by intros; exact G_callV (by decide +kernel : fetch mX10_takeTurn 32 = some (.invokevirtual 79)) (by decide +kernel) (by decide +kernel) rfl,
  by intros; exact G_at (by decide +kernel : fetch mX10_takeTurn 35 = some (.ifCond .eq 15)),
  by intros; exact G_at (by decide +kernel : fetch mX10_takeTurn 38 = some (.aload_n 0)),
  by intros; exact G_own (by decide +kernel : fetch mX10_takeTurn 39 = some (.getfield 19)) (by decide +kernel),
  by intros; exact G_at (by decide +kernel : fetch mX10_takeTurn 42 = some (.iload_n 1)),
  by intros; exact G_at (by decide +kernel : fetch mX10_takeTurn 43 = some (.dup2)),
  by intros; exact G_at (by decide +kernel : fetch mX10_takeTurn 44 = some (.iaload)),
  by intros; exact G_at (by decide +kernel : fetch mX10_takeTurn 45 = some (.iconst 1)),
  by intros; exact G_at (by decide +kernel : fetch mX10_takeTurn 46 = some (.iadd)),
  by intros; exact G_at (by decide +kernel : fetch mX10_takeTurn 47 = some (.iastore)),
  by intros; exact G_at (by decide +kernel : fetch mX10_takeTurn 48 = some (.iconst 0)),
  by intros; exact G_retz (by decide +kernel : fetch mX10_takeTurn 49 = some (.ireturn)) (by decide +kernel),
  by intros; exact G_at (by decide +kernel : fetch mX10_takeTurn 50 = some (.aload_n 0)),
  by intros; exact G_own (by decide +kernel : fetch mX10_takeTurn 51 = some (.getfield 15)) (by decide +kernel),
  by intros; exact G_at (by decide +kernel : fetch mX10_takeTurn 54 = some (.iconst 0)),
  by intros; exact G_at (by decide +kernel : fetch mX10_takeTurn 55 = some (.iload_n 2)),
  by intros; exact G_callS (k := 2) (kd := 0) (by decide +kernel : fetch mX10_takeTurn 56 = some (.invokestatic 83)) (by decide +kernel) (by decide +kernel) (by decide +kernel) rfl (by decide),
  by intros; exact G_at (by decide +kernel : fetch mX10_takeTurn 59 = some (.iconst 1)),
  by intros; exact G_at (by decide +kernel : fetch mX10_takeTurn 60 = some (.bastore)),
  by intros; exact G_at (by decide +kernel : fetch mX10_takeTurn 61 = some (.aload_n 0)),
  by intros; exact G_own (by decide +kernel : fetch mX10_takeTurn 62 = some (.getfield 15)) (by decide +kernel),
  by intros; exact G_at (by decide +kernel : fetch mX10_takeTurn 65 = some (.iconst 1)),
  by intros; exact G_at (by decide +kernel : fetch mX10_takeTurn 66 = some (.iload_n 3)),
  by intros; exact G_callS (k := 2) (kd := 0) (by decide +kernel : fetch mX10_takeTurn 67 = some (.invokestatic 83)) (by decide +kernel) (by decide +kernel) (by decide +kernel) rfl (by decide),
  by intros; exact G_at (by decide +kernel : fetch mX10_takeTurn 70 = some (.iconst 1)),
  by intros; exact G_at (by decide +kernel : fetch mX10_takeTurn 71 = some (.bastore)),
  by intros; exact G_at (by decide +kernel : fetch mX10_takeTurn 72 = some (.aload_n 0)),
  by intros; exact G_at (by decide +kernel : fetch mX10_takeTurn 73 = some (.iload_n 2)),
  by intros; exact G_at (by decide +kernel : fetch mX10_takeTurn 74 = some (.iload_n 3)),
  by intros; exact G_callV (by decide +kernel : fetch mX10_takeTurn 75 = some (.invokevirtual 86)) (by decide +kernel) (by decide +kernel) rfl,
  by intros; exact G_at (by decide +kernel : fetch mX10_takeTurn 78 = some (.aload_n 0)),
  by intros; exact G_at (by decide +kernel : fetch mX10_takeTurn 79 = some (.iload_n 2)),
  by intros; exact G_at (by decide +kernel : fetch mX10_takeTurn 80 = some (.iload_n 3)),
  by intros; exact G_callV (by decide +kernel : fetch mX10_takeTurn 81 = some (.invokevirtual 89)) (by decide +kernel) (by decide +kernel) rfl,
  by intros; exact G_at (by decide +kernel : fetch mX10_takeTurn 84 = some (.iload_n 2)),
  by intros; exact G_at (by decide +kernel : fetch mX10_takeTurn 85 = some (.aload_n 0)),
  by intros; exact G_own (by decide +kernel : fetch mX10_takeTurn 86 = some (.getfield 25)) (by decide +kernel),
  by intros; exact G_own (by decide +kernel : fetch mX10_takeTurn 89 = some (.getfield 92)) (by decide +kernel),
  by intros; exact G_at (by decide +kernel : fetch mX10_takeTurn 92 = some (.iload_n 1)),
  by intros; exact G_at (by decide +kernel : fetch mX10_takeTurn 93 = some (.iaload)),
  by intros; exact G_at (by decide +kernel : fetch mX10_takeTurn 94 = some (.if_icmp .ne 20)),
  by intros; exact G_at (by decide +kernel : fetch mX10_takeTurn 97 = some (.iload_n 3)),
  by intros; exact G_at (by decide +kernel : fetch mX10_takeTurn 98 = some (.aload_n 0)),
  by intros; exact G_own (by decide +kernel : fetch mX10_takeTurn 99 = some (.getfield 25)) (by decide +kernel),
  by intros; exact G_own (by decide +kernel : fetch mX10_takeTurn 102 = some (.getfield 95)) (by decide +kernel),
  by intros; exact G_at (by decide +kernel : fetch mX10_takeTurn 105 = some (.iload_n 1)),
  by intros; exact G_at (by decide +kernel : fetch mX10_takeTurn 106 = some (.iaload)),
  by intros; exact G_at (by decide +kernel : fetch mX10_takeTurn 107 = some (.if_icmp .ne 7)),
  by intros; exact G_at (by decide +kernel : fetch mX10_takeTurn 110 = some (.iconst 1)),
  by intros; exact G_at (by decide +kernel : fetch mX10_takeTurn 111 = some (.goto 4)),
  by intros; exact G_at (by decide +kernel : fetch mX10_takeTurn 114 = some (.iconst 0)),
  by intros; exact G_at (by decide +kernel : fetch mX10_takeTurn 115 = some (.istore 4)),
  by intros; exact G_at (by decide +kernel : fetch mX10_takeTurn 117 = some (.iload 4)),
  by intros; exact G_at (by decide +kernel : fetch mX10_takeTurn 119 = some (.ifCond .ne 25)),
  by intros; exact G_at (by decide +kernel : fetch mX10_takeTurn 122 = some (.aload_n 0)),
  by intros; exact G_own (by decide +kernel : fetch mX10_takeTurn 123 = some (.getfield 25)) (by decide +kernel),
  by intros; exact G_at (by decide +kernel : fetch mX10_takeTurn 126 = some (.iload_n 2)),
  by intros; exact G_at (by decide +kernel : fetch mX10_takeTurn 127 = some (.iload_n 3)),
  by intros; exact G_callV (by decide +kernel : fetch mX10_takeTurn 128 = some (.invokevirtual 98)) (by decide +kernel) (by decide +kernel) rfl,
  by intros; exact G_at (by decide +kernel : fetch mX10_takeTurn 131 = some (.ifCond .eq 13)),
  by intros; exact G_at (by decide +kernel : fetch mX10_takeTurn 134 = some (.aload_n 0)),
  by intros; exact G_at (by decide +kernel : fetch mX10_takeTurn 135 = some (.iload_n 1)),
  by intros; exact G_at (by decide +kernel : fetch mX10_takeTurn 136 = some (.iload_n 2)),
  by intros; exact G_at (by decide +kernel : fetch mX10_takeTurn 137 = some (.iload_n 3)),
  by intros; exact G_callV (by decide +kernel : fetch mX10_takeTurn 138 = some (.invokevirtual 101)) (by decide +kernel) (by decide +kernel) rfl,
  by intros; exact G_at (by decide +kernel : fetch mX10_takeTurn 141 = some (.goto 8)),
  by intros; exact G_at (by decide +kernel : fetch mX10_takeTurn 144 = some (.aload_n 0)),
  by intros; exact G_at (by decide +kernel : fetch mX10_takeTurn 145 = some (.iload_n 1)),
  by intros; exact G_callV (by decide +kernel : fetch mX10_takeTurn 146 = some (.invokevirtual 105)) (by decide +kernel) (by decide +kernel) rfl,
  by intros; exact G_at (by decide +kernel : fetch mX10_takeTurn 149 = some (.iconst 1)),
  by intros; exact G_retz (by decide +kernel : fetch mX10_takeTurn 150 = some (.ireturn)) (by decide +kernel),
  by decide +kernel,
  by decide +kernel,
  by decide +kernel,
  by decide +kernel,
  by decide +kernel,
  by decide +kernel,
  by decide +kernel,
  by decide +kernel,
  by decide +kernel,
  by decide +kernel,
  by decide +kernel,
  by decide +kernel⟩
theorem gX10_isTaken : (∀ (n d : Nat) (L : List (Option iV)) (st : List iV) (h : iH) (Q : Option iV → iH → Prop), G sp sc [] d mX10_isTaken (n + 1) 0 L st h Q = (match ld L 0 with | some (.inr (.inr (r + 1))) => G sp sc [] d mX10_isTaken n 1 L (.inr (.inr (r + 1)) :: st) h Q | _ => False)) ∧
  (∀ (n d : Nat) (L : List (Option iV)) (r : List iV) (m : Nat) (h : iH) (Q : Option iV → iH → Prop), G sp sc [] d mX10_isTaken (n + 1) 1 L (.inr (.inr (m + 2)) :: r) h Q = (match h.1[m]? with | some (.inl (ci, fs)) => (match lkF 10 25 ci with | some k => (match fs[k]? with | some v => G sp sc [] d mX10_isTaken n 4 L (v :: r) h Q | none => False) | none => False) | _ => False)) ∧
  (∀ (n d : Nat) (L : List (Option iV)) (st : List iV) (h : iH) (Q : Option iV → iH → Prop), G sp sc [] d mX10_isTaken (n + 1) 4 L st h Q = (match ld L 1 with | some (.inl x) => G sp sc [] d mX10_isTaken n 5 L (.inl x :: st) h Q | _ => False)) ∧
  (∀ (n d : Nat) (L : List (Option iV)) (st : List iV) (h : iH) (Q : Option iV → iH → Prop), G sp sc [] d mX10_isTaken (n + 1) 5 L st h Q = (match ld L 2 with | some (.inl x) => G sp sc [] d mX10_isTaken n 6 L (.inl x :: st) h Q | _ => False)) ∧
  (∀ (n d : Nat) (L : List (Option iV)) (r : List iV) (m : Nat) (z0 : iV) (z1 : iV) (h : iH) (Q : Option iV → iH → Prop), G sp sc [] (d + 1) mX10_isTaken (n + 1) 6 L (z1 :: z0 :: .inr (.inr (m + 2)) :: r) h Q = (match h.1[m]? with | some (.inl (ci, _)) => (match lkC 10 108 ci with | some (y1, n1, kd) => (n1 = 2 ∧ (kd = 2 ∨ kd = 3 ∨ kd = 8) ∧ cs r ≤ 8) ∧ Call sp sc d y1 [.inr (.inr (m + 2)), z0, z1] h (fun q h1 => GC sp sc [] (d + 1) mX10_isTaken n 9 L q r h h1 Q) | none => False) | _ => False)) ∧
  (∀ (n d : Nat) (L : List (Option iV)) (a : Int) (r : List iV) (h : iH) (Q : Option iV → iH → Prop), G sp sc [] d mX10_isTaken (n + 1) 9 L (.inl a :: r) h Q = (inI a = true ∧ (¬ a = 0 → G sp sc [] d mX10_isTaken n 25 L r h Q) ∧ (¬ (¬ a = 0) → G sp sc [] d mX10_isTaken n 12 L r h Q))) ∧
  (∀ (n d : Nat) (L : List (Option iV)) (st : List iV) (h : iH) (Q : Option iV → iH → Prop), G sp sc [] d mX10_isTaken (n + 1) 12 L st h Q = (match ld L 0 with | some (.inr (.inr (r + 1))) => G sp sc [] d mX10_isTaken n 13 L (.inr (.inr (r + 1)) :: st) h Q | _ => False)) ∧
  (∀ (n d : Nat) (L : List (Option iV)) (r : List iV) (m : Nat) (h : iH) (Q : Option iV → iH → Prop), G sp sc [] d mX10_isTaken (n + 1) 13 L (.inr (.inr (m + 2)) :: r) h Q = (match h.1[m]? with | some (.inl (ci, fs)) => (match lkF 10 15 ci with | some k => (match fs[k]? with | some v => G sp sc [] d mX10_isTaken n 16 L (v :: r) h Q | none => False) | none => False) | _ => False)) ∧
  (∀ (n d : Nat) (L : List (Option iV)) (st : List iV) (h : iH) (Q : Option iV → iH → Prop), G sp sc [] d mX10_isTaken (n + 1) 16 L st h Q = (match ld L 1 with | some (.inl x) => G sp sc [] d mX10_isTaken n 17 L (.inl x :: st) h Q | _ => False)) ∧
  (∀ (n d : Nat) (L : List (Option iV)) (st : List iV) (h : iH) (Q : Option iV → iH → Prop), G sp sc [] d mX10_isTaken (n + 1) 17 L st h Q = (match ld L 2 with | some (.inl x) => G sp sc [] d mX10_isTaken n 18 L (.inl x :: st) h Q | _ => False)) ∧
  (∀ (n d : Nat) (L : List (Option iV)) (r : List iV) (z0 : iV) (z1 : iV) (h : iH) (Q : Option iV → iH → Prop), G sp sc [] (d + 1) mX10_isTaken (n + 1) 18 L (z1 :: z0 :: r) h Q = (cs r ≤ 8 ∧ Call sp sc d mX8_place [z0, z1] h (fun q h1 => GC sp sc [] (d + 1) mX10_isTaken n 21 L q r h h1 Q))) ∧
  (∀ (n d : Nat) (L : List (Option iV)) (r : List iV) (j : Int) (m : Nat) (h : iH) (Q : Option iV → iH → Prop), G sp sc [] d mX10_isTaken (n + 1) 21 L (.inl j :: .inr (.inr (m + 2)) :: r) h Q = (match h.1[m]? with | some (.inr (.inl (2, xs))) => inA j xs.length = true ∧ G sp sc [] d mX10_isTaken n 22 L (.inl (xs.getD j.toNat 0) :: r) h Q | _ => False)) ∧
  (∀ (n d : Nat) (L : List (Option iV)) (a : Int) (r : List iV) (h : iH) (Q : Option iV → iH → Prop), G sp sc [] d mX10_isTaken (n + 1) 22 L (.inl a :: r) h Q = (inI a = true ∧ (a = 0 → G sp sc [] d mX10_isTaken n 29 L r h Q) ∧ (¬ (a = 0) → G sp sc [] d mX10_isTaken n 25 L r h Q))) ∧
  (∀ (n d : Nat) (L : List (Option iV)) (st : List iV) (h : iH) (Q : Option iV → iH → Prop), G sp sc [] d mX10_isTaken (n + 1) 25 L st h Q = G sp sc [] d mX10_isTaken n 26 L (.inl 1 :: st) h Q) ∧
  (∀ (n d : Nat) (L : List (Option iV)) (st : List iV) (h : iH) (Q : Option iV → iH → Prop), G sp sc [] d mX10_isTaken (n + 1) 26 L st h Q = G sp sc [] d mX10_isTaken n 30 L st h Q) ∧
  (∀ (n d : Nat) (L : List (Option iV)) (st : List iV) (h : iH) (Q : Option iV → iH → Prop), G sp sc [] d mX10_isTaken (n + 1) 29 L st h Q = G sp sc [] d mX10_isTaken n 30 L (.inl 0 :: st) h Q) ∧
  (∀ (n d : Nat) (L : List (Option iV)) (a : Int) (h : iH) (Q : Option iV → iH → Prop), G sp sc [] d mX10_isTaken (n + 1) 30 L [.inl a] h Q = ((a = 0 ∨ a = 1) ∧ Q (some (.inl a)) h)) ∧
  lkC 10 108 8 = some (mX8_isBound, 2, 2) ∧
  lkF 10 15 10 = some 2 ∧
  lkF 10 25 10 = some 0 := ⟨by intros; exact G_at (by decide +kernel : fetch mX10_isTaken 0 = some (.aload_n 0)),
  by intros; exact G_own (by decide +kernel : fetch mX10_isTaken 1 = some (.getfield 25)) (by decide +kernel),
  by intros; exact G_at (by decide +kernel : fetch mX10_isTaken 4 = some (.iload_n 1)),
  by intros; exact G_at (by decide +kernel : fetch mX10_isTaken 5 = some (.iload_n 2)),
  by intros; exact G_callV (by decide +kernel : fetch mX10_isTaken 6 = some (.invokevirtual 108)) (by decide +kernel) (by decide +kernel) rfl,
  by intros; exact G_at (by decide +kernel : fetch mX10_isTaken 9 = some (.ifCond .ne 16)),
  by intros; exact G_at (by decide +kernel : fetch mX10_isTaken 12 = some (.aload_n 0)),
  by intros; exact G_own (by decide +kernel : fetch mX10_isTaken 13 = some (.getfield 15)) (by decide +kernel),
  by intros; exact G_at (by decide +kernel : fetch mX10_isTaken 16 = some (.iload_n 1)),
  by intros; exact G_at (by decide +kernel : fetch mX10_isTaken 17 = some (.iload_n 2)),
  by intros; exact G_callS (k := 2) (kd := 0) (by decide +kernel : fetch mX10_isTaken 18 = some (.invokestatic 83)) (by decide +kernel) (by decide +kernel) (by decide +kernel) rfl (by decide),
  by intros; exact G_at (by decide +kernel : fetch mX10_isTaken 21 = some (.baload)),
  by intros; exact G_at (by decide +kernel : fetch mX10_isTaken 22 = some (.ifCond .eq 7)),
  by intros; exact G_at (by decide +kernel : fetch mX10_isTaken 25 = some (.iconst 1)),
  by intros; exact G_at (by decide +kernel : fetch mX10_isTaken 26 = some (.goto 4)),
  by intros; exact G_at (by decide +kernel : fetch mX10_isTaken 29 = some (.iconst 0)),
  by intros; exact G_retz (by decide +kernel : fetch mX10_isTaken 30 = some (.ireturn)) (by decide +kernel),
  by decide +kernel,
  by decide +kernel,
  by decide +kernel⟩
theorem gX10_meet : (∀ (n d : Nat) (L : List (Option iV)) (st : List iV) (h : iH) (Q : Option iV → iH → Prop), G sp sc [] d mX10_meet (n + 1) 0 L st h Q = (match ld L 0 with | some (.inr (.inr (r + 1))) => G sp sc [] d mX10_meet n 1 L (.inr (.inr (r + 1)) :: st) h Q | _ => False)) ∧
  (∀ (n d : Nat) (L : List (Option iV)) (r : List iV) (m : Nat) (h : iH) (Q : Option iV → iH → Prop), G sp sc [] d mX10_meet (n + 1) 1 L (.inr (.inr (m + 2)) :: r) h Q = (match h.1[m]? with | some (.inl (ci, fs)) => (match lkF 10 25 ci with | some k => (match fs[k]? with | some v => G sp sc [] d mX10_meet n 4 L (v :: r) h Q | none => False) | none => False) | _ => False)) ∧
  (∀ (n d : Nat) (L : List (Option iV)) (st : List iV) (h : iH) (Q : Option iV → iH → Prop), G sp sc [] d mX10_meet (n + 1) 4 L st h Q = (match ld L 1 with | some (.inl x) => G sp sc [] d mX10_meet n 5 L (.inl x :: st) h Q | _ => False)) ∧
  (∀ (n d : Nat) (L : List (Option iV)) (st : List iV) (h : iH) (Q : Option iV → iH → Prop), G sp sc [] d mX10_meet (n + 1) 5 L st h Q = (match ld L 2 with | some (.inl x) => G sp sc [] d mX10_meet n 6 L (.inl x :: st) h Q | _ => False)) ∧
  (∀ (n d : Nat) (L : List (Option iV)) (r : List iV) (m : Nat) (z0 : iV) (z1 : iV) (h : iH) (Q : Option iV → iH → Prop), G sp sc [] (d + 1) mX10_meet (n + 1) 6 L (z1 :: z0 :: .inr (.inr (m + 2)) :: r) h Q = (match h.1[m]? with | some (.inl (ci, _)) => (match lkC 10 111 ci with | some (y1, n1, kd) => (n1 = 2 ∧ (kd = 2 ∨ kd = 3 ∨ kd = 8) ∧ cs r ≤ 8) ∧ Call sp sc d y1 [.inr (.inr (m + 2)), z0, z1] h (fun q h1 => GC sp sc [] (d + 1) mX10_meet n 9 L q r h h1 Q) | none => False) | _ => False)) ∧
  (∀ (n d : Nat) (L : List (Option iV)) (r : List iV) (x : Int) (h : iH) (Q : Option iV → iH → Prop), G sp sc [] d mX10_meet (n + 1) 9 L (.inl x :: r) h Q = (match st1 L 3 (.inl x) with | some L' => G sp sc [] d mX10_meet n 10 L' r h Q | none => False)) ∧
  (∀ (n d : Nat) (L : List (Option iV)) (st : List iV) (h : iH) (Q : Option iV → iH → Prop), G sp sc [] d mX10_meet (n + 1) 10 L st h Q = (match ld L 0 with | some (.inr (.inr (r + 1))) => G sp sc [] d mX10_meet n 11 L (.inr (.inr (r + 1)) :: st) h Q | _ => False)) ∧
  (∀ (n d : Nat) (L : List (Option iV)) (r : List iV) (m : Nat) (h : iH) (Q : Option iV → iH → Prop), G sp sc [] d mX10_meet (n + 1) 11 L (.inr (.inr (m + 2)) :: r) h Q = (match h.1[m]? with | some (.inl (ci, fs)) => (match lkF 10 25 ci with | some k => (match fs[k]? with | some v => G sp sc [] d mX10_meet n 14 L (v :: r) h Q | none => False) | none => False) | _ => False)) ∧
  (∀ (n d : Nat) (L : List (Option iV)) (st : List iV) (h : iH) (Q : Option iV → iH → Prop), G sp sc [] d mX10_meet (n + 1) 14 L st h Q = G sp sc [] d mX10_meet n 15 L (.inl 0 :: st) h Q) ∧
  (∀ (n d : Nat) (L : List (Option iV)) (st : List iV) (h : iH) (Q : Option iV → iH → Prop), G sp sc [] d mX10_meet (n + 1) 15 L st h Q = (match ld L 1 with | some (.inl x) => G sp sc [] d mX10_meet n 16 L (.inl x :: st) h Q | _ => False)) ∧
  (∀ (n d : Nat) (L : List (Option iV)) (st : List iV) (h : iH) (Q : Option iV → iH → Prop), G sp sc [] d mX10_meet (n + 1) 16 L st h Q = (match ld L 2 with | some (.inl x) => G sp sc [] d mX10_meet n 17 L (.inl x :: st) h Q | _ => False)) ∧
  (∀ (n d : Nat) (L : List (Option iV)) (st : List iV) (h : iH) (Q : Option iV → iH → Prop), G sp sc [] d mX10_meet (n + 1) 17 L st h Q = (match ld L 0 with | some (.inr (.inr (r + 1))) => G sp sc [] d mX10_meet n 18 L (.inr (.inr (r + 1)) :: st) h Q | _ => False)) ∧
  (∀ (n d : Nat) (L : List (Option iV)) (r : List iV) (m : Nat) (h : iH) (Q : Option iV → iH → Prop), G sp sc [] d mX10_meet (n + 1) 18 L (.inr (.inr (m + 2)) :: r) h Q = (match h.1[m]? with | some (.inl (ci, fs)) => (match lkF 10 25 ci with | some k => (match fs[k]? with | some v => G sp sc [] d mX10_meet n 21 L (v :: r) h Q | none => False) | none => False) | _ => False)) ∧
  (∀ (n d : Nat) (L : List (Option iV)) (st : List iV) (h : iH) (Q : Option iV → iH → Prop), G sp sc [] d mX10_meet (n + 1) 21 L st h Q = G sp sc [] d mX10_meet n 22 L (.inl 0 :: st) h Q) ∧
  (∀ (n d : Nat) (L : List (Option iV)) (st : List iV) (h : iH) (Q : Option iV → iH → Prop), G sp sc [] d mX10_meet (n + 1) 22 L st h Q = (match ld L 1 with | some (.inl x) => G sp sc [] d mX10_meet n 23 L (.inl x :: st) h Q | _ => False)) ∧
  (∀ (n d : Nat) (L : List (Option iV)) (r : List iV) (m : Nat) (z0 : iV) (z1 : iV) (h : iH) (Q : Option iV → iH → Prop), G sp sc [] (d + 1) mX10_meet (n + 1) 23 L (z1 :: z0 :: .inr (.inr (m + 2)) :: r) h Q = (match h.1[m]? with | some (.inl (ci, _)) => (match lkC 10 114 ci with | some (y1, n1, kd) => (n1 = 2 ∧ (kd = 2 ∨ kd = 3 ∨ kd = 8) ∧ cs r ≤ 8) ∧ Call sp sc d y1 [.inr (.inr (m + 2)), z0, z1] h (fun q h1 => GC sp sc [] (d + 1) mX10_meet n 26 L q r h h1 Q) | none => False) | _ => False)) ∧
  (∀ (n d : Nat) (L : List (Option iV)) (st : List iV) (h : iH) (Q : Option iV → iH → Prop), G sp sc [] d mX10_meet (n + 1) 26 L st h Q = (match ld L 3 with | some (.inl x) => G sp sc [] d mX10_meet n 27 L (.inl x :: st) h Q | _ => False)) ∧
  (∀ (n d : Nat) (L : List (Option iV)) (r : List iV) (m : Nat) (z0 : iV) (h : iH) (Q : Option iV → iH → Prop), G sp sc [] (d + 1) mX10_meet (n + 1) 27 L (z0 :: .inr (.inr (m + 2)) :: r) h Q = (match h.1[m]? with | some (.inl (ci, _)) => (match lkC 10 118 ci with | some (y1, n1, kd) => (n1 = 1 ∧ (kd = 2 ∨ kd = 3 ∨ kd = 8) ∧ cs r ≤ 8) ∧ Call sp sc d y1 [.inr (.inr (m + 2)), z0] h (fun q h1 => GC sp sc [] (d + 1) mX10_meet n 30 L q r h h1 Q) | none => False) | _ => False)) ∧
  (∀ (n d : Nat) (L : List (Option iV)) (r : List iV) (m : Nat) (z0 : iV) (z1 : iV) (z2 : iV) (z3 : iV) (h : iH) (Q : Option iV → iH → Prop), G sp sc [] (d + 1) mX10_meet (n + 1) 30 L (z3 :: z2 :: z1 :: z0 :: .inr (.inr (m + 2)) :: r) h Q = (match h.1[m]? with | some (.inl (ci, _)) => (match lkC 10 124 ci with | some (y1, n1, kd) => (n1 = 4 ∧ (kd = 2 ∨ kd = 3 ∨ kd = 8) ∧ cs r ≤ 8) ∧ Call sp sc d y1 [.inr (.inr (m + 2)), z0, z1, z2, z3] h (fun q h1 => GC sp sc [] (d + 1) mX10_meet n 33 L q r h h1 Q) | none => False) | _ => False)) ∧
  (∀ (n d : Nat) (L : List (Option iV)) (st : List iV) (h : iH) (Q : Option iV → iH → Prop), G sp sc [] d mX10_meet (n + 1) 33 L st h Q = (match ld L 0 with | some (.inr (.inr (r + 1))) => G sp sc [] d mX10_meet n 34 L (.inr (.inr (r + 1)) :: st) h Q | _ => False)) ∧
  (∀ (n d : Nat) (L : List (Option iV)) (r : List iV) (m : Nat) (h : iH) (Q : Option iV → iH → Prop), G sp sc [] d mX10_meet (n + 1) 34 L (.inr (.inr (m + 2)) :: r) h Q = (match h.1[m]? with | some (.inl (ci, fs)) => (match lkF 10 25 ci with | some k => (match fs[k]? with | some v => G sp sc [] d mX10_meet n 37 L (v :: r) h Q | none => False) | none => False) | _ => False)) ∧
  (∀ (n d : Nat) (L : List (Option iV)) (st : List iV) (h : iH) (Q : Option iV → iH → Prop), G sp sc [] d mX10_meet (n + 1) 37 L st h Q = G sp sc [] d mX10_meet n 38 L (.inl 1 :: st) h Q) ∧
  (∀ (n d : Nat) (L : List (Option iV)) (st : List iV) (h : iH) (Q : Option iV → iH → Prop), G sp sc [] d mX10_meet (n + 1) 38 L st h Q = (match ld L 2 with | some (.inl x) => G sp sc [] d mX10_meet n 39 L (.inl x :: st) h Q | _ => False)) ∧
  (∀ (n d : Nat) (L : List (Option iV)) (st : List iV) (h : iH) (Q : Option iV → iH → Prop), G sp sc [] d mX10_meet (n + 1) 39 L st h Q = (match ld L 1 with | some (.inl x) => G sp sc [] d mX10_meet n 40 L (.inl x :: st) h Q | _ => False)) ∧
  (∀ (n d : Nat) (L : List (Option iV)) (st : List iV) (h : iH) (Q : Option iV → iH → Prop), G sp sc [] d mX10_meet (n + 1) 40 L st h Q = (match ld L 0 with | some (.inr (.inr (r + 1))) => G sp sc [] d mX10_meet n 41 L (.inr (.inr (r + 1)) :: st) h Q | _ => False)) ∧
  (∀ (n d : Nat) (L : List (Option iV)) (r : List iV) (m : Nat) (h : iH) (Q : Option iV → iH → Prop), G sp sc [] d mX10_meet (n + 1) 41 L (.inr (.inr (m + 2)) :: r) h Q = (match h.1[m]? with | some (.inl (ci, fs)) => (match lkF 10 25 ci with | some k => (match fs[k]? with | some v => G sp sc [] d mX10_meet n 44 L (v :: r) h Q | none => False) | none => False) | _ => False)) ∧
  (∀ (n d : Nat) (L : List (Option iV)) (st : List iV) (h : iH) (Q : Option iV → iH → Prop), G sp sc [] d mX10_meet (n + 1) 44 L st h Q = G sp sc [] d mX10_meet n 45 L (.inl 1 :: st) h Q) ∧
  (∀ (n d : Nat) (L : List (Option iV)) (st : List iV) (h : iH) (Q : Option iV → iH → Prop), G sp sc [] d mX10_meet (n + 1) 45 L st h Q = (match ld L 2 with | some (.inl x) => G sp sc [] d mX10_meet n 46 L (.inl x :: st) h Q | _ => False)) ∧
  (∀ (n d : Nat) (L : List (Option iV)) (r : List iV) (m : Nat) (z0 : iV) (z1 : iV) (h : iH) (Q : Option iV → iH → Prop), G sp sc [] (d + 1) mX10_meet (n + 1) 46 L (z1 :: z0 :: .inr (.inr (m + 2)) :: r) h Q = (match h.1[m]? with | some (.inl (ci, _)) => (match lkC 10 114 ci with | some (y1, n1, kd) => (n1 = 2 ∧ (kd = 2 ∨ kd = 3 ∨ kd = 8) ∧ cs r ≤ 8) ∧ Call sp sc d y1 [.inr (.inr (m + 2)), z0, z1] h (fun q h1 => GC sp sc [] (d + 1) mX10_meet n 49 L q r h h1 Q) | none => False) | _ => False)) ∧
  (∀ (n d : Nat) (L : List (Option iV)) (st : List iV) (h : iH) (Q : Option iV → iH → Prop), G sp sc [] d mX10_meet (n + 1) 49 L st h Q = (match ld L 3 with | some (.inl x) => G sp sc [] d mX10_meet n 50 L (.inl x :: st) h Q | _ => False)) ∧
  (∀ (n d : Nat) (L : List (Option iV)) (r : List iV) (m : Nat) (z0 : iV) (h : iH) (Q : Option iV → iH → Prop), G sp sc [] (d + 1) mX10_meet (n + 1) 50 L (z0 :: .inr (.inr (m + 2)) :: r) h Q = (match h.1[m]? with | some (.inl (ci, _)) => (match lkC 10 118 ci with | some (y1, n1, kd) => (n1 = 1 ∧ (kd = 2 ∨ kd = 3 ∨ kd = 8) ∧ cs r ≤ 8) ∧ Call sp sc d y1 [.inr (.inr (m + 2)), z0] h (fun q h1 => GC sp sc [] (d + 1) mX10_meet n 53 L q r h h1 Q) | none => False) | _ => False)) ∧
  (∀ (n d : Nat) (L : List (Option iV)) (r : List iV) (m : Nat) (z0 : iV) (z1 : iV) (z2 : iV) (z3 : iV) (h : iH) (Q : Option iV → iH → Prop), G sp sc [] (d + 1) mX10_meet (n + 1) 53 L (z3 :: z2 :: z1 :: z0 :: .inr (.inr (m + 2)) :: r) h Q = (match h.1[m]? with | some (.inl (ci, _)) => (match lkC 10 124 ci with | some (y1, n1, kd) => (n1 = 4 ∧ (kd = 2 ∨ kd = 3 ∨ kd = 8) ∧ cs r ≤ 8) ∧ Call sp sc d y1 [.inr (.inr (m + 2)), z0, z1, z2, z3] h (fun q h1 => GC sp sc [] (d + 1) mX10_meet n 56 L q r h h1 Q) | none => False) | _ => False)) ∧
  (∀ (n d : Nat) (L : List (Option iV))  (h : iH) (Q : Option iV → iH → Prop), G sp sc [] d mX10_meet (n + 1) 56 L [] h Q = Q none h) ∧
  lkC 10 111 8 = some (mX8_areOwn, 2, 2) ∧
  lkC 10 114 8 = some (mX8_natureOf, 2, 2) ∧
  lkC 10 118 0 = some (mX0_growth, 1, 3) ∧
  lkC 10 118 1 = some (mX1_growth, 1, 3) ∧
  lkC 10 118 3 = some (mX9_growth, 1, 3) ∧
  lkC 10 118 6 = some (mX6_growth, 1, 2) ∧
  lkC 10 118 7 = some (mX7_growth, 1, 3) ∧
  lkC 10 118 9 = some (mX9_growth, 1, 3) ∧
  lkC 10 124 8 = some (mX8_addLiking, 4, 2) ∧
  lkF 10 25 10 = some 0 := ⟨by intros; exact G_at (by decide +kernel : fetch mX10_meet 0 = some (.aload_n 0)),
  by intros; exact G_own (by decide +kernel : fetch mX10_meet 1 = some (.getfield 25)) (by decide +kernel),
  by intros; exact G_at (by decide +kernel : fetch mX10_meet 4 = some (.iload_n 1)),
  by intros; exact G_at (by decide +kernel : fetch mX10_meet 5 = some (.iload_n 2)),
  by intros; exact G_callV (by decide +kernel : fetch mX10_meet 6 = some (.invokevirtual 111)) (by decide +kernel) (by decide +kernel) rfl,
  by intros; exact G_at (by decide +kernel : fetch mX10_meet 9 = some (.istore_n 3)),
  by intros; exact G_at (by decide +kernel : fetch mX10_meet 10 = some (.aload_n 0)),
  by intros; exact G_own (by decide +kernel : fetch mX10_meet 11 = some (.getfield 25)) (by decide +kernel),
  by intros; exact G_at (by decide +kernel : fetch mX10_meet 14 = some (.iconst 0)),
  by intros; exact G_at (by decide +kernel : fetch mX10_meet 15 = some (.iload_n 1)),
  by intros; exact G_at (by decide +kernel : fetch mX10_meet 16 = some (.iload_n 2)),
  by intros; exact G_at (by decide +kernel : fetch mX10_meet 17 = some (.aload_n 0)),
  by intros; exact G_own (by decide +kernel : fetch mX10_meet 18 = some (.getfield 25)) (by decide +kernel),
  by intros; exact G_at (by decide +kernel : fetch mX10_meet 21 = some (.iconst 0)),
  by intros; exact G_at (by decide +kernel : fetch mX10_meet 22 = some (.iload_n 1)),
  by intros; exact G_callV (by decide +kernel : fetch mX10_meet 23 = some (.invokevirtual 114)) (by decide +kernel) (by decide +kernel) rfl,
  by intros; exact G_at (by decide +kernel : fetch mX10_meet 26 = some (.iload_n 3)),
  by intros; exact G_callV (by decide +kernel : fetch mX10_meet 27 = some (.invokevirtual 118)) (by decide +kernel) (by decide +kernel) rfl,
  by intros; exact G_callV (by decide +kernel : fetch mX10_meet 30 = some (.invokevirtual 124)) (by decide +kernel) (by decide +kernel) rfl,
  by intros; exact G_at (by decide +kernel : fetch mX10_meet 33 = some (.aload_n 0)),
  by intros; exact G_own (by decide +kernel : fetch mX10_meet 34 = some (.getfield 25)) (by decide +kernel),
  by intros; exact G_at (by decide +kernel : fetch mX10_meet 37 = some (.iconst 1)),
  by intros; exact G_at (by decide +kernel : fetch mX10_meet 38 = some (.iload_n 2)),
  by intros; exact G_at (by decide +kernel : fetch mX10_meet 39 = some (.iload_n 1)),
  by intros; exact G_at (by decide +kernel : fetch mX10_meet 40 = some (.aload_n 0)),
  by intros; exact G_own (by decide +kernel : fetch mX10_meet 41 = some (.getfield 25)) (by decide +kernel),
  by intros; exact G_at (by decide +kernel : fetch mX10_meet 44 = some (.iconst 1)),
  by intros; exact G_at (by decide +kernel : fetch mX10_meet 45 = some (.iload_n 2)),
  by intros; exact G_callV (by decide +kernel : fetch mX10_meet 46 = some (.invokevirtual 114)) (by decide +kernel) (by decide +kernel) rfl,
  by intros; exact G_at (by decide +kernel : fetch mX10_meet 49 = some (.iload_n 3)),
  by intros; exact G_callV (by decide +kernel : fetch mX10_meet 50 = some (.invokevirtual 118)) (by decide +kernel) (by decide +kernel) rfl,
  by intros; exact G_callV (by decide +kernel : fetch mX10_meet 53 = some (.invokevirtual 124)) (by decide +kernel) (by decide +kernel) rfl,
  by intros; exact G_retv (by decide +kernel : fetch mX10_meet 56 = some (.return_)) (by decide +kernel),
  by decide +kernel,
  by decide +kernel,
  by decide +kernel,
  by decide +kernel,
  by decide +kernel,
  by decide +kernel,
  by decide +kernel,
  by decide +kernel,
  by decide +kernel,
  by decide +kernel⟩
theorem gX10_sulkOver : (∀ (n d : Nat) (L : List (Option iV)) (st : List iV) (h : iH) (Q : Option iV → iH → Prop), G sp sc [2] d mX10_sulkOver (n + 1) 0 L st h Q = G sp sc [2] d mX10_sulkOver n 1 L (.inl 0 :: st) h Q) ∧
  (∀ (n d : Nat) (L : List (Option iV)) (r : List iV) (x : Int) (h : iH) (Q : Option iV → iH → Prop), G sp sc [2] d mX10_sulkOver (n + 1) 1 L (.inl x :: r) h Q = (match st1 L 3 (.inl x) with | some L' => Run sp sc d mX10_sulkOver 2 L' r h Q | none => False)) ∧
  (∀ (n d : Nat) (L : List (Option iV)) (st : List iV) (h : iH) (Q : Option iV → iH → Prop), G sp sc [2] d mX10_sulkOver (n + 1) 2 L st h Q = (match ld L 3 with | some (.inl x) => G sp sc [2] d mX10_sulkOver n 3 L (.inl x :: st) h Q | _ => False)) ∧
  (∀ (n d : Nat) (L : List (Option iV)) (st : List iV) (h : iH) (Q : Option iV → iH → Prop), G sp sc [2] d mX10_sulkOver (n + 1) 3 L st h Q = (match ld L 0 with | some (.inr (.inr (r + 1))) => G sp sc [2] d mX10_sulkOver n 4 L (.inr (.inr (r + 1)) :: st) h Q | _ => False)) ∧
  (∀ (n d : Nat) (L : List (Option iV)) (r : List iV) (m : Nat) (h : iH) (Q : Option iV → iH → Prop), G sp sc [2] d mX10_sulkOver (n + 1) 4 L (.inr (.inr (m + 2)) :: r) h Q = (match h.1[m]? with | some (.inl (ci, fs)) => (match lkF 10 25 ci with | some k => (match fs[k]? with | some v => G sp sc [2] d mX10_sulkOver n 7 L (v :: r) h Q | none => False) | none => False) | _ => False)) ∧
  (∀ (n d : Nat) (L : List (Option iV)) (r : List iV) (m : Nat) (h : iH) (Q : Option iV → iH → Prop), G sp sc [2] d mX10_sulkOver (n + 1) 7 L (.inr (.inr (m + 2)) :: r) h Q = (match h.1[m]? with | some (.inl (ci, fs)) => (match lkF 10 54 ci with | some k => (match fs[k]? with | some v => G sp sc [2] d mX10_sulkOver n 10 L (v :: r) h Q | none => False) | none => False) | _ => False)) ∧
  (∀ (n d : Nat) (L : List (Option iV)) (a : Int) (b : Int) (r : List iV) (h : iH) (Q : Option iV → iH → Prop), G sp sc [2] d mX10_sulkOver (n + 1) 10 L (.inl b :: .inl a :: r) h Q = ((inI a = true ∧ inI b = true) ∧ (b ≤ a → G sp sc [2] d mX10_sulkOver n 128 L r h Q) ∧ (¬ (b ≤ a) → G sp sc [2] d mX10_sulkOver n 13 L r h Q))) ∧
  (∀ (n d : Nat) (L : List (Option iV)) (st : List iV) (h : iH) (Q : Option iV → iH → Prop), G sp sc [2] d mX10_sulkOver (n + 1) 13 L st h Q = (match ld L 0 with | some (.inr (.inr (r + 1))) => G sp sc [2] d mX10_sulkOver n 14 L (.inr (.inr (r + 1)) :: st) h Q | _ => False)) ∧
  (∀ (n d : Nat) (L : List (Option iV)) (r : List iV) (m : Nat) (h : iH) (Q : Option iV → iH → Prop), G sp sc [2] d mX10_sulkOver (n + 1) 14 L (.inr (.inr (m + 2)) :: r) h Q = (match h.1[m]? with | some (.inl (ci, fs)) => (match lkF 10 25 ci with | some k => (match fs[k]? with | some v => G sp sc [2] d mX10_sulkOver n 17 L (v :: r) h Q | none => False) | none => False) | _ => False)) ∧
  (∀ (n d : Nat) (L : List (Option iV)) (st : List iV) (h : iH) (Q : Option iV → iH → Prop), G sp sc [2] d mX10_sulkOver (n + 1) 17 L st h Q = (match ld L 3 with | some (.inl x) => G sp sc [2] d mX10_sulkOver n 18 L (.inl x :: st) h Q | _ => False)) ∧
  (∀ (n d : Nat) (L : List (Option iV)) (r : List iV) (m : Nat) (z0 : iV) (h : iH) (Q : Option iV → iH → Prop), G sp sc [2] (d + 1) mX10_sulkOver (n + 1) 18 L (z0 :: .inr (.inr (m + 2)) :: r) h Q = (match h.1[m]? with | some (.inl (ci, _)) => (match lkC 10 64 ci with | some (y1, n1, kd) => (n1 = 1 ∧ (kd = 2 ∨ kd = 3 ∨ kd = 8) ∧ cs r ≤ 8) ∧ Call sp sc d y1 [.inr (.inr (m + 2)), z0] h (fun q h1 => GC sp sc [2] (d + 1) mX10_sulkOver n 21 L q r h h1 Q) | none => False) | _ => False)) ∧
  (∀ (n d : Nat) (L : List (Option iV)) (a : Int) (r : List iV) (h : iH) (Q : Option iV → iH → Prop), G sp sc [2] d mX10_sulkOver (n + 1) 21 L (.inl a :: r) h Q = (inI a = true ∧ (a = 0 → G sp sc [2] d mX10_sulkOver n 122 L r h Q) ∧ (¬ (a = 0) → G sp sc [2] d mX10_sulkOver n 24 L r h Q))) ∧
  (∀ (n d : Nat) (L : List (Option iV)) (st : List iV) (h : iH) (Q : Option iV → iH → Prop), G sp sc [2] d mX10_sulkOver (n + 1) 24 L st h Q = (match ld L 0 with | some (.inr (.inr (r + 1))) => G sp sc [2] d mX10_sulkOver n 25 L (.inr (.inr (r + 1)) :: st) h Q | _ => False)) ∧
  (∀ (n d : Nat) (L : List (Option iV)) (r : List iV) (m : Nat) (h : iH) (Q : Option iV → iH → Prop), G sp sc [2] d mX10_sulkOver (n + 1) 25 L (.inr (.inr (m + 2)) :: r) h Q = (match h.1[m]? with | some (.inl (ci, fs)) => (match lkF 10 25 ci with | some k => (match fs[k]? with | some v => G sp sc [2] d mX10_sulkOver n 28 L (v :: r) h Q | none => False) | none => False) | _ => False)) ∧
  (∀ (n d : Nat) (L : List (Option iV)) (r : List iV) (m : Nat) (h : iH) (Q : Option iV → iH → Prop), G sp sc [2] d mX10_sulkOver (n + 1) 28 L (.inr (.inr (m + 2)) :: r) h Q = (match h.1[m]? with | some (.inl (ci, fs)) => (match lkF 10 92 ci with | some k => (match fs[k]? with | some v => G sp sc [2] d mX10_sulkOver n 31 L (v :: r) h Q | none => False) | none => False) | _ => False)) ∧
  (∀ (n d : Nat) (L : List (Option iV)) (st : List iV) (h : iH) (Q : Option iV → iH → Prop), G sp sc [2] d mX10_sulkOver (n + 1) 31 L st h Q = (match ld L 3 with | some (.inl x) => G sp sc [2] d mX10_sulkOver n 32 L (.inl x :: st) h Q | _ => False)) ∧
  (∀ (n d : Nat) (L : List (Option iV)) (r : List iV) (j : Int) (m : Nat) (h : iH) (Q : Option iV → iH → Prop), G sp sc [2] d mX10_sulkOver (n + 1) 32 L (.inl j :: .inr (.inr (m + 2)) :: r) h Q = (match h.1[m]? with | some (.inr (.inl (0, xs))) => inA j xs.length = true ∧ G sp sc [2] d mX10_sulkOver n 33 L (.inl (xs.getD j.toNat 0) :: r) h Q | _ => False)) ∧
  (∀ (n d : Nat) (L : List (Option iV)) (r : List iV) (x : Int) (h : iH) (Q : Option iV → iH → Prop), G sp sc [2] d mX10_sulkOver (n + 1) 33 L (.inl x :: r) h Q = (match st1 L 4 (.inl x) with | some L' => G sp sc [2] d mX10_sulkOver n 35 L' r h Q | none => False)) ∧
  (∀ (n d : Nat) (L : List (Option iV)) (st : List iV) (h : iH) (Q : Option iV → iH → Prop), G sp sc [2] d mX10_sulkOver (n + 1) 35 L st h Q = (match ld L 0 with | some (.inr (.inr (r + 1))) => G sp sc [2] d mX10_sulkOver n 36 L (.inr (.inr (r + 1)) :: st) h Q | _ => False)) ∧
  (∀ (n d : Nat) (L : List (Option iV)) (r : List iV) (m : Nat) (h : iH) (Q : Option iV → iH → Prop), G sp sc [2] d mX10_sulkOver (n + 1) 36 L (.inr (.inr (m + 2)) :: r) h Q = (match h.1[m]? with | some (.inl (ci, fs)) => (match lkF 10 25 ci with | some k => (match fs[k]? with | some v => G sp sc [2] d mX10_sulkOver n 39 L (v :: r) h Q | none => False) | none => False) | _ => False)) ∧
  (∀ (n d : Nat) (L : List (Option iV)) (r : List iV) (m : Nat) (h : iH) (Q : Option iV → iH → Prop), G sp sc [2] d mX10_sulkOver (n + 1) 39 L (.inr (.inr (m + 2)) :: r) h Q = (match h.1[m]? with | some (.inl (ci, fs)) => (match lkF 10 95 ci with | some k => (match fs[k]? with | some v => G sp sc [2] d mX10_sulkOver n 42 L (v :: r) h Q | none => False) | none => False) | _ => False)) ∧
  (∀ (n d : Nat) (L : List (Option iV)) (st : List iV) (h : iH) (Q : Option iV → iH → Prop), G sp sc [2] d mX10_sulkOver (n + 1) 42 L st h Q = (match ld L 3 with | some (.inl x) => G sp sc [2] d mX10_sulkOver n 43 L (.inl x :: st) h Q | _ => False)) ∧
  (∀ (n d : Nat) (L : List (Option iV)) (r : List iV) (j : Int) (m : Nat) (h : iH) (Q : Option iV → iH → Prop), G sp sc [2] d mX10_sulkOver (n + 1) 43 L (.inl j :: .inr (.inr (m + 2)) :: r) h Q = (match h.1[m]? with | some (.inr (.inl (0, xs))) => inA j xs.length = true ∧ G sp sc [2] d mX10_sulkOver n 44 L (.inl (xs.getD j.toNat 0) :: r) h Q | _ => False)) ∧
  (∀ (n d : Nat) (L : List (Option iV)) (r : List iV) (x : Int) (h : iH) (Q : Option iV → iH → Prop), G sp sc [2] d mX10_sulkOver (n + 1) 44 L (.inl x :: r) h Q = (match st1 L 5 (.inl x) with | some L' => G sp sc [2] d mX10_sulkOver n 46 L' r h Q | none => False)) ∧
  (∀ (n d : Nat) (L : List (Option iV)) (st : List iV) (h : iH) (Q : Option iV → iH → Prop), G sp sc [2] d mX10_sulkOver (n + 1) 46 L st h Q = (match ld L 5 with | some (.inl x) => G sp sc [2] d mX10_sulkOver n 48 L (.inl x :: st) h Q | _ => False)) ∧
  (∀ (n d : Nat) (L : List (Option iV)) (st : List iV) (h : iH) (Q : Option iV → iH → Prop), G sp sc [2] d mX10_sulkOver (n + 1) 48 L st h Q = (match ld L 2 with | some (.inl x) => G sp sc [2] d mX10_sulkOver n 49 L (.inl x :: st) h Q | _ => False)) ∧
  (∀ (n d : Nat) (L : List (Option iV)) (a : Int) (b : Int) (r : List iV) (h : iH) (Q : Option iV → iH → Prop), G sp sc [2] d mX10_sulkOver (n + 1) 49 L (.inl b :: .inl a :: r) h Q = ((inI a = true ∧ inI b = true) ∧ (¬ a = b → G sp sc [2] d mX10_sulkOver n 84 L r h Q) ∧ (¬ (¬ a = b) → G sp sc [2] d mX10_sulkOver n 52 L r h Q))) ∧
  (∀ (n d : Nat) (L : List (Option iV)) (st : List iV) (h : iH) (Q : Option iV → iH → Prop), G sp sc [2] d mX10_sulkOver (n + 1) 52 L st h Q = (match ld L 4 with | some (.inl x) => G sp sc [2] d mX10_sulkOver n 54 L (.inl x :: st) h Q | _ => False)) ∧
  (∀ (n d : Nat) (L : List (Option iV)) (st : List iV) (h : iH) (Q : Option iV → iH → Prop), G sp sc [2] d mX10_sulkOver (n + 1) 54 L st h Q = (match ld L 1 with | some (.inl x) => G sp sc [2] d mX10_sulkOver n 55 L (.inl x :: st) h Q | _ => False)) ∧
  (∀ (n d : Nat) (L : List (Option iV)) (a : Int) (b : Int) (r : List iV) (h : iH) (Q : Option iV → iH → Prop), G sp sc [2] d mX10_sulkOver (n + 1) 55 L (.inl b :: .inl a :: r) h Q = ((inI a = true ∧ inI b = true) ∧ (a = b → G sp sc [2] d mX10_sulkOver n 84 L r h Q) ∧ (¬ (a = b) → G sp sc [2] d mX10_sulkOver n 58 L r h Q))) ∧
  (∀ (n d : Nat) (L : List (Option iV)) (st : List iV) (h : iH) (Q : Option iV → iH → Prop), G sp sc [2] d mX10_sulkOver (n + 1) 58 L st h Q = (match ld L 0 with | some (.inr (.inr (r + 1))) => G sp sc [2] d mX10_sulkOver n 59 L (.inr (.inr (r + 1)) :: st) h Q | _ => False)) ∧
  (∀ (n d : Nat) (L : List (Option iV)) (r : List iV) (m : Nat) (h : iH) (Q : Option iV → iH → Prop), G sp sc [2] d mX10_sulkOver (n + 1) 59 L (.inr (.inr (m + 2)) :: r) h Q = (match h.1[m]? with | some (.inl (ci, fs)) => (match lkF 10 25 ci with | some k => (match fs[k]? with | some v => G sp sc [2] d mX10_sulkOver n 62 L (v :: r) h Q | none => False) | none => False) | _ => False)) ∧
  (∀ (n d : Nat) (L : List (Option iV)) (st : List iV) (h : iH) (Q : Option iV → iH → Prop), G sp sc [2] d mX10_sulkOver (n + 1) 62 L st h Q = G sp sc [2] d mX10_sulkOver n 63 L (.inl 0 :: st) h Q) ∧
  (∀ (n d : Nat) (L : List (Option iV)) (st : List iV) (h : iH) (Q : Option iV → iH → Prop), G sp sc [2] d mX10_sulkOver (n + 1) 63 L st h Q = (match ld L 4 with | some (.inl x) => G sp sc [2] d mX10_sulkOver n 65 L (.inl x :: st) h Q | _ => False)) ∧
  (∀ (n d : Nat) (L : List (Option iV)) (st : List iV) (h : iH) (Q : Option iV → iH → Prop), G sp sc [2] d mX10_sulkOver (n + 1) 65 L st h Q = (match ld L 5 with | some (.inl x) => G sp sc [2] d mX10_sulkOver n 67 L (.inl x :: st) h Q | _ => False)) ∧
  (∀ (n d : Nat) (L : List (Option iV)) (st : List iV) (h : iH) (Q : Option iV → iH → Prop), G sp sc [2] d mX10_sulkOver (n + 1) 67 L st h Q = (match ld L 0 with | some (.inr (.inr (r + 1))) => G sp sc [2] d mX10_sulkOver n 68 L (.inr (.inr (r + 1)) :: st) h Q | _ => False)) ∧
  (∀ (n d : Nat) (L : List (Option iV)) (r : List iV) (m : Nat) (h : iH) (Q : Option iV → iH → Prop), G sp sc [2] d mX10_sulkOver (n + 1) 68 L (.inr (.inr (m + 2)) :: r) h Q = (match h.1[m]? with | some (.inl (ci, fs)) => (match lkF 10 25 ci with | some k => (match fs[k]? with | some v => G sp sc [2] d mX10_sulkOver n 71 L (v :: r) h Q | none => False) | none => False) | _ => False)) ∧
  (∀ (n d : Nat) (L : List (Option iV)) (st : List iV) (h : iH) (Q : Option iV → iH → Prop), G sp sc [2] d mX10_sulkOver (n + 1) 71 L st h Q = G sp sc [2] d mX10_sulkOver n 72 L (.inl 0 :: st) h Q) ∧
  (∀ (n d : Nat) (L : List (Option iV)) (st : List iV) (h : iH) (Q : Option iV → iH → Prop), G sp sc [2] d mX10_sulkOver (n + 1) 72 L st h Q = (match ld L 4 with | some (.inl x) => G sp sc [2] d mX10_sulkOver n 74 L (.inl x :: st) h Q | _ => False)) ∧
  (∀ (n d : Nat) (L : List (Option iV)) (r : List iV) (m : Nat) (z0 : iV) (z1 : iV) (h : iH) (Q : Option iV → iH → Prop), G sp sc [2] (d + 1) mX10_sulkOver (n + 1) 74 L (z1 :: z0 :: .inr (.inr (m + 2)) :: r) h Q = (match h.1[m]? with | some (.inl (ci, _)) => (match lkC 10 114 ci with | some (y1, n1, kd) => (n1 = 2 ∧ (kd = 2 ∨ kd = 3 ∨ kd = 8) ∧ cs r ≤ 8) ∧ Call sp sc d y1 [.inr (.inr (m + 2)), z0, z1] h (fun q h1 => GC sp sc [2] (d + 1) mX10_sulkOver n 77 L q r h h1 Q) | none => False) | _ => False)) ∧
  (∀ (n d : Nat) (L : List (Option iV)) (r : List iV) (m : Nat) (h : iH) (Q : Option iV → iH → Prop), G sp sc [2] (d + 1) mX10_sulkOver (n + 1) 77 L (.inr (.inr (m + 2)) :: r) h Q = (match h.1[m]? with | some (.inl (ci, _)) => (match lkC 10 128 ci with | some (y1, n1, kd) => (n1 = 0 ∧ (kd = 2 ∨ kd = 3 ∨ kd = 8) ∧ cs r ≤ 8) ∧ Call sp sc d y1 [.inr (.inr (m + 2))] h (fun q h1 => GC sp sc [2] (d + 1) mX10_sulkOver n 80 L q r h h1 Q) | none => False) | _ => False)) ∧
  (∀ (n d : Nat) (L : List (Option iV)) (a : Int) (r : List iV) (h : iH) (Q : Option iV → iH → Prop), G sp sc [2] d mX10_sulkOver (n + 1) 80 L (.inl a :: r) h Q = G sp sc [2] d mX10_sulkOver n 81 L (.inl (-a) :: r) h Q) ∧
  (∀ (n d : Nat) (L : List (Option iV)) (r : List iV) (m : Nat) (z0 : iV) (z1 : iV) (z2 : iV) (z3 : iV) (h : iH) (Q : Option iV → iH → Prop), G sp sc [2] (d + 1) mX10_sulkOver (n + 1) 81 L (z3 :: z2 :: z1 :: z0 :: .inr (.inr (m + 2)) :: r) h Q = (match h.1[m]? with | some (.inl (ci, _)) => (match lkC 10 124 ci with | some (y1, n1, kd) => (n1 = 4 ∧ (kd = 2 ∨ kd = 3 ∨ kd = 8) ∧ cs r ≤ 8) ∧ Call sp sc d y1 [.inr (.inr (m + 2)), z0, z1, z2, z3] h (fun q h1 => GC sp sc [2] (d + 1) mX10_sulkOver n 84 L q r h h1 Q) | none => False) | _ => False)) ∧
  (∀ (n d : Nat) (L : List (Option iV)) (st : List iV) (h : iH) (Q : Option iV → iH → Prop), G sp sc [2] d mX10_sulkOver (n + 1) 84 L st h Q = (match ld L 4 with | some (.inl x) => G sp sc [2] d mX10_sulkOver n 86 L (.inl x :: st) h Q | _ => False)) ∧
  (∀ (n d : Nat) (L : List (Option iV)) (st : List iV) (h : iH) (Q : Option iV → iH → Prop), G sp sc [2] d mX10_sulkOver (n + 1) 86 L st h Q = (match ld L 1 with | some (.inl x) => G sp sc [2] d mX10_sulkOver n 87 L (.inl x :: st) h Q | _ => False)) ∧
  (∀ (n d : Nat) (L : List (Option iV)) (a : Int) (b : Int) (r : List iV) (h : iH) (Q : Option iV → iH → Prop), G sp sc [2] d mX10_sulkOver (n + 1) 87 L (.inl b :: .inl a :: r) h Q = ((inI a = true ∧ inI b = true) ∧ (¬ a = b → G sp sc [2] d mX10_sulkOver n 122 L r h Q) ∧ (¬ (¬ a = b) → G sp sc [2] d mX10_sulkOver n 90 L r h Q))) ∧
  (∀ (n d : Nat) (L : List (Option iV)) (st : List iV) (h : iH) (Q : Option iV → iH → Prop), G sp sc [2] d mX10_sulkOver (n + 1) 90 L st h Q = (match ld L 5 with | some (.inl x) => G sp sc [2] d mX10_sulkOver n 92 L (.inl x :: st) h Q | _ => False)) ∧
  (∀ (n d : Nat) (L : List (Option iV)) (st : List iV) (h : iH) (Q : Option iV → iH → Prop), G sp sc [2] d mX10_sulkOver (n + 1) 92 L st h Q = (match ld L 2 with | some (.inl x) => G sp sc [2] d mX10_sulkOver n 93 L (.inl x :: st) h Q | _ => False)) ∧
  (∀ (n d : Nat) (L : List (Option iV)) (a : Int) (b : Int) (r : List iV) (h : iH) (Q : Option iV → iH → Prop), G sp sc [2] d mX10_sulkOver (n + 1) 93 L (.inl b :: .inl a :: r) h Q = ((inI a = true ∧ inI b = true) ∧ (a = b → G sp sc [2] d mX10_sulkOver n 122 L r h Q) ∧ (¬ (a = b) → G sp sc [2] d mX10_sulkOver n 96 L r h Q))) ∧
  (∀ (n d : Nat) (L : List (Option iV)) (st : List iV) (h : iH) (Q : Option iV → iH → Prop), G sp sc [2] d mX10_sulkOver (n + 1) 96 L st h Q = (match ld L 0 with | some (.inr (.inr (r + 1))) => G sp sc [2] d mX10_sulkOver n 97 L (.inr (.inr (r + 1)) :: st) h Q | _ => False)) ∧
  (∀ (n d : Nat) (L : List (Option iV)) (r : List iV) (m : Nat) (h : iH) (Q : Option iV → iH → Prop), G sp sc [2] d mX10_sulkOver (n + 1) 97 L (.inr (.inr (m + 2)) :: r) h Q = (match h.1[m]? with | some (.inl (ci, fs)) => (match lkF 10 25 ci with | some k => (match fs[k]? with | some v => G sp sc [2] d mX10_sulkOver n 100 L (v :: r) h Q | none => False) | none => False) | _ => False)) ∧
  (∀ (n d : Nat) (L : List (Option iV)) (st : List iV) (h : iH) (Q : Option iV → iH → Prop), G sp sc [2] d mX10_sulkOver (n + 1) 100 L st h Q = G sp sc [2] d mX10_sulkOver n 101 L (.inl 1 :: st) h Q) ∧
  (∀ (n d : Nat) (L : List (Option iV)) (st : List iV) (h : iH) (Q : Option iV → iH → Prop), G sp sc [2] d mX10_sulkOver (n + 1) 101 L st h Q = (match ld L 5 with | some (.inl x) => G sp sc [2] d mX10_sulkOver n 103 L (.inl x :: st) h Q | _ => False)) ∧
  (∀ (n d : Nat) (L : List (Option iV)) (st : List iV) (h : iH) (Q : Option iV → iH → Prop), G sp sc [2] d mX10_sulkOver (n + 1) 103 L st h Q = (match ld L 4 with | some (.inl x) => G sp sc [2] d mX10_sulkOver n 105 L (.inl x :: st) h Q | _ => False)) ∧
  (∀ (n d : Nat) (L : List (Option iV)) (st : List iV) (h : iH) (Q : Option iV → iH → Prop), G sp sc [2] d mX10_sulkOver (n + 1) 105 L st h Q = (match ld L 0 with | some (.inr (.inr (r + 1))) => G sp sc [2] d mX10_sulkOver n 106 L (.inr (.inr (r + 1)) :: st) h Q | _ => False)) ∧
  (∀ (n d : Nat) (L : List (Option iV)) (r : List iV) (m : Nat) (h : iH) (Q : Option iV → iH → Prop), G sp sc [2] d mX10_sulkOver (n + 1) 106 L (.inr (.inr (m + 2)) :: r) h Q = (match h.1[m]? with | some (.inl (ci, fs)) => (match lkF 10 25 ci with | some k => (match fs[k]? with | some v => G sp sc [2] d mX10_sulkOver n 109 L (v :: r) h Q | none => False) | none => False) | _ => False)) ∧
  (∀ (n d : Nat) (L : List (Option iV)) (st : List iV) (h : iH) (Q : Option iV → iH → Prop), G sp sc [2] d mX10_sulkOver (n + 1) 109 L st h Q = G sp sc [2] d mX10_sulkOver n 110 L (.inl 1 :: st) h Q) ∧
  (∀ (n d : Nat) (L : List (Option iV)) (st : List iV) (h : iH) (Q : Option iV → iH → Prop), G sp sc [2] d mX10_sulkOver (n + 1) 110 L st h Q = (match ld L 5 with | some (.inl x) => G sp sc [2] d mX10_sulkOver n 112 L (.inl x :: st) h Q | _ => False)) ∧
  (∀ (n d : Nat) (L : List (Option iV)) (r : List iV) (m : Nat) (z0 : iV) (z1 : iV) (h : iH) (Q : Option iV → iH → Prop), G sp sc [2] (d + 1) mX10_sulkOver (n + 1) 112 L (z1 :: z0 :: .inr (.inr (m + 2)) :: r) h Q = (match h.1[m]? with | some (.inl (ci, _)) => (match lkC 10 114 ci with | some (y1, n1, kd) => (n1 = 2 ∧ (kd = 2 ∨ kd = 3 ∨ kd = 8) ∧ cs r ≤ 8) ∧ Call sp sc d y1 [.inr (.inr (m + 2)), z0, z1] h (fun q h1 => GC sp sc [2] (d + 1) mX10_sulkOver n 115 L q r h h1 Q) | none => False) | _ => False)) ∧
  (∀ (n d : Nat) (L : List (Option iV)) (r : List iV) (m : Nat) (h : iH) (Q : Option iV → iH → Prop), G sp sc [2] (d + 1) mX10_sulkOver (n + 1) 115 L (.inr (.inr (m + 2)) :: r) h Q = (match h.1[m]? with | some (.inl (ci, _)) => (match lkC 10 128 ci with | some (y1, n1, kd) => (n1 = 0 ∧ (kd = 2 ∨ kd = 3 ∨ kd = 8) ∧ cs r ≤ 8) ∧ Call sp sc d y1 [.inr (.inr (m + 2))] h (fun q h1 => GC sp sc [2] (d + 1) mX10_sulkOver n 118 L q r h h1 Q) | none => False) | _ => False)) ∧
  (∀ (n d : Nat) (L : List (Option iV)) (a : Int) (r : List iV) (h : iH) (Q : Option iV → iH → Prop), G sp sc [2] d mX10_sulkOver (n + 1) 118 L (.inl a :: r) h Q = G sp sc [2] d mX10_sulkOver n 119 L (.inl (-a) :: r) h Q) ∧
  (∀ (n d : Nat) (L : List (Option iV)) (r : List iV) (m : Nat) (z0 : iV) (z1 : iV) (z2 : iV) (z3 : iV) (h : iH) (Q : Option iV → iH → Prop), G sp sc [2] (d + 1) mX10_sulkOver (n + 1) 119 L (z3 :: z2 :: z1 :: z0 :: .inr (.inr (m + 2)) :: r) h Q = (match h.1[m]? with | some (.inl (ci, _)) => (match lkC 10 124 ci with | some (y1, n1, kd) => (n1 = 4 ∧ (kd = 2 ∨ kd = 3 ∨ kd = 8) ∧ cs r ≤ 8) ∧ Call sp sc d y1 [.inr (.inr (m + 2)), z0, z1, z2, z3] h (fun q h1 => GC sp sc [2] (d + 1) mX10_sulkOver n 122 L q r h h1 Q) | none => False) | _ => False)) ∧
  (∀ (n d : Nat) (L : List (Option iV)) (st : List iV) (h : iH) (Q : Option iV → iH → Prop), G sp sc [2] d mX10_sulkOver (n + 1) 122 L st h Q = (match ld L 3 with | some (.inl x) => (match st1 L 3 (.inl (x + 1)) with | some L' => G sp sc [2] d mX10_sulkOver n 125 L' st h Q | none => False) | _ => False)) ∧
  (∀ (n d : Nat) (L : List (Option iV)) (st : List iV) (h : iH) (Q : Option iV → iH → Prop), G sp sc [2] d mX10_sulkOver (n + 1) 125 L st h Q = Run sp sc d mX10_sulkOver 2 L st h Q) ∧
  (∀ (n d : Nat) (L : List (Option iV))  (h : iH) (Q : Option iV → iH → Prop), G sp sc [2] d mX10_sulkOver (n + 1) 128 L [] h Q = Q none h) ∧
  lkC 10 114 8 = some (mX8_natureOf, 2, 2) ∧
  lkC 10 124 8 = some (mX8_addLiking, 4, 2) ∧
  lkC 10 128 0 = some (mX0_sulking, 0, 3) ∧
  lkC 10 128 1 = some (mX6_sulking, 0, 3) ∧
  lkC 10 128 3 = some (mX3_sulking, 0, 3) ∧
  lkC 10 128 6 = some (mX6_sulking, 0, 2) ∧
  lkC 10 128 7 = some (mX7_sulking, 0, 3) ∧
  lkC 10 128 9 = some (mX6_sulking, 0, 3) ∧
  lkC 10 64 8 = some (mX8_goesOn, 1, 2) ∧
  lkF 10 25 10 = some 0 ∧
  lkF 10 54 8 = some 5 ∧
  lkF 10 92 8 = some 6 ∧
  lkF 10 95 8 = some 7 := ⟨by intros; exact G_at (by decide +kernel : fetch mX10_sulkOver 0 = some (.iconst 0)),
  by intros; exact G_at (by decide +kernel : fetch mX10_sulkOver 1 = some (.istore_n 3)),
  by intros; exact G_at (by decide +kernel : fetch mX10_sulkOver 2 = some (.iload_n 3)),
  by intros; exact G_at (by decide +kernel : fetch mX10_sulkOver 3 = some (.aload_n 0)),
  by intros; exact G_own (by decide +kernel : fetch mX10_sulkOver 4 = some (.getfield 25)) (by decide +kernel),
  by intros; exact G_own (by decide +kernel : fetch mX10_sulkOver 7 = some (.getfield 54)) (by decide +kernel),
  by intros; exact G_at (by decide +kernel : fetch mX10_sulkOver 10 = some (.if_icmp .ge 118)),
  by intros; exact G_at (by decide +kernel : fetch mX10_sulkOver 13 = some (.aload_n 0)),
  by intros; exact G_own (by decide +kernel : fetch mX10_sulkOver 14 = some (.getfield 25)) (by decide +kernel),
  by intros; exact G_at (by decide +kernel : fetch mX10_sulkOver 17 = some (.iload_n 3)),
  by intros; exact G_callV (by decide +kernel : fetch mX10_sulkOver 18 = some (.invokevirtual 64)) (by decide +kernel) (by decide +kernel) rfl,
  by intros; exact G_at (by decide +kernel : fetch mX10_sulkOver 21 = some (.ifCond .eq 101)),
  by intros; exact G_at (by decide +kernel : fetch mX10_sulkOver 24 = some (.aload_n 0)),
  by intros; exact G_own (by decide +kernel : fetch mX10_sulkOver 25 = some (.getfield 25)) (by decide +kernel),
  by intros; exact G_own (by decide +kernel : fetch mX10_sulkOver 28 = some (.getfield 92)) (by decide +kernel),
  by intros; exact G_at (by decide +kernel : fetch mX10_sulkOver 31 = some (.iload_n 3)),
  by intros; exact G_at (by decide +kernel : fetch mX10_sulkOver 32 = some (.iaload)),
  by intros; exact G_at (by decide +kernel : fetch mX10_sulkOver 33 = some (.istore 4)),
  by intros; exact G_at (by decide +kernel : fetch mX10_sulkOver 35 = some (.aload_n 0)),
  by intros; exact G_own (by decide +kernel : fetch mX10_sulkOver 36 = some (.getfield 25)) (by decide +kernel),
  by intros; exact G_own (by decide +kernel : fetch mX10_sulkOver 39 = some (.getfield 95)) (by decide +kernel),
  by intros; exact G_at (by decide +kernel : fetch mX10_sulkOver 42 = some (.iload_n 3)),
  by intros; exact G_at (by decide +kernel : fetch mX10_sulkOver 43 = some (.iaload)),
  by intros; exact G_at (by decide +kernel : fetch mX10_sulkOver 44 = some (.istore 5)),
  by intros; exact G_at (by decide +kernel : fetch mX10_sulkOver 46 = some (.iload 5)),
  by intros; exact G_at (by decide +kernel : fetch mX10_sulkOver 48 = some (.iload_n 2)),
  by intros; exact G_at (by decide +kernel : fetch mX10_sulkOver 49 = some (.if_icmp .ne 35)),
  by intros; exact G_at (by decide +kernel : fetch mX10_sulkOver 52 = some (.iload 4)),
  by intros; exact G_at (by decide +kernel : fetch mX10_sulkOver 54 = some (.iload_n 1)),
  by intros; exact G_at (by decide +kernel : fetch mX10_sulkOver 55 = some (.if_icmp .eq 29)),
  by intros; exact G_at (by decide +kernel : fetch mX10_sulkOver 58 = some (.aload_n 0)),
  by intros; exact G_own (by decide +kernel : fetch mX10_sulkOver 59 = some (.getfield 25)) (by decide +kernel),
  by intros; exact G_at (by decide +kernel : fetch mX10_sulkOver 62 = some (.iconst 0)),
  by intros; exact G_at (by decide +kernel : fetch mX10_sulkOver 63 = some (.iload 4)),
  by intros; exact G_at (by decide +kernel : fetch mX10_sulkOver 65 = some (.iload 5)),
  by intros; exact G_at (by decide +kernel : fetch mX10_sulkOver 67 = some (.aload_n 0)),
  by intros; exact G_own (by decide +kernel : fetch mX10_sulkOver 68 = some (.getfield 25)) (by decide +kernel),
  by intros; exact G_at (by decide +kernel : fetch mX10_sulkOver 71 = some (.iconst 0)),
  by intros; exact G_at (by decide +kernel : fetch mX10_sulkOver 72 = some (.iload 4)),
  by intros; exact G_callV (by decide +kernel : fetch mX10_sulkOver 74 = some (.invokevirtual 114)) (by decide +kernel) (by decide +kernel) rfl,
  by intros; exact G_callV (by decide +kernel : fetch mX10_sulkOver 77 = some (.invokevirtual 128)) (by decide +kernel) (by decide +kernel) rfl,
  by intros; exact G_at (by decide +kernel : fetch mX10_sulkOver 80 = some (.ineg)),
  by intros; exact G_callV (by decide +kernel : fetch mX10_sulkOver 81 = some (.invokevirtual 124)) (by decide +kernel) (by decide +kernel) rfl,
  by intros; exact G_at (by decide +kernel : fetch mX10_sulkOver 84 = some (.iload 4)),
  by intros; exact G_at (by decide +kernel : fetch mX10_sulkOver 86 = some (.iload_n 1)),
  by intros; exact G_at (by decide +kernel : fetch mX10_sulkOver 87 = some (.if_icmp .ne 35)),
  by intros; exact G_at (by decide +kernel : fetch mX10_sulkOver 90 = some (.iload 5)),
  by intros; exact G_at (by decide +kernel : fetch mX10_sulkOver 92 = some (.iload_n 2)),
  by intros; exact G_at (by decide +kernel : fetch mX10_sulkOver 93 = some (.if_icmp .eq 29)),
  by intros; exact G_at (by decide +kernel : fetch mX10_sulkOver 96 = some (.aload_n 0)),
  by intros; exact G_own (by decide +kernel : fetch mX10_sulkOver 97 = some (.getfield 25)) (by decide +kernel),
  by intros; exact G_at (by decide +kernel : fetch mX10_sulkOver 100 = some (.iconst 1)),
  by intros; exact G_at (by decide +kernel : fetch mX10_sulkOver 101 = some (.iload 5)),
  by intros; exact G_at (by decide +kernel : fetch mX10_sulkOver 103 = some (.iload 4)),
  by intros; exact G_at (by decide +kernel : fetch mX10_sulkOver 105 = some (.aload_n 0)),
  by intros; exact G_own (by decide +kernel : fetch mX10_sulkOver 106 = some (.getfield 25)) (by decide +kernel),
  by intros; exact G_at (by decide +kernel : fetch mX10_sulkOver 109 = some (.iconst 1)),
  by intros; exact G_at (by decide +kernel : fetch mX10_sulkOver 110 = some (.iload 5)),
  by intros; exact G_callV (by decide +kernel : fetch mX10_sulkOver 112 = some (.invokevirtual 114)) (by decide +kernel) (by decide +kernel) rfl,
  by intros; exact G_callV (by decide +kernel : fetch mX10_sulkOver 115 = some (.invokevirtual 128)) (by decide +kernel) (by decide +kernel) rfl,
  by intros; exact G_at (by decide +kernel : fetch mX10_sulkOver 118 = some (.ineg)),
  by intros; exact G_callV (by decide +kernel : fetch mX10_sulkOver 119 = some (.invokevirtual 124)) (by decide +kernel) (by decide +kernel) rfl,
  by intros; exact G_at (by decide +kernel : fetch mX10_sulkOver 122 = some (.iinc 3 1)),
  by intros; exact G_at (by decide +kernel : fetch mX10_sulkOver 125 = some (.goto (-123))),
  by intros; exact G_retv (by decide +kernel : fetch mX10_sulkOver 128 = some (.return_)) (by decide +kernel),
  by decide +kernel,
  by decide +kernel,
  by decide +kernel,
  by decide +kernel,
  by decide +kernel,
  by decide +kernel,
  by decide +kernel,
  by decide +kernel,
  by decide +kernel,
  by decide +kernel,
  by decide +kernel,
  by decide +kernel,
  by decide +kernel⟩
theorem gX10_bindBySlip : (∀ (n d : Nat) (L : List (Option iV)) (st : List iV) (h : iH) (Q : Option iV → iH → Prop), G sp sc [] d mX10_bindBySlip (n + 1) 0 L st h Q = (match ld L 0 with | some (.inr (.inr (r + 1))) => G sp sc [] d mX10_bindBySlip n 1 L (.inr (.inr (r + 1)) :: st) h Q | _ => False)) ∧
  (∀ (n d : Nat) (L : List (Option iV)) (a : Int) (r : List iV) (h : iH) (Q : Option iV → iH → Prop), G sp sc [] d mX10_bindBySlip (n + 1) 1 L (.inl a :: r) h Q = G sp sc [] d mX10_bindBySlip n 2 L (.inl a :: .inl a :: r) h Q) ∧
  (∀ (n d : Nat) (L : List (Option iV)) (a : Nat) (r : List iV) (h : iH) (Q : Option iV → iH → Prop), G sp sc [] d mX10_bindBySlip (n + 1) 1 L (.inr (.inr a) :: r) h Q = G sp sc [] d mX10_bindBySlip n 2 L (.inr (.inr a) :: .inr (.inr a) :: r) h Q) ∧
  (∀ (n d : Nat) (L : List (Option iV)) (r : List iV) (m : Nat) (h : iH) (Q : Option iV → iH → Prop), G sp sc [] d mX10_bindBySlip (n + 1) 2 L (.inr (.inr (m + 2)) :: r) h Q = (match h.1[m]? with | some (.inl (ci, fs)) => (match lkF 10 48 ci with | some k => (match fs[k]? with | some v => G sp sc [] d mX10_bindBySlip n 5 L (v :: r) h Q | none => False) | none => False) | _ => False)) ∧
  (∀ (n d : Nat) (L : List (Option iV)) (st : List iV) (h : iH) (Q : Option iV → iH → Prop), G sp sc [] d mX10_bindBySlip (n + 1) 5 L st h Q = G sp sc [] d mX10_bindBySlip n 6 L (.inl 1 :: st) h Q) ∧
  (∀ (n d : Nat) (L : List (Option iV)) (a : Int) (b : Int) (r : List iV) (h : iH) (Q : Option iV → iH → Prop), G sp sc [] d mX10_bindBySlip (n + 1) 6 L (.inl b :: .inl a :: r) h Q = G sp sc [] d mX10_bindBySlip n 7 L (.inl (a + b) :: r) h Q) ∧
  (∀ (n d : Nat) (L : List (Option iV)) (r : List iV) (v : iV) (m : Nat) (h : iH) (Q : Option iV → iH → Prop), G sp sc [] d mX10_bindBySlip (n + 1) 7 L (v :: .inr (.inr (m + 2)) :: r) h Q = (match h.1[m]? with | some (.inl (ci, fs)) => (match lkF 10 48 ci with | some k => (fitV (tyT ci k) v = true ∧ k < fs.length ∧ pOK 10 false ci k = true) ∧ G sp sc [] d mX10_bindBySlip n 10 L r (h.1.set m (.inl (ci, fs.set k v)), h.2) Q | none => False) | _ => False)) ∧
  (∀ (n d : Nat) (L : List (Option iV)) (st : List iV) (h : iH) (Q : Option iV → iH → Prop), G sp sc [] d mX10_bindBySlip (n + 1) 10 L st h Q = (match ld L 0 with | some (.inr (.inr (r + 1))) => G sp sc [] d mX10_bindBySlip n 11 L (.inr (.inr (r + 1)) :: st) h Q | _ => False)) ∧
  (∀ (n d : Nat) (L : List (Option iV)) (r : List iV) (m : Nat) (h : iH) (Q : Option iV → iH → Prop), G sp sc [] d mX10_bindBySlip (n + 1) 11 L (.inr (.inr (m + 2)) :: r) h Q = (match h.1[m]? with | some (.inl (ci, fs)) => (match lkF 10 48 ci with | some k => (match fs[k]? with | some v => G sp sc [] d mX10_bindBySlip n 14 L (v :: r) h Q | none => False) | none => False) | _ => False)) ∧
  (∀ (n d : Nat) (L : List (Option iV)) (st : List iV) (h : iH) (Q : Option iV → iH → Prop), G sp sc [] d mX10_bindBySlip (n + 1) 14 L st h Q = G sp sc [] d mX10_bindBySlip n 15 L (.inl 1 :: st) h Q) ∧
  (∀ (n d : Nat) (L : List (Option iV)) (a : Int) (b : Int) (r : List iV) (h : iH) (Q : Option iV → iH → Prop), G sp sc [] d mX10_bindBySlip (n + 1) 15 L (.inl b :: .inl a :: r) h Q = ((inI a = true ∧ inI b = true) ∧ (¬ a = b → G sp sc [] d mX10_bindBySlip n 26 L r h Q) ∧ (¬ (¬ a = b) → G sp sc [] d mX10_bindBySlip n 18 L r h Q))) ∧
  (∀ (n d : Nat) (L : List (Option iV)) (st : List iV) (h : iH) (Q : Option iV → iH → Prop), G sp sc [] d mX10_bindBySlip (n + 1) 18 L st h Q = (match ld L 0 with | some (.inr (.inr (r + 1))) => G sp sc [] d mX10_bindBySlip n 19 L (.inr (.inr (r + 1)) :: st) h Q | _ => False)) ∧
  (∀ (n d : Nat) (L : List (Option iV)) (st : List iV) (h : iH) (Q : Option iV → iH → Prop), G sp sc [] d mX10_bindBySlip (n + 1) 19 L st h Q = (match ld L 0 with | some (.inr (.inr (r + 1))) => G sp sc [] d mX10_bindBySlip n 20 L (.inr (.inr (r + 1)) :: st) h Q | _ => False)) ∧
  (∀ (n d : Nat) (L : List (Option iV)) (r : List iV) (m : Nat) (h : iH) (Q : Option iV → iH → Prop), G sp sc [] d mX10_bindBySlip (n + 1) 20 L (.inr (.inr (m + 2)) :: r) h Q = (match h.1[m]? with | some (.inl (ci, fs)) => (match lkF 10 41 ci with | some k => (match fs[k]? with | some v => G sp sc [] d mX10_bindBySlip n 23 L (v :: r) h Q | none => False) | none => False) | _ => False)) ∧
  (∀ (n d : Nat) (L : List (Option iV)) (r : List iV) (v : iV) (m : Nat) (h : iH) (Q : Option iV → iH → Prop), G sp sc [] d mX10_bindBySlip (n + 1) 23 L (v :: .inr (.inr (m + 2)) :: r) h Q = (match h.1[m]? with | some (.inl (ci, fs)) => (match lkF 10 51 ci with | some k => (fitV (tyT ci k) v = true ∧ k < fs.length ∧ pOK 10 false ci k = true) ∧ G sp sc [] d mX10_bindBySlip n 26 L r (h.1.set m (.inl (ci, fs.set k v)), h.2) Q | none => False) | _ => False)) ∧
  (∀ (n d : Nat) (L : List (Option iV)) (st : List iV) (h : iH) (Q : Option iV → iH → Prop), G sp sc [] d mX10_bindBySlip (n + 1) 26 L st h Q = (match ld L 0 with | some (.inr (.inr (r + 1))) => G sp sc [] d mX10_bindBySlip n 27 L (.inr (.inr (r + 1)) :: st) h Q | _ => False)) ∧
  (∀ (n d : Nat) (L : List (Option iV)) (st : List iV) (h : iH) (Q : Option iV → iH → Prop), G sp sc [] d mX10_bindBySlip (n + 1) 27 L st h Q = (match ld L 1 with | some (.inl x) => G sp sc [] d mX10_bindBySlip n 28 L (.inl x :: st) h Q | _ => False)) ∧
  (∀ (n d : Nat) (L : List (Option iV)) (st : List iV) (h : iH) (Q : Option iV → iH → Prop), G sp sc [] d mX10_bindBySlip (n + 1) 28 L st h Q = G sp sc [] d mX10_bindBySlip n 29 L (.inl 2 :: st) h Q) ∧
  (∀ (n d : Nat) (L : List (Option iV)) (r : List iV) (m : Nat) (z0 : iV) (z1 : iV) (h : iH) (Q : Option iV → iH → Prop), G sp sc [] (d + 1) mX10_bindBySlip (n + 1) 29 L (z1 :: z0 :: .inr (.inr (m + 2)) :: r) h Q = (match h.1[m]? with | some (.inl (ci, _)) => (match lkC 10 132 ci with | some (y1, n1, kd) => (n1 = 2 ∧ (kd = 2 ∨ kd = 3 ∨ kd = 8) ∧ cs r ≤ 8) ∧ Call sp sc d y1 [.inr (.inr (m + 2)), z0, z1] h (fun q h1 => GC sp sc [] (d + 1) mX10_bindBySlip n 32 L q r h h1 Q) | none => False) | _ => False)) ∧
  (∀ (n d : Nat) (L : List (Option iV)) (st : List iV) (h : iH) (Q : Option iV → iH → Prop), G sp sc [] d mX10_bindBySlip (n + 1) 32 L st h Q = (match ld L 0 with | some (.inr (.inr (r + 1))) => G sp sc [] d mX10_bindBySlip n 33 L (.inr (.inr (r + 1)) :: st) h Q | _ => False)) ∧
  (∀ (n d : Nat) (L : List (Option iV)) (r : List iV) (m : Nat) (h : iH) (Q : Option iV → iH → Prop), G sp sc [] d mX10_bindBySlip (n + 1) 33 L (.inr (.inr (m + 2)) :: r) h Q = (match h.1[m]? with | some (.inl (ci, fs)) => (match lkF 10 25 ci with | some k => (match fs[k]? with | some v => G sp sc [] d mX10_bindBySlip n 36 L (v :: r) h Q | none => False) | none => False) | _ => False)) ∧
  (∀ (n d : Nat) (L : List (Option iV)) (st : List iV) (h : iH) (Q : Option iV → iH → Prop), G sp sc [] d mX10_bindBySlip (n + 1) 36 L st h Q = (match ld L 2 with | some (.inl x) => G sp sc [] d mX10_bindBySlip n 37 L (.inl x :: st) h Q | _ => False)) ∧
  (∀ (n d : Nat) (L : List (Option iV)) (st : List iV) (h : iH) (Q : Option iV → iH → Prop), G sp sc [] d mX10_bindBySlip (n + 1) 37 L st h Q = (match ld L 3 with | some (.inl x) => G sp sc [] d mX10_bindBySlip n 38 L (.inl x :: st) h Q | _ => False)) ∧
  (∀ (n d : Nat) (L : List (Option iV)) (r : List iV) (m : Nat) (z0 : iV) (z1 : iV) (h : iH) (Q : Option iV → iH → Prop), G sp sc [] (d + 1) mX10_bindBySlip (n + 1) 38 L (z1 :: z0 :: .inr (.inr (m + 2)) :: r) h Q = (match h.1[m]? with | some (.inl (ci, _)) => (match lkC 10 135 ci with | some (y1, n1, kd) => (n1 = 2 ∧ (kd = 2 ∨ kd = 3 ∨ kd = 8) ∧ cs r ≤ 8) ∧ Call sp sc d y1 [.inr (.inr (m + 2)), z0, z1] h (fun q h1 => GC sp sc [] (d + 1) mX10_bindBySlip n 41 L q r h h1 Q) | none => False) | _ => False)) ∧
  (∀ (n d : Nat) (L : List (Option iV)) (st : List iV) (h : iH) (Q : Option iV → iH → Prop), G sp sc [] d mX10_bindBySlip (n + 1) 41 L st h Q = (match ld L 0 with | some (.inr (.inr (r + 1))) => G sp sc [] d mX10_bindBySlip n 42 L (.inr (.inr (r + 1)) :: st) h Q | _ => False)) ∧
  (∀ (n d : Nat) (L : List (Option iV)) (st : List iV) (h : iH) (Q : Option iV → iH → Prop), G sp sc [] d mX10_bindBySlip (n + 1) 42 L st h Q = (match ld L 2 with | some (.inl x) => G sp sc [] d mX10_bindBySlip n 43 L (.inl x :: st) h Q | _ => False)) ∧
  (∀ (n d : Nat) (L : List (Option iV)) (st : List iV) (h : iH) (Q : Option iV → iH → Prop), G sp sc [] d mX10_bindBySlip (n + 1) 43 L st h Q = (match ld L 3 with | some (.inl x) => G sp sc [] d mX10_bindBySlip n 44 L (.inl x :: st) h Q | _ => False)) ∧
  (∀ (n d : Nat) (L : List (Option iV)) (r : List iV) (m : Nat) (z0 : iV) (z1 : iV) (h : iH) (Q : Option iV → iH → Prop), G sp sc [] (d + 1) mX10_bindBySlip (n + 1) 44 L (z1 :: z0 :: .inr (.inr (m + 2)) :: r) h Q = (match h.1[m]? with | some (.inl (ci, _)) => (match lkC 10 138 ci with | some (y1, n1, kd) => (n1 = 2 ∧ (kd = 2 ∨ kd = 3 ∨ kd = 8) ∧ cs r ≤ 8) ∧ Call sp sc d y1 [.inr (.inr (m + 2)), z0, z1] h (fun q h1 => GC sp sc [] (d + 1) mX10_bindBySlip n 47 L q r h h1 Q) | none => False) | _ => False)) ∧
  (∀ (n d : Nat) (L : List (Option iV))  (h : iH) (Q : Option iV → iH → Prop), G sp sc [] d mX10_bindBySlip (n + 1) 47 L [] h Q = Q none h) ∧
  lkC 10 132 10 = some (mX10_end, 2, 2) ∧
  lkC 10 135 8 = some (mX8_bind, 2, 2) ∧
  lkC 10 138 10 = some (mX10_loseCouplesWith, 2, 2) ∧
  lkF 10 25 10 = some 0 ∧
  lkF 10 41 10 = some 5 ∧
  lkF 10 48 10 = some 7 ∧
  lkF 10 51 10 = some 8 ∧
  pOK 10 false 10 7 = true ∧
  pOK 10 false 10 8 = true := ⟨by intros; exact G_at (by decide +kernel : fetch mX10_bindBySlip 0 = some (.aload_n 0)),
  by intros; exact G_at (by decide +kernel : fetch mX10_bindBySlip 1 = some (.dup)),
  by intros; exact G_at (by decide +kernel : fetch mX10_bindBySlip 1 = some (.dup)),
  by intros; exact G_own (by decide +kernel : fetch mX10_bindBySlip 2 = some (.getfield 48)) (by decide +kernel),
  by intros; exact G_at (by decide +kernel : fetch mX10_bindBySlip 5 = some (.iconst 1)),
  by intros; exact G_at (by decide +kernel : fetch mX10_bindBySlip 6 = some (.iadd)),
  by intros; exact G_ownW (by decide +kernel : fetch mX10_bindBySlip 7 = some (.putfield 48)) (by decide +kernel) (by decide +kernel),
  by intros; exact G_at (by decide +kernel : fetch mX10_bindBySlip 10 = some (.aload_n 0)),
  by intros; exact G_own (by decide +kernel : fetch mX10_bindBySlip 11 = some (.getfield 48)) (by decide +kernel),
  by intros; exact G_at (by decide +kernel : fetch mX10_bindBySlip 14 = some (.iconst 1)),
  by intros; exact G_at (by decide +kernel : fetch mX10_bindBySlip 15 = some (.if_icmp .ne 11)),
  by intros; exact G_at (by decide +kernel : fetch mX10_bindBySlip 18 = some (.aload_n 0)),
  by intros; exact G_at (by decide +kernel : fetch mX10_bindBySlip 19 = some (.aload_n 0)),
  by intros; exact G_own (by decide +kernel : fetch mX10_bindBySlip 20 = some (.getfield 41)) (by decide +kernel),
  by intros; exact G_ownW (by decide +kernel : fetch mX10_bindBySlip 23 = some (.putfield 51)) (by decide +kernel) (by decide +kernel),
  by intros; exact G_at (by decide +kernel : fetch mX10_bindBySlip 26 = some (.aload_n 0)),
  by intros; exact G_at (by decide +kernel : fetch mX10_bindBySlip 27 = some (.iload_n 1)),
  by intros; exact G_at (by decide +kernel : fetch mX10_bindBySlip 28 = some (.iconst 2)),
  by intros; exact G_callV (by decide +kernel : fetch mX10_bindBySlip 29 = some (.invokevirtual 132)) (by decide +kernel) (by decide +kernel) rfl,
  by intros; exact G_at (by decide +kernel : fetch mX10_bindBySlip 32 = some (.aload_n 0)),
  by intros; exact G_own (by decide +kernel : fetch mX10_bindBySlip 33 = some (.getfield 25)) (by decide +kernel),
  by intros; exact G_at (by decide +kernel : fetch mX10_bindBySlip 36 = some (.iload_n 2)),
  by intros; exact G_at (by decide +kernel : fetch mX10_bindBySlip 37 = some (.iload_n 3)),
  by intros; exact G_callV (by decide +kernel : fetch mX10_bindBySlip 38 = some (.invokevirtual 135)) (by decide +kernel) (by decide +kernel) rfl,
  by intros; exact G_at (by decide +kernel : fetch mX10_bindBySlip 41 = some (.aload_n 0)),
  by intros; exact G_at (by decide +kernel : fetch mX10_bindBySlip 42 = some (.iload_n 2)),
  by intros; exact G_at (by decide +kernel : fetch mX10_bindBySlip 43 = some (.iload_n 3)),
  by intros; exact G_callV (by decide +kernel : fetch mX10_bindBySlip 44 = some (.invokevirtual 138)) (by decide +kernel) (by decide +kernel) rfl,
  by intros; exact G_retv (by decide +kernel : fetch mX10_bindBySlip 47 = some (.return_)) (by decide +kernel),
  by decide +kernel,
  by decide +kernel,
  by decide +kernel,
  by decide +kernel,
  by decide +kernel,
  by decide +kernel,
  by decide +kernel,
  by decide +kernel,
  by decide +kernel⟩
theorem gX10_doDeed : (∀ (n d : Nat) (L : List (Option iV)) (st : List iV) (h : iH) (Q : Option iV → iH → Prop), G sp sc [] d mX10_doDeed (n + 1) 0 L st h Q = (match ld L 0 with | some (.inr (.inr (r + 1))) => G sp sc [] d mX10_doDeed n 1 L (.inr (.inr (r + 1)) :: st) h Q | _ => False)) ∧
  (∀ (n d : Nat) (L : List (Option iV)) (a : Int) (r : List iV) (h : iH) (Q : Option iV → iH → Prop), G sp sc [] d mX10_doDeed (n + 1) 1 L (.inl a :: r) h Q = G sp sc [] d mX10_doDeed n 2 L (.inl a :: .inl a :: r) h Q) ∧
  (∀ (n d : Nat) (L : List (Option iV)) (a : Nat) (r : List iV) (h : iH) (Q : Option iV → iH → Prop), G sp sc [] d mX10_doDeed (n + 1) 1 L (.inr (.inr a) :: r) h Q = G sp sc [] d mX10_doDeed n 2 L (.inr (.inr a) :: .inr (.inr a) :: r) h Q) ∧
  (∀ (n d : Nat) (L : List (Option iV)) (r : List iV) (m : Nat) (h : iH) (Q : Option iV → iH → Prop), G sp sc [] d mX10_doDeed (n + 1) 2 L (.inr (.inr (m + 2)) :: r) h Q = (match h.1[m]? with | some (.inl (ci, fs)) => (match lkF 10 45 ci with | some k => (match fs[k]? with | some v => G sp sc [] d mX10_doDeed n 5 L (v :: r) h Q | none => False) | none => False) | _ => False)) ∧
  (∀ (n d : Nat) (L : List (Option iV)) (st : List iV) (h : iH) (Q : Option iV → iH → Prop), G sp sc [] d mX10_doDeed (n + 1) 5 L st h Q = G sp sc [] d mX10_doDeed n 6 L (.inl 1 :: st) h Q) ∧
  (∀ (n d : Nat) (L : List (Option iV)) (a : Int) (b : Int) (r : List iV) (h : iH) (Q : Option iV → iH → Prop), G sp sc [] d mX10_doDeed (n + 1) 6 L (.inl b :: .inl a :: r) h Q = G sp sc [] d mX10_doDeed n 7 L (.inl (a + b) :: r) h Q) ∧
  (∀ (n d : Nat) (L : List (Option iV)) (r : List iV) (v : iV) (m : Nat) (h : iH) (Q : Option iV → iH → Prop), G sp sc [] d mX10_doDeed (n + 1) 7 L (v :: .inr (.inr (m + 2)) :: r) h Q = (match h.1[m]? with | some (.inl (ci, fs)) => (match lkF 10 45 ci with | some k => (fitV (tyT ci k) v = true ∧ k < fs.length ∧ pOK 10 false ci k = true) ∧ G sp sc [] d mX10_doDeed n 10 L r (h.1.set m (.inl (ci, fs.set k v)), h.2) Q | none => False) | _ => False)) ∧
  (∀ (n d : Nat) (L : List (Option iV)) (st : List iV) (h : iH) (Q : Option iV → iH → Prop), G sp sc [] d mX10_doDeed (n + 1) 10 L st h Q = (match ld L 0 with | some (.inr (.inr (r + 1))) => G sp sc [] d mX10_doDeed n 11 L (.inr (.inr (r + 1)) :: st) h Q | _ => False)) ∧
  (∀ (n d : Nat) (L : List (Option iV)) (r : List iV) (m : Nat) (h : iH) (Q : Option iV → iH → Prop), G sp sc [] d mX10_doDeed (n + 1) 11 L (.inr (.inr (m + 2)) :: r) h Q = (match h.1[m]? with | some (.inl (ci, fs)) => (match lkF 10 25 ci with | some k => (match fs[k]? with | some v => G sp sc [] d mX10_doDeed n 14 L (v :: r) h Q | none => False) | none => False) | _ => False)) ∧
  (∀ (n d : Nat) (L : List (Option iV)) (r : List iV) (m : Nat) (h : iH) (Q : Option iV → iH → Prop), G sp sc [] d mX10_doDeed (n + 1) 14 L (.inr (.inr (m + 2)) :: r) h Q = (match h.1[m]? with | some (.inl (ci, fs)) => (match lkF 10 141 ci with | some k => (match fs[k]? with | some v => G sp sc [] d mX10_doDeed n 17 L (v :: r) h Q | none => False) | none => False) | _ => False)) ∧
  (∀ (n d : Nat) (L : List (Option iV)) (st : List iV) (h : iH) (Q : Option iV → iH → Prop), G sp sc [] d mX10_doDeed (n + 1) 17 L st h Q = (match ld L 1 with | some (.inl x) => G sp sc [] d mX10_doDeed n 18 L (.inl x :: st) h Q | _ => False)) ∧
  (∀ (n d : Nat) (L : List (Option iV)) (a : Int) (b : Nat) (r : List iV) (h : iH) (Q : Option iV → iH → Prop), G sp sc [] d mX10_doDeed (n + 1) 18 L (.inl a :: .inr (.inr b) :: r) h Q = G sp sc [] d mX10_doDeed n 19 L (.inl a :: .inr (.inr b) :: .inl a :: .inr (.inr b) :: r) h Q) ∧
  (∀ (n d : Nat) (L : List (Option iV)) (r : List iV) (j : Int) (m : Nat) (h : iH) (Q : Option iV → iH → Prop), G sp sc [] d mX10_doDeed (n + 1) 19 L (.inl j :: .inr (.inr (m + 2)) :: r) h Q = (match h.1[m]? with | some (.inr (.inl (0, xs))) => inA j xs.length = true ∧ G sp sc [] d mX10_doDeed n 20 L (.inl (xs.getD j.toNat 0) :: r) h Q | _ => False)) ∧
  (∀ (n d : Nat) (L : List (Option iV)) (st : List iV) (h : iH) (Q : Option iV → iH → Prop), G sp sc [] d mX10_doDeed (n + 1) 20 L st h Q = G sp sc [] d mX10_doDeed n 21 L (.inl 1 :: st) h Q) ∧
  (∀ (n d : Nat) (L : List (Option iV)) (a : Int) (b : Int) (r : List iV) (h : iH) (Q : Option iV → iH → Prop), G sp sc [] d mX10_doDeed (n + 1) 21 L (.inl b :: .inl a :: r) h Q = G sp sc [] d mX10_doDeed n 22 L (.inl (a + b) :: r) h Q) ∧
  (∀ (n d : Nat) (L : List (Option iV)) (r : List iV) (v : Int) (j : Int) (m : Nat) (h : iH) (Q : Option iV → iH → Prop), G sp sc [] d mX10_doDeed (n + 1) 22 L (.inl v :: .inl j :: .inr (.inr (m + 2)) :: r) h Q = (match h.1[m]? with | some (.inr (.inl (0, xs))) => inA j xs.length = true ∧ G sp sc [] d mX10_doDeed n 23 L r (h.1.set m (.inr (.inl (0, xs.set j.toNat v))), h.2) Q | _ => False)) ∧
  (∀ (n d : Nat) (L : List (Option iV)) (st : List iV) (h : iH) (Q : Option iV → iH → Prop), G sp sc [] d mX10_doDeed (n + 1) 23 L st h Q = (match ld L 0 with | some (.inr (.inr (r + 1))) => G sp sc [] d mX10_doDeed n 24 L (.inr (.inr (r + 1)) :: st) h Q | _ => False)) ∧
  (∀ (n d : Nat) (L : List (Option iV)) (r : List iV) (m : Nat) (h : iH) (Q : Option iV → iH → Prop), G sp sc [] d mX10_doDeed (n + 1) 24 L (.inr (.inr (m + 2)) :: r) h Q = (match h.1[m]? with | some (.inl (ci, fs)) => (match lkF 10 25 ci with | some k => (match fs[k]? with | some v => G sp sc [] d mX10_doDeed n 27 L (v :: r) h Q | none => False) | none => False) | _ => False)) ∧
  (∀ (n d : Nat) (L : List (Option iV)) (r : List iV) (m : Nat) (h : iH) (Q : Option iV → iH → Prop), G sp sc [] d mX10_doDeed (n + 1) 27 L (.inr (.inr (m + 2)) :: r) h Q = (match h.1[m]? with | some (.inl (ci, fs)) => (match lkF 10 141 ci with | some k => (match fs[k]? with | some v => G sp sc [] d mX10_doDeed n 30 L (v :: r) h Q | none => False) | none => False) | _ => False)) ∧
  (∀ (n d : Nat) (L : List (Option iV)) (st : List iV) (h : iH) (Q : Option iV → iH → Prop), G sp sc [] d mX10_doDeed (n + 1) 30 L st h Q = (match ld L 1 with | some (.inl x) => G sp sc [] d mX10_doDeed n 31 L (.inl x :: st) h Q | _ => False)) ∧
  (∀ (n d : Nat) (L : List (Option iV)) (r : List iV) (j : Int) (m : Nat) (h : iH) (Q : Option iV → iH → Prop), G sp sc [] d mX10_doDeed (n + 1) 31 L (.inl j :: .inr (.inr (m + 2)) :: r) h Q = (match h.1[m]? with | some (.inr (.inl (0, xs))) => inA j xs.length = true ∧ G sp sc [] d mX10_doDeed n 32 L (.inl (xs.getD j.toNat 0) :: r) h Q | _ => False)) ∧
  (∀ (n d : Nat) (L : List (Option iV)) (st : List iV) (h : iH) (Q : Option iV → iH → Prop), G sp sc [] d mX10_doDeed (n + 1) 32 L st h Q = ((-128 ≤ (6 : Int) ∧ (6 : Int) < 128) ∧ G sp sc [] d mX10_doDeed n 34 L (.inl 6 :: st) h Q)) ∧
  (∀ (n d : Nat) (L : List (Option iV)) (a : Int) (b : Int) (r : List iV) (h : iH) (Q : Option iV → iH → Prop), G sp sc [] d mX10_doDeed (n + 1) 34 L (.inl b :: .inl a :: r) h Q = ((inI a = true ∧ inI b = true) ∧ (a < b → G sp sc [] d mX10_doDeed n 90 L r h Q) ∧ (¬ (a < b) → G sp sc [] d mX10_doDeed n 37 L r h Q))) ∧
  (∀ (n d : Nat) (L : List (Option iV)) (st : List iV) (h : iH) (Q : Option iV → iH → Prop), G sp sc [] d mX10_doDeed (n + 1) 37 L st h Q = (match ld L 0 with | some (.inr (.inr (r + 1))) => G sp sc [] d mX10_doDeed n 38 L (.inr (.inr (r + 1)) :: st) h Q | _ => False)) ∧
  (∀ (n d : Nat) (L : List (Option iV)) (st : List iV) (h : iH) (Q : Option iV → iH → Prop), G sp sc [] d mX10_doDeed (n + 1) 38 L st h Q = (match ld L 1 with | some (.inl x) => G sp sc [] d mX10_doDeed n 39 L (.inl x :: st) h Q | _ => False)) ∧
  (∀ (n d : Nat) (L : List (Option iV)) (st : List iV) (h : iH) (Q : Option iV → iH → Prop), G sp sc [] d mX10_doDeed (n + 1) 39 L st h Q = G sp sc [] d mX10_doDeed n 40 L (.inl 1 :: st) h Q) ∧
  (∀ (n d : Nat) (L : List (Option iV)) (r : List iV) (m : Nat) (z0 : iV) (z1 : iV) (h : iH) (Q : Option iV → iH → Prop), G sp sc [] (d + 1) mX10_doDeed (n + 1) 40 L (z1 :: z0 :: .inr (.inr (m + 2)) :: r) h Q = (match h.1[m]? with | some (.inl (ci, _)) => (match lkC 10 132 ci with | some (y1, n1, kd) => (n1 = 2 ∧ (kd = 2 ∨ kd = 3 ∨ kd = 8) ∧ cs r ≤ 8) ∧ Call sp sc d y1 [.inr (.inr (m + 2)), z0, z1] h (fun q h1 => GC sp sc [] (d + 1) mX10_doDeed n 43 L q r h h1 Q) | none => False) | _ => False)) ∧
  (∀ (n d : Nat) (L : List (Option iV)) (st : List iV) (h : iH) (Q : Option iV → iH → Prop), G sp sc [] d mX10_doDeed (n + 1) 43 L st h Q = (match ld L 0 with | some (.inr (.inr (r + 1))) => G sp sc [] d mX10_doDeed n 44 L (.inr (.inr (r + 1)) :: st) h Q | _ => False)) ∧
  (∀ (n d : Nat) (L : List (Option iV)) (r : List iV) (m : Nat) (h : iH) (Q : Option iV → iH → Prop), G sp sc [] d mX10_doDeed (n + 1) 44 L (.inr (.inr (m + 2)) :: r) h Q = (match h.1[m]? with | some (.inl (ci, fs)) => (match lkF 10 25 ci with | some k => (match fs[k]? with | some v => G sp sc [] d mX10_doDeed n 47 L (v :: r) h Q | none => False) | none => False) | _ => False)) ∧
  (∀ (n d : Nat) (L : List (Option iV)) (st : List iV) (h : iH) (Q : Option iV → iH → Prop), G sp sc [] d mX10_doDeed (n + 1) 47 L st h Q = (match ld L 0 with | some (.inr (.inr (r + 1))) => G sp sc [] d mX10_doDeed n 48 L (.inr (.inr (r + 1)) :: st) h Q | _ => False)) ∧
  (∀ (n d : Nat) (L : List (Option iV)) (r : List iV) (m : Nat) (h : iH) (Q : Option iV → iH → Prop), G sp sc [] d mX10_doDeed (n + 1) 48 L (.inr (.inr (m + 2)) :: r) h Q = (match h.1[m]? with | some (.inl (ci, fs)) => (match lkF 10 25 ci with | some k => (match fs[k]? with | some v => G sp sc [] d mX10_doDeed n 51 L (v :: r) h Q | none => False) | none => False) | _ => False)) ∧
  (∀ (n d : Nat) (L : List (Option iV)) (r : List iV) (m : Nat) (h : iH) (Q : Option iV → iH → Prop), G sp sc [] d mX10_doDeed (n + 1) 51 L (.inr (.inr (m + 2)) :: r) h Q = (match h.1[m]? with | some (.inl (ci, fs)) => (match lkF 10 92 ci with | some k => (match fs[k]? with | some v => G sp sc [] d mX10_doDeed n 54 L (v :: r) h Q | none => False) | none => False) | _ => False)) ∧
  (∀ (n d : Nat) (L : List (Option iV)) (st : List iV) (h : iH) (Q : Option iV → iH → Prop), G sp sc [] d mX10_doDeed (n + 1) 54 L st h Q = (match ld L 1 with | some (.inl x) => G sp sc [] d mX10_doDeed n 55 L (.inl x :: st) h Q | _ => False)) ∧
  (∀ (n d : Nat) (L : List (Option iV)) (r : List iV) (j : Int) (m : Nat) (h : iH) (Q : Option iV → iH → Prop), G sp sc [] d mX10_doDeed (n + 1) 55 L (.inl j :: .inr (.inr (m + 2)) :: r) h Q = (match h.1[m]? with | some (.inr (.inl (0, xs))) => inA j xs.length = true ∧ G sp sc [] d mX10_doDeed n 56 L (.inl (xs.getD j.toNat 0) :: r) h Q | _ => False)) ∧
  (∀ (n d : Nat) (L : List (Option iV)) (st : List iV) (h : iH) (Q : Option iV → iH → Prop), G sp sc [] d mX10_doDeed (n + 1) 56 L st h Q = (match ld L 0 with | some (.inr (.inr (r + 1))) => G sp sc [] d mX10_doDeed n 57 L (.inr (.inr (r + 1)) :: st) h Q | _ => False)) ∧
  (∀ (n d : Nat) (L : List (Option iV)) (r : List iV) (m : Nat) (h : iH) (Q : Option iV → iH → Prop), G sp sc [] d mX10_doDeed (n + 1) 57 L (.inr (.inr (m + 2)) :: r) h Q = (match h.1[m]? with | some (.inl (ci, fs)) => (match lkF 10 25 ci with | some k => (match fs[k]? with | some v => G sp sc [] d mX10_doDeed n 60 L (v :: r) h Q | none => False) | none => False) | _ => False)) ∧
  (∀ (n d : Nat) (L : List (Option iV)) (r : List iV) (m : Nat) (h : iH) (Q : Option iV → iH → Prop), G sp sc [] d mX10_doDeed (n + 1) 60 L (.inr (.inr (m + 2)) :: r) h Q = (match h.1[m]? with | some (.inl (ci, fs)) => (match lkF 10 95 ci with | some k => (match fs[k]? with | some v => G sp sc [] d mX10_doDeed n 63 L (v :: r) h Q | none => False) | none => False) | _ => False)) ∧
  (∀ (n d : Nat) (L : List (Option iV)) (st : List iV) (h : iH) (Q : Option iV → iH → Prop), G sp sc [] d mX10_doDeed (n + 1) 63 L st h Q = (match ld L 1 with | some (.inl x) => G sp sc [] d mX10_doDeed n 64 L (.inl x :: st) h Q | _ => False)) ∧
  (∀ (n d : Nat) (L : List (Option iV)) (r : List iV) (j : Int) (m : Nat) (h : iH) (Q : Option iV → iH → Prop), G sp sc [] d mX10_doDeed (n + 1) 64 L (.inl j :: .inr (.inr (m + 2)) :: r) h Q = (match h.1[m]? with | some (.inr (.inl (0, xs))) => inA j xs.length = true ∧ G sp sc [] d mX10_doDeed n 65 L (.inl (xs.getD j.toNat 0) :: r) h Q | _ => False)) ∧
  (∀ (n d : Nat) (L : List (Option iV)) (r : List iV) (m : Nat) (z0 : iV) (z1 : iV) (h : iH) (Q : Option iV → iH → Prop), G sp sc [] (d + 1) mX10_doDeed (n + 1) 65 L (z1 :: z0 :: .inr (.inr (m + 2)) :: r) h Q = (match h.1[m]? with | some (.inl (ci, _)) => (match lkC 10 135 ci with | some (y1, n1, kd) => (n1 = 2 ∧ (kd = 2 ∨ kd = 3 ∨ kd = 8) ∧ cs r ≤ 8) ∧ Call sp sc d y1 [.inr (.inr (m + 2)), z0, z1] h (fun q h1 => GC sp sc [] (d + 1) mX10_doDeed n 68 L q r h h1 Q) | none => False) | _ => False)) ∧
  (∀ (n d : Nat) (L : List (Option iV)) (st : List iV) (h : iH) (Q : Option iV → iH → Prop), G sp sc [] d mX10_doDeed (n + 1) 68 L st h Q = (match ld L 0 with | some (.inr (.inr (r + 1))) => G sp sc [] d mX10_doDeed n 69 L (.inr (.inr (r + 1)) :: st) h Q | _ => False)) ∧
  (∀ (n d : Nat) (L : List (Option iV)) (st : List iV) (h : iH) (Q : Option iV → iH → Prop), G sp sc [] d mX10_doDeed (n + 1) 69 L st h Q = (match ld L 0 with | some (.inr (.inr (r + 1))) => G sp sc [] d mX10_doDeed n 70 L (.inr (.inr (r + 1)) :: st) h Q | _ => False)) ∧
  (∀ (n d : Nat) (L : List (Option iV)) (r : List iV) (m : Nat) (h : iH) (Q : Option iV → iH → Prop), G sp sc [] d mX10_doDeed (n + 1) 70 L (.inr (.inr (m + 2)) :: r) h Q = (match h.1[m]? with | some (.inl (ci, fs)) => (match lkF 10 25 ci with | some k => (match fs[k]? with | some v => G sp sc [] d mX10_doDeed n 73 L (v :: r) h Q | none => False) | none => False) | _ => False)) ∧
  (∀ (n d : Nat) (L : List (Option iV)) (r : List iV) (m : Nat) (h : iH) (Q : Option iV → iH → Prop), G sp sc [] d mX10_doDeed (n + 1) 73 L (.inr (.inr (m + 2)) :: r) h Q = (match h.1[m]? with | some (.inl (ci, fs)) => (match lkF 10 92 ci with | some k => (match fs[k]? with | some v => G sp sc [] d mX10_doDeed n 76 L (v :: r) h Q | none => False) | none => False) | _ => False)) ∧
  (∀ (n d : Nat) (L : List (Option iV)) (st : List iV) (h : iH) (Q : Option iV → iH → Prop), G sp sc [] d mX10_doDeed (n + 1) 76 L st h Q = (match ld L 1 with | some (.inl x) => G sp sc [] d mX10_doDeed n 77 L (.inl x :: st) h Q | _ => False)) ∧
  (∀ (n d : Nat) (L : List (Option iV)) (r : List iV) (j : Int) (m : Nat) (h : iH) (Q : Option iV → iH → Prop), G sp sc [] d mX10_doDeed (n + 1) 77 L (.inl j :: .inr (.inr (m + 2)) :: r) h Q = (match h.1[m]? with | some (.inr (.inl (0, xs))) => inA j xs.length = true ∧ G sp sc [] d mX10_doDeed n 78 L (.inl (xs.getD j.toNat 0) :: r) h Q | _ => False)) ∧
  (∀ (n d : Nat) (L : List (Option iV)) (st : List iV) (h : iH) (Q : Option iV → iH → Prop), G sp sc [] d mX10_doDeed (n + 1) 78 L st h Q = (match ld L 0 with | some (.inr (.inr (r + 1))) => G sp sc [] d mX10_doDeed n 79 L (.inr (.inr (r + 1)) :: st) h Q | _ => False)) ∧
  (∀ (n d : Nat) (L : List (Option iV)) (r : List iV) (m : Nat) (h : iH) (Q : Option iV → iH → Prop), G sp sc [] d mX10_doDeed (n + 1) 79 L (.inr (.inr (m + 2)) :: r) h Q = (match h.1[m]? with | some (.inl (ci, fs)) => (match lkF 10 25 ci with | some k => (match fs[k]? with | some v => G sp sc [] d mX10_doDeed n 82 L (v :: r) h Q | none => False) | none => False) | _ => False)) ∧
  (∀ (n d : Nat) (L : List (Option iV)) (r : List iV) (m : Nat) (h : iH) (Q : Option iV → iH → Prop), G sp sc [] d mX10_doDeed (n + 1) 82 L (.inr (.inr (m + 2)) :: r) h Q = (match h.1[m]? with | some (.inl (ci, fs)) => (match lkF 10 95 ci with | some k => (match fs[k]? with | some v => G sp sc [] d mX10_doDeed n 85 L (v :: r) h Q | none => False) | none => False) | _ => False)) ∧
  (∀ (n d : Nat) (L : List (Option iV)) (st : List iV) (h : iH) (Q : Option iV → iH → Prop), G sp sc [] d mX10_doDeed (n + 1) 85 L st h Q = (match ld L 1 with | some (.inl x) => G sp sc [] d mX10_doDeed n 86 L (.inl x :: st) h Q | _ => False)) ∧
  (∀ (n d : Nat) (L : List (Option iV)) (r : List iV) (j : Int) (m : Nat) (h : iH) (Q : Option iV → iH → Prop), G sp sc [] d mX10_doDeed (n + 1) 86 L (.inl j :: .inr (.inr (m + 2)) :: r) h Q = (match h.1[m]? with | some (.inr (.inl (0, xs))) => inA j xs.length = true ∧ G sp sc [] d mX10_doDeed n 87 L (.inl (xs.getD j.toNat 0) :: r) h Q | _ => False)) ∧
  (∀ (n d : Nat) (L : List (Option iV)) (r : List iV) (m : Nat) (z0 : iV) (z1 : iV) (h : iH) (Q : Option iV → iH → Prop), G sp sc [] (d + 1) mX10_doDeed (n + 1) 87 L (z1 :: z0 :: .inr (.inr (m + 2)) :: r) h Q = (match h.1[m]? with | some (.inl (ci, _)) => (match lkC 10 138 ci with | some (y1, n1, kd) => (n1 = 2 ∧ (kd = 2 ∨ kd = 3 ∨ kd = 8) ∧ cs r ≤ 8) ∧ Call sp sc d y1 [.inr (.inr (m + 2)), z0, z1] h (fun q h1 => GC sp sc [] (d + 1) mX10_doDeed n 90 L q r h h1 Q) | none => False) | _ => False)) ∧
  (∀ (n d : Nat) (L : List (Option iV))  (h : iH) (Q : Option iV → iH → Prop), G sp sc [] d mX10_doDeed (n + 1) 90 L [] h Q = Q none h) ∧
  lkC 10 132 10 = some (mX10_end, 2, 2) ∧
  lkC 10 135 8 = some (mX8_bind, 2, 2) ∧
  lkC 10 138 10 = some (mX10_loseCouplesWith, 2, 2) ∧
  lkF 10 141 8 = some 9 ∧
  lkF 10 25 10 = some 0 ∧
  lkF 10 45 10 = some 6 ∧
  lkF 10 92 8 = some 6 ∧
  lkF 10 95 8 = some 7 ∧
  pOK 10 false 10 6 = true := ⟨by intros; exact G_at (by decide +kernel : fetch mX10_doDeed 0 = some (.aload_n 0)),
  by intros; exact G_at (by decide +kernel : fetch mX10_doDeed 1 = some (.dup)),
  by intros; exact G_at (by decide +kernel : fetch mX10_doDeed 1 = some (.dup)),
  by intros; exact G_own (by decide +kernel : fetch mX10_doDeed 2 = some (.getfield 45)) (by decide +kernel),
  by intros; exact G_at (by decide +kernel : fetch mX10_doDeed 5 = some (.iconst 1)),
  by intros; exact G_at (by decide +kernel : fetch mX10_doDeed 6 = some (.iadd)),
  by intros; exact G_ownW (by decide +kernel : fetch mX10_doDeed 7 = some (.putfield 45)) (by decide +kernel) (by decide +kernel),
  by intros; exact G_at (by decide +kernel : fetch mX10_doDeed 10 = some (.aload_n 0)),
  by intros; exact G_own (by decide +kernel : fetch mX10_doDeed 11 = some (.getfield 25)) (by decide +kernel),
  by intros; exact G_own (by decide +kernel : fetch mX10_doDeed 14 = some (.getfield 141)) (by decide +kernel),
  by intros; exact G_at (by decide +kernel : fetch mX10_doDeed 17 = some (.iload_n 1)),
  by intros; exact G_at (by decide +kernel : fetch mX10_doDeed 18 = some (.dup2)),
  by intros; exact G_at (by decide +kernel : fetch mX10_doDeed 19 = some (.iaload)),
  by intros; exact G_at (by decide +kernel : fetch mX10_doDeed 20 = some (.iconst 1)),
  by intros; exact G_at (by decide +kernel : fetch mX10_doDeed 21 = some (.iadd)),
  by intros; exact G_at (by decide +kernel : fetch mX10_doDeed 22 = some (.iastore)),
  by intros; exact G_at (by decide +kernel : fetch mX10_doDeed 23 = some (.aload_n 0)),
  by intros; exact G_own (by decide +kernel : fetch mX10_doDeed 24 = some (.getfield 25)) (by decide +kernel),
  by intros; exact G_own (by decide +kernel : fetch mX10_doDeed 27 = some (.getfield 141)) (by decide +kernel),
  by intros; exact G_at (by decide +kernel : fetch mX10_doDeed 30 = some (.iload_n 1)),
  by intros; exact G_at (by decide +kernel : fetch mX10_doDeed 31 = some (.iaload)),
  by intros; exact G_at (by decide +kernel : fetch mX10_doDeed 32 = some (.bipush 6)),
  by intros; exact G_at (by decide +kernel : fetch mX10_doDeed 34 = some (.if_icmp .lt 56)),
  by intros; exact G_at (by decide +kernel : fetch mX10_doDeed 37 = some (.aload_n 0)),
  by intros; exact G_at (by decide +kernel : fetch mX10_doDeed 38 = some (.iload_n 1)),
  by intros; exact G_at (by decide +kernel : fetch mX10_doDeed 39 = some (.iconst 1)),
  by intros; exact G_callV (by decide +kernel : fetch mX10_doDeed 40 = some (.invokevirtual 132)) (by decide +kernel) (by decide +kernel) rfl,
  by intros; exact G_at (by decide +kernel : fetch mX10_doDeed 43 = some (.aload_n 0)),
  by intros; exact G_own (by decide +kernel : fetch mX10_doDeed 44 = some (.getfield 25)) (by decide +kernel),
  by intros; exact G_at (by decide +kernel : fetch mX10_doDeed 47 = some (.aload_n 0)),
  by intros; exact G_own (by decide +kernel : fetch mX10_doDeed 48 = some (.getfield 25)) (by decide +kernel),
  by intros; exact G_own (by decide +kernel : fetch mX10_doDeed 51 = some (.getfield 92)) (by decide +kernel),
  by intros; exact G_at (by decide +kernel : fetch mX10_doDeed 54 = some (.iload_n 1)),
  by intros; exact G_at (by decide +kernel : fetch mX10_doDeed 55 = some (.iaload)),
  by intros; exact G_at (by decide +kernel : fetch mX10_doDeed 56 = some (.aload_n 0)),
  by intros; exact G_own (by decide +kernel : fetch mX10_doDeed 57 = some (.getfield 25)) (by decide +kernel),
  by intros; exact G_own (by decide +kernel : fetch mX10_doDeed 60 = some (.getfield 95)) (by decide +kernel),
  by intros; exact G_at (by decide +kernel : fetch mX10_doDeed 63 = some (.iload_n 1)),
  by intros; exact G_at (by decide +kernel : fetch mX10_doDeed 64 = some (.iaload)),
  by intros; exact G_callV (by decide +kernel : fetch mX10_doDeed 65 = some (.invokevirtual 135)) (by decide +kernel) (by decide +kernel) rfl,
  by intros; exact G_at (by decide +kernel : fetch mX10_doDeed 68 = some (.aload_n 0)),
  by intros; exact G_at (by decide +kernel : fetch mX10_doDeed 69 = some (.aload_n 0)),
  by intros; exact G_own (by decide +kernel : fetch mX10_doDeed 70 = some (.getfield 25)) (by decide +kernel),
  by intros; exact G_own (by decide +kernel : fetch mX10_doDeed 73 = some (.getfield 92)) (by decide +kernel),
  by intros; exact G_at (by decide +kernel : fetch mX10_doDeed 76 = some (.iload_n 1)),
  by intros; exact G_at (by decide +kernel : fetch mX10_doDeed 77 = some (.iaload)),
  by intros; exact G_at (by decide +kernel : fetch mX10_doDeed 78 = some (.aload_n 0)),
  by intros; exact G_own (by decide +kernel : fetch mX10_doDeed 79 = some (.getfield 25)) (by decide +kernel),
  by intros; exact G_own (by decide +kernel : fetch mX10_doDeed 82 = some (.getfield 95)) (by decide +kernel),
  by intros; exact G_at (by decide +kernel : fetch mX10_doDeed 85 = some (.iload_n 1)),
  by intros; exact G_at (by decide +kernel : fetch mX10_doDeed 86 = some (.iaload)),
  by intros; exact G_callV (by decide +kernel : fetch mX10_doDeed 87 = some (.invokevirtual 138)) (by decide +kernel) (by decide +kernel) rfl,
  by intros; exact G_retv (by decide +kernel : fetch mX10_doDeed 90 = some (.return_)) (by decide +kernel),
  by decide +kernel,
  by decide +kernel,
  by decide +kernel,
  by decide +kernel,
  by decide +kernel,
  by decide +kernel,
  by decide +kernel,
  by decide +kernel,
  by decide +kernel⟩
theorem gX10_end : (∀ (n d : Nat) (L : List (Option iV)) (st : List iV) (h : iH) (Q : Option iV → iH → Prop), G sp sc [] d mX10_end (n + 1) 0 L st h Q = (match ld L 0 with | some (.inr (.inr (r + 1))) => G sp sc [] d mX10_end n 1 L (.inr (.inr (r + 1)) :: st) h Q | _ => False)) ∧
  (∀ (n d : Nat) (L : List (Option iV)) (r : List iV) (m : Nat) (h : iH) (Q : Option iV → iH → Prop), G sp sc [] d mX10_end (n + 1) 1 L (.inr (.inr (m + 2)) :: r) h Q = (match h.1[m]? with | some (.inl (ci, fs)) => (match lkF 10 25 ci with | some k => (match fs[k]? with | some v => G sp sc [] d mX10_end n 4 L (v :: r) h Q | none => False) | none => False) | _ => False)) ∧
  (∀ (n d : Nat) (L : List (Option iV)) (r : List iV) (m : Nat) (h : iH) (Q : Option iV → iH → Prop), G sp sc [] d mX10_end (n + 1) 4 L (.inr (.inr (m + 2)) :: r) h Q = (match h.1[m]? with | some (.inl (ci, fs)) => (match lkF 10 144 ci with | some k => (match fs[k]? with | some v => G sp sc [] d mX10_end n 7 L (v :: r) h Q | none => False) | none => False) | _ => False)) ∧
  (∀ (n d : Nat) (L : List (Option iV)) (st : List iV) (h : iH) (Q : Option iV → iH → Prop), G sp sc [] d mX10_end (n + 1) 7 L st h Q = (match ld L 1 with | some (.inl x) => G sp sc [] d mX10_end n 8 L (.inl x :: st) h Q | _ => False)) ∧
  (∀ (n d : Nat) (L : List (Option iV)) (st : List iV) (h : iH) (Q : Option iV → iH → Prop), G sp sc [] d mX10_end (n + 1) 8 L st h Q = (match ld L 2 with | some (.inl x) => G sp sc [] d mX10_end n 9 L (.inl x :: st) h Q | _ => False)) ∧
  (∀ (n d : Nat) (L : List (Option iV)) (r : List iV) (v : Int) (j : Int) (m : Nat) (h : iH) (Q : Option iV → iH → Prop), G sp sc [] d mX10_end (n + 1) 9 L (.inl v :: .inl j :: .inr (.inr (m + 2)) :: r) h Q = (match h.1[m]? with | some (.inr (.inl (0, xs))) => inA j xs.length = true ∧ G sp sc [] d mX10_end n 10 L r (h.1.set m (.inr (.inl (0, xs.set j.toNat v))), h.2) Q | _ => False)) ∧
  (∀ (n d : Nat) (L : List (Option iV)) (st : List iV) (h : iH) (Q : Option iV → iH → Prop), G sp sc [] d mX10_end (n + 1) 10 L st h Q = (match ld L 0 with | some (.inr (.inr (r + 1))) => G sp sc [] d mX10_end n 11 L (.inr (.inr (r + 1)) :: st) h Q | _ => False)) ∧
  (∀ (n d : Nat) (L : List (Option iV)) (r : List iV) (m : Nat) (h : iH) (Q : Option iV → iH → Prop), G sp sc [] d mX10_end (n + 1) 11 L (.inr (.inr (m + 2)) :: r) h Q = (match h.1[m]? with | some (.inl (ci, fs)) => (match lkF 10 22 ci with | some k => (match fs[k]? with | some v => G sp sc [] d mX10_end n 14 L (v :: r) h Q | none => False) | none => False) | _ => False)) ∧
  (∀ (n d : Nat) (L : List (Option iV)) (st : List iV) (h : iH) (Q : Option iV → iH → Prop), G sp sc [] d mX10_end (n + 1) 14 L st h Q = (match ld L 1 with | some (.inl x) => G sp sc [] d mX10_end n 15 L (.inl x :: st) h Q | _ => False)) ∧
  (∀ (n d : Nat) (L : List (Option iV)) (st : List iV) (h : iH) (Q : Option iV → iH → Prop), G sp sc [] d mX10_end (n + 1) 15 L st h Q = (match ld L 0 with | some (.inr (.inr (r + 1))) => G sp sc [] d mX10_end n 16 L (.inr (.inr (r + 1)) :: st) h Q | _ => False)) ∧
  (∀ (n d : Nat) (L : List (Option iV)) (r : List iV) (m : Nat) (h : iH) (Q : Option iV → iH → Prop), G sp sc [] d mX10_end (n + 1) 16 L (.inr (.inr (m + 2)) :: r) h Q = (match h.1[m]? with | some (.inl (ci, fs)) => (match lkF 10 41 ci with | some k => (match fs[k]? with | some v => G sp sc [] d mX10_end n 19 L (v :: r) h Q | none => False) | none => False) | _ => False)) ∧
  (∀ (n d : Nat) (L : List (Option iV)) (r : List iV) (v : Int) (j : Int) (m : Nat) (h : iH) (Q : Option iV → iH → Prop), G sp sc [] d mX10_end (n + 1) 19 L (.inl v :: .inl j :: .inr (.inr (m + 2)) :: r) h Q = (match h.1[m]? with | some (.inr (.inl (0, xs))) => inA j xs.length = true ∧ G sp sc [] d mX10_end n 20 L r (h.1.set m (.inr (.inl (0, xs.set j.toNat v))), h.2) Q | _ => False)) ∧
  (∀ (n d : Nat) (L : List (Option iV))  (h : iH) (Q : Option iV → iH → Prop), G sp sc [] d mX10_end (n + 1) 20 L [] h Q = Q none h) ∧
  lkF 10 144 8 = some 8 ∧
  lkF 10 22 10 = some 4 ∧
  lkF 10 25 10 = some 0 ∧
  lkF 10 41 10 = some 5 := ⟨by intros; exact G_at (by decide +kernel : fetch mX10_end 0 = some (.aload_n 0)),
  by intros; exact G_own (by decide +kernel : fetch mX10_end 1 = some (.getfield 25)) (by decide +kernel),
  by intros; exact G_own (by decide +kernel : fetch mX10_end 4 = some (.getfield 144)) (by decide +kernel),
  by intros; exact G_at (by decide +kernel : fetch mX10_end 7 = some (.iload_n 1)),
  by intros; exact G_at (by decide +kernel : fetch mX10_end 8 = some (.iload_n 2)),
  by intros; exact G_at (by decide +kernel : fetch mX10_end 9 = some (.iastore)),
  by intros; exact G_at (by decide +kernel : fetch mX10_end 10 = some (.aload_n 0)),
  by intros; exact G_own (by decide +kernel : fetch mX10_end 11 = some (.getfield 22)) (by decide +kernel),
  by intros; exact G_at (by decide +kernel : fetch mX10_end 14 = some (.iload_n 1)),
  by intros; exact G_at (by decide +kernel : fetch mX10_end 15 = some (.aload_n 0)),
  by intros; exact G_own (by decide +kernel : fetch mX10_end 16 = some (.getfield 41)) (by decide +kernel),
  by intros; exact G_at (by decide +kernel : fetch mX10_end 19 = some (.iastore)),
  by intros; exact G_retv (by decide +kernel : fetch mX10_end 20 = some (.return_)) (by decide +kernel),
  by decide +kernel,
  by decide +kernel,
  by decide +kernel,
  by decide +kernel⟩
theorem gX10_loseCouplesWith : (∀ (n d : Nat) (L : List (Option iV)) (st : List iV) (h : iH) (Q : Option iV → iH → Prop), G sp sc [2] d mX10_loseCouplesWith (n + 1) 0 L st h Q = G sp sc [2] d mX10_loseCouplesWith n 1 L (.inl 0 :: st) h Q) ∧
  (∀ (n d : Nat) (L : List (Option iV)) (r : List iV) (x : Int) (h : iH) (Q : Option iV → iH → Prop), G sp sc [2] d mX10_loseCouplesWith (n + 1) 1 L (.inl x :: r) h Q = (match st1 L 3 (.inl x) with | some L' => Run sp sc d mX10_loseCouplesWith 2 L' r h Q | none => False)) ∧
  (∀ (n d : Nat) (L : List (Option iV)) (st : List iV) (h : iH) (Q : Option iV → iH → Prop), G sp sc [2] d mX10_loseCouplesWith (n + 1) 2 L st h Q = (match ld L 3 with | some (.inl x) => G sp sc [2] d mX10_loseCouplesWith n 3 L (.inl x :: st) h Q | _ => False)) ∧
  (∀ (n d : Nat) (L : List (Option iV)) (st : List iV) (h : iH) (Q : Option iV → iH → Prop), G sp sc [2] d mX10_loseCouplesWith (n + 1) 3 L st h Q = (match ld L 0 with | some (.inr (.inr (r + 1))) => G sp sc [2] d mX10_loseCouplesWith n 4 L (.inr (.inr (r + 1)) :: st) h Q | _ => False)) ∧
  (∀ (n d : Nat) (L : List (Option iV)) (r : List iV) (m : Nat) (h : iH) (Q : Option iV → iH → Prop), G sp sc [2] d mX10_loseCouplesWith (n + 1) 4 L (.inr (.inr (m + 2)) :: r) h Q = (match h.1[m]? with | some (.inl (ci, fs)) => (match lkF 10 25 ci with | some k => (match fs[k]? with | some v => G sp sc [2] d mX10_loseCouplesWith n 7 L (v :: r) h Q | none => False) | none => False) | _ => False)) ∧
  (∀ (n d : Nat) (L : List (Option iV)) (r : List iV) (m : Nat) (h : iH) (Q : Option iV → iH → Prop), G sp sc [2] d mX10_loseCouplesWith (n + 1) 7 L (.inr (.inr (m + 2)) :: r) h Q = (match h.1[m]? with | some (.inl (ci, fs)) => (match lkF 10 54 ci with | some k => (match fs[k]? with | some v => G sp sc [2] d mX10_loseCouplesWith n 10 L (v :: r) h Q | none => False) | none => False) | _ => False)) ∧
  (∀ (n d : Nat) (L : List (Option iV)) (a : Int) (b : Int) (r : List iV) (h : iH) (Q : Option iV → iH → Prop), G sp sc [2] d mX10_loseCouplesWith (n + 1) 10 L (.inl b :: .inl a :: r) h Q = ((inI a = true ∧ inI b = true) ∧ (b ≤ a → G sp sc [2] d mX10_loseCouplesWith n 62 L r h Q) ∧ (¬ (b ≤ a) → G sp sc [2] d mX10_loseCouplesWith n 13 L r h Q))) ∧
  (∀ (n d : Nat) (L : List (Option iV)) (st : List iV) (h : iH) (Q : Option iV → iH → Prop), G sp sc [2] d mX10_loseCouplesWith (n + 1) 13 L st h Q = (match ld L 0 with | some (.inr (.inr (r + 1))) => G sp sc [2] d mX10_loseCouplesWith n 14 L (.inr (.inr (r + 1)) :: st) h Q | _ => False)) ∧
  (∀ (n d : Nat) (L : List (Option iV)) (r : List iV) (m : Nat) (h : iH) (Q : Option iV → iH → Prop), G sp sc [2] d mX10_loseCouplesWith (n + 1) 14 L (.inr (.inr (m + 2)) :: r) h Q = (match h.1[m]? with | some (.inl (ci, fs)) => (match lkF 10 25 ci with | some k => (match fs[k]? with | some v => G sp sc [2] d mX10_loseCouplesWith n 17 L (v :: r) h Q | none => False) | none => False) | _ => False)) ∧
  (∀ (n d : Nat) (L : List (Option iV)) (st : List iV) (h : iH) (Q : Option iV → iH → Prop), G sp sc [2] d mX10_loseCouplesWith (n + 1) 17 L st h Q = (match ld L 3 with | some (.inl x) => G sp sc [2] d mX10_loseCouplesWith n 18 L (.inl x :: st) h Q | _ => False)) ∧
  (∀ (n d : Nat) (L : List (Option iV)) (r : List iV) (m : Nat) (z0 : iV) (h : iH) (Q : Option iV → iH → Prop), G sp sc [2] (d + 1) mX10_loseCouplesWith (n + 1) 18 L (z0 :: .inr (.inr (m + 2)) :: r) h Q = (match h.1[m]? with | some (.inl (ci, _)) => (match lkC 10 64 ci with | some (y1, n1, kd) => (n1 = 1 ∧ (kd = 2 ∨ kd = 3 ∨ kd = 8) ∧ cs r ≤ 8) ∧ Call sp sc d y1 [.inr (.inr (m + 2)), z0] h (fun q h1 => GC sp sc [2] (d + 1) mX10_loseCouplesWith n 21 L q r h h1 Q) | none => False) | _ => False)) ∧
  (∀ (n d : Nat) (L : List (Option iV)) (a : Int) (r : List iV) (h : iH) (Q : Option iV → iH → Prop), G sp sc [2] d mX10_loseCouplesWith (n + 1) 21 L (.inl a :: r) h Q = (inI a = true ∧ (a = 0 → G sp sc [2] d mX10_loseCouplesWith n 56 L r h Q) ∧ (¬ (a = 0) → G sp sc [2] d mX10_loseCouplesWith n 24 L r h Q))) ∧
  (∀ (n d : Nat) (L : List (Option iV)) (st : List iV) (h : iH) (Q : Option iV → iH → Prop), G sp sc [2] d mX10_loseCouplesWith (n + 1) 24 L st h Q = (match ld L 0 with | some (.inr (.inr (r + 1))) => G sp sc [2] d mX10_loseCouplesWith n 25 L (.inr (.inr (r + 1)) :: st) h Q | _ => False)) ∧
  (∀ (n d : Nat) (L : List (Option iV)) (r : List iV) (m : Nat) (h : iH) (Q : Option iV → iH → Prop), G sp sc [2] d mX10_loseCouplesWith (n + 1) 25 L (.inr (.inr (m + 2)) :: r) h Q = (match h.1[m]? with | some (.inl (ci, fs)) => (match lkF 10 25 ci with | some k => (match fs[k]? with | some v => G sp sc [2] d mX10_loseCouplesWith n 28 L (v :: r) h Q | none => False) | none => False) | _ => False)) ∧
  (∀ (n d : Nat) (L : List (Option iV)) (r : List iV) (m : Nat) (h : iH) (Q : Option iV → iH → Prop), G sp sc [2] d mX10_loseCouplesWith (n + 1) 28 L (.inr (.inr (m + 2)) :: r) h Q = (match h.1[m]? with | some (.inl (ci, fs)) => (match lkF 10 92 ci with | some k => (match fs[k]? with | some v => G sp sc [2] d mX10_loseCouplesWith n 31 L (v :: r) h Q | none => False) | none => False) | _ => False)) ∧
  (∀ (n d : Nat) (L : List (Option iV)) (st : List iV) (h : iH) (Q : Option iV → iH → Prop), G sp sc [2] d mX10_loseCouplesWith (n + 1) 31 L st h Q = (match ld L 3 with | some (.inl x) => G sp sc [2] d mX10_loseCouplesWith n 32 L (.inl x :: st) h Q | _ => False)) ∧
  (∀ (n d : Nat) (L : List (Option iV)) (r : List iV) (j : Int) (m : Nat) (h : iH) (Q : Option iV → iH → Prop), G sp sc [2] d mX10_loseCouplesWith (n + 1) 32 L (.inl j :: .inr (.inr (m + 2)) :: r) h Q = (match h.1[m]? with | some (.inr (.inl (0, xs))) => inA j xs.length = true ∧ G sp sc [2] d mX10_loseCouplesWith n 33 L (.inl (xs.getD j.toNat 0) :: r) h Q | _ => False)) ∧
  (∀ (n d : Nat) (L : List (Option iV)) (st : List iV) (h : iH) (Q : Option iV → iH → Prop), G sp sc [2] d mX10_loseCouplesWith (n + 1) 33 L st h Q = (match ld L 1 with | some (.inl x) => G sp sc [2] d mX10_loseCouplesWith n 34 L (.inl x :: st) h Q | _ => False)) ∧
  (∀ (n d : Nat) (L : List (Option iV)) (a : Int) (b : Int) (r : List iV) (h : iH) (Q : Option iV → iH → Prop), G sp sc [2] d mX10_loseCouplesWith (n + 1) 34 L (.inl b :: .inl a :: r) h Q = ((inI a = true ∧ inI b = true) ∧ (a = b → G sp sc [2] d mX10_loseCouplesWith n 50 L r h Q) ∧ (¬ (a = b) → G sp sc [2] d mX10_loseCouplesWith n 37 L r h Q))) ∧
  (∀ (n d : Nat) (L : List (Option iV)) (st : List iV) (h : iH) (Q : Option iV → iH → Prop), G sp sc [2] d mX10_loseCouplesWith (n + 1) 37 L st h Q = (match ld L 0 with | some (.inr (.inr (r + 1))) => G sp sc [2] d mX10_loseCouplesWith n 38 L (.inr (.inr (r + 1)) :: st) h Q | _ => False)) ∧
  (∀ (n d : Nat) (L : List (Option iV)) (r : List iV) (m : Nat) (h : iH) (Q : Option iV → iH → Prop), G sp sc [2] d mX10_loseCouplesWith (n + 1) 38 L (.inr (.inr (m + 2)) :: r) h Q = (match h.1[m]? with | some (.inl (ci, fs)) => (match lkF 10 25 ci with | some k => (match fs[k]? with | some v => G sp sc [2] d mX10_loseCouplesWith n 41 L (v :: r) h Q | none => False) | none => False) | _ => False)) ∧
  (∀ (n d : Nat) (L : List (Option iV)) (r : List iV) (m : Nat) (h : iH) (Q : Option iV → iH → Prop), G sp sc [2] d mX10_loseCouplesWith (n + 1) 41 L (.inr (.inr (m + 2)) :: r) h Q = (match h.1[m]? with | some (.inl (ci, fs)) => (match lkF 10 95 ci with | some k => (match fs[k]? with | some v => G sp sc [2] d mX10_loseCouplesWith n 44 L (v :: r) h Q | none => False) | none => False) | _ => False)) ∧
  (∀ (n d : Nat) (L : List (Option iV)) (st : List iV) (h : iH) (Q : Option iV → iH → Prop), G sp sc [2] d mX10_loseCouplesWith (n + 1) 44 L st h Q = (match ld L 3 with | some (.inl x) => G sp sc [2] d mX10_loseCouplesWith n 45 L (.inl x :: st) h Q | _ => False)) ∧
  (∀ (n d : Nat) (L : List (Option iV)) (r : List iV) (j : Int) (m : Nat) (h : iH) (Q : Option iV → iH → Prop), G sp sc [2] d mX10_loseCouplesWith (n + 1) 45 L (.inl j :: .inr (.inr (m + 2)) :: r) h Q = (match h.1[m]? with | some (.inr (.inl (0, xs))) => inA j xs.length = true ∧ G sp sc [2] d mX10_loseCouplesWith n 46 L (.inl (xs.getD j.toNat 0) :: r) h Q | _ => False)) ∧
  (∀ (n d : Nat) (L : List (Option iV)) (st : List iV) (h : iH) (Q : Option iV → iH → Prop), G sp sc [2] d mX10_loseCouplesWith (n + 1) 46 L st h Q = (match ld L 2 with | some (.inl x) => G sp sc [2] d mX10_loseCouplesWith n 47 L (.inl x :: st) h Q | _ => False)) ∧
  (∀ (n d : Nat) (L : List (Option iV)) (a : Int) (b : Int) (r : List iV) (h : iH) (Q : Option iV → iH → Prop), G sp sc [2] d mX10_loseCouplesWith (n + 1) 47 L (.inl b :: .inl a :: r) h Q = ((inI a = true ∧ inI b = true) ∧ (¬ a = b → G sp sc [2] d mX10_loseCouplesWith n 56 L r h Q) ∧ (¬ (¬ a = b) → G sp sc [2] d mX10_loseCouplesWith n 50 L r h Q))) ∧
  (∀ (n d : Nat) (L : List (Option iV)) (st : List iV) (h : iH) (Q : Option iV → iH → Prop), G sp sc [2] d mX10_loseCouplesWith (n + 1) 50 L st h Q = (match ld L 0 with | some (.inr (.inr (r + 1))) => G sp sc [2] d mX10_loseCouplesWith n 51 L (.inr (.inr (r + 1)) :: st) h Q | _ => False)) ∧
  (∀ (n d : Nat) (L : List (Option iV)) (st : List iV) (h : iH) (Q : Option iV → iH → Prop), G sp sc [2] d mX10_loseCouplesWith (n + 1) 51 L st h Q = (match ld L 3 with | some (.inl x) => G sp sc [2] d mX10_loseCouplesWith n 52 L (.inl x :: st) h Q | _ => False)) ∧
  (∀ (n d : Nat) (L : List (Option iV)) (st : List iV) (h : iH) (Q : Option iV → iH → Prop), G sp sc [2] d mX10_loseCouplesWith (n + 1) 52 L st h Q = G sp sc [2] d mX10_loseCouplesWith n 53 L (.inl 2 :: st) h Q) ∧
  (∀ (n d : Nat) (L : List (Option iV)) (r : List iV) (m : Nat) (z0 : iV) (z1 : iV) (h : iH) (Q : Option iV → iH → Prop), G sp sc [2] (d + 1) mX10_loseCouplesWith (n + 1) 53 L (z1 :: z0 :: .inr (.inr (m + 2)) :: r) h Q = (match h.1[m]? with | some (.inl (ci, _)) => (match lkC 10 132 ci with | some (y1, n1, kd) => (n1 = 2 ∧ (kd = 2 ∨ kd = 3 ∨ kd = 8) ∧ cs r ≤ 8) ∧ Call sp sc d y1 [.inr (.inr (m + 2)), z0, z1] h (fun q h1 => GC sp sc [2] (d + 1) mX10_loseCouplesWith n 56 L q r h h1 Q) | none => False) | _ => False)) ∧
  (∀ (n d : Nat) (L : List (Option iV)) (st : List iV) (h : iH) (Q : Option iV → iH → Prop), G sp sc [2] d mX10_loseCouplesWith (n + 1) 56 L st h Q = (match ld L 3 with | some (.inl x) => (match st1 L 3 (.inl (x + 1)) with | some L' => G sp sc [2] d mX10_loseCouplesWith n 59 L' st h Q | none => False) | _ => False)) ∧
  (∀ (n d : Nat) (L : List (Option iV)) (st : List iV) (h : iH) (Q : Option iV → iH → Prop), G sp sc [2] d mX10_loseCouplesWith (n + 1) 59 L st h Q = Run sp sc d mX10_loseCouplesWith 2 L st h Q) ∧
  (∀ (n d : Nat) (L : List (Option iV))  (h : iH) (Q : Option iV → iH → Prop), G sp sc [2] d mX10_loseCouplesWith (n + 1) 62 L [] h Q = Q none h) ∧
  lkC 10 132 10 = some (mX10_end, 2, 2) ∧
  lkC 10 64 8 = some (mX8_goesOn, 1, 2) ∧
  lkF 10 25 10 = some 0 ∧
  lkF 10 54 8 = some 5 ∧
  lkF 10 92 8 = some 6 ∧
  lkF 10 95 8 = some 7 := ⟨by intros; exact G_at (by decide +kernel : fetch mX10_loseCouplesWith 0 = some (.iconst 0)),
  by intros; exact G_at (by decide +kernel : fetch mX10_loseCouplesWith 1 = some (.istore_n 3)),
  by intros; exact G_at (by decide +kernel : fetch mX10_loseCouplesWith 2 = some (.iload_n 3)),
  by intros; exact G_at (by decide +kernel : fetch mX10_loseCouplesWith 3 = some (.aload_n 0)),
  by intros; exact G_own (by decide +kernel : fetch mX10_loseCouplesWith 4 = some (.getfield 25)) (by decide +kernel),
  by intros; exact G_own (by decide +kernel : fetch mX10_loseCouplesWith 7 = some (.getfield 54)) (by decide +kernel),
  by intros; exact G_at (by decide +kernel : fetch mX10_loseCouplesWith 10 = some (.if_icmp .ge 52)),
  by intros; exact G_at (by decide +kernel : fetch mX10_loseCouplesWith 13 = some (.aload_n 0)),
  by intros; exact G_own (by decide +kernel : fetch mX10_loseCouplesWith 14 = some (.getfield 25)) (by decide +kernel),
  by intros; exact G_at (by decide +kernel : fetch mX10_loseCouplesWith 17 = some (.iload_n 3)),
  by intros; exact G_callV (by decide +kernel : fetch mX10_loseCouplesWith 18 = some (.invokevirtual 64)) (by decide +kernel) (by decide +kernel) rfl,
  by intros; exact G_at (by decide +kernel : fetch mX10_loseCouplesWith 21 = some (.ifCond .eq 35)),
  by intros; exact G_at (by decide +kernel : fetch mX10_loseCouplesWith 24 = some (.aload_n 0)),
  by intros; exact G_own (by decide +kernel : fetch mX10_loseCouplesWith 25 = some (.getfield 25)) (by decide +kernel),
  by intros; exact G_own (by decide +kernel : fetch mX10_loseCouplesWith 28 = some (.getfield 92)) (by decide +kernel),
  by intros; exact G_at (by decide +kernel : fetch mX10_loseCouplesWith 31 = some (.iload_n 3)),
  by intros; exact G_at (by decide +kernel : fetch mX10_loseCouplesWith 32 = some (.iaload)),
  by intros; exact G_at (by decide +kernel : fetch mX10_loseCouplesWith 33 = some (.iload_n 1)),
  by intros; exact G_at (by decide +kernel : fetch mX10_loseCouplesWith 34 = some (.if_icmp .eq 16)),
  by intros; exact G_at (by decide +kernel : fetch mX10_loseCouplesWith 37 = some (.aload_n 0)),
  by intros; exact G_own (by decide +kernel : fetch mX10_loseCouplesWith 38 = some (.getfield 25)) (by decide +kernel),
  by intros; exact G_own (by decide +kernel : fetch mX10_loseCouplesWith 41 = some (.getfield 95)) (by decide +kernel),
  by intros; exact G_at (by decide +kernel : fetch mX10_loseCouplesWith 44 = some (.iload_n 3)),
  by intros; exact G_at (by decide +kernel : fetch mX10_loseCouplesWith 45 = some (.iaload)),
  by intros; exact G_at (by decide +kernel : fetch mX10_loseCouplesWith 46 = some (.iload_n 2)),
  by intros; exact G_at (by decide +kernel : fetch mX10_loseCouplesWith 47 = some (.if_icmp .ne 9)),
  by intros; exact G_at (by decide +kernel : fetch mX10_loseCouplesWith 50 = some (.aload_n 0)),
  by intros; exact G_at (by decide +kernel : fetch mX10_loseCouplesWith 51 = some (.iload_n 3)),
  by intros; exact G_at (by decide +kernel : fetch mX10_loseCouplesWith 52 = some (.iconst 2)),
  by intros; exact G_callV (by decide +kernel : fetch mX10_loseCouplesWith 53 = some (.invokevirtual 132)) (by decide +kernel) (by decide +kernel) rfl,
  by intros; exact G_at (by decide +kernel : fetch mX10_loseCouplesWith 56 = some (.iinc 3 1)),
  by intros; exact G_at (by decide +kernel : fetch mX10_loseCouplesWith 59 = some (.goto (-57))),
  by intros; exact G_retv (by decide +kernel : fetch mX10_loseCouplesWith 62 = some (.return_)) (by decide +kernel),
  by decide +kernel,
  by decide +kernel,
  by decide +kernel,
  by decide +kernel,
  by decide +kernel,
  by decide +kernel⟩
end GG
