section GG
variable {sp : Nat → List iV → iH → Option (Option iV × iH)} {sc : List Int}
theorem gX4_init : (∀ (n d : Nat) (L : List (Option iV)) (st : List iV) (h : iH) (Q : Option iV → iH → Prop), G sp sc [] d mX4_init (n + 1) 0 L st h Q = (match ld L 0 with | some (.inr (.inr (r + 1))) => G sp sc [] d mX4_init n 1 L (.inr (.inr (r + 1)) :: st) h Q | _ => False)) ∧
  (∀ (n d : Nat) (L : List (Option iV)) (r : List iV) (m : Nat) (h : iH) (Q : Option iV → iH → Prop), G sp sc [] (d + 1) mX4_init (n + 1) 1 L (.inr (.inr (m + 2)) :: r) h Q = (cs r ≤ 8 ∧ G sp sc [] (d + 1) mX4_init n 4 L r h Q)) ∧
  (∀ (n d : Nat) (L : List (Option iV)) (st : List iV) (h : iH) (Q : Option iV → iH → Prop), G sp sc [] d mX4_init (n + 1) 4 L st h Q = (match ld L 0 with | some (.inr (.inr (r + 1))) => G sp sc [] d mX4_init n 5 L (.inr (.inr (r + 1)) :: st) h Q | _ => False)) ∧
  (∀ (n d : Nat) (L : List (Option iV)) (st : List iV) (h : iH) (Q : Option iV → iH → Prop), G sp sc [] d mX4_init (n + 1) 5 L st h Q = G sp sc [] d mX4_init n 6 L (.inl 5 :: st) h Q) ∧
  (∀ (n d : Nat) (L : List (Option iV)) (r : List iV) (v : iV) (m : Nat) (h : iH) (Q : Option iV → iH → Prop), G sp sc [] d mX4_init (n + 1) 8 L (v :: .inr (.inr (m + 2)) :: r) h Q = (match h.1[m]? with | some (.inl (ci, fs)) => (match lkF 4 9 ci with | some k => (fitV (tyT ci k) v = true ∧ k < fs.length ∧ pOK 4 true ci k = true) ∧ G sp sc [] d mX4_init n 11 L r (h.1.set m (.inl (ci, fs.set k v)), h.2) Q | none => False) | _ => False)) ∧
  (∀ (n d : Nat) (L : List (Option iV)) (st : List iV) (h : iH) (Q : Option iV → iH → Prop), G sp sc [] d mX4_init (n + 1) 11 L st h Q = (match ld L 0 with | some (.inr (.inr (r + 1))) => G sp sc [] d mX4_init n 12 L (.inr (.inr (r + 1)) :: st) h Q | _ => False)) ∧
  (∀ (n d : Nat) (L : List (Option iV)) (st : List iV) (h : iH) (Q : Option iV → iH → Prop), G sp sc [] d mX4_init (n + 1) 12 L st h Q = G sp sc [] d mX4_init n 13 L (.inl 5 :: st) h Q) ∧
  (∀ (n d : Nat) (L : List (Option iV)) (r : List iV) (v : iV) (m : Nat) (h : iH) (Q : Option iV → iH → Prop), G sp sc [] d mX4_init (n + 1) 15 L (v :: .inr (.inr (m + 2)) :: r) h Q = (match h.1[m]? with | some (.inl (ci, fs)) => (match lkF 4 15 ci with | some k => (fitV (tyT ci k) v = true ∧ k < fs.length ∧ pOK 4 true ci k = true) ∧ G sp sc [] d mX4_init n 18 L r (h.1.set m (.inl (ci, fs.set k v)), h.2) Q | none => False) | _ => False)) ∧
  (∀ (n d : Nat) (L : List (Option iV)) (st : List iV) (h : iH) (Q : Option iV → iH → Prop), G sp sc [] d mX4_init (n + 1) 18 L st h Q = (match ld L 0 with | some (.inr (.inr (r + 1))) => G sp sc [] d mX4_init n 19 L (.inr (.inr (r + 1)) :: st) h Q | _ => False)) ∧
  (∀ (n d : Nat) (L : List (Option iV)) (st : List iV) (h : iH) (Q : Option iV → iH → Prop), G sp sc [] d mX4_init (n + 1) 19 L st h Q = G sp sc [] d mX4_init n 20 L (.inl 5 :: st) h Q) ∧
  (∀ (n d : Nat) (L : List (Option iV)) (r : List iV) (v : iV) (m : Nat) (h : iH) (Q : Option iV → iH → Prop), G sp sc [] d mX4_init (n + 1) 22 L (v :: .inr (.inr (m + 2)) :: r) h Q = (match h.1[m]? with | some (.inl (ci, fs)) => (match lkF 4 18 ci with | some k => (fitV (tyT ci k) v = true ∧ k < fs.length ∧ pOK 4 true ci k = true) ∧ G sp sc [] d mX4_init n 25 L r (h.1.set m (.inl (ci, fs.set k v)), h.2) Q | none => False) | _ => False)) ∧
  (∀ (n d : Nat) (L : List (Option iV)) (st : List iV) (h : iH) (Q : Option iV → iH → Prop), G sp sc [] d mX4_init (n + 1) 25 L st h Q = (match ld L 0 with | some (.inr (.inr (r + 1))) => G sp sc [] d mX4_init n 26 L (.inr (.inr (r + 1)) :: st) h Q | _ => False)) ∧
  (∀ (n d : Nat) (L : List (Option iV)) (st : List iV) (h : iH) (Q : Option iV → iH → Prop), G sp sc [] d mX4_init (n + 1) 26 L st h Q = ((-128 ≤ (25 : Int) ∧ (25 : Int) < 128) ∧ G sp sc [] d mX4_init n 28 L (.inl 25 :: st) h Q)) ∧
  (∀ (n d : Nat) (L : List (Option iV)) (r : List iV) (v : iV) (m : Nat) (h : iH) (Q : Option iV → iH → Prop), G sp sc [] d mX4_init (n + 1) 30 L (v :: .inr (.inr (m + 2)) :: r) h Q = (match h.1[m]? with | some (.inl (ci, fs)) => (match lkF 4 21 ci with | some k => (fitV (tyT ci k) v = true ∧ k < fs.length ∧ pOK 4 true ci k = true) ∧ G sp sc [] d mX4_init n 33 L r (h.1.set m (.inl (ci, fs.set k v)), h.2) Q | none => False) | _ => False)) ∧
  (∀ (n d : Nat) (L : List (Option iV)) (st : List iV) (h : iH) (Q : Option iV → iH → Prop), G sp sc [] d mX4_init (n + 1) 33 L st h Q = (match ld L 0 with | some (.inr (.inr (r + 1))) => G sp sc [] d mX4_init n 34 L (.inr (.inr (r + 1)) :: st) h Q | _ => False)) ∧
  (∀ (n d : Nat) (L : List (Option iV)) (st : List iV) (h : iH) (Q : Option iV → iH → Prop), G sp sc [] d mX4_init (n + 1) 34 L st h Q = (match ld L 1 with | some (.inr (.inr (r + 1))) => G sp sc [] d mX4_init n 35 L (.inr (.inr (r + 1)) :: st) h Q | _ => False)) ∧
  (∀ (n d : Nat) (L : List (Option iV)) (r : List iV) (v : iV) (m : Nat) (h : iH) (Q : Option iV → iH → Prop), G sp sc [] d mX4_init (n + 1) 35 L (v :: .inr (.inr (m + 2)) :: r) h Q = (match h.1[m]? with | some (.inl (ci, fs)) => (match lkF 4 25 ci with | some k => (fitV (tyT ci k) v = true ∧ k < fs.length ∧ pOK 4 true ci k = true) ∧ G sp sc [] d mX4_init n 38 L r (h.1.set m (.inl (ci, fs.set k v)), h.2) Q | none => False) | _ => False)) ∧
  (∀ (n d : Nat) (L : List (Option iV))  (h : iH) (Q : Option iV → iH → Prop), G sp sc [] d mX4_init (n + 1) 38 L [] h Q = Q none h) ∧
  lkF 4 15 4 = some 2 ∧
  lkF 4 18 4 = some 3 ∧
  lkF 4 21 4 = some 4 ∧
  lkF 4 25 4 = some 0 ∧
  lkF 4 9 4 = some 1 ∧
  pOK 4 true 4 0 = true ∧
  pOK 4 true 4 1 = true ∧
  pOK 4 true 4 2 = true ∧
  pOK 4 true 4 3 = true ∧
  pOK 4 true 4 4 = true := ⟨by intros; exact G_at (by decide +kernel : fetch mX4_init 0 = some (.aload_n 0)),
  by intros; exact G_obj (by decide +kernel : fetch mX4_init 1 = some (.invokespecial 3)) (by decide +kernel),
  by intros; exact G_at (by decide +kernel : fetch mX4_init 4 = some (.aload_n 0)),
  by intros; exact G_at (by decide +kernel : fetch mX4_init 5 = some (.iconst 5)),
  by intros; exact G_ownW (by decide +kernel : fetch mX4_init 8 = some (.putfield 9)) (by decide +kernel) (by decide +kernel),
  by intros; exact G_at (by decide +kernel : fetch mX4_init 11 = some (.aload_n 0)),
  by intros; exact G_at (by decide +kernel : fetch mX4_init 12 = some (.iconst 5)),
  by intros; exact G_ownW (by decide +kernel : fetch mX4_init 15 = some (.putfield 15)) (by decide +kernel) (by decide +kernel),
  by intros; exact G_at (by decide +kernel : fetch mX4_init 18 = some (.aload_n 0)),
  by intros; exact G_at (by decide +kernel : fetch mX4_init 19 = some (.iconst 5)),
  by intros; exact G_ownW (by decide +kernel : fetch mX4_init 22 = some (.putfield 18)) (by decide +kernel) (by decide +kernel),
  by intros; exact G_at (by decide +kernel : fetch mX4_init 25 = some (.aload_n 0)),
  by intros; exact G_at (by decide +kernel : fetch mX4_init 26 = some (.bipush 25)),
  by intros; exact G_ownW (by decide +kernel : fetch mX4_init 30 = some (.putfield 21)) (by decide +kernel) (by decide +kernel),
  by intros; exact G_at (by decide +kernel : fetch mX4_init 33 = some (.aload_n 0)),
  by intros; exact G_at (by decide +kernel : fetch mX4_init 34 = some (.aload_n 1)),
  by intros; exact G_ownW (by decide +kernel : fetch mX4_init 35 = some (.putfield 25)) (by decide +kernel) (by decide +kernel),
  by intros; exact G_retv (by decide +kernel : fetch mX4_init 38 = some (.return_)) (by decide +kernel),
  by decide +kernel,
  by decide +kernel,
  by decide +kernel,
  by decide +kernel,
  by decide +kernel,
  by decide +kernel,
  by decide +kernel,
  by decide +kernel,
  by decide +kernel,
  by decide +kernel⟩
theorem gX4_clear : (∀ (n d : Nat) (L : List (Option iV)) (st : List iV) (h : iH) (Q : Option iV → iH → Prop), G sp sc [2] d mX4_clear (n + 1) 0 L st h Q = G sp sc [2] d mX4_clear n 1 L (.inl 0 :: st) h Q) ∧
  (∀ (n d : Nat) (L : List (Option iV)) (r : List iV) (x : Int) (h : iH) (Q : Option iV → iH → Prop), G sp sc [2] d mX4_clear (n + 1) 1 L (.inl x :: r) h Q = (match st1 L 1 (.inl x) with | some L' => Run sp sc d mX4_clear 2 L' r h Q | none => False)) ∧
  (∀ (n d : Nat) (L : List (Option iV)) (st : List iV) (h : iH) (Q : Option iV → iH → Prop), G sp sc [2] d mX4_clear (n + 1) 2 L st h Q = (match ld L 1 with | some (.inl x) => G sp sc [2] d mX4_clear n 3 L (.inl x :: st) h Q | _ => False)) ∧
  (∀ (n d : Nat) (L : List (Option iV)) (st : List iV) (h : iH) (Q : Option iV → iH → Prop), G sp sc [2] d mX4_clear (n + 1) 3 L st h Q = G sp sc [2] d mX4_clear n 4 L (.inl 5 :: st) h Q) ∧
  (∀ (n d : Nat) (L : List (Option iV)) (a : Int) (b : Int) (r : List iV) (h : iH) (Q : Option iV → iH → Prop), G sp sc [2] d mX4_clear (n + 1) 4 L (.inl b :: .inl a :: r) h Q = ((inI a = true ∧ inI b = true) ∧ (b ≤ a → G sp sc [2] d mX4_clear n 27 L r h Q) ∧ (¬ (b ≤ a) → G sp sc [2] d mX4_clear n 7 L r h Q))) ∧
  (∀ (n d : Nat) (L : List (Option iV)) (st : List iV) (h : iH) (Q : Option iV → iH → Prop), G sp sc [2] d mX4_clear (n + 1) 7 L st h Q = (match ld L 0 with | some (.inr (.inr (r + 1))) => G sp sc [2] d mX4_clear n 8 L (.inr (.inr (r + 1)) :: st) h Q | _ => False)) ∧
  (∀ (n d : Nat) (L : List (Option iV)) (r : List iV) (m : Nat) (h : iH) (Q : Option iV → iH → Prop), G sp sc [2] d mX4_clear (n + 1) 8 L (.inr (.inr (m + 2)) :: r) h Q = (match h.1[m]? with | some (.inl (ci, fs)) => (match lkF 4 9 ci with | some k => (match fs[k]? with | some v => G sp sc [2] d mX4_clear n 11 L (v :: r) h Q | none => False) | none => False) | _ => False)) ∧
  (∀ (n d : Nat) (L : List (Option iV)) (st : List iV) (h : iH) (Q : Option iV → iH → Prop), G sp sc [2] d mX4_clear (n + 1) 11 L st h Q = (match ld L 1 with | some (.inl x) => G sp sc [2] d mX4_clear n 12 L (.inl x :: st) h Q | _ => False)) ∧
  (∀ (n d : Nat) (L : List (Option iV)) (st : List iV) (h : iH) (Q : Option iV → iH → Prop), G sp sc [2] d mX4_clear (n + 1) 12 L st h Q = G sp sc [2] d mX4_clear n 13 L (.inl (-1) :: st) h Q) ∧
  (∀ (n d : Nat) (L : List (Option iV)) (r : List iV) (v : Int) (j : Int) (m : Nat) (h : iH) (Q : Option iV → iH → Prop), G sp sc [2] d mX4_clear (n + 1) 13 L (.inl v :: .inl j :: .inr (.inr (m + 2)) :: r) h Q = (match h.1[m]? with | some (.inr (.inl (0, xs))) => inA j xs.length = true ∧ G sp sc [2] d mX4_clear n 14 L r (h.1.set m (.inr (.inl (0, xs.set j.toNat v))), h.2) Q | _ => False)) ∧
  (∀ (n d : Nat) (L : List (Option iV)) (st : List iV) (h : iH) (Q : Option iV → iH → Prop), G sp sc [2] d mX4_clear (n + 1) 14 L st h Q = (match ld L 0 with | some (.inr (.inr (r + 1))) => G sp sc [2] d mX4_clear n 15 L (.inr (.inr (r + 1)) :: st) h Q | _ => False)) ∧
  (∀ (n d : Nat) (L : List (Option iV)) (r : List iV) (m : Nat) (h : iH) (Q : Option iV → iH → Prop), G sp sc [2] d mX4_clear (n + 1) 15 L (.inr (.inr (m + 2)) :: r) h Q = (match h.1[m]? with | some (.inl (ci, fs)) => (match lkF 4 15 ci with | some k => (match fs[k]? with | some v => G sp sc [2] d mX4_clear n 18 L (v :: r) h Q | none => False) | none => False) | _ => False)) ∧
  (∀ (n d : Nat) (L : List (Option iV)) (st : List iV) (h : iH) (Q : Option iV → iH → Prop), G sp sc [2] d mX4_clear (n + 1) 18 L st h Q = (match ld L 1 with | some (.inl x) => G sp sc [2] d mX4_clear n 19 L (.inl x :: st) h Q | _ => False)) ∧
  (∀ (n d : Nat) (L : List (Option iV)) (st : List iV) (h : iH) (Q : Option iV → iH → Prop), G sp sc [2] d mX4_clear (n + 1) 19 L st h Q = G sp sc [2] d mX4_clear n 20 L (.inl (-1) :: st) h Q) ∧
  (∀ (n d : Nat) (L : List (Option iV)) (r : List iV) (v : Int) (j : Int) (m : Nat) (h : iH) (Q : Option iV → iH → Prop), G sp sc [2] d mX4_clear (n + 1) 20 L (.inl v :: .inl j :: .inr (.inr (m + 2)) :: r) h Q = (match h.1[m]? with | some (.inr (.inl (0, xs))) => inA j xs.length = true ∧ G sp sc [2] d mX4_clear n 21 L r (h.1.set m (.inr (.inl (0, xs.set j.toNat v))), h.2) Q | _ => False)) ∧
  (∀ (n d : Nat) (L : List (Option iV)) (st : List iV) (h : iH) (Q : Option iV → iH → Prop), G sp sc [2] d mX4_clear (n + 1) 21 L st h Q = (match ld L 1 with | some (.inl x) => (match st1 L 1 (.inl (x + 1)) with | some L' => G sp sc [2] d mX4_clear n 24 L' st h Q | none => False) | _ => False)) ∧
  (∀ (n d : Nat) (L : List (Option iV)) (st : List iV) (h : iH) (Q : Option iV → iH → Prop), G sp sc [2] d mX4_clear (n + 1) 24 L st h Q = Run sp sc d mX4_clear 2 L st h Q) ∧
  (∀ (n d : Nat) (L : List (Option iV))  (h : iH) (Q : Option iV → iH → Prop), G sp sc [2] d mX4_clear (n + 1) 27 L [] h Q = Q none h) ∧
  lkF 4 15 4 = some 2 ∧
  lkF 4 9 4 = some 1 := ⟨by intros; exact G_at (by decide +kernel : fetch mX4_clear 0 = some (.iconst 0)),
  by intros; exact G_at (by decide +kernel : fetch mX4_clear 1 = some (.istore_n 1)),
  by intros; exact G_at (by decide +kernel : fetch mX4_clear 2 = some (.iload_n 1)),
  by intros; exact G_at (by decide +kernel : fetch mX4_clear 3 = some (.iconst 5)),
  by intros; exact G_at (by decide +kernel : fetch mX4_clear 4 = some (.if_icmp .ge 23)),
  by intros; exact G_at (by decide +kernel : fetch mX4_clear 7 = some (.aload_n 0)),
  by intros; exact G_own (by decide +kernel : fetch mX4_clear 8 = some (.getfield 9)) (by decide +kernel),
  by intros; exact G_at (by decide +kernel : fetch mX4_clear 11 = some (.iload_n 1)),
  by intros; exact G_at (by decide +kernel : fetch mX4_clear 12 = some (.iconst (-1))),
  by intros; exact G_at (by decide +kernel : fetch mX4_clear 13 = some (.iastore)),
  by intros; exact G_at (by decide +kernel : fetch mX4_clear 14 = some (.aload_n 0)),
  by intros; exact G_own (by decide +kernel : fetch mX4_clear 15 = some (.getfield 15)) (by decide +kernel),
  by intros; exact G_at (by decide +kernel : fetch mX4_clear 18 = some (.iload_n 1)),
  by intros; exact G_at (by decide +kernel : fetch mX4_clear 19 = some (.iconst (-1))),
  by intros; exact G_at (by decide +kernel : fetch mX4_clear 20 = some (.iastore)),
  by intros; exact G_at (by decide +kernel : fetch mX4_clear 21 = some (.iinc 1 1)),
  by intros; exact G_at (by decide +kernel : fetch mX4_clear 24 = some (.goto (-22))),
  by intros; exact G_retv (by decide +kernel : fetch mX4_clear 27 = some (.return_)) (by decide +kernel),
  by decide +kernel,
  by decide +kernel⟩
theorem gX4_join : (∀ (n d : Nat) (L : List (Option iV)) (st : List iV) (h : iH) (Q : Option iV → iH → Prop), G sp sc [] d mX4_join (n + 1) 0 L st h Q = (match ld L 0 with | some (.inr (.inr (r + 1))) => G sp sc [] d mX4_join n 1 L (.inr (.inr (r + 1)) :: st) h Q | _ => False)) ∧
  (∀ (n d : Nat) (L : List (Option iV)) (r : List iV) (m : Nat) (h : iH) (Q : Option iV → iH → Prop), G sp sc [] d mX4_join (n + 1) 1 L (.inr (.inr (m + 2)) :: r) h Q = (match h.1[m]? with | some (.inl (ci, fs)) => (match lkF 4 9 ci with | some k => (match fs[k]? with | some v => G sp sc [] d mX4_join n 4 L (v :: r) h Q | none => False) | none => False) | _ => False)) ∧
  (∀ (n d : Nat) (L : List (Option iV)) (st : List iV) (h : iH) (Q : Option iV → iH → Prop), G sp sc [] d mX4_join (n + 1) 4 L st h Q = (match ld L 1 with | some (.inl x) => G sp sc [] d mX4_join n 5 L (.inl x :: st) h Q | _ => False)) ∧
  (∀ (n d : Nat) (L : List (Option iV)) (st : List iV) (h : iH) (Q : Option iV → iH → Prop), G sp sc [] d mX4_join (n + 1) 5 L st h Q = (match ld L 2 with | some (.inl x) => G sp sc [] d mX4_join n 6 L (.inl x :: st) h Q | _ => False)) ∧
  (∀ (n d : Nat) (L : List (Option iV)) (r : List iV) (v : Int) (j : Int) (m : Nat) (h : iH) (Q : Option iV → iH → Prop), G sp sc [] d mX4_join (n + 1) 6 L (.inl v :: .inl j :: .inr (.inr (m + 2)) :: r) h Q = (match h.1[m]? with | some (.inr (.inl (0, xs))) => inA j xs.length = true ∧ G sp sc [] d mX4_join n 7 L r (h.1.set m (.inr (.inl (0, xs.set j.toNat v))), h.2) Q | _ => False)) ∧
  (∀ (n d : Nat) (L : List (Option iV)) (st : List iV) (h : iH) (Q : Option iV → iH → Prop), G sp sc [] d mX4_join (n + 1) 7 L st h Q = (match ld L 0 with | some (.inr (.inr (r + 1))) => G sp sc [] d mX4_join n 8 L (.inr (.inr (r + 1)) :: st) h Q | _ => False)) ∧
  (∀ (n d : Nat) (L : List (Option iV)) (r : List iV) (m : Nat) (h : iH) (Q : Option iV → iH → Prop), G sp sc [] d mX4_join (n + 1) 8 L (.inr (.inr (m + 2)) :: r) h Q = (match h.1[m]? with | some (.inl (ci, fs)) => (match lkF 4 15 ci with | some k => (match fs[k]? with | some v => G sp sc [] d mX4_join n 11 L (v :: r) h Q | none => False) | none => False) | _ => False)) ∧
  (∀ (n d : Nat) (L : List (Option iV)) (st : List iV) (h : iH) (Q : Option iV → iH → Prop), G sp sc [] d mX4_join (n + 1) 11 L st h Q = (match ld L 2 with | some (.inl x) => G sp sc [] d mX4_join n 12 L (.inl x :: st) h Q | _ => False)) ∧
  (∀ (n d : Nat) (L : List (Option iV)) (st : List iV) (h : iH) (Q : Option iV → iH → Prop), G sp sc [] d mX4_join (n + 1) 12 L st h Q = (match ld L 1 with | some (.inl x) => G sp sc [] d mX4_join n 13 L (.inl x :: st) h Q | _ => False)) ∧
  (∀ (n d : Nat) (L : List (Option iV)) (r : List iV) (v : Int) (j : Int) (m : Nat) (h : iH) (Q : Option iV → iH → Prop), G sp sc [] d mX4_join (n + 1) 13 L (.inl v :: .inl j :: .inr (.inr (m + 2)) :: r) h Q = (match h.1[m]? with | some (.inr (.inl (0, xs))) => inA j xs.length = true ∧ G sp sc [] d mX4_join n 14 L r (h.1.set m (.inr (.inl (0, xs.set j.toNat v))), h.2) Q | _ => False)) ∧
  (∀ (n d : Nat) (L : List (Option iV))  (h : iH) (Q : Option iV → iH → Prop), G sp sc [] d mX4_join (n + 1) 14 L [] h Q = Q none h) ∧
  lkF 4 15 4 = some 2 ∧
  lkF 4 9 4 = some 1 := ⟨by intros; exact G_at (by decide +kernel : fetch mX4_join 0 = some (.aload_n 0)),
  by intros; exact G_own (by decide +kernel : fetch mX4_join 1 = some (.getfield 9)) (by decide +kernel),
  by intros; exact G_at (by decide +kernel : fetch mX4_join 4 = some (.iload_n 1)),
  by intros; exact G_at (by decide +kernel : fetch mX4_join 5 = some (.iload_n 2)),
  by intros; exact G_at (by decide +kernel : fetch mX4_join 6 = some (.iastore)),
  by intros; exact G_at (by decide +kernel : fetch mX4_join 7 = some (.aload_n 0)),
  by intros; exact G_own (by decide +kernel : fetch mX4_join 8 = some (.getfield 15)) (by decide +kernel),
  by intros; exact G_at (by decide +kernel : fetch mX4_join 11 = some (.iload_n 2)),
  by intros; exact G_at (by decide +kernel : fetch mX4_join 12 = some (.iload_n 1)),
  by intros; exact G_at (by decide +kernel : fetch mX4_join 13 = some (.iastore)),
  by intros; exact G_retv (by decide +kernel : fetch mX4_join 14 = some (.return_)) (by decide +kernel),
  by decide +kernel,
  by decide +kernel⟩
theorem gX4_part : (∀ (n d : Nat) (L : List (Option iV)) (st : List iV) (h : iH) (Q : Option iV → iH → Prop), G sp sc [] d mX4_part (n + 1) 0 L st h Q = (match ld L 0 with | some (.inr (.inr (r + 1))) => G sp sc [] d mX4_part n 1 L (.inr (.inr (r + 1)) :: st) h Q | _ => False)) ∧
  (∀ (n d : Nat) (L : List (Option iV)) (r : List iV) (m : Nat) (h : iH) (Q : Option iV → iH → Prop), G sp sc [] d mX4_part (n + 1) 1 L (.inr (.inr (m + 2)) :: r) h Q = (match h.1[m]? with | some (.inl (ci, fs)) => (match lkF 4 9 ci with | some k => (match fs[k]? with | some v => G sp sc [] d mX4_part n 4 L (v :: r) h Q | none => False) | none => False) | _ => False)) ∧
  (∀ (n d : Nat) (L : List (Option iV)) (st : List iV) (h : iH) (Q : Option iV → iH → Prop), G sp sc [] d mX4_part (n + 1) 4 L st h Q = (match ld L 1 with | some (.inl x) => G sp sc [] d mX4_part n 5 L (.inl x :: st) h Q | _ => False)) ∧
  (∀ (n d : Nat) (L : List (Option iV)) (st : List iV) (h : iH) (Q : Option iV → iH → Prop), G sp sc [] d mX4_part (n + 1) 5 L st h Q = G sp sc [] d mX4_part n 6 L (.inl (-1) :: st) h Q) ∧
  (∀ (n d : Nat) (L : List (Option iV)) (r : List iV) (v : Int) (j : Int) (m : Nat) (h : iH) (Q : Option iV → iH → Prop), G sp sc [] d mX4_part (n + 1) 6 L (.inl v :: .inl j :: .inr (.inr (m + 2)) :: r) h Q = (match h.1[m]? with | some (.inr (.inl (0, xs))) => inA j xs.length = true ∧ G sp sc [] d mX4_part n 7 L r (h.1.set m (.inr (.inl (0, xs.set j.toNat v))), h.2) Q | _ => False)) ∧
  (∀ (n d : Nat) (L : List (Option iV)) (st : List iV) (h : iH) (Q : Option iV → iH → Prop), G sp sc [] d mX4_part (n + 1) 7 L st h Q = (match ld L 0 with | some (.inr (.inr (r + 1))) => G sp sc [] d mX4_part n 8 L (.inr (.inr (r + 1)) :: st) h Q | _ => False)) ∧
  (∀ (n d : Nat) (L : List (Option iV)) (r : List iV) (m : Nat) (h : iH) (Q : Option iV → iH → Prop), G sp sc [] d mX4_part (n + 1) 8 L (.inr (.inr (m + 2)) :: r) h Q = (match h.1[m]? with | some (.inl (ci, fs)) => (match lkF 4 15 ci with | some k => (match fs[k]? with | some v => G sp sc [] d mX4_part n 11 L (v :: r) h Q | none => False) | none => False) | _ => False)) ∧
  (∀ (n d : Nat) (L : List (Option iV)) (st : List iV) (h : iH) (Q : Option iV → iH → Prop), G sp sc [] d mX4_part (n + 1) 11 L st h Q = (match ld L 2 with | some (.inl x) => G sp sc [] d mX4_part n 12 L (.inl x :: st) h Q | _ => False)) ∧
  (∀ (n d : Nat) (L : List (Option iV)) (st : List iV) (h : iH) (Q : Option iV → iH → Prop), G sp sc [] d mX4_part (n + 1) 12 L st h Q = G sp sc [] d mX4_part n 13 L (.inl (-1) :: st) h Q) ∧
  (∀ (n d : Nat) (L : List (Option iV)) (r : List iV) (v : Int) (j : Int) (m : Nat) (h : iH) (Q : Option iV → iH → Prop), G sp sc [] d mX4_part (n + 1) 13 L (.inl v :: .inl j :: .inr (.inr (m + 2)) :: r) h Q = (match h.1[m]? with | some (.inr (.inl (0, xs))) => inA j xs.length = true ∧ G sp sc [] d mX4_part n 14 L r (h.1.set m (.inr (.inl (0, xs.set j.toNat v))), h.2) Q | _ => False)) ∧
  (∀ (n d : Nat) (L : List (Option iV))  (h : iH) (Q : Option iV → iH → Prop), G sp sc [] d mX4_part (n + 1) 14 L [] h Q = Q none h) ∧
  lkF 4 15 4 = some 2 ∧
  lkF 4 9 4 = some 1 := ⟨by intros; exact G_at (by decide +kernel : fetch mX4_part 0 = some (.aload_n 0)),
  by intros; exact G_own (by decide +kernel : fetch mX4_part 1 = some (.getfield 9)) (by decide +kernel),
  by intros; exact G_at (by decide +kernel : fetch mX4_part 4 = some (.iload_n 1)),
  by intros; exact G_at (by decide +kernel : fetch mX4_part 5 = some (.iconst (-1))),
  by intros; exact G_at (by decide +kernel : fetch mX4_part 6 = some (.iastore)),
  by intros; exact G_at (by decide +kernel : fetch mX4_part 7 = some (.aload_n 0)),
  by intros; exact G_own (by decide +kernel : fetch mX4_part 8 = some (.getfield 15)) (by decide +kernel),
  by intros; exact G_at (by decide +kernel : fetch mX4_part 11 = some (.iload_n 2)),
  by intros; exact G_at (by decide +kernel : fetch mX4_part 12 = some (.iconst (-1))),
  by intros; exact G_at (by decide +kernel : fetch mX4_part 13 = some (.iastore)),
  by intros; exact G_retv (by decide +kernel : fetch mX4_part 14 = some (.return_)) (by decide +kernel),
  by decide +kernel,
  by decide +kernel⟩
theorem gX4_joinFree : (∀ (n d : Nat) (L : List (Option iV)) (st : List iV) (h : iH) (Q : Option iV → iH → Prop), G sp sc [] d mX4_joinFree (n + 1) 0 L st h Q = (match ld L 0 with | some (.inr (.inr (r + 1))) => G sp sc [] d mX4_joinFree n 1 L (.inr (.inr (r + 1)) :: st) h Q | _ => False)) ∧
  (∀ (n d : Nat) (L : List (Option iV)) (r : List iV) (m : Nat) (h : iH) (Q : Option iV → iH → Prop), G sp sc [] d mX4_joinFree (n + 1) 1 L (.inr (.inr (m + 2)) :: r) h Q = (match h.1[m]? with | some (.inl (ci, fs)) => (match lkF 4 15 ci with | some k => (match fs[k]? with | some v => G sp sc [] d mX4_joinFree n 4 L (v :: r) h Q | none => False) | none => False) | _ => False)) ∧
  (∀ (n d : Nat) (L : List (Option iV)) (st : List iV) (h : iH) (Q : Option iV → iH → Prop), G sp sc [] d mX4_joinFree (n + 1) 4 L st h Q = (match ld L 2 with | some (.inl x) => G sp sc [] d mX4_joinFree n 5 L (.inl x :: st) h Q | _ => False)) ∧
  (∀ (n d : Nat) (L : List (Option iV)) (r : List iV) (j : Int) (m : Nat) (h : iH) (Q : Option iV → iH → Prop), G sp sc [] d mX4_joinFree (n + 1) 5 L (.inl j :: .inr (.inr (m + 2)) :: r) h Q = (match h.1[m]? with | some (.inr (.inl (0, xs))) => inA j xs.length = true ∧ G sp sc [] d mX4_joinFree n 6 L (.inl (xs.getD j.toNat 0) :: r) h Q | _ => False)) ∧
  (∀ (n d : Nat) (L : List (Option iV)) (st : List iV) (h : iH) (Q : Option iV → iH → Prop), G sp sc [] d mX4_joinFree (n + 1) 6 L st h Q = G sp sc [] d mX4_joinFree n 7 L (.inl (-1) :: st) h Q) ∧
  (∀ (n d : Nat) (L : List (Option iV)) (a : Int) (b : Int) (r : List iV) (h : iH) (Q : Option iV → iH → Prop), G sp sc [] d mX4_joinFree (n + 1) 7 L (.inl b :: .inl a :: r) h Q = ((inI a = true ∧ inI b = true) ∧ (a = b → G sp sc [] d mX4_joinFree n 12 L r h Q) ∧ (¬ (a = b) → G sp sc [] d mX4_joinFree n 10 L r h Q))) ∧
  (∀ (n d : Nat) (L : List (Option iV)) (st : List iV) (h : iH) (Q : Option iV → iH → Prop), G sp sc [] d mX4_joinFree (n + 1) 10 L st h Q = G sp sc [] d mX4_joinFree n 11 L (.inl 0 :: st) h Q) ∧
  (∀ (n d : Nat) (L : List (Option iV)) (a : Int) (h : iH) (Q : Option iV → iH → Prop), G sp sc [] d mX4_joinFree (n + 1) 11 L [.inl a] h Q = ((a = 0 ∨ a = 1) ∧ Q (some (.inl a)) h)) ∧
  (∀ (n d : Nat) (L : List (Option iV)) (st : List iV) (h : iH) (Q : Option iV → iH → Prop), G sp sc [] d mX4_joinFree (n + 1) 12 L st h Q = (match ld L 0 with | some (.inr (.inr (r + 1))) => G sp sc [] d mX4_joinFree n 13 L (.inr (.inr (r + 1)) :: st) h Q | _ => False)) ∧
  (∀ (n d : Nat) (L : List (Option iV)) (st : List iV) (h : iH) (Q : Option iV → iH → Prop), G sp sc [] d mX4_joinFree (n + 1) 13 L st h Q = (match ld L 1 with | some (.inl x) => G sp sc [] d mX4_joinFree n 14 L (.inl x :: st) h Q | _ => False)) ∧
  (∀ (n d : Nat) (L : List (Option iV)) (st : List iV) (h : iH) (Q : Option iV → iH → Prop), G sp sc [] d mX4_joinFree (n + 1) 14 L st h Q = (match ld L 2 with | some (.inl x) => G sp sc [] d mX4_joinFree n 15 L (.inl x :: st) h Q | _ => False)) ∧
  (∀ (n d : Nat) (L : List (Option iV)) (r : List iV) (m : Nat) (z0 : iV) (z1 : iV) (h : iH) (Q : Option iV → iH → Prop), G sp sc [] (d + 1) mX4_joinFree (n + 1) 15 L (z1 :: z0 :: .inr (.inr (m + 2)) :: r) h Q = (match h.1[m]? with | some (.inl (ci, _)) => (match lkC 4 29 ci with | some (y1, n1, kd) => (n1 = 2 ∧ (kd = 2 ∨ kd = 3 ∨ kd = 8) ∧ cs r ≤ 8) ∧ Call sp sc d y1 [.inr (.inr (m + 2)), z0, z1] h (fun q h1 => GC sp sc [] (d + 1) mX4_joinFree n 18 L q r h h1 Q) | none => False) | _ => False)) ∧
  (∀ (n d : Nat) (L : List (Option iV)) (st : List iV) (h : iH) (Q : Option iV → iH → Prop), G sp sc [] d mX4_joinFree (n + 1) 18 L st h Q = G sp sc [] d mX4_joinFree n 19 L (.inl 1 :: st) h Q) ∧
  (∀ (n d : Nat) (L : List (Option iV)) (a : Int) (h : iH) (Q : Option iV → iH → Prop), G sp sc [] d mX4_joinFree (n + 1) 19 L [.inl a] h Q = ((a = 0 ∨ a = 1) ∧ Q (some (.inl a)) h)) ∧
  lkC 4 29 4 = some (mX4_join, 2, 2) ∧
  lkF 4 15 4 = some 2 := ⟨by intros; exact G_at (by decide +kernel : fetch mX4_joinFree 0 = some (.aload_n 0)),
  by intros; exact G_own (by decide +kernel : fetch mX4_joinFree 1 = some (.getfield 15)) (by decide +kernel),
  by intros; exact G_at (by decide +kernel : fetch mX4_joinFree 4 = some (.iload_n 2)),
  by intros; exact G_at (by decide +kernel : fetch mX4_joinFree 5 = some (.iaload)),
  by intros; exact G_at (by decide +kernel : fetch mX4_joinFree 6 = some (.iconst (-1))),
  by intros; exact G_at (by decide +kernel : fetch mX4_joinFree 7 = some (.if_icmp .eq 5)),
  by intros; exact G_at (by decide +kernel : fetch mX4_joinFree 10 = some (.iconst 0)),
  by intros; exact G_retz (by decide +kernel : fetch mX4_joinFree 11 = some (.ireturn)) (by decide +kernel),
  by intros; exact G_at (by decide +kernel : fetch mX4_joinFree 12 = some (.aload_n 0)),
  by intros; exact G_at (by decide +kernel : fetch mX4_joinFree 13 = some (.iload_n 1)),
  by intros; exact G_at (by decide +kernel : fetch mX4_joinFree 14 = some (.iload_n 2)),
  by intros; exact G_callV (by decide +kernel : fetch mX4_joinFree 15 = some (.invokevirtual 29)) (by decide +kernel) (by decide +kernel) rfl,
  by intros; exact G_at (by decide +kernel : fetch mX4_joinFree 18 = some (.iconst 1)),
  by intros; exact G_retz (by decide +kernel : fetch mX4_joinFree 19 = some (.ireturn)) (by decide +kernel),
  by decide +kernel,
  by decide +kernel⟩
theorem gX4_firstLeaving : (∀ (n d : Nat) (L : List (Option iV)) (st : List iV) (h : iH) (Q : Option iV → iH → Prop), G sp sc [2, 17] d mX4_firstLeaving (n + 1) 0 L st h Q = G sp sc [2, 17] d mX4_firstLeaving n 1 L (.inl 0 :: st) h Q) ∧
  (∀ (n d : Nat) (L : List (Option iV)) (r : List iV) (x : Int) (h : iH) (Q : Option iV → iH → Prop), G sp sc [2, 17] d mX4_firstLeaving (n + 1) 1 L (.inl x :: r) h Q = (match st1 L 1 (.inl x) with | some L' => Run sp sc d mX4_firstLeaving 2 L' r h Q | none => False)) ∧
  (∀ (n d : Nat) (L : List (Option iV)) (st : List iV) (h : iH) (Q : Option iV → iH → Prop), G sp sc [2, 17] d mX4_firstLeaving (n + 1) 2 L st h Q = (match ld L 1 with | some (.inl x) => G sp sc [2, 17] d mX4_firstLeaving n 3 L (.inl x :: st) h Q | _ => False)) ∧
  (∀ (n d : Nat) (L : List (Option iV)) (st : List iV) (h : iH) (Q : Option iV → iH → Prop), G sp sc [2, 17] d mX4_firstLeaving (n + 1) 3 L st h Q = (match ld L 0 with | some (.inr (.inr (r + 1))) => G sp sc [2, 17] d mX4_firstLeaving n 4 L (.inr (.inr (r + 1)) :: st) h Q | _ => False)) ∧
  (∀ (n d : Nat) (L : List (Option iV)) (r : List iV) (m : Nat) (h : iH) (Q : Option iV → iH → Prop), G sp sc [2, 17] d mX4_firstLeaving (n + 1) 4 L (.inr (.inr (m + 2)) :: r) h Q = (match h.1[m]? with | some (.inl (ci, fs)) => (match lkF 4 25 ci with | some k => (match fs[k]? with | some v => G sp sc [2, 17] d mX4_firstLeaving n 7 L (v :: r) h Q | none => False) | none => False) | _ => False)) ∧
  (∀ (n d : Nat) (L : List (Option iV)) (r : List iV) (m : Nat) (h : iH) (Q : Option iV → iH → Prop), G sp sc [2, 17] d mX4_firstLeaving (n + 1) 7 L (.inr (.inr (m + 2)) :: r) h Q = (match h.1[m]? with | some (.inl (ci, fs)) => (match lkF 4 33 ci with | some k => (match fs[k]? with | some v => G sp sc [2, 17] d mX4_firstLeaving n 10 L (v :: r) h Q | none => False) | none => False) | _ => False)) ∧
  (∀ (n d : Nat) (L : List (Option iV)) (st : List iV) (h : iH) (Q : Option iV → iH → Prop), G sp sc [2, 17] d mX4_firstLeaving (n + 1) 10 L st h Q = G sp sc [2, 17] d mX4_firstLeaving n 11 L (.inl 0 :: st) h Q) ∧
  (∀ (n d : Nat) (L : List (Option iV)) (r : List iV) (j : Int) (m : Nat) (h : iH) (Q : Option iV → iH → Prop), G sp sc [2, 17] d mX4_firstLeaving (n + 1) 11 L (.inl j :: .inr (.inr (m + 2)) :: r) h Q = (match h.1[m]? with | some (.inr (.inl (0, xs))) => inA j xs.length = true ∧ G sp sc [2, 17] d mX4_firstLeaving n 12 L (.inl (xs.getD j.toNat 0) :: r) h Q | _ => False)) ∧
  (∀ (n d : Nat) (L : List (Option iV)) (a : Int) (b : Int) (r : List iV) (h : iH) (Q : Option iV → iH → Prop), G sp sc [2, 17] d mX4_firstLeaving (n + 1) 12 L (.inl b :: .inl a :: r) h Q = ((inI a = true ∧ inI b = true) ∧ (b ≤ a → G sp sc [2, 17] d mX4_firstLeaving n 81 L r h Q) ∧ (¬ (b ≤ a) → G sp sc [2, 17] d mX4_firstLeaving n 15 L r h Q))) ∧
  (∀ (n d : Nat) (L : List (Option iV)) (st : List iV) (h : iH) (Q : Option iV → iH → Prop), G sp sc [2, 17] d mX4_firstLeaving (n + 1) 15 L st h Q = G sp sc [2, 17] d mX4_firstLeaving n 16 L (.inl 0 :: st) h Q) ∧
  (∀ (n d : Nat) (L : List (Option iV)) (r : List iV) (x : Int) (h : iH) (Q : Option iV → iH → Prop), G sp sc [2, 17] d mX4_firstLeaving (n + 1) 16 L (.inl x :: r) h Q = (match st1 L 2 (.inl x) with | some L' => Run sp sc d mX4_firstLeaving 17 L' r h Q | none => False)) ∧
  (∀ (n d : Nat) (L : List (Option iV)) (st : List iV) (h : iH) (Q : Option iV → iH → Prop), G sp sc [2, 17] d mX4_firstLeaving (n + 1) 17 L st h Q = (match ld L 2 with | some (.inl x) => G sp sc [2, 17] d mX4_firstLeaving n 18 L (.inl x :: st) h Q | _ => False)) ∧
  (∀ (n d : Nat) (L : List (Option iV)) (st : List iV) (h : iH) (Q : Option iV → iH → Prop), G sp sc [2, 17] d mX4_firstLeaving (n + 1) 18 L st h Q = (match ld L 0 with | some (.inr (.inr (r + 1))) => G sp sc [2, 17] d mX4_firstLeaving n 19 L (.inr (.inr (r + 1)) :: st) h Q | _ => False)) ∧
  (∀ (n d : Nat) (L : List (Option iV)) (r : List iV) (m : Nat) (h : iH) (Q : Option iV → iH → Prop), G sp sc [2, 17] d mX4_firstLeaving (n + 1) 19 L (.inr (.inr (m + 2)) :: r) h Q = (match h.1[m]? with | some (.inl (ci, fs)) => (match lkF 4 25 ci with | some k => (match fs[k]? with | some v => G sp sc [2, 17] d mX4_firstLeaving n 22 L (v :: r) h Q | none => False) | none => False) | _ => False)) ∧
  (∀ (n d : Nat) (L : List (Option iV)) (r : List iV) (m : Nat) (h : iH) (Q : Option iV → iH → Prop), G sp sc [2, 17] d mX4_firstLeaving (n + 1) 22 L (.inr (.inr (m + 2)) :: r) h Q = (match h.1[m]? with | some (.inl (ci, fs)) => (match lkF 4 33 ci with | some k => (match fs[k]? with | some v => G sp sc [2, 17] d mX4_firstLeaving n 25 L (v :: r) h Q | none => False) | none => False) | _ => False)) ∧
  (∀ (n d : Nat) (L : List (Option iV)) (st : List iV) (h : iH) (Q : Option iV → iH → Prop), G sp sc [2, 17] d mX4_firstLeaving (n + 1) 25 L st h Q = G sp sc [2, 17] d mX4_firstLeaving n 26 L (.inl 1 :: st) h Q) ∧
  (∀ (n d : Nat) (L : List (Option iV)) (r : List iV) (j : Int) (m : Nat) (h : iH) (Q : Option iV → iH → Prop), G sp sc [2, 17] d mX4_firstLeaving (n + 1) 26 L (.inl j :: .inr (.inr (m + 2)) :: r) h Q = (match h.1[m]? with | some (.inr (.inl (0, xs))) => inA j xs.length = true ∧ G sp sc [2, 17] d mX4_firstLeaving n 27 L (.inl (xs.getD j.toNat 0) :: r) h Q | _ => False)) ∧
  (∀ (n d : Nat) (L : List (Option iV)) (a : Int) (b : Int) (r : List iV) (h : iH) (Q : Option iV → iH → Prop), G sp sc [2, 17] d mX4_firstLeaving (n + 1) 27 L (.inl b :: .inl a :: r) h Q = ((inI a = true ∧ inI b = true) ∧ (b ≤ a → G sp sc [2, 17] d mX4_firstLeaving n 75 L r h Q) ∧ (¬ (b ≤ a) → G sp sc [2, 17] d mX4_firstLeaving n 30 L r h Q))) ∧
  (∀ (n d : Nat) (L : List (Option iV)) (st : List iV) (h : iH) (Q : Option iV → iH → Prop), G sp sc [2, 17] d mX4_firstLeaving (n + 1) 30 L st h Q = (match ld L 0 with | some (.inr (.inr (r + 1))) => G sp sc [2, 17] d mX4_firstLeaving n 31 L (.inr (.inr (r + 1)) :: st) h Q | _ => False)) ∧
  (∀ (n d : Nat) (L : List (Option iV)) (st : List iV) (h : iH) (Q : Option iV → iH → Prop), G sp sc [2, 17] d mX4_firstLeaving (n + 1) 31 L st h Q = G sp sc [2, 17] d mX4_firstLeaving n 32 L (.inl 0 :: st) h Q) ∧
  (∀ (n d : Nat) (L : List (Option iV)) (st : List iV) (h : iH) (Q : Option iV → iH → Prop), G sp sc [2, 17] d mX4_firstLeaving (n + 1) 32 L st h Q = (match ld L 1 with | some (.inl x) => G sp sc [2, 17] d mX4_firstLeaving n 33 L (.inl x :: st) h Q | _ => False)) ∧
  (∀ (n d : Nat) (L : List (Option iV)) (st : List iV) (h : iH) (Q : Option iV → iH → Prop), G sp sc [2, 17] d mX4_firstLeaving (n + 1) 33 L st h Q = (match ld L 2 with | some (.inl x) => G sp sc [2, 17] d mX4_firstLeaving n 34 L (.inl x :: st) h Q | _ => False)) ∧
  (∀ (n d : Nat) (L : List (Option iV)) (st : List iV) (h : iH) (Q : Option iV → iH → Prop), G sp sc [2, 17] d mX4_firstLeaving (n + 1) 34 L st h Q = (match ld L 0 with | some (.inr (.inr (r + 1))) => G sp sc [2, 17] d mX4_firstLeaving n 35 L (.inr (.inr (r + 1)) :: st) h Q | _ => False)) ∧
  (∀ (n d : Nat) (L : List (Option iV)) (r : List iV) (m : Nat) (h : iH) (Q : Option iV → iH → Prop), G sp sc [2, 17] d mX4_firstLeaving (n + 1) 35 L (.inr (.inr (m + 2)) :: r) h Q = (match h.1[m]? with | some (.inl (ci, fs)) => (match lkF 4 9 ci with | some k => (match fs[k]? with | some v => G sp sc [2, 17] d mX4_firstLeaving n 38 L (v :: r) h Q | none => False) | none => False) | _ => False)) ∧
  (∀ (n d : Nat) (L : List (Option iV)) (st : List iV) (h : iH) (Q : Option iV → iH → Prop), G sp sc [2, 17] d mX4_firstLeaving (n + 1) 38 L st h Q = (match ld L 1 with | some (.inl x) => G sp sc [2, 17] d mX4_firstLeaving n 39 L (.inl x :: st) h Q | _ => False)) ∧
  (∀ (n d : Nat) (L : List (Option iV)) (r : List iV) (j : Int) (m : Nat) (h : iH) (Q : Option iV → iH → Prop), G sp sc [2, 17] d mX4_firstLeaving (n + 1) 39 L (.inl j :: .inr (.inr (m + 2)) :: r) h Q = (match h.1[m]? with | some (.inr (.inl (0, xs))) => inA j xs.length = true ∧ G sp sc [2, 17] d mX4_firstLeaving n 40 L (.inl (xs.getD j.toNat 0) :: r) h Q | _ => False)) ∧
  (∀ (n d : Nat) (L : List (Option iV)) (r : List iV) (m : Nat) (z0 : iV) (z1 : iV) (z2 : iV) (z3 : iV) (h : iH) (Q : Option iV → iH → Prop), G sp sc [2, 17] (d + 1) mX4_firstLeaving (n + 1) 40 L (z3 :: z2 :: z1 :: z0 :: .inr (.inr (m + 2)) :: r) h Q = (match h.1[m]? with | some (.inl (ci, _)) => (match lkC 4 38 ci with | some (y1, n1, kd) => (n1 = 4 ∧ (kd = 2 ∨ kd = 3 ∨ kd = 8) ∧ cs r ≤ 8) ∧ Call sp sc d y1 [.inr (.inr (m + 2)), z0, z1, z2, z3] h (fun q h1 => GC sp sc [2, 17] (d + 1) mX4_firstLeaving n 43 L q r h h1 Q) | none => False) | _ => False)) ∧
  (∀ (n d : Nat) (L : List (Option iV)) (a : Int) (r : List iV) (h : iH) (Q : Option iV → iH → Prop), G sp sc [2, 17] d mX4_firstLeaving (n + 1) 43 L (.inl a :: r) h Q = (inI a = true ∧ (a = 0 → G sp sc [2, 17] d mX4_firstLeaving n 69 L r h Q) ∧ (¬ (a = 0) → G sp sc [2, 17] d mX4_firstLeaving n 46 L r h Q))) ∧
  (∀ (n d : Nat) (L : List (Option iV)) (st : List iV) (h : iH) (Q : Option iV → iH → Prop), G sp sc [2, 17] d mX4_firstLeaving (n + 1) 46 L st h Q = (match ld L 0 with | some (.inr (.inr (r + 1))) => G sp sc [2, 17] d mX4_firstLeaving n 47 L (.inr (.inr (r + 1)) :: st) h Q | _ => False)) ∧
  (∀ (n d : Nat) (L : List (Option iV)) (st : List iV) (h : iH) (Q : Option iV → iH → Prop), G sp sc [2, 17] d mX4_firstLeaving (n + 1) 47 L st h Q = G sp sc [2, 17] d mX4_firstLeaving n 48 L (.inl 1 :: st) h Q) ∧
  (∀ (n d : Nat) (L : List (Option iV)) (st : List iV) (h : iH) (Q : Option iV → iH → Prop), G sp sc [2, 17] d mX4_firstLeaving (n + 1) 48 L st h Q = (match ld L 2 with | some (.inl x) => G sp sc [2, 17] d mX4_firstLeaving n 49 L (.inl x :: st) h Q | _ => False)) ∧
  (∀ (n d : Nat) (L : List (Option iV)) (st : List iV) (h : iH) (Q : Option iV → iH → Prop), G sp sc [2, 17] d mX4_firstLeaving (n + 1) 49 L st h Q = (match ld L 1 with | some (.inl x) => G sp sc [2, 17] d mX4_firstLeaving n 50 L (.inl x :: st) h Q | _ => False)) ∧
  (∀ (n d : Nat) (L : List (Option iV)) (st : List iV) (h : iH) (Q : Option iV → iH → Prop), G sp sc [2, 17] d mX4_firstLeaving (n + 1) 50 L st h Q = (match ld L 0 with | some (.inr (.inr (r + 1))) => G sp sc [2, 17] d mX4_firstLeaving n 51 L (.inr (.inr (r + 1)) :: st) h Q | _ => False)) ∧
  (∀ (n d : Nat) (L : List (Option iV)) (r : List iV) (m : Nat) (h : iH) (Q : Option iV → iH → Prop), G sp sc [2, 17] d mX4_firstLeaving (n + 1) 51 L (.inr (.inr (m + 2)) :: r) h Q = (match h.1[m]? with | some (.inl (ci, fs)) => (match lkF 4 15 ci with | some k => (match fs[k]? with | some v => G sp sc [2, 17] d mX4_firstLeaving n 54 L (v :: r) h Q | none => False) | none => False) | _ => False)) ∧
  (∀ (n d : Nat) (L : List (Option iV)) (st : List iV) (h : iH) (Q : Option iV → iH → Prop), G sp sc [2, 17] d mX4_firstLeaving (n + 1) 54 L st h Q = (match ld L 2 with | some (.inl x) => G sp sc [2, 17] d mX4_firstLeaving n 55 L (.inl x :: st) h Q | _ => False)) ∧
  (∀ (n d : Nat) (L : List (Option iV)) (r : List iV) (j : Int) (m : Nat) (h : iH) (Q : Option iV → iH → Prop), G sp sc [2, 17] d mX4_firstLeaving (n + 1) 55 L (.inl j :: .inr (.inr (m + 2)) :: r) h Q = (match h.1[m]? with | some (.inr (.inl (0, xs))) => inA j xs.length = true ∧ G sp sc [2, 17] d mX4_firstLeaving n 56 L (.inl (xs.getD j.toNat 0) :: r) h Q | _ => False)) ∧
  (∀ (n d : Nat) (L : List (Option iV)) (r : List iV) (m : Nat) (z0 : iV) (z1 : iV) (z2 : iV) (z3 : iV) (h : iH) (Q : Option iV → iH → Prop), G sp sc [2, 17] (d + 1) mX4_firstLeaving (n + 1) 56 L (z3 :: z2 :: z1 :: z0 :: .inr (.inr (m + 2)) :: r) h Q = (match h.1[m]? with | some (.inl (ci, _)) => (match lkC 4 38 ci with | some (y1, n1, kd) => (n1 = 4 ∧ (kd = 2 ∨ kd = 3 ∨ kd = 8) ∧ cs r ≤ 8) ∧ Call sp sc d y1 [.inr (.inr (m + 2)), z0, z1, z2, z3] h (fun q h1 => GC sp sc [2, 17] (d + 1) mX4_firstLeaving n 59 L q r h h1 Q) | none => False) | _ => False)) ∧
  (∀ (n d : Nat) (L : List (Option iV)) (a : Int) (r : List iV) (h : iH) (Q : Option iV → iH → Prop), G sp sc [2, 17] d mX4_firstLeaving (n + 1) 59 L (.inl a :: r) h Q = (inI a = true ∧ (a = 0 → G sp sc [2, 17] d mX4_firstLeaving n 69 L r h Q) ∧ (¬ (a = 0) → G sp sc [2, 17] d mX4_firstLeaving n 62 L r h Q))) ∧
  (∀ (n d : Nat) (L : List (Option iV)) (st : List iV) (h : iH) (Q : Option iV → iH → Prop), G sp sc [2, 17] d mX4_firstLeaving (n + 1) 62 L st h Q = ((-128 ≤ (10 : Int) ∧ (10 : Int) < 128) ∧ G sp sc [2, 17] d mX4_firstLeaving n 64 L (.inl 10 :: st) h Q)) ∧
  (∀ (n d : Nat) (L : List (Option iV)) (st : List iV) (h : iH) (Q : Option iV → iH → Prop), G sp sc [2, 17] d mX4_firstLeaving (n + 1) 64 L st h Q = (match ld L 1 with | some (.inl x) => G sp sc [2, 17] d mX4_firstLeaving n 65 L (.inl x :: st) h Q | _ => False)) ∧
  (∀ (n d : Nat) (L : List (Option iV)) (a : Int) (b : Int) (r : List iV) (h : iH) (Q : Option iV → iH → Prop), G sp sc [2, 17] d mX4_firstLeaving (n + 1) 65 L (.inl b :: .inl a :: r) h Q = G sp sc [2, 17] d mX4_firstLeaving n 66 L (.inl (a * b) :: r) h Q) ∧
  (∀ (n d : Nat) (L : List (Option iV)) (st : List iV) (h : iH) (Q : Option iV → iH → Prop), G sp sc [2, 17] d mX4_firstLeaving (n + 1) 66 L st h Q = (match ld L 2 with | some (.inl x) => G sp sc [2, 17] d mX4_firstLeaving n 67 L (.inl x :: st) h Q | _ => False)) ∧
  (∀ (n d : Nat) (L : List (Option iV)) (a : Int) (b : Int) (r : List iV) (h : iH) (Q : Option iV → iH → Prop), G sp sc [2, 17] d mX4_firstLeaving (n + 1) 67 L (.inl b :: .inl a :: r) h Q = G sp sc [2, 17] d mX4_firstLeaving n 68 L (.inl (a + b) :: r) h Q) ∧
  (∀ (n d : Nat) (L : List (Option iV)) (a : Int) (h : iH) (Q : Option iV → iH → Prop), G sp sc [2, 17] d mX4_firstLeaving (n + 1) 68 L [.inl a] h Q = Q (some (.inl a)) h) ∧
  (∀ (n d : Nat) (L : List (Option iV)) (st : List iV) (h : iH) (Q : Option iV → iH → Prop), G sp sc [2, 17] d mX4_firstLeaving (n + 1) 69 L st h Q = (match ld L 2 with | some (.inl x) => (match st1 L 2 (.inl (x + 1)) with | some L' => G sp sc [2, 17] d mX4_firstLeaving n 72 L' st h Q | none => False) | _ => False)) ∧
  (∀ (n d : Nat) (L : List (Option iV)) (st : List iV) (h : iH) (Q : Option iV → iH → Prop), G sp sc [2, 17] d mX4_firstLeaving (n + 1) 72 L st h Q = Run sp sc d mX4_firstLeaving 17 L st h Q) ∧
  (∀ (n d : Nat) (L : List (Option iV)) (st : List iV) (h : iH) (Q : Option iV → iH → Prop), G sp sc [2, 17] d mX4_firstLeaving (n + 1) 75 L st h Q = (match ld L 1 with | some (.inl x) => (match st1 L 1 (.inl (x + 1)) with | some L' => G sp sc [2, 17] d mX4_firstLeaving n 78 L' st h Q | none => False) | _ => False)) ∧
  (∀ (n d : Nat) (L : List (Option iV)) (st : List iV) (h : iH) (Q : Option iV → iH → Prop), G sp sc [2, 17] d mX4_firstLeaving (n + 1) 78 L st h Q = Run sp sc d mX4_firstLeaving 2 L st h Q) ∧
  (∀ (n d : Nat) (L : List (Option iV)) (st : List iV) (h : iH) (Q : Option iV → iH → Prop), G sp sc [2, 17] d mX4_firstLeaving (n + 1) 81 L st h Q = ((-128 ≤ ((-4) : Int) ∧ ((-4) : Int) < 128) ∧ G sp sc [2, 17] d mX4_firstLeaving n 83 L (.inl (-4) :: st) h Q)) ∧
  (∀ (n d : Nat) (L : List (Option iV)) (a : Int) (h : iH) (Q : Option iV → iH → Prop), G sp sc [2, 17] d mX4_firstLeaving (n + 1) 83 L [.inl a] h Q = Q (some (.inl a)) h) ∧
  lkC 4 38 4 = some (mX4_wouldLeave, 4, 2) ∧
  lkF 4 15 4 = some 2 ∧
  lkF 4 25 4 = some 0 ∧
  lkF 4 33 8 = some 0 ∧
  lkF 4 9 4 = some 1 := ⟨by intros; exact G_at (by decide +kernel : fetch mX4_firstLeaving 0 = some (.iconst 0)),
  by intros; exact G_at (by decide +kernel : fetch mX4_firstLeaving 1 = some (.istore_n 1)),
  by intros; exact G_at (by decide +kernel : fetch mX4_firstLeaving 2 = some (.iload_n 1)),
  by intros; exact G_at (by decide +kernel : fetch mX4_firstLeaving 3 = some (.aload_n 0)),
  by intros; exact G_own (by decide +kernel : fetch mX4_firstLeaving 4 = some (.getfield 25)) (by decide +kernel),
  by intros; exact G_own (by decide +kernel : fetch mX4_firstLeaving 7 = some (.getfield 33)) (by decide +kernel),
  by intros; exact G_at (by decide +kernel : fetch mX4_firstLeaving 10 = some (.iconst 0)),
  by intros; exact G_at (by decide +kernel : fetch mX4_firstLeaving 11 = some (.iaload)),
  by intros; exact G_at (by decide +kernel : fetch mX4_firstLeaving 12 = some (.if_icmp .ge 69)),
  by intros; exact G_at (by decide +kernel : fetch mX4_firstLeaving 15 = some (.iconst 0)),
  by intros; exact G_at (by decide +kernel : fetch mX4_firstLeaving 16 = some (.istore_n 2)),
  by intros; exact G_at (by decide +kernel : fetch mX4_firstLeaving 17 = some (.iload_n 2)),
  by intros; exact G_at (by decide +kernel : fetch mX4_firstLeaving 18 = some (.aload_n 0)),
  by intros; exact G_own (by decide +kernel : fetch mX4_firstLeaving 19 = some (.getfield 25)) (by decide +kernel),
  by intros; exact G_own (by decide +kernel : fetch mX4_firstLeaving 22 = some (.getfield 33)) (by decide +kernel),
  by intros; exact G_at (by decide +kernel : fetch mX4_firstLeaving 25 = some (.iconst 1)),
  by intros; exact G_at (by decide +kernel : fetch mX4_firstLeaving 26 = some (.iaload)),
  by intros; exact G_at (by decide +kernel : fetch mX4_firstLeaving 27 = some (.if_icmp .ge 48)),
  by intros; exact G_at (by decide +kernel : fetch mX4_firstLeaving 30 = some (.aload_n 0)),
  by intros; exact G_at (by decide +kernel : fetch mX4_firstLeaving 31 = some (.iconst 0)),
  by intros; exact G_at (by decide +kernel : fetch mX4_firstLeaving 32 = some (.iload_n 1)),
  by intros; exact G_at (by decide +kernel : fetch mX4_firstLeaving 33 = some (.iload_n 2)),
  by intros; exact G_at (by decide +kernel : fetch mX4_firstLeaving 34 = some (.aload_n 0)),
  by intros; exact G_own (by decide +kernel : fetch mX4_firstLeaving 35 = some (.getfield 9)) (by decide +kernel),
  by intros; exact G_at (by decide +kernel : fetch mX4_firstLeaving 38 = some (.iload_n 1)),
  by intros; exact G_at (by decide +kernel : fetch mX4_firstLeaving 39 = some (.iaload)),
  by intros; exact G_callV (by decide +kernel : fetch mX4_firstLeaving 40 = some (.invokevirtual 38)) (by decide +kernel) (by decide +kernel) rfl,
  by intros; exact G_at (by decide +kernel : fetch mX4_firstLeaving 43 = some (.ifCond .eq 26)),
  by intros; exact G_at (by decide +kernel : fetch mX4_firstLeaving 46 = some (.aload_n 0)),
  by intros; exact G_at (by decide +kernel : fetch mX4_firstLeaving 47 = some (.iconst 1)),
  by intros; exact G_at (by decide +kernel : fetch mX4_firstLeaving 48 = some (.iload_n 2)),
  by intros; exact G_at (by decide +kernel : fetch mX4_firstLeaving 49 = some (.iload_n 1)),
  by intros; exact G_at (by decide +kernel : fetch mX4_firstLeaving 50 = some (.aload_n 0)),
  by intros; exact G_own (by decide +kernel : fetch mX4_firstLeaving 51 = some (.getfield 15)) (by decide +kernel),
  by intros; exact G_at (by decide +kernel : fetch mX4_firstLeaving 54 = some (.iload_n 2)),
  by intros; exact G_at (by decide +kernel : fetch mX4_firstLeaving 55 = some (.iaload)),
  by intros; exact G_callV (by decide +kernel : fetch mX4_firstLeaving 56 = some (.invokevirtual 38)) (by decide +kernel) (by decide +kernel) rfl,
  by intros; exact G_at (by decide +kernel : fetch mX4_firstLeaving 59 = some (.ifCond .eq 10)),
  by intros; exact G_at (by decide +kernel : fetch mX4_firstLeaving 62 = some (.bipush 10)),
  by intros; exact G_at (by decide +kernel : fetch mX4_firstLeaving 64 = some (.iload_n 1)),
  by intros; exact G_at (by decide +kernel : fetch mX4_firstLeaving 65 = some (.imul)),
  by intros; exact G_at (by decide +kernel : fetch mX4_firstLeaving 66 = some (.iload_n 2)),
  by intros; exact G_at (by decide +kernel : fetch mX4_firstLeaving 67 = some (.iadd)),
  by intros; exact G_reti (by decide +kernel : fetch mX4_firstLeaving 68 = some (.ireturn)) (by decide +kernel),
  by intros; exact G_at (by decide +kernel : fetch mX4_firstLeaving 69 = some (.iinc 2 1)),
  by intros; exact G_at (by decide +kernel : fetch mX4_firstLeaving 72 = some (.goto (-55))),
  by intros; exact G_at (by decide +kernel : fetch mX4_firstLeaving 75 = some (.iinc 1 1)),
  by intros; exact G_at (by decide +kernel : fetch mX4_firstLeaving 78 = some (.goto (-76))),
  by intros; exact G_at (by decide +kernel : fetch mX4_firstLeaving 81 = some (.bipush (-4))),
  by intros; exact G_reti (by decide +kernel : fetch mX4_firstLeaving 83 = some (.ireturn)) (by decide +kernel),
  by decide +kernel,
  by decide +kernel,
  by decide +kernel,
  by decide +kernel,
  by decide +kernel⟩
theorem gX4_wouldLeave : (∀ (n d : Nat) (L : List (Option iV)) (st : List iV) (h : iH) (Q : Option iV → iH → Prop), G sp sc [] d mX4_wouldLeave (n + 1) 0 L st h Q = (match ld L 4 with | some (.inl x) => G sp sc [] d mX4_wouldLeave n 2 L (.inl x :: st) h Q | _ => False)) ∧
  (∀ (n d : Nat) (L : List (Option iV)) (st : List iV) (h : iH) (Q : Option iV → iH → Prop), G sp sc [] d mX4_wouldLeave (n + 1) 2 L st h Q = G sp sc [] d mX4_wouldLeave n 3 L (.inl (-1) :: st) h Q) ∧
  (∀ (n d : Nat) (L : List (Option iV)) (a : Int) (b : Int) (r : List iV) (h : iH) (Q : Option iV → iH → Prop), G sp sc [] d mX4_wouldLeave (n + 1) 3 L (.inl b :: .inl a :: r) h Q = ((inI a = true ∧ inI b = true) ∧ (a = b → G sp sc [] d mX4_wouldLeave n 30 L r h Q) ∧ (¬ (a = b) → G sp sc [] d mX4_wouldLeave n 6 L r h Q))) ∧
  (∀ (n d : Nat) (L : List (Option iV)) (st : List iV) (h : iH) (Q : Option iV → iH → Prop), G sp sc [] d mX4_wouldLeave (n + 1) 6 L st h Q = (match ld L 0 with | some (.inr (.inr (r + 1))) => G sp sc [] d mX4_wouldLeave n 7 L (.inr (.inr (r + 1)) :: st) h Q | _ => False)) ∧
  (∀ (n d : Nat) (L : List (Option iV)) (r : List iV) (m : Nat) (h : iH) (Q : Option iV → iH → Prop), G sp sc [] d mX4_wouldLeave (n + 1) 7 L (.inr (.inr (m + 2)) :: r) h Q = (match h.1[m]? with | some (.inl (ci, fs)) => (match lkF 4 25 ci with | some k => (match fs[k]? with | some v => G sp sc [] d mX4_wouldLeave n 10 L (v :: r) h Q | none => False) | none => False) | _ => False)) ∧
  (∀ (n d : Nat) (L : List (Option iV)) (st : List iV) (h : iH) (Q : Option iV → iH → Prop), G sp sc [] d mX4_wouldLeave (n + 1) 10 L st h Q = (match ld L 1 with | some (.inl x) => G sp sc [] d mX4_wouldLeave n 11 L (.inl x :: st) h Q | _ => False)) ∧
  (∀ (n d : Nat) (L : List (Option iV)) (st : List iV) (h : iH) (Q : Option iV → iH → Prop), G sp sc [] d mX4_wouldLeave (n + 1) 11 L st h Q = (match ld L 2 with | some (.inl x) => G sp sc [] d mX4_wouldLeave n 12 L (.inl x :: st) h Q | _ => False)) ∧
  (∀ (n d : Nat) (L : List (Option iV)) (st : List iV) (h : iH) (Q : Option iV → iH → Prop), G sp sc [] d mX4_wouldLeave (n + 1) 12 L st h Q = (match ld L 3 with | some (.inl x) => G sp sc [] d mX4_wouldLeave n 13 L (.inl x :: st) h Q | _ => False)) ∧
  (∀ (n d : Nat) (L : List (Option iV)) (r : List iV) (m : Nat) (z0 : iV) (z1 : iV) (z2 : iV) (h : iH) (Q : Option iV → iH → Prop), G sp sc [] (d + 1) mX4_wouldLeave (n + 1) 13 L (z2 :: z1 :: z0 :: .inr (.inr (m + 2)) :: r) h Q = (match h.1[m]? with | some (.inl (ci, _)) => (match lkC 4 42 ci with | some (y1, n1, kd) => (n1 = 3 ∧ (kd = 2 ∨ kd = 3 ∨ kd = 8) ∧ cs r ≤ 8) ∧ Call sp sc d y1 [.inr (.inr (m + 2)), z0, z1, z2] h (fun q h1 => GC sp sc [] (d + 1) mX4_wouldLeave n 16 L q r h h1 Q) | none => False) | _ => False)) ∧
  (∀ (n d : Nat) (L : List (Option iV)) (st : List iV) (h : iH) (Q : Option iV → iH → Prop), G sp sc [] d mX4_wouldLeave (n + 1) 16 L st h Q = (match ld L 0 with | some (.inr (.inr (r + 1))) => G sp sc [] d mX4_wouldLeave n 17 L (.inr (.inr (r + 1)) :: st) h Q | _ => False)) ∧
  (∀ (n d : Nat) (L : List (Option iV)) (r : List iV) (m : Nat) (h : iH) (Q : Option iV → iH → Prop), G sp sc [] d mX4_wouldLeave (n + 1) 17 L (.inr (.inr (m + 2)) :: r) h Q = (match h.1[m]? with | some (.inl (ci, fs)) => (match lkF 4 25 ci with | some k => (match fs[k]? with | some v => G sp sc [] d mX4_wouldLeave n 20 L (v :: r) h Q | none => False) | none => False) | _ => False)) ∧
  (∀ (n d : Nat) (L : List (Option iV)) (st : List iV) (h : iH) (Q : Option iV → iH → Prop), G sp sc [] d mX4_wouldLeave (n + 1) 20 L st h Q = (match ld L 1 with | some (.inl x) => G sp sc [] d mX4_wouldLeave n 21 L (.inl x :: st) h Q | _ => False)) ∧
  (∀ (n d : Nat) (L : List (Option iV)) (st : List iV) (h : iH) (Q : Option iV → iH → Prop), G sp sc [] d mX4_wouldLeave (n + 1) 21 L st h Q = (match ld L 2 with | some (.inl x) => G sp sc [] d mX4_wouldLeave n 22 L (.inl x :: st) h Q | _ => False)) ∧
  (∀ (n d : Nat) (L : List (Option iV)) (st : List iV) (h : iH) (Q : Option iV → iH → Prop), G sp sc [] d mX4_wouldLeave (n + 1) 22 L st h Q = (match ld L 4 with | some (.inl x) => G sp sc [] d mX4_wouldLeave n 24 L (.inl x :: st) h Q | _ => False)) ∧
  (∀ (n d : Nat) (L : List (Option iV)) (r : List iV) (m : Nat) (z0 : iV) (z1 : iV) (z2 : iV) (h : iH) (Q : Option iV → iH → Prop), G sp sc [] (d + 1) mX4_wouldLeave (n + 1) 24 L (z2 :: z1 :: z0 :: .inr (.inr (m + 2)) :: r) h Q = (match h.1[m]? with | some (.inl (ci, _)) => (match lkC 4 42 ci with | some (y1, n1, kd) => (n1 = 3 ∧ (kd = 2 ∨ kd = 3 ∨ kd = 8) ∧ cs r ≤ 8) ∧ Call sp sc d y1 [.inr (.inr (m + 2)), z0, z1, z2] h (fun q h1 => GC sp sc [] (d + 1) mX4_wouldLeave n 27 L q r h h1 Q) | none => False) | _ => False)) ∧
  (∀ (n d : Nat) (L : List (Option iV)) (a : Int) (b : Int) (r : List iV) (h : iH) (Q : Option iV → iH → Prop), G sp sc [] d mX4_wouldLeave (n + 1) 27 L (.inl b :: .inl a :: r) h Q = ((inI a = true ∧ inI b = true) ∧ (a ≤ b → G sp sc [] d mX4_wouldLeave n 34 L r h Q) ∧ (¬ (a ≤ b) → G sp sc [] d mX4_wouldLeave n 30 L r h Q))) ∧
  (∀ (n d : Nat) (L : List (Option iV)) (st : List iV) (h : iH) (Q : Option iV → iH → Prop), G sp sc [] d mX4_wouldLeave (n + 1) 30 L st h Q = G sp sc [] d mX4_wouldLeave n 31 L (.inl 1 :: st) h Q) ∧
  (∀ (n d : Nat) (L : List (Option iV)) (st : List iV) (h : iH) (Q : Option iV → iH → Prop), G sp sc [] d mX4_wouldLeave (n + 1) 31 L st h Q = G sp sc [] d mX4_wouldLeave n 35 L st h Q) ∧
  (∀ (n d : Nat) (L : List (Option iV)) (st : List iV) (h : iH) (Q : Option iV → iH → Prop), G sp sc [] d mX4_wouldLeave (n + 1) 34 L st h Q = G sp sc [] d mX4_wouldLeave n 35 L (.inl 0 :: st) h Q) ∧
  (∀ (n d : Nat) (L : List (Option iV)) (a : Int) (h : iH) (Q : Option iV → iH → Prop), G sp sc [] d mX4_wouldLeave (n + 1) 35 L [.inl a] h Q = ((a = 0 ∨ a = 1) ∧ Q (some (.inl a)) h)) ∧
  lkC 4 42 8 = some (mX8_liking, 3, 2) ∧
  lkF 4 25 4 = some 0 := ⟨by intros; exact G_at (by decide +kernel : fetch mX4_wouldLeave 0 = some (.iload 4)),
  by intros; exact G_at (by decide +kernel : fetch mX4_wouldLeave 2 = some (.iconst (-1))),
  by intros; exact G_at (by decide +kernel : fetch mX4_wouldLeave 3 = some (.if_icmp .eq 27)),
  by intros; exact G_at (by decide +kernel : fetch mX4_wouldLeave 6 = some (.aload_n 0)),
  by intros; exact G_own (by decide +kernel : fetch mX4_wouldLeave 7 = some (.getfield 25)) (by decide +kernel),
  by intros; exact G_at (by decide +kernel : fetch mX4_wouldLeave 10 = some (.iload_n 1)),
  by intros; exact G_at (by decide +kernel : fetch mX4_wouldLeave 11 = some (.iload_n 2)),
  by intros; exact G_at (by decide +kernel : fetch mX4_wouldLeave 12 = some (.iload_n 3)),
  by intros; exact G_callV (by decide +kernel : fetch mX4_wouldLeave 13 = some (.invokevirtual 42)) (by decide +kernel) (by decide +kernel) rfl,
  by intros; exact G_at (by decide +kernel : fetch mX4_wouldLeave 16 = some (.aload_n 0)),
  by intros; exact G_own (by decide +kernel : fetch mX4_wouldLeave 17 = some (.getfield 25)) (by decide +kernel),
  by intros; exact G_at (by decide +kernel : fetch mX4_wouldLeave 20 = some (.iload_n 1)),
  by intros; exact G_at (by decide +kernel : fetch mX4_wouldLeave 21 = some (.iload_n 2)),
  by intros; exact G_at (by decide +kernel : fetch mX4_wouldLeave 22 = some (.iload 4)),
  by intros; exact G_callV (by decide +kernel : fetch mX4_wouldLeave 24 = some (.invokevirtual 42)) (by decide +kernel) (by decide +kernel) rfl,
  by intros; exact G_at (by decide +kernel : fetch mX4_wouldLeave 27 = some (.if_icmp .le 7)),
  by intros; exact G_at (by decide +kernel : fetch mX4_wouldLeave 30 = some (.iconst 1)),
  by intros; exact G_at (by decide +kernel : fetch mX4_wouldLeave 31 = some (.goto 4)),
  by intros; exact G_at (by decide +kernel : fetch mX4_wouldLeave 34 = some (.iconst 0)),
  by intros; exact G_retz (by decide +kernel : fetch mX4_wouldLeave 35 = some (.ireturn)) (by decide +kernel),
  by decide +kernel,
  by decide +kernel⟩
theorem gX4_askAll : (∀ (n d : Nat) (L : List (Option iV)) (st : List iV) (h : iH) (Q : Option iV → iH → Prop), G sp sc [6, 30, 41] d mX4_askAll (n + 1) 0 L st h Q = (match ld L 0 with | some (.inr (.inr (r + 1))) => G sp sc [6, 30, 41] d mX4_askAll n 1 L (.inr (.inr (r + 1)) :: st) h Q | _ => False)) ∧
  (∀ (n d : Nat) (L : List (Option iV)) (r : List iV) (m : Nat) (h : iH) (Q : Option iV → iH → Prop), G sp sc [6, 30, 41] (d + 1) mX4_askAll (n + 1) 1 L (.inr (.inr (m + 2)) :: r) h Q = (match h.1[m]? with | some (.inl (ci, _)) => (match lkC 4 46 ci with | some (y1, n1, kd) => (n1 = 0 ∧ (kd = 2 ∨ kd = 3 ∨ kd = 8) ∧ cs r ≤ 8) ∧ Call sp sc d y1 [.inr (.inr (m + 2))] h (fun q h1 => GC sp sc [6, 30, 41] (d + 1) mX4_askAll n 4 L q r h h1 Q) | none => False) | _ => False)) ∧
  (∀ (n d : Nat) (L : List (Option iV)) (st : List iV) (h : iH) (Q : Option iV → iH → Prop), G sp sc [6, 30, 41] d mX4_askAll (n + 1) 4 L st h Q = G sp sc [6, 30, 41] d mX4_askAll n 5 L (.inl 0 :: st) h Q) ∧
  (∀ (n d : Nat) (L : List (Option iV)) (r : List iV) (x : Int) (h : iH) (Q : Option iV → iH → Prop), G sp sc [6, 30, 41] d mX4_askAll (n + 1) 5 L (.inl x :: r) h Q = (match st1 L 1 (.inl x) with | some L' => Run sp sc d mX4_askAll 6 L' r h Q | none => False)) ∧
  (∀ (n d : Nat) (L : List (Option iV)) (st : List iV) (h : iH) (Q : Option iV → iH → Prop), G sp sc [6, 30, 41] d mX4_askAll (n + 1) 6 L st h Q = (match ld L 1 with | some (.inl x) => G sp sc [6, 30, 41] d mX4_askAll n 7 L (.inl x :: st) h Q | _ => False)) ∧
  (∀ (n d : Nat) (L : List (Option iV)) (st : List iV) (h : iH) (Q : Option iV → iH → Prop), G sp sc [6, 30, 41] d mX4_askAll (n + 1) 7 L st h Q = (match ld L 0 with | some (.inr (.inr (r + 1))) => G sp sc [6, 30, 41] d mX4_askAll n 8 L (.inr (.inr (r + 1)) :: st) h Q | _ => False)) ∧
  (∀ (n d : Nat) (L : List (Option iV)) (r : List iV) (m : Nat) (h : iH) (Q : Option iV → iH → Prop), G sp sc [6, 30, 41] d mX4_askAll (n + 1) 8 L (.inr (.inr (m + 2)) :: r) h Q = (match h.1[m]? with | some (.inl (ci, fs)) => (match lkF 4 21 ci with | some k => (match fs[k]? with | some v => G sp sc [6, 30, 41] d mX4_askAll n 11 L (v :: r) h Q | none => False) | none => False) | _ => False)) ∧
  (∀ (n d : Nat) (L : List (Option iV)) (r : List iV) (m : Nat) (h : iH) (Q : Option iV → iH → Prop), G sp sc [6, 30, 41] d mX4_askAll (n + 1) 11 L (.inr (.inr (m + 2)) :: r) h Q = (match h.1[m]? with | some (.inr (.inl (t, xs))) => t < 6 ∧ G sp sc [6, 30, 41] d mX4_askAll n 12 L (.inl (xs.length : Int) :: r) h Q | some (.inr (.inr (t, rs))) => t < 6 ∧ G sp sc [6, 30, 41] d mX4_askAll n 12 L (.inl (rs.length : Int) :: r) h Q | _ => False)) ∧
  (∀ (n d : Nat) (L : List (Option iV)) (a : Int) (b : Int) (r : List iV) (h : iH) (Q : Option iV → iH → Prop), G sp sc [6, 30, 41] d mX4_askAll (n + 1) 12 L (.inl b :: .inl a :: r) h Q = ((inI a = true ∧ inI b = true) ∧ (b ≤ a → G sp sc [6, 30, 41] d mX4_askAll n 28 L r h Q) ∧ (¬ (b ≤ a) → G sp sc [6, 30, 41] d mX4_askAll n 15 L r h Q))) ∧
  (∀ (n d : Nat) (L : List (Option iV)) (st : List iV) (h : iH) (Q : Option iV → iH → Prop), G sp sc [6, 30, 41] d mX4_askAll (n + 1) 15 L st h Q = (match ld L 0 with | some (.inr (.inr (r + 1))) => G sp sc [6, 30, 41] d mX4_askAll n 16 L (.inr (.inr (r + 1)) :: st) h Q | _ => False)) ∧
  (∀ (n d : Nat) (L : List (Option iV)) (r : List iV) (m : Nat) (h : iH) (Q : Option iV → iH → Prop), G sp sc [6, 30, 41] d mX4_askAll (n + 1) 16 L (.inr (.inr (m + 2)) :: r) h Q = (match h.1[m]? with | some (.inl (ci, fs)) => (match lkF 4 21 ci with | some k => (match fs[k]? with | some v => G sp sc [6, 30, 41] d mX4_askAll n 19 L (v :: r) h Q | none => False) | none => False) | _ => False)) ∧
  (∀ (n d : Nat) (L : List (Option iV)) (st : List iV) (h : iH) (Q : Option iV → iH → Prop), G sp sc [6, 30, 41] d mX4_askAll (n + 1) 19 L st h Q = (match ld L 1 with | some (.inl x) => G sp sc [6, 30, 41] d mX4_askAll n 20 L (.inl x :: st) h Q | _ => False)) ∧
  (∀ (n d : Nat) (L : List (Option iV)) (st : List iV) (h : iH) (Q : Option iV → iH → Prop), G sp sc [6, 30, 41] d mX4_askAll (n + 1) 20 L st h Q = G sp sc [6, 30, 41] d mX4_askAll n 21 L (.inl 0 :: st) h Q) ∧
  (∀ (n d : Nat) (L : List (Option iV)) (r : List iV) (v : Int) (j : Int) (m : Nat) (h : iH) (Q : Option iV → iH → Prop), G sp sc [6, 30, 41] d mX4_askAll (n + 1) 21 L (.inl v :: .inl j :: .inr (.inr (m + 2)) :: r) h Q = (match h.1[m]? with | some (.inr (.inl (2, xs))) => (inA j xs.length = true ∧ (v = 0 ∨ v = 1)) ∧ G sp sc [6, 30, 41] d mX4_askAll n 22 L r (h.1.set m (.inr (.inl (2, xs.set j.toNat v))), h.2) Q | _ => False)) ∧
  (∀ (n d : Nat) (L : List (Option iV)) (st : List iV) (h : iH) (Q : Option iV → iH → Prop), G sp sc [6, 30, 41] d mX4_askAll (n + 1) 22 L st h Q = (match ld L 1 with | some (.inl x) => (match st1 L 1 (.inl (x + 1)) with | some L' => G sp sc [6, 30, 41] d mX4_askAll n 25 L' st h Q | none => False) | _ => False)) ∧
  (∀ (n d : Nat) (L : List (Option iV)) (st : List iV) (h : iH) (Q : Option iV → iH → Prop), G sp sc [6, 30, 41] d mX4_askAll (n + 1) 25 L st h Q = Run sp sc d mX4_askAll 6 L st h Q) ∧
  (∀ (n d : Nat) (L : List (Option iV)) (st : List iV) (h : iH) (Q : Option iV → iH → Prop), G sp sc [6, 30, 41] d mX4_askAll (n + 1) 28 L st h Q = G sp sc [6, 30, 41] d mX4_askAll n 29 L (.inl 0 :: st) h Q) ∧
  (∀ (n d : Nat) (L : List (Option iV)) (r : List iV) (x : Int) (h : iH) (Q : Option iV → iH → Prop), G sp sc [6, 30, 41] d mX4_askAll (n + 1) 29 L (.inl x :: r) h Q = (match st1 L 1 (.inl x) with | some L' => Run sp sc d mX4_askAll 30 L' r h Q | none => False)) ∧
  (∀ (n d : Nat) (L : List (Option iV)) (st : List iV) (h : iH) (Q : Option iV → iH → Prop), G sp sc [6, 30, 41] d mX4_askAll (n + 1) 30 L st h Q = (match ld L 1 with | some (.inl x) => G sp sc [6, 30, 41] d mX4_askAll n 31 L (.inl x :: st) h Q | _ => False)) ∧
  (∀ (n d : Nat) (L : List (Option iV)) (st : List iV) (h : iH) (Q : Option iV → iH → Prop), G sp sc [6, 30, 41] d mX4_askAll (n + 1) 31 L st h Q = (match ld L 0 with | some (.inr (.inr (r + 1))) => G sp sc [6, 30, 41] d mX4_askAll n 32 L (.inr (.inr (r + 1)) :: st) h Q | _ => False)) ∧
  (∀ (n d : Nat) (L : List (Option iV)) (r : List iV) (m : Nat) (h : iH) (Q : Option iV → iH → Prop), G sp sc [6, 30, 41] d mX4_askAll (n + 1) 32 L (.inr (.inr (m + 2)) :: r) h Q = (match h.1[m]? with | some (.inl (ci, fs)) => (match lkF 4 21 ci with | some k => (match fs[k]? with | some v => G sp sc [6, 30, 41] d mX4_askAll n 35 L (v :: r) h Q | none => False) | none => False) | _ => False)) ∧
  (∀ (n d : Nat) (L : List (Option iV)) (r : List iV) (m : Nat) (h : iH) (Q : Option iV → iH → Prop), G sp sc [6, 30, 41] d mX4_askAll (n + 1) 35 L (.inr (.inr (m + 2)) :: r) h Q = (match h.1[m]? with | some (.inr (.inl (t, xs))) => t < 6 ∧ G sp sc [6, 30, 41] d mX4_askAll n 36 L (.inl (xs.length : Int) :: r) h Q | some (.inr (.inr (t, rs))) => t < 6 ∧ G sp sc [6, 30, 41] d mX4_askAll n 36 L (.inl (rs.length : Int) :: r) h Q | _ => False)) ∧
  (∀ (n d : Nat) (L : List (Option iV)) (a : Int) (b : Int) (r : List iV) (h : iH) (Q : Option iV → iH → Prop), G sp sc [6, 30, 41] d mX4_askAll (n + 1) 36 L (.inl b :: .inl a :: r) h Q = ((inI a = true ∧ inI b = true) ∧ (b ≤ a → G sp sc [6, 30, 41] d mX4_askAll n 81 L r h Q) ∧ (¬ (b ≤ a) → G sp sc [6, 30, 41] d mX4_askAll n 39 L r h Q))) ∧
  (∀ (n d : Nat) (L : List (Option iV)) (st : List iV) (h : iH) (Q : Option iV → iH → Prop), G sp sc [6, 30, 41] d mX4_askAll (n + 1) 39 L st h Q = G sp sc [6, 30, 41] d mX4_askAll n 40 L (.inl 0 :: st) h Q) ∧
  (∀ (n d : Nat) (L : List (Option iV)) (r : List iV) (x : Int) (h : iH) (Q : Option iV → iH → Prop), G sp sc [6, 30, 41] d mX4_askAll (n + 1) 40 L (.inl x :: r) h Q = (match st1 L 2 (.inl x) with | some L' => Run sp sc d mX4_askAll 41 L' r h Q | none => False)) ∧
  (∀ (n d : Nat) (L : List (Option iV)) (st : List iV) (h : iH) (Q : Option iV → iH → Prop), G sp sc [6, 30, 41] d mX4_askAll (n + 1) 41 L st h Q = (match ld L 2 with | some (.inl x) => G sp sc [6, 30, 41] d mX4_askAll n 42 L (.inl x :: st) h Q | _ => False)) ∧
  (∀ (n d : Nat) (L : List (Option iV)) (st : List iV) (h : iH) (Q : Option iV → iH → Prop), G sp sc [6, 30, 41] d mX4_askAll (n + 1) 42 L st h Q = (match ld L 0 with | some (.inr (.inr (r + 1))) => G sp sc [6, 30, 41] d mX4_askAll n 43 L (.inr (.inr (r + 1)) :: st) h Q | _ => False)) ∧
  (∀ (n d : Nat) (L : List (Option iV)) (r : List iV) (m : Nat) (h : iH) (Q : Option iV → iH → Prop), G sp sc [6, 30, 41] d mX4_askAll (n + 1) 43 L (.inr (.inr (m + 2)) :: r) h Q = (match h.1[m]? with | some (.inl (ci, fs)) => (match lkF 4 25 ci with | some k => (match fs[k]? with | some v => G sp sc [6, 30, 41] d mX4_askAll n 46 L (v :: r) h Q | none => False) | none => False) | _ => False)) ∧
  (∀ (n d : Nat) (L : List (Option iV)) (r : List iV) (m : Nat) (h : iH) (Q : Option iV → iH → Prop), G sp sc [6, 30, 41] d mX4_askAll (n + 1) 46 L (.inr (.inr (m + 2)) :: r) h Q = (match h.1[m]? with | some (.inl (ci, fs)) => (match lkF 4 33 ci with | some k => (match fs[k]? with | some v => G sp sc [6, 30, 41] d mX4_askAll n 49 L (v :: r) h Q | none => False) | none => False) | _ => False)) ∧
  (∀ (n d : Nat) (L : List (Option iV)) (st : List iV) (h : iH) (Q : Option iV → iH → Prop), G sp sc [6, 30, 41] d mX4_askAll (n + 1) 49 L st h Q = G sp sc [6, 30, 41] d mX4_askAll n 50 L (.inl 0 :: st) h Q) ∧
  (∀ (n d : Nat) (L : List (Option iV)) (r : List iV) (j : Int) (m : Nat) (h : iH) (Q : Option iV → iH → Prop), G sp sc [6, 30, 41] d mX4_askAll (n + 1) 50 L (.inl j :: .inr (.inr (m + 2)) :: r) h Q = (match h.1[m]? with | some (.inr (.inl (0, xs))) => inA j xs.length = true ∧ G sp sc [6, 30, 41] d mX4_askAll n 51 L (.inl (xs.getD j.toNat 0) :: r) h Q | _ => False)) ∧
  (∀ (n d : Nat) (L : List (Option iV)) (a : Int) (b : Int) (r : List iV) (h : iH) (Q : Option iV → iH → Prop), G sp sc [6, 30, 41] d mX4_askAll (n + 1) 51 L (.inl b :: .inl a :: r) h Q = ((inI a = true ∧ inI b = true) ∧ (b ≤ a → G sp sc [6, 30, 41] d mX4_askAll n 75 L r h Q) ∧ (¬ (b ≤ a) → G sp sc [6, 30, 41] d mX4_askAll n 54 L r h Q))) ∧
  (∀ (n d : Nat) (L : List (Option iV)) (st : List iV) (h : iH) (Q : Option iV → iH → Prop), G sp sc [6, 30, 41] d mX4_askAll (n + 1) 54 L st h Q = (match ld L 0 with | some (.inr (.inr (r + 1))) => G sp sc [6, 30, 41] d mX4_askAll n 55 L (.inr (.inr (r + 1)) :: st) h Q | _ => False)) ∧
  (∀ (n d : Nat) (L : List (Option iV)) (r : List iV) (m : Nat) (h : iH) (Q : Option iV → iH → Prop), G sp sc [6, 30, 41] d mX4_askAll (n + 1) 55 L (.inr (.inr (m + 2)) :: r) h Q = (match h.1[m]? with | some (.inl (ci, fs)) => (match lkF 4 9 ci with | some k => (match fs[k]? with | some v => G sp sc [6, 30, 41] d mX4_askAll n 58 L (v :: r) h Q | none => False) | none => False) | _ => False)) ∧
  (∀ (n d : Nat) (L : List (Option iV)) (st : List iV) (h : iH) (Q : Option iV → iH → Prop), G sp sc [6, 30, 41] d mX4_askAll (n + 1) 58 L st h Q = (match ld L 2 with | some (.inl x) => G sp sc [6, 30, 41] d mX4_askAll n 59 L (.inl x :: st) h Q | _ => False)) ∧
  (∀ (n d : Nat) (L : List (Option iV)) (r : List iV) (j : Int) (m : Nat) (h : iH) (Q : Option iV → iH → Prop), G sp sc [6, 30, 41] d mX4_askAll (n + 1) 59 L (.inl j :: .inr (.inr (m + 2)) :: r) h Q = (match h.1[m]? with | some (.inr (.inl (0, xs))) => inA j xs.length = true ∧ G sp sc [6, 30, 41] d mX4_askAll n 60 L (.inl (xs.getD j.toNat 0) :: r) h Q | _ => False)) ∧
  (∀ (n d : Nat) (L : List (Option iV)) (st : List iV) (h : iH) (Q : Option iV → iH → Prop), G sp sc [6, 30, 41] d mX4_askAll (n + 1) 60 L st h Q = G sp sc [6, 30, 41] d mX4_askAll n 61 L (.inl (-1) :: st) h Q) ∧
  (∀ (n d : Nat) (L : List (Option iV)) (a : Int) (b : Int) (r : List iV) (h : iH) (Q : Option iV → iH → Prop), G sp sc [6, 30, 41] d mX4_askAll (n + 1) 61 L (.inl b :: .inl a :: r) h Q = ((inI a = true ∧ inI b = true) ∧ (¬ a = b → G sp sc [6, 30, 41] d mX4_askAll n 69 L r h Q) ∧ (¬ (¬ a = b) → G sp sc [6, 30, 41] d mX4_askAll n 64 L r h Q))) ∧
  (∀ (n d : Nat) (L : List (Option iV)) (st : List iV) (h : iH) (Q : Option iV → iH → Prop), G sp sc [6, 30, 41] d mX4_askAll (n + 1) 64 L st h Q = (match ld L 0 with | some (.inr (.inr (r + 1))) => G sp sc [6, 30, 41] d mX4_askAll n 65 L (.inr (.inr (r + 1)) :: st) h Q | _ => False)) ∧
  (∀ (n d : Nat) (L : List (Option iV)) (st : List iV) (h : iH) (Q : Option iV → iH → Prop), G sp sc [6, 30, 41] d mX4_askAll (n + 1) 65 L st h Q = (match ld L 2 with | some (.inl x) => G sp sc [6, 30, 41] d mX4_askAll n 66 L (.inl x :: st) h Q | _ => False)) ∧
  (∀ (n d : Nat) (L : List (Option iV)) (r : List iV) (m : Nat) (z0 : iV) (h : iH) (Q : Option iV → iH → Prop), G sp sc [6, 30, 41] (d + 1) mX4_askAll (n + 1) 66 L (z0 :: .inr (.inr (m + 2)) :: r) h Q = (match h.1[m]? with | some (.inl (ci, _)) => (match lkC 4 49 ci with | some (y1, n1, kd) => (n1 = 1 ∧ (kd = 2 ∨ kd = 3 ∨ kd = 8) ∧ cs r ≤ 8) ∧ Call sp sc d y1 [.inr (.inr (m + 2)), z0] h (fun q h1 => GC sp sc [6, 30, 41] (d + 1) mX4_askAll n 69 L q r h h1 Q) | none => False) | _ => False)) ∧
  (∀ (n d : Nat) (L : List (Option iV)) (st : List iV) (h : iH) (Q : Option iV → iH → Prop), G sp sc [6, 30, 41] d mX4_askAll (n + 1) 69 L st h Q = (match ld L 2 with | some (.inl x) => (match st1 L 2 (.inl (x + 1)) with | some L' => G sp sc [6, 30, 41] d mX4_askAll n 72 L' st h Q | none => False) | _ => False)) ∧
  (∀ (n d : Nat) (L : List (Option iV)) (st : List iV) (h : iH) (Q : Option iV → iH → Prop), G sp sc [6, 30, 41] d mX4_askAll (n + 1) 72 L st h Q = Run sp sc d mX4_askAll 41 L st h Q) ∧
  (∀ (n d : Nat) (L : List (Option iV)) (st : List iV) (h : iH) (Q : Option iV → iH → Prop), G sp sc [6, 30, 41] d mX4_askAll (n + 1) 75 L st h Q = (match ld L 1 with | some (.inl x) => (match st1 L 1 (.inl (x + 1)) with | some L' => G sp sc [6, 30, 41] d mX4_askAll n 78 L' st h Q | none => False) | _ => False)) ∧
  (∀ (n d : Nat) (L : List (Option iV)) (st : List iV) (h : iH) (Q : Option iV → iH → Prop), G sp sc [6, 30, 41] d mX4_askAll (n + 1) 78 L st h Q = Run sp sc d mX4_askAll 30 L st h Q) ∧
  (∀ (n d : Nat) (L : List (Option iV))  (h : iH) (Q : Option iV → iH → Prop), G sp sc [6, 30, 41] d mX4_askAll (n + 1) 81 L [] h Q = Q none h) ∧
  lkC 4 46 4 = some (mX4_clear, 0, 2) ∧
  lkC 4 49 4 = some (mX4_askNext, 1, 2) ∧
  lkF 4 21 4 = some 4 ∧
  lkF 4 25 4 = some 0 ∧
  lkF 4 33 8 = some 0 ∧
  lkF 4 9 4 = some 1 := ⟨by intros; exact G_at (by decide +kernel : fetch mX4_askAll 0 = some (.aload_n 0)),
  by intros; exact G_callV (by decide +kernel : fetch mX4_askAll 1 = some (.invokevirtual 46)) (by decide +kernel) (by decide +kernel) rfl,
  by intros; exact G_at (by decide +kernel : fetch mX4_askAll 4 = some (.iconst 0)),
  by intros; exact G_at (by decide +kernel : fetch mX4_askAll 5 = some (.istore_n 1)),
  by intros; exact G_at (by decide +kernel : fetch mX4_askAll 6 = some (.iload_n 1)),
  by intros; exact G_at (by decide +kernel : fetch mX4_askAll 7 = some (.aload_n 0)),
  by intros; exact G_own (by decide +kernel : fetch mX4_askAll 8 = some (.getfield 21)) (by decide +kernel),
  by intros; exact G_at (by decide +kernel : fetch mX4_askAll 11 = some (.arraylength)),
  by intros; exact G_at (by decide +kernel : fetch mX4_askAll 12 = some (.if_icmp .ge 16)),
  by intros; exact G_at (by decide +kernel : fetch mX4_askAll 15 = some (.aload_n 0)),
  by intros; exact G_own (by decide +kernel : fetch mX4_askAll 16 = some (.getfield 21)) (by decide +kernel),
  by intros; exact G_at (by decide +kernel : fetch mX4_askAll 19 = some (.iload_n 1)),
  by intros; exact G_at (by decide +kernel : fetch mX4_askAll 20 = some (.iconst 0)),
  by intros; exact G_at (by decide +kernel : fetch mX4_askAll 21 = some (.bastore)),
  by intros; exact G_at (by decide +kernel : fetch mX4_askAll 22 = some (.iinc 1 1)),
  by intros; exact G_at (by decide +kernel : fetch mX4_askAll 25 = some (.goto (-19))),
  by intros; exact G_at (by decide +kernel : fetch mX4_askAll 28 = some (.iconst 0)),
  by intros; exact G_at (by decide +kernel : fetch mX4_askAll 29 = some (.istore_n 1)),
  by intros; exact G_at (by decide +kernel : fetch mX4_askAll 30 = some (.iload_n 1)),
  by intros; exact G_at (by decide +kernel : fetch mX4_askAll 31 = some (.aload_n 0)),
  by intros; exact G_own (by decide +kernel : fetch mX4_askAll 32 = some (.getfield 21)) (by decide +kernel),
  by intros; exact G_at (by decide +kernel : fetch mX4_askAll 35 = some (.arraylength)),
  by intros; exact G_at (by decide +kernel : fetch mX4_askAll 36 = some (.if_icmp .ge 45)),
  by intros; exact G_at (by decide +kernel : fetch mX4_askAll 39 = some (.iconst 0)),
  by intros; exact G_at (by decide +kernel : fetch mX4_askAll 40 = some (.istore_n 2)),
  by intros; exact G_at (by decide +kernel : fetch mX4_askAll 41 = some (.iload_n 2)),
  by intros; exact G_at (by decide +kernel : fetch mX4_askAll 42 = some (.aload_n 0)),
  by intros; exact G_own (by decide +kernel : fetch mX4_askAll 43 = some (.getfield 25)) (by decide +kernel),
  by intros; exact G_own (by decide +kernel : fetch mX4_askAll 46 = some (.getfield 33)) (by decide +kernel),
  by intros; exact G_at (by decide +kernel : fetch mX4_askAll 49 = some (.iconst 0)),
  by intros; exact G_at (by decide +kernel : fetch mX4_askAll 50 = some (.iaload)),
  by intros; exact G_at (by decide +kernel : fetch mX4_askAll 51 = some (.if_icmp .ge 24)),
  by intros; exact G_at (by decide +kernel : fetch mX4_askAll 54 = some (.aload_n 0)),
  by intros; exact G_own (by decide +kernel : fetch mX4_askAll 55 = some (.getfield 9)) (by decide +kernel),
  by intros; exact G_at (by decide +kernel : fetch mX4_askAll 58 = some (.iload_n 2)),
  by intros; exact G_at (by decide +kernel : fetch mX4_askAll 59 = some (.iaload)),
  by intros; exact G_at (by decide +kernel : fetch mX4_askAll 60 = some (.iconst (-1))),
  by intros; exact G_at (by decide +kernel : fetch mX4_askAll 61 = some (.if_icmp .ne 8)),
  by intros; exact G_at (by decide +kernel : fetch mX4_askAll 64 = some (.aload_n 0)),
  by intros; exact G_at (by decide +kernel : fetch mX4_askAll 65 = some (.iload_n 2)),
  by intros; exact G_callV (by decide +kernel : fetch mX4_askAll 66 = some (.invokevirtual 49)) (by decide +kernel) (by decide +kernel) rfl,
  by intros; exact G_at (by decide +kernel : fetch mX4_askAll 69 = some (.iinc 2 1)),
  by intros; exact G_at (by decide +kernel : fetch mX4_askAll 72 = some (.goto (-31))),
  by intros; exact G_at (by decide +kernel : fetch mX4_askAll 75 = some (.iinc 1 1)),
  by intros; exact G_at (by decide +kernel : fetch mX4_askAll 78 = some (.goto (-48))),
  by intros; exact G_retv (by decide +kernel : fetch mX4_askAll 81 = some (.return_)) (by decide +kernel),
  by decide +kernel,
  by decide +kernel,
  by decide +kernel,
  by decide +kernel,
  by decide +kernel,
  by decide +kernel⟩
theorem gX4_askNext : (∀ (n d : Nat) (L : List (Option iV)) (st : List iV) (h : iH) (Q : Option iV → iH → Prop), G sp sc [4] d mX4_askNext (n + 1) 0 L st h Q = G sp sc [4] d mX4_askNext n 1 L (.inl (-1) :: st) h Q) ∧
  (∀ (n d : Nat) (L : List (Option iV)) (r : List iV) (x : Int) (h : iH) (Q : Option iV → iH → Prop), G sp sc [4] d mX4_askNext (n + 1) 1 L (.inl x :: r) h Q = (match st1 L 2 (.inl x) with | some L' => G sp sc [4] d mX4_askNext n 2 L' r h Q | none => False)) ∧
  (∀ (n d : Nat) (L : List (Option iV)) (st : List iV) (h : iH) (Q : Option iV → iH → Prop), G sp sc [4] d mX4_askNext (n + 1) 2 L st h Q = G sp sc [4] d mX4_askNext n 3 L (.inl 0 :: st) h Q) ∧
  (∀ (n d : Nat) (L : List (Option iV)) (r : List iV) (x : Int) (h : iH) (Q : Option iV → iH → Prop), G sp sc [4] d mX4_askNext (n + 1) 3 L (.inl x :: r) h Q = (match st1 L 3 (.inl x) with | some L' => Run sp sc d mX4_askNext 4 L' r h Q | none => False)) ∧
  (∀ (n d : Nat) (L : List (Option iV)) (st : List iV) (h : iH) (Q : Option iV → iH → Prop), G sp sc [4] d mX4_askNext (n + 1) 4 L st h Q = (match ld L 3 with | some (.inl x) => G sp sc [4] d mX4_askNext n 5 L (.inl x :: st) h Q | _ => False)) ∧
  (∀ (n d : Nat) (L : List (Option iV)) (st : List iV) (h : iH) (Q : Option iV → iH → Prop), G sp sc [4] d mX4_askNext (n + 1) 5 L st h Q = (match ld L 0 with | some (.inr (.inr (r + 1))) => G sp sc [4] d mX4_askNext n 6 L (.inr (.inr (r + 1)) :: st) h Q | _ => False)) ∧
  (∀ (n d : Nat) (L : List (Option iV)) (r : List iV) (m : Nat) (h : iH) (Q : Option iV → iH → Prop), G sp sc [4] d mX4_askNext (n + 1) 6 L (.inr (.inr (m + 2)) :: r) h Q = (match h.1[m]? with | some (.inl (ci, fs)) => (match lkF 4 25 ci with | some k => (match fs[k]? with | some v => G sp sc [4] d mX4_askNext n 9 L (v :: r) h Q | none => False) | none => False) | _ => False)) ∧
  (∀ (n d : Nat) (L : List (Option iV)) (r : List iV) (m : Nat) (h : iH) (Q : Option iV → iH → Prop), G sp sc [4] d mX4_askNext (n + 1) 9 L (.inr (.inr (m + 2)) :: r) h Q = (match h.1[m]? with | some (.inl (ci, fs)) => (match lkF 4 33 ci with | some k => (match fs[k]? with | some v => G sp sc [4] d mX4_askNext n 12 L (v :: r) h Q | none => False) | none => False) | _ => False)) ∧
  (∀ (n d : Nat) (L : List (Option iV)) (st : List iV) (h : iH) (Q : Option iV → iH → Prop), G sp sc [4] d mX4_askNext (n + 1) 12 L st h Q = G sp sc [4] d mX4_askNext n 13 L (.inl 1 :: st) h Q) ∧
  (∀ (n d : Nat) (L : List (Option iV)) (r : List iV) (j : Int) (m : Nat) (h : iH) (Q : Option iV → iH → Prop), G sp sc [4] d mX4_askNext (n + 1) 13 L (.inl j :: .inr (.inr (m + 2)) :: r) h Q = (match h.1[m]? with | some (.inr (.inl (0, xs))) => inA j xs.length = true ∧ G sp sc [4] d mX4_askNext n 14 L (.inl (xs.getD j.toNat 0) :: r) h Q | _ => False)) ∧
  (∀ (n d : Nat) (L : List (Option iV)) (a : Int) (b : Int) (r : List iV) (h : iH) (Q : Option iV → iH → Prop), G sp sc [4] d mX4_askNext (n + 1) 14 L (.inl b :: .inl a :: r) h Q = ((inI a = true ∧ inI b = true) ∧ (b ≤ a → G sp sc [4] d mX4_askNext n 66 L r h Q) ∧ (¬ (b ≤ a) → G sp sc [4] d mX4_askNext n 17 L r h Q))) ∧
  (∀ (n d : Nat) (L : List (Option iV)) (st : List iV) (h : iH) (Q : Option iV → iH → Prop), G sp sc [4] d mX4_askNext (n + 1) 17 L st h Q = (match ld L 0 with | some (.inr (.inr (r + 1))) => G sp sc [4] d mX4_askNext n 18 L (.inr (.inr (r + 1)) :: st) h Q | _ => False)) ∧
  (∀ (n d : Nat) (L : List (Option iV)) (r : List iV) (m : Nat) (h : iH) (Q : Option iV → iH → Prop), G sp sc [4] d mX4_askNext (n + 1) 18 L (.inr (.inr (m + 2)) :: r) h Q = (match h.1[m]? with | some (.inl (ci, fs)) => (match lkF 4 21 ci with | some k => (match fs[k]? with | some v => G sp sc [4] d mX4_askNext n 21 L (v :: r) h Q | none => False) | none => False) | _ => False)) ∧
  (∀ (n d : Nat) (L : List (Option iV)) (st : List iV) (h : iH) (Q : Option iV → iH → Prop), G sp sc [4] d mX4_askNext (n + 1) 21 L st h Q = (match ld L 1 with | some (.inl x) => G sp sc [4] d mX4_askNext n 22 L (.inl x :: st) h Q | _ => False)) ∧
  (∀ (n d : Nat) (L : List (Option iV)) (st : List iV) (h : iH) (Q : Option iV → iH → Prop), G sp sc [4] d mX4_askNext (n + 1) 22 L st h Q = G sp sc [4] d mX4_askNext n 23 L (.inl 5 :: st) h Q) ∧
  (∀ (n d : Nat) (L : List (Option iV)) (a : Int) (b : Int) (r : List iV) (h : iH) (Q : Option iV → iH → Prop), G sp sc [4] d mX4_askNext (n + 1) 23 L (.inl b :: .inl a :: r) h Q = G sp sc [4] d mX4_askNext n 24 L (.inl (a * b) :: r) h Q) ∧
  (∀ (n d : Nat) (L : List (Option iV)) (st : List iV) (h : iH) (Q : Option iV → iH → Prop), G sp sc [4] d mX4_askNext (n + 1) 24 L st h Q = (match ld L 3 with | some (.inl x) => G sp sc [4] d mX4_askNext n 25 L (.inl x :: st) h Q | _ => False)) ∧
  (∀ (n d : Nat) (L : List (Option iV)) (a : Int) (b : Int) (r : List iV) (h : iH) (Q : Option iV → iH → Prop), G sp sc [4] d mX4_askNext (n + 1) 25 L (.inl b :: .inl a :: r) h Q = G sp sc [4] d mX4_askNext n 26 L (.inl (a + b) :: r) h Q) ∧
  (∀ (n d : Nat) (L : List (Option iV)) (r : List iV) (j : Int) (m : Nat) (h : iH) (Q : Option iV → iH → Prop), G sp sc [4] d mX4_askNext (n + 1) 26 L (.inl j :: .inr (.inr (m + 2)) :: r) h Q = (match h.1[m]? with | some (.inr (.inl (2, xs))) => inA j xs.length = true ∧ G sp sc [4] d mX4_askNext n 27 L (.inl (xs.getD j.toNat 0) :: r) h Q | _ => False)) ∧
  (∀ (n d : Nat) (L : List (Option iV)) (a : Int) (r : List iV) (h : iH) (Q : Option iV → iH → Prop), G sp sc [4] d mX4_askNext (n + 1) 27 L (.inl a :: r) h Q = (inI a = true ∧ (¬ a = 0 → G sp sc [4] d mX4_askNext n 60 L r h Q) ∧ (¬ (¬ a = 0) → G sp sc [4] d mX4_askNext n 30 L r h Q))) ∧
  (∀ (n d : Nat) (L : List (Option iV)) (st : List iV) (h : iH) (Q : Option iV → iH → Prop), G sp sc [4] d mX4_askNext (n + 1) 30 L st h Q = (match ld L 2 with | some (.inl x) => G sp sc [4] d mX4_askNext n 31 L (.inl x :: st) h Q | _ => False)) ∧
  (∀ (n d : Nat) (L : List (Option iV)) (st : List iV) (h : iH) (Q : Option iV → iH → Prop), G sp sc [4] d mX4_askNext (n + 1) 31 L st h Q = G sp sc [4] d mX4_askNext n 32 L (.inl (-1) :: st) h Q) ∧
  (∀ (n d : Nat) (L : List (Option iV)) (a : Int) (b : Int) (r : List iV) (h : iH) (Q : Option iV → iH → Prop), G sp sc [4] d mX4_askNext (n + 1) 32 L (.inl b :: .inl a :: r) h Q = ((inI a = true ∧ inI b = true) ∧ (a = b → G sp sc [4] d mX4_askNext n 58 L r h Q) ∧ (¬ (a = b) → G sp sc [4] d mX4_askNext n 35 L r h Q))) ∧
  (∀ (n d : Nat) (L : List (Option iV)) (st : List iV) (h : iH) (Q : Option iV → iH → Prop), G sp sc [4] d mX4_askNext (n + 1) 35 L st h Q = (match ld L 0 with | some (.inr (.inr (r + 1))) => G sp sc [4] d mX4_askNext n 36 L (.inr (.inr (r + 1)) :: st) h Q | _ => False)) ∧
  (∀ (n d : Nat) (L : List (Option iV)) (r : List iV) (m : Nat) (h : iH) (Q : Option iV → iH → Prop), G sp sc [4] d mX4_askNext (n + 1) 36 L (.inr (.inr (m + 2)) :: r) h Q = (match h.1[m]? with | some (.inl (ci, fs)) => (match lkF 4 25 ci with | some k => (match fs[k]? with | some v => G sp sc [4] d mX4_askNext n 39 L (v :: r) h Q | none => False) | none => False) | _ => False)) ∧
  (∀ (n d : Nat) (L : List (Option iV)) (st : List iV) (h : iH) (Q : Option iV → iH → Prop), G sp sc [4] d mX4_askNext (n + 1) 39 L st h Q = G sp sc [4] d mX4_askNext n 40 L (.inl 0 :: st) h Q) ∧
  (∀ (n d : Nat) (L : List (Option iV)) (st : List iV) (h : iH) (Q : Option iV → iH → Prop), G sp sc [4] d mX4_askNext (n + 1) 40 L st h Q = (match ld L 1 with | some (.inl x) => G sp sc [4] d mX4_askNext n 41 L (.inl x :: st) h Q | _ => False)) ∧
  (∀ (n d : Nat) (L : List (Option iV)) (st : List iV) (h : iH) (Q : Option iV → iH → Prop), G sp sc [4] d mX4_askNext (n + 1) 41 L st h Q = (match ld L 3 with | some (.inl x) => G sp sc [4] d mX4_askNext n 42 L (.inl x :: st) h Q | _ => False)) ∧
  (∀ (n d : Nat) (L : List (Option iV)) (r : List iV) (m : Nat) (z0 : iV) (z1 : iV) (z2 : iV) (h : iH) (Q : Option iV → iH → Prop), G sp sc [4] (d + 1) mX4_askNext (n + 1) 42 L (z2 :: z1 :: z0 :: .inr (.inr (m + 2)) :: r) h Q = (match h.1[m]? with | some (.inl (ci, _)) => (match lkC 4 42 ci with | some (y1, n1, kd) => (n1 = 3 ∧ (kd = 2 ∨ kd = 3 ∨ kd = 8) ∧ cs r ≤ 8) ∧ Call sp sc d y1 [.inr (.inr (m + 2)), z0, z1, z2] h (fun q h1 => GC sp sc [4] (d + 1) mX4_askNext n 45 L q r h h1 Q) | none => False) | _ => False)) ∧
  (∀ (n d : Nat) (L : List (Option iV)) (st : List iV) (h : iH) (Q : Option iV → iH → Prop), G sp sc [4] d mX4_askNext (n + 1) 45 L st h Q = (match ld L 0 with | some (.inr (.inr (r + 1))) => G sp sc [4] d mX4_askNext n 46 L (.inr (.inr (r + 1)) :: st) h Q | _ => False)) ∧
  (∀ (n d : Nat) (L : List (Option iV)) (r : List iV) (m : Nat) (h : iH) (Q : Option iV → iH → Prop), G sp sc [4] d mX4_askNext (n + 1) 46 L (.inr (.inr (m + 2)) :: r) h Q = (match h.1[m]? with | some (.inl (ci, fs)) => (match lkF 4 25 ci with | some k => (match fs[k]? with | some v => G sp sc [4] d mX4_askNext n 49 L (v :: r) h Q | none => False) | none => False) | _ => False)) ∧
  (∀ (n d : Nat) (L : List (Option iV)) (st : List iV) (h : iH) (Q : Option iV → iH → Prop), G sp sc [4] d mX4_askNext (n + 1) 49 L st h Q = G sp sc [4] d mX4_askNext n 50 L (.inl 0 :: st) h Q) ∧
  (∀ (n d : Nat) (L : List (Option iV)) (st : List iV) (h : iH) (Q : Option iV → iH → Prop), G sp sc [4] d mX4_askNext (n + 1) 50 L st h Q = (match ld L 1 with | some (.inl x) => G sp sc [4] d mX4_askNext n 51 L (.inl x :: st) h Q | _ => False)) ∧
  (∀ (n d : Nat) (L : List (Option iV)) (st : List iV) (h : iH) (Q : Option iV → iH → Prop), G sp sc [4] d mX4_askNext (n + 1) 51 L st h Q = (match ld L 2 with | some (.inl x) => G sp sc [4] d mX4_askNext n 52 L (.inl x :: st) h Q | _ => False)) ∧
  (∀ (n d : Nat) (L : List (Option iV)) (r : List iV) (m : Nat) (z0 : iV) (z1 : iV) (z2 : iV) (h : iH) (Q : Option iV → iH → Prop), G sp sc [4] (d + 1) mX4_askNext (n + 1) 52 L (z2 :: z1 :: z0 :: .inr (.inr (m + 2)) :: r) h Q = (match h.1[m]? with | some (.inl (ci, _)) => (match lkC 4 42 ci with | some (y1, n1, kd) => (n1 = 3 ∧ (kd = 2 ∨ kd = 3 ∨ kd = 8) ∧ cs r ≤ 8) ∧ Call sp sc d y1 [.inr (.inr (m + 2)), z0, z1, z2] h (fun q h1 => GC sp sc [4] (d + 1) mX4_askNext n 55 L q r h h1 Q) | none => False) | _ => False)) ∧
  (∀ (n d : Nat) (L : List (Option iV)) (a : Int) (b : Int) (r : List iV) (h : iH) (Q : Option iV → iH → Prop), G sp sc [4] d mX4_askNext (n + 1) 55 L (.inl b :: .inl a :: r) h Q = ((inI a = true ∧ inI b = true) ∧ (a ≤ b → G sp sc [4] d mX4_askNext n 60 L r h Q) ∧ (¬ (a ≤ b) → G sp sc [4] d mX4_askNext n 58 L r h Q))) ∧
  (∀ (n d : Nat) (L : List (Option iV)) (st : List iV) (h : iH) (Q : Option iV → iH → Prop), G sp sc [4] d mX4_askNext (n + 1) 58 L st h Q = (match ld L 3 with | some (.inl x) => G sp sc [4] d mX4_askNext n 59 L (.inl x :: st) h Q | _ => False)) ∧
  (∀ (n d : Nat) (L : List (Option iV)) (r : List iV) (x : Int) (h : iH) (Q : Option iV → iH → Prop), G sp sc [4] d mX4_askNext (n + 1) 59 L (.inl x :: r) h Q = (match st1 L 2 (.inl x) with | some L' => G sp sc [4] d mX4_askNext n 60 L' r h Q | none => False)) ∧
  (∀ (n d : Nat) (L : List (Option iV)) (st : List iV) (h : iH) (Q : Option iV → iH → Prop), G sp sc [4] d mX4_askNext (n + 1) 60 L st h Q = (match ld L 3 with | some (.inl x) => (match st1 L 3 (.inl (x + 1)) with | some L' => G sp sc [4] d mX4_askNext n 63 L' st h Q | none => False) | _ => False)) ∧
  (∀ (n d : Nat) (L : List (Option iV)) (st : List iV) (h : iH) (Q : Option iV → iH → Prop), G sp sc [4] d mX4_askNext (n + 1) 63 L st h Q = Run sp sc d mX4_askNext 4 L st h Q) ∧
  (∀ (n d : Nat) (L : List (Option iV)) (st : List iV) (h : iH) (Q : Option iV → iH → Prop), G sp sc [4] d mX4_askNext (n + 1) 66 L st h Q = (match ld L 2 with | some (.inl x) => G sp sc [4] d mX4_askNext n 67 L (.inl x :: st) h Q | _ => False)) ∧
  (∀ (n d : Nat) (L : List (Option iV)) (st : List iV) (h : iH) (Q : Option iV → iH → Prop), G sp sc [4] d mX4_askNext (n + 1) 67 L st h Q = G sp sc [4] d mX4_askNext n 68 L (.inl (-1) :: st) h Q) ∧
  (∀ (n d : Nat) (L : List (Option iV)) (a : Int) (b : Int) (r : List iV) (h : iH) (Q : Option iV → iH → Prop), G sp sc [4] d mX4_askNext (n + 1) 68 L (.inl b :: .inl a :: r) h Q = ((inI a = true ∧ inI b = true) ∧ (¬ a = b → G sp sc [4] d mX4_askNext n 72 L r h Q) ∧ (¬ (¬ a = b) → G sp sc [4] d mX4_askNext n 71 L r h Q))) ∧
  (∀ (n d : Nat) (L : List (Option iV))  (h : iH) (Q : Option iV → iH → Prop), G sp sc [4] d mX4_askNext (n + 1) 71 L [] h Q = Q none h) ∧
  (∀ (n d : Nat) (L : List (Option iV)) (st : List iV) (h : iH) (Q : Option iV → iH → Prop), G sp sc [4] d mX4_askNext (n + 1) 72 L st h Q = (match ld L 0 with | some (.inr (.inr (r + 1))) => G sp sc [4] d mX4_askNext n 73 L (.inr (.inr (r + 1)) :: st) h Q | _ => False)) ∧
  (∀ (n d : Nat) (L : List (Option iV)) (r : List iV) (m : Nat) (h : iH) (Q : Option iV → iH → Prop), G sp sc [4] d mX4_askNext (n + 1) 73 L (.inr (.inr (m + 2)) :: r) h Q = (match h.1[m]? with | some (.inl (ci, fs)) => (match lkF 4 21 ci with | some k => (match fs[k]? with | some v => G sp sc [4] d mX4_askNext n 76 L (v :: r) h Q | none => False) | none => False) | _ => False)) ∧
  (∀ (n d : Nat) (L : List (Option iV)) (st : List iV) (h : iH) (Q : Option iV → iH → Prop), G sp sc [4] d mX4_askNext (n + 1) 76 L st h Q = (match ld L 1 with | some (.inl x) => G sp sc [4] d mX4_askNext n 77 L (.inl x :: st) h Q | _ => False)) ∧
  (∀ (n d : Nat) (L : List (Option iV)) (st : List iV) (h : iH) (Q : Option iV → iH → Prop), G sp sc [4] d mX4_askNext (n + 1) 77 L st h Q = G sp sc [4] d mX4_askNext n 78 L (.inl 5 :: st) h Q) ∧
  (∀ (n d : Nat) (L : List (Option iV)) (a : Int) (b : Int) (r : List iV) (h : iH) (Q : Option iV → iH → Prop), G sp sc [4] d mX4_askNext (n + 1) 78 L (.inl b :: .inl a :: r) h Q = G sp sc [4] d mX4_askNext n 79 L (.inl (a * b) :: r) h Q) ∧
  (∀ (n d : Nat) (L : List (Option iV)) (st : List iV) (h : iH) (Q : Option iV → iH → Prop), G sp sc [4] d mX4_askNext (n + 1) 79 L st h Q = (match ld L 2 with | some (.inl x) => G sp sc [4] d mX4_askNext n 80 L (.inl x :: st) h Q | _ => False)) ∧
  (∀ (n d : Nat) (L : List (Option iV)) (a : Int) (b : Int) (r : List iV) (h : iH) (Q : Option iV → iH → Prop), G sp sc [4] d mX4_askNext (n + 1) 80 L (.inl b :: .inl a :: r) h Q = G sp sc [4] d mX4_askNext n 81 L (.inl (a + b) :: r) h Q) ∧
  (∀ (n d : Nat) (L : List (Option iV)) (st : List iV) (h : iH) (Q : Option iV → iH → Prop), G sp sc [4] d mX4_askNext (n + 1) 81 L st h Q = G sp sc [4] d mX4_askNext n 82 L (.inl 1 :: st) h Q) ∧
  (∀ (n d : Nat) (L : List (Option iV)) (r : List iV) (v : Int) (j : Int) (m : Nat) (h : iH) (Q : Option iV → iH → Prop), G sp sc [4] d mX4_askNext (n + 1) 82 L (.inl v :: .inl j :: .inr (.inr (m + 2)) :: r) h Q = (match h.1[m]? with | some (.inr (.inl (2, xs))) => (inA j xs.length = true ∧ (v = 0 ∨ v = 1)) ∧ G sp sc [4] d mX4_askNext n 83 L r (h.1.set m (.inr (.inl (2, xs.set j.toNat v))), h.2) Q | _ => False)) ∧
  (∀ (n d : Nat) (L : List (Option iV)) (st : List iV) (h : iH) (Q : Option iV → iH → Prop), G sp sc [4] d mX4_askNext (n + 1) 83 L st h Q = (match ld L 0 with | some (.inr (.inr (r + 1))) => G sp sc [4] d mX4_askNext n 84 L (.inr (.inr (r + 1)) :: st) h Q | _ => False)) ∧
  (∀ (n d : Nat) (L : List (Option iV)) (r : List iV) (m : Nat) (h : iH) (Q : Option iV → iH → Prop), G sp sc [4] d mX4_askNext (n + 1) 84 L (.inr (.inr (m + 2)) :: r) h Q = (match h.1[m]? with | some (.inl (ci, fs)) => (match lkF 4 15 ci with | some k => (match fs[k]? with | some v => G sp sc [4] d mX4_askNext n 87 L (v :: r) h Q | none => False) | none => False) | _ => False)) ∧
  (∀ (n d : Nat) (L : List (Option iV)) (st : List iV) (h : iH) (Q : Option iV → iH → Prop), G sp sc [4] d mX4_askNext (n + 1) 87 L st h Q = (match ld L 2 with | some (.inl x) => G sp sc [4] d mX4_askNext n 88 L (.inl x :: st) h Q | _ => False)) ∧
  (∀ (n d : Nat) (L : List (Option iV)) (r : List iV) (j : Int) (m : Nat) (h : iH) (Q : Option iV → iH → Prop), G sp sc [4] d mX4_askNext (n + 1) 88 L (.inl j :: .inr (.inr (m + 2)) :: r) h Q = (match h.1[m]? with | some (.inr (.inl (0, xs))) => inA j xs.length = true ∧ G sp sc [4] d mX4_askNext n 89 L (.inl (xs.getD j.toNat 0) :: r) h Q | _ => False)) ∧
  (∀ (n d : Nat) (L : List (Option iV)) (r : List iV) (x : Int) (h : iH) (Q : Option iV → iH → Prop), G sp sc [4] d mX4_askNext (n + 1) 89 L (.inl x :: r) h Q = (match st1 L 3 (.inl x) with | some L' => G sp sc [4] d mX4_askNext n 90 L' r h Q | none => False)) ∧
  (∀ (n d : Nat) (L : List (Option iV)) (st : List iV) (h : iH) (Q : Option iV → iH → Prop), G sp sc [4] d mX4_askNext (n + 1) 90 L st h Q = (match ld L 3 with | some (.inl x) => G sp sc [4] d mX4_askNext n 91 L (.inl x :: st) h Q | _ => False)) ∧
  (∀ (n d : Nat) (L : List (Option iV)) (st : List iV) (h : iH) (Q : Option iV → iH → Prop), G sp sc [4] d mX4_askNext (n + 1) 91 L st h Q = G sp sc [4] d mX4_askNext n 92 L (.inl (-1) :: st) h Q) ∧
  (∀ (n d : Nat) (L : List (Option iV)) (a : Int) (b : Int) (r : List iV) (h : iH) (Q : Option iV → iH → Prop), G sp sc [4] d mX4_askNext (n + 1) 92 L (.inl b :: .inl a :: r) h Q = ((inI a = true ∧ inI b = true) ∧ (¬ a = b → G sp sc [4] d mX4_askNext n 104 L r h Q) ∧ (¬ (¬ a = b) → G sp sc [4] d mX4_askNext n 95 L r h Q))) ∧
  (∀ (n d : Nat) (L : List (Option iV)) (st : List iV) (h : iH) (Q : Option iV → iH → Prop), G sp sc [4] d mX4_askNext (n + 1) 95 L st h Q = (match ld L 0 with | some (.inr (.inr (r + 1))) => G sp sc [4] d mX4_askNext n 96 L (.inr (.inr (r + 1)) :: st) h Q | _ => False)) ∧
  (∀ (n d : Nat) (L : List (Option iV)) (st : List iV) (h : iH) (Q : Option iV → iH → Prop), G sp sc [4] d mX4_askNext (n + 1) 96 L st h Q = (match ld L 1 with | some (.inl x) => G sp sc [4] d mX4_askNext n 97 L (.inl x :: st) h Q | _ => False)) ∧
  (∀ (n d : Nat) (L : List (Option iV)) (st : List iV) (h : iH) (Q : Option iV → iH → Prop), G sp sc [4] d mX4_askNext (n + 1) 97 L st h Q = (match ld L 2 with | some (.inl x) => G sp sc [4] d mX4_askNext n 98 L (.inl x :: st) h Q | _ => False)) ∧
  (∀ (n d : Nat) (L : List (Option iV)) (r : List iV) (m : Nat) (z0 : iV) (z1 : iV) (h : iH) (Q : Option iV → iH → Prop), G sp sc [4] (d + 1) mX4_askNext (n + 1) 98 L (z1 :: z0 :: .inr (.inr (m + 2)) :: r) h Q = (match h.1[m]? with | some (.inl (ci, _)) => (match lkC 4 29 ci with | some (y1, n1, kd) => (n1 = 2 ∧ (kd = 2 ∨ kd = 3 ∨ kd = 8) ∧ cs r ≤ 8) ∧ Call sp sc d y1 [.inr (.inr (m + 2)), z0, z1] h (fun q h1 => GC sp sc [4] (d + 1) mX4_askNext n 101 L q r h h1 Q) | none => False) | _ => False)) ∧
  (∀ (n d : Nat) (L : List (Option iV)) (st : List iV) (h : iH) (Q : Option iV → iH → Prop), G sp sc [4] d mX4_askNext (n + 1) 101 L st h Q = G sp sc [4] d mX4_askNext n 126 L st h Q) ∧
  (∀ (n d : Nat) (L : List (Option iV)) (st : List iV) (h : iH) (Q : Option iV → iH → Prop), G sp sc [4] d mX4_askNext (n + 1) 104 L st h Q = (match ld L 0 with | some (.inr (.inr (r + 1))) => G sp sc [4] d mX4_askNext n 105 L (.inr (.inr (r + 1)) :: st) h Q | _ => False)) ∧
  (∀ (n d : Nat) (L : List (Option iV)) (st : List iV) (h : iH) (Q : Option iV → iH → Prop), G sp sc [4] d mX4_askNext (n + 1) 105 L st h Q = (match ld L 2 with | some (.inl x) => G sp sc [4] d mX4_askNext n 106 L (.inl x :: st) h Q | _ => False)) ∧
  (∀ (n d : Nat) (L : List (Option iV)) (st : List iV) (h : iH) (Q : Option iV → iH → Prop), G sp sc [4] d mX4_askNext (n + 1) 106 L st h Q = (match ld L 1 with | some (.inl x) => G sp sc [4] d mX4_askNext n 107 L (.inl x :: st) h Q | _ => False)) ∧
  (∀ (n d : Nat) (L : List (Option iV)) (st : List iV) (h : iH) (Q : Option iV → iH → Prop), G sp sc [4] d mX4_askNext (n + 1) 107 L st h Q = (match ld L 3 with | some (.inl x) => G sp sc [4] d mX4_askNext n 108 L (.inl x :: st) h Q | _ => False)) ∧
  (∀ (n d : Nat) (L : List (Option iV)) (r : List iV) (m : Nat) (z0 : iV) (z1 : iV) (z2 : iV) (h : iH) (Q : Option iV → iH → Prop), G sp sc [4] (d + 1) mX4_askNext (n + 1) 108 L (z2 :: z1 :: z0 :: .inr (.inr (m + 2)) :: r) h Q = (match h.1[m]? with | some (.inl (ci, _)) => (match lkC 4 53 ci with | some (y1, n1, kd) => (n1 = 3 ∧ (kd = 2 ∨ kd = 3 ∨ kd = 8) ∧ cs r ≤ 8) ∧ Call sp sc d y1 [.inr (.inr (m + 2)), z0, z1, z2] h (fun q h1 => GC sp sc [4] (d + 1) mX4_askNext n 111 L q r h h1 Q) | none => False) | _ => False)) ∧
  (∀ (n d : Nat) (L : List (Option iV)) (a : Int) (r : List iV) (h : iH) (Q : Option iV → iH → Prop), G sp sc [4] d mX4_askNext (n + 1) 111 L (.inl a :: r) h Q = (inI a = true ∧ (a = 0 → G sp sc [4] d mX4_askNext n 126 L r h Q) ∧ (¬ (a = 0) → G sp sc [4] d mX4_askNext n 114 L r h Q))) ∧
  (∀ (n d : Nat) (L : List (Option iV)) (st : List iV) (h : iH) (Q : Option iV → iH → Prop), G sp sc [4] d mX4_askNext (n + 1) 114 L st h Q = (match ld L 0 with | some (.inr (.inr (r + 1))) => G sp sc [4] d mX4_askNext n 115 L (.inr (.inr (r + 1)) :: st) h Q | _ => False)) ∧
  (∀ (n d : Nat) (L : List (Option iV)) (st : List iV) (h : iH) (Q : Option iV → iH → Prop), G sp sc [4] d mX4_askNext (n + 1) 115 L st h Q = (match ld L 3 with | some (.inl x) => G sp sc [4] d mX4_askNext n 116 L (.inl x :: st) h Q | _ => False)) ∧
  (∀ (n d : Nat) (L : List (Option iV)) (st : List iV) (h : iH) (Q : Option iV → iH → Prop), G sp sc [4] d mX4_askNext (n + 1) 116 L st h Q = (match ld L 2 with | some (.inl x) => G sp sc [4] d mX4_askNext n 117 L (.inl x :: st) h Q | _ => False)) ∧
  (∀ (n d : Nat) (L : List (Option iV)) (r : List iV) (m : Nat) (z0 : iV) (z1 : iV) (h : iH) (Q : Option iV → iH → Prop), G sp sc [4] (d + 1) mX4_askNext (n + 1) 117 L (z1 :: z0 :: .inr (.inr (m + 2)) :: r) h Q = (match h.1[m]? with | some (.inl (ci, _)) => (match lkC 4 57 ci with | some (y1, n1, kd) => (n1 = 2 ∧ (kd = 2 ∨ kd = 3 ∨ kd = 8) ∧ cs r ≤ 8) ∧ Call sp sc d y1 [.inr (.inr (m + 2)), z0, z1] h (fun q h1 => GC sp sc [4] (d + 1) mX4_askNext n 120 L q r h h1 Q) | none => False) | _ => False)) ∧
  (∀ (n d : Nat) (L : List (Option iV)) (st : List iV) (h : iH) (Q : Option iV → iH → Prop), G sp sc [4] d mX4_askNext (n + 1) 120 L st h Q = (match ld L 0 with | some (.inr (.inr (r + 1))) => G sp sc [4] d mX4_askNext n 121 L (.inr (.inr (r + 1)) :: st) h Q | _ => False)) ∧
  (∀ (n d : Nat) (L : List (Option iV)) (st : List iV) (h : iH) (Q : Option iV → iH → Prop), G sp sc [4] d mX4_askNext (n + 1) 121 L st h Q = (match ld L 1 with | some (.inl x) => G sp sc [4] d mX4_askNext n 122 L (.inl x :: st) h Q | _ => False)) ∧
  (∀ (n d : Nat) (L : List (Option iV)) (st : List iV) (h : iH) (Q : Option iV → iH → Prop), G sp sc [4] d mX4_askNext (n + 1) 122 L st h Q = (match ld L 2 with | some (.inl x) => G sp sc [4] d mX4_askNext n 123 L (.inl x :: st) h Q | _ => False)) ∧
  (∀ (n d : Nat) (L : List (Option iV)) (r : List iV) (m : Nat) (z0 : iV) (z1 : iV) (h : iH) (Q : Option iV → iH → Prop), G sp sc [4] (d + 1) mX4_askNext (n + 1) 123 L (z1 :: z0 :: .inr (.inr (m + 2)) :: r) h Q = (match h.1[m]? with | some (.inl (ci, _)) => (match lkC 4 29 ci with | some (y1, n1, kd) => (n1 = 2 ∧ (kd = 2 ∨ kd = 3 ∨ kd = 8) ∧ cs r ≤ 8) ∧ Call sp sc d y1 [.inr (.inr (m + 2)), z0, z1] h (fun q h1 => GC sp sc [4] (d + 1) mX4_askNext n 126 L q r h h1 Q) | none => False) | _ => False)) ∧
  (∀ (n d : Nat) (L : List (Option iV))  (h : iH) (Q : Option iV → iH → Prop), G sp sc [4] d mX4_askNext (n + 1) 126 L [] h Q = Q none h) ∧
  lkC 4 29 4 = some (mX4_join, 2, 2) ∧
  lkC 4 42 8 = some (mX8_liking, 3, 2) ∧
  lkC 4 53 4 = some (mX4_keepsRather, 3, 2) ∧
  lkC 4 57 4 = some (mX4_part, 2, 2) ∧
  lkF 4 15 4 = some 2 ∧
  lkF 4 21 4 = some 4 ∧
  lkF 4 25 4 = some 0 ∧
  lkF 4 33 8 = some 0 := ⟨by intros; exact G_at (by decide +kernel : fetch mX4_askNext 0 = some (.iconst (-1))),
  by intros; exact G_at (by decide +kernel : fetch mX4_askNext 1 = some (.istore_n 2)),
  by intros; exact G_at (by decide +kernel : fetch mX4_askNext 2 = some (.iconst 0)),
  by intros; exact G_at (by decide +kernel : fetch mX4_askNext 3 = some (.istore_n 3)),
  by intros; exact G_at (by decide +kernel : fetch mX4_askNext 4 = some (.iload_n 3)),
  by intros; exact G_at (by decide +kernel : fetch mX4_askNext 5 = some (.aload_n 0)),
  by intros; exact G_own (by decide +kernel : fetch mX4_askNext 6 = some (.getfield 25)) (by decide +kernel),
  by intros; exact G_own (by decide +kernel : fetch mX4_askNext 9 = some (.getfield 33)) (by decide +kernel),
  by intros; exact G_at (by decide +kernel : fetch mX4_askNext 12 = some (.iconst 1)),
  by intros; exact G_at (by decide +kernel : fetch mX4_askNext 13 = some (.iaload)),
  by intros; exact G_at (by decide +kernel : fetch mX4_askNext 14 = some (.if_icmp .ge 52)),
  by intros; exact G_at (by decide +kernel : fetch mX4_askNext 17 = some (.aload_n 0)),
  by intros; exact G_own (by decide +kernel : fetch mX4_askNext 18 = some (.getfield 21)) (by decide +kernel),
  by intros; exact G_at (by decide +kernel : fetch mX4_askNext 21 = some (.iload_n 1)),
  by intros; exact G_at (by decide +kernel : fetch mX4_askNext 22 = some (.iconst 5)),
  by intros; exact G_at (by decide +kernel : fetch mX4_askNext 23 = some (.imul)),
  by intros; exact G_at (by decide +kernel : fetch mX4_askNext 24 = some (.iload_n 3)),
  by intros; exact G_at (by decide +kernel : fetch mX4_askNext 25 = some (.iadd)),
  by intros; exact G_at (by decide +kernel : fetch mX4_askNext 26 = some (.baload)),
  by intros; exact G_at (by decide +kernel : fetch mX4_askNext 27 = some (.ifCond .ne 33)),
  by intros; exact G_at (by decide +kernel : fetch mX4_askNext 30 = some (.iload_n 2)),
  by intros; exact G_at (by decide +kernel : fetch mX4_askNext 31 = some (.iconst (-1))),
  by intros; exact G_at (by decide +kernel : fetch mX4_askNext 32 = some (.if_icmp .eq 26)),
  by intros; exact G_at (by decide +kernel : fetch mX4_askNext 35 = some (.aload_n 0)),
  by intros; exact G_own (by decide +kernel : fetch mX4_askNext 36 = some (.getfield 25)) (by decide +kernel),
  by intros; exact G_at (by decide +kernel : fetch mX4_askNext 39 = some (.iconst 0)),
  by intros; exact G_at (by decide +kernel : fetch mX4_askNext 40 = some (.iload_n 1)),
  by intros; exact G_at (by decide +kernel : fetch mX4_askNext 41 = some (.iload_n 3)),
  by intros; exact G_callV (by decide +kernel : fetch mX4_askNext 42 = some (.invokevirtual 42)) (by decide +kernel) (by decide +kernel) rfl,
  by intros; exact G_at (by decide +kernel : fetch mX4_askNext 45 = some (.aload_n 0)),
  by intros; exact G_own (by decide +kernel : fetch mX4_askNext 46 = some (.getfield 25)) (by decide +kernel),
  by intros; exact G_at (by decide +kernel : fetch mX4_askNext 49 = some (.iconst 0)),
  by intros; exact G_at (by decide +kernel : fetch mX4_askNext 50 = some (.iload_n 1)),
  by intros; exact G_at (by decide +kernel : fetch mX4_askNext 51 = some (.iload_n 2)),
  by intros; exact G_callV (by decide +kernel : fetch mX4_askNext 52 = some (.invokevirtual 42)) (by decide +kernel) (by decide +kernel) rfl,
  by intros; exact G_at (by decide +kernel : fetch mX4_askNext 55 = some (.if_icmp .le 5)),
  by intros; exact G_at (by decide +kernel : fetch mX4_askNext 58 = some (.iload_n 3)),
  by intros; exact G_at (by decide +kernel : fetch mX4_askNext 59 = some (.istore_n 2)),
  by intros; exact G_at (by decide +kernel : fetch mX4_askNext 60 = some (.iinc 3 1)),
  by intros; exact G_at (by decide +kernel : fetch mX4_askNext 63 = some (.goto (-59))),
  by intros; exact G_at (by decide +kernel : fetch mX4_askNext 66 = some (.iload_n 2)),
  by intros; exact G_at (by decide +kernel : fetch mX4_askNext 67 = some (.iconst (-1))),
  by intros; exact G_at (by decide +kernel : fetch mX4_askNext 68 = some (.if_icmp .ne 4)),
  by intros; exact G_retv (by decide +kernel : fetch mX4_askNext 71 = some (.return_)) (by decide +kernel),
  by intros; exact G_at (by decide +kernel : fetch mX4_askNext 72 = some (.aload_n 0)),
  by intros; exact G_own (by decide +kernel : fetch mX4_askNext 73 = some (.getfield 21)) (by decide +kernel),
  by intros; exact G_at (by decide +kernel : fetch mX4_askNext 76 = some (.iload_n 1)),
  by intros; exact G_at (by decide +kernel : fetch mX4_askNext 77 = some (.iconst 5)),
  by intros; exact G_at (by decide +kernel : fetch mX4_askNext 78 = some (.imul)),
  by intros; exact G_at (by decide +kernel : fetch mX4_askNext 79 = some (.iload_n 2)),
  by intros; exact G_at (by decide +kernel : fetch mX4_askNext 80 = some (.iadd)),
  by intros; exact G_at (by decide +kernel : fetch mX4_askNext 81 = some (.iconst 1)),
  by intros; exact G_at (by decide +kernel : fetch mX4_askNext 82 = some (.bastore)),
  by intros; exact G_at (by decide +kernel : fetch mX4_askNext 83 = some (.aload_n 0)),
  by intros; exact G_own (by decide +kernel : fetch mX4_askNext 84 = some (.getfield 15)) (by decide +kernel),
  by intros; exact G_at (by decide +kernel : fetch mX4_askNext 87 = some (.iload_n 2)),
  by intros; exact G_at (by decide +kernel : fetch mX4_askNext 88 = some (.iaload)),
  by intros; exact G_at (by decide +kernel : fetch mX4_askNext 89 = some (.istore_n 3)),
  by intros; exact G_at (by decide +kernel : fetch mX4_askNext 90 = some (.iload_n 3)),
  by intros; exact G_at (by decide +kernel : fetch mX4_askNext 91 = some (.iconst (-1))),
  by intros; exact G_at (by decide +kernel : fetch mX4_askNext 92 = some (.if_icmp .ne 12)),
  by intros; exact G_at (by decide +kernel : fetch mX4_askNext 95 = some (.aload_n 0)),
  by intros; exact G_at (by decide +kernel : fetch mX4_askNext 96 = some (.iload_n 1)),
  by intros; exact G_at (by decide +kernel : fetch mX4_askNext 97 = some (.iload_n 2)),
  by intros; exact G_callV (by decide +kernel : fetch mX4_askNext 98 = some (.invokevirtual 29)) (by decide +kernel) (by decide +kernel) rfl,
  by intros; exact G_at (by decide +kernel : fetch mX4_askNext 101 = some (.goto 25)),
  by intros; exact G_at (by decide +kernel : fetch mX4_askNext 104 = some (.aload_n 0)),
  by intros; exact G_at (by decide +kernel : fetch mX4_askNext 105 = some (.iload_n 2)),
  by intros; exact G_at (by decide +kernel : fetch mX4_askNext 106 = some (.iload_n 1)),
  by intros; exact G_at (by decide +kernel : fetch mX4_askNext 107 = some (.iload_n 3)),
  by intros; exact G_callV (by decide +kernel : fetch mX4_askNext 108 = some (.invokevirtual 53)) (by decide +kernel) (by decide +kernel) rfl,
  by intros; exact G_at (by decide +kernel : fetch mX4_askNext 111 = some (.ifCond .eq 15)),
  by intros; exact G_at (by decide +kernel : fetch mX4_askNext 114 = some (.aload_n 0)),
  by intros; exact G_at (by decide +kernel : fetch mX4_askNext 115 = some (.iload_n 3)),
  by intros; exact G_at (by decide +kernel : fetch mX4_askNext 116 = some (.iload_n 2)),
  by intros; exact G_callV (by decide +kernel : fetch mX4_askNext 117 = some (.invokevirtual 57)) (by decide +kernel) (by decide +kernel) rfl,
  by intros; exact G_at (by decide +kernel : fetch mX4_askNext 120 = some (.aload_n 0)),
  by intros; exact G_at (by decide +kernel : fetch mX4_askNext 121 = some (.iload_n 1)),
  by intros; exact G_at (by decide +kernel : fetch mX4_askNext 122 = some (.iload_n 2)),
  by intros; exact G_callV (by decide +kernel : fetch mX4_askNext 123 = some (.invokevirtual 29)) (by decide +kernel) (by decide +kernel) rfl,
  by intros; exact G_retv (by decide +kernel : fetch mX4_askNext 126 = some (.return_)) (by decide +kernel),
  by decide +kernel,
  by decide +kernel,
  by decide +kernel,
  by decide +kernel,
  by decide +kernel,
  by decide +kernel,
  by decide +kernel,
  by decide +kernel⟩
theorem gX4_keepsRather : (∀ (n d : Nat) (L : List (Option iV)) (st : List iV) (h : iH) (Q : Option iV → iH → Prop), G sp sc [] d mX4_keepsRather (n + 1) 0 L st h Q = (match ld L 0 with | some (.inr (.inr (r + 1))) => G sp sc [] d mX4_keepsRather n 1 L (.inr (.inr (r + 1)) :: st) h Q | _ => False)) ∧
  (∀ (n d : Nat) (L : List (Option iV)) (r : List iV) (m : Nat) (h : iH) (Q : Option iV → iH → Prop), G sp sc [] d mX4_keepsRather (n + 1) 1 L (.inr (.inr (m + 2)) :: r) h Q = (match h.1[m]? with | some (.inl (ci, fs)) => (match lkF 4 25 ci with | some k => (match fs[k]? with | some v => G sp sc [] d mX4_keepsRather n 4 L (v :: r) h Q | none => False) | none => False) | _ => False)) ∧
  (∀ (n d : Nat) (L : List (Option iV)) (st : List iV) (h : iH) (Q : Option iV → iH → Prop), G sp sc [] d mX4_keepsRather (n + 1) 4 L st h Q = G sp sc [] d mX4_keepsRather n 5 L (.inl 1 :: st) h Q) ∧
  (∀ (n d : Nat) (L : List (Option iV)) (st : List iV) (h : iH) (Q : Option iV → iH → Prop), G sp sc [] d mX4_keepsRather (n + 1) 5 L st h Q = (match ld L 1 with | some (.inl x) => G sp sc [] d mX4_keepsRather n 6 L (.inl x :: st) h Q | _ => False)) ∧
  (∀ (n d : Nat) (L : List (Option iV)) (st : List iV) (h : iH) (Q : Option iV → iH → Prop), G sp sc [] d mX4_keepsRather (n + 1) 6 L st h Q = (match ld L 2 with | some (.inl x) => G sp sc [] d mX4_keepsRather n 7 L (.inl x :: st) h Q | _ => False)) ∧
  (∀ (n d : Nat) (L : List (Option iV)) (r : List iV) (m : Nat) (z0 : iV) (z1 : iV) (z2 : iV) (h : iH) (Q : Option iV → iH → Prop), G sp sc [] (d + 1) mX4_keepsRather (n + 1) 7 L (z2 :: z1 :: z0 :: .inr (.inr (m + 2)) :: r) h Q = (match h.1[m]? with | some (.inl (ci, _)) => (match lkC 4 42 ci with | some (y1, n1, kd) => (n1 = 3 ∧ (kd = 2 ∨ kd = 3 ∨ kd = 8) ∧ cs r ≤ 8) ∧ Call sp sc d y1 [.inr (.inr (m + 2)), z0, z1, z2] h (fun q h1 => GC sp sc [] (d + 1) mX4_keepsRather n 10 L q r h h1 Q) | none => False) | _ => False)) ∧
  (∀ (n d : Nat) (L : List (Option iV)) (r : List iV) (x : Int) (h : iH) (Q : Option iV → iH → Prop), G sp sc [] d mX4_keepsRather (n + 1) 10 L (.inl x :: r) h Q = (match st1 L 4 (.inl x) with | some L' => G sp sc [] d mX4_keepsRather n 12 L' r h Q | none => False)) ∧
  (∀ (n d : Nat) (L : List (Option iV)) (st : List iV) (h : iH) (Q : Option iV → iH → Prop), G sp sc [] d mX4_keepsRather (n + 1) 12 L st h Q = (match ld L 0 with | some (.inr (.inr (r + 1))) => G sp sc [] d mX4_keepsRather n 13 L (.inr (.inr (r + 1)) :: st) h Q | _ => False)) ∧
  (∀ (n d : Nat) (L : List (Option iV)) (r : List iV) (m : Nat) (h : iH) (Q : Option iV → iH → Prop), G sp sc [] d mX4_keepsRather (n + 1) 13 L (.inr (.inr (m + 2)) :: r) h Q = (match h.1[m]? with | some (.inl (ci, fs)) => (match lkF 4 25 ci with | some k => (match fs[k]? with | some v => G sp sc [] d mX4_keepsRather n 16 L (v :: r) h Q | none => False) | none => False) | _ => False)) ∧
  (∀ (n d : Nat) (L : List (Option iV)) (st : List iV) (h : iH) (Q : Option iV → iH → Prop), G sp sc [] d mX4_keepsRather (n + 1) 16 L st h Q = G sp sc [] d mX4_keepsRather n 17 L (.inl 1 :: st) h Q) ∧
  (∀ (n d : Nat) (L : List (Option iV)) (st : List iV) (h : iH) (Q : Option iV → iH → Prop), G sp sc [] d mX4_keepsRather (n + 1) 17 L st h Q = (match ld L 1 with | some (.inl x) => G sp sc [] d mX4_keepsRather n 18 L (.inl x :: st) h Q | _ => False)) ∧
  (∀ (n d : Nat) (L : List (Option iV)) (st : List iV) (h : iH) (Q : Option iV → iH → Prop), G sp sc [] d mX4_keepsRather (n + 1) 18 L st h Q = (match ld L 3 with | some (.inl x) => G sp sc [] d mX4_keepsRather n 19 L (.inl x :: st) h Q | _ => False)) ∧
  (∀ (n d : Nat) (L : List (Option iV)) (r : List iV) (m : Nat) (z0 : iV) (z1 : iV) (z2 : iV) (h : iH) (Q : Option iV → iH → Prop), G sp sc [] (d + 1) mX4_keepsRather (n + 1) 19 L (z2 :: z1 :: z0 :: .inr (.inr (m + 2)) :: r) h Q = (match h.1[m]? with | some (.inl (ci, _)) => (match lkC 4 42 ci with | some (y1, n1, kd) => (n1 = 3 ∧ (kd = 2 ∨ kd = 3 ∨ kd = 8) ∧ cs r ≤ 8) ∧ Call sp sc d y1 [.inr (.inr (m + 2)), z0, z1, z2] h (fun q h1 => GC sp sc [] (d + 1) mX4_keepsRather n 22 L q r h h1 Q) | none => False) | _ => False)) ∧
  (∀ (n d : Nat) (L : List (Option iV)) (r : List iV) (x : Int) (h : iH) (Q : Option iV → iH → Prop), G sp sc [] d mX4_keepsRather (n + 1) 22 L (.inl x :: r) h Q = (match st1 L 5 (.inl x) with | some L' => G sp sc [] d mX4_keepsRather n 24 L' r h Q | none => False)) ∧
  (∀ (n d : Nat) (L : List (Option iV)) (st : List iV) (h : iH) (Q : Option iV → iH → Prop), G sp sc [] d mX4_keepsRather (n + 1) 24 L st h Q = (match ld L 4 with | some (.inl x) => G sp sc [] d mX4_keepsRather n 26 L (.inl x :: st) h Q | _ => False)) ∧
  (∀ (n d : Nat) (L : List (Option iV)) (st : List iV) (h : iH) (Q : Option iV → iH → Prop), G sp sc [] d mX4_keepsRather (n + 1) 26 L st h Q = (match ld L 5 with | some (.inl x) => G sp sc [] d mX4_keepsRather n 28 L (.inl x :: st) h Q | _ => False)) ∧
  (∀ (n d : Nat) (L : List (Option iV)) (a : Int) (b : Int) (r : List iV) (h : iH) (Q : Option iV → iH → Prop), G sp sc [] d mX4_keepsRather (n + 1) 28 L (.inl b :: .inl a :: r) h Q = ((inI a = true ∧ inI b = true) ∧ (b < a → G sp sc [] d mX4_keepsRather n 43 L r h Q) ∧ (¬ (b < a) → G sp sc [] d mX4_keepsRather n 31 L r h Q))) ∧
  (∀ (n d : Nat) (L : List (Option iV)) (st : List iV) (h : iH) (Q : Option iV → iH → Prop), G sp sc [] d mX4_keepsRather (n + 1) 31 L st h Q = (match ld L 4 with | some (.inl x) => G sp sc [] d mX4_keepsRather n 33 L (.inl x :: st) h Q | _ => False)) ∧
  (∀ (n d : Nat) (L : List (Option iV)) (st : List iV) (h : iH) (Q : Option iV → iH → Prop), G sp sc [] d mX4_keepsRather (n + 1) 33 L st h Q = (match ld L 5 with | some (.inl x) => G sp sc [] d mX4_keepsRather n 35 L (.inl x :: st) h Q | _ => False)) ∧
  (∀ (n d : Nat) (L : List (Option iV)) (a : Int) (b : Int) (r : List iV) (h : iH) (Q : Option iV → iH → Prop), G sp sc [] d mX4_keepsRather (n + 1) 35 L (.inl b :: .inl a :: r) h Q = ((inI a = true ∧ inI b = true) ∧ (¬ a = b → G sp sc [] d mX4_keepsRather n 47 L r h Q) ∧ (¬ (¬ a = b) → G sp sc [] d mX4_keepsRather n 38 L r h Q))) ∧
  (∀ (n d : Nat) (L : List (Option iV)) (st : List iV) (h : iH) (Q : Option iV → iH → Prop), G sp sc [] d mX4_keepsRather (n + 1) 38 L st h Q = (match ld L 2 with | some (.inl x) => G sp sc [] d mX4_keepsRather n 39 L (.inl x :: st) h Q | _ => False)) ∧
  (∀ (n d : Nat) (L : List (Option iV)) (st : List iV) (h : iH) (Q : Option iV → iH → Prop), G sp sc [] d mX4_keepsRather (n + 1) 39 L st h Q = (match ld L 3 with | some (.inl x) => G sp sc [] d mX4_keepsRather n 40 L (.inl x :: st) h Q | _ => False)) ∧
  (∀ (n d : Nat) (L : List (Option iV)) (a : Int) (b : Int) (r : List iV) (h : iH) (Q : Option iV → iH → Prop), G sp sc [] d mX4_keepsRather (n + 1) 40 L (.inl b :: .inl a :: r) h Q = ((inI a = true ∧ inI b = true) ∧ (b ≤ a → G sp sc [] d mX4_keepsRather n 47 L r h Q) ∧ (¬ (b ≤ a) → G sp sc [] d mX4_keepsRather n 43 L r h Q))) ∧
  (∀ (n d : Nat) (L : List (Option iV)) (st : List iV) (h : iH) (Q : Option iV → iH → Prop), G sp sc [] d mX4_keepsRather (n + 1) 43 L st h Q = G sp sc [] d mX4_keepsRather n 44 L (.inl 1 :: st) h Q) ∧
  (∀ (n d : Nat) (L : List (Option iV)) (st : List iV) (h : iH) (Q : Option iV → iH → Prop), G sp sc [] d mX4_keepsRather (n + 1) 44 L st h Q = G sp sc [] d mX4_keepsRather n 48 L st h Q) ∧
  (∀ (n d : Nat) (L : List (Option iV)) (st : List iV) (h : iH) (Q : Option iV → iH → Prop), G sp sc [] d mX4_keepsRather (n + 1) 47 L st h Q = G sp sc [] d mX4_keepsRather n 48 L (.inl 0 :: st) h Q) ∧
  (∀ (n d : Nat) (L : List (Option iV)) (a : Int) (h : iH) (Q : Option iV → iH → Prop), G sp sc [] d mX4_keepsRather (n + 1) 48 L [.inl a] h Q = ((a = 0 ∨ a = 1) ∧ Q (some (.inl a)) h)) ∧
  lkC 4 42 8 = some (mX8_liking, 3, 2) ∧
  lkF 4 25 4 = some 0 := ⟨by intros; exact G_at (by decide +kernel : fetch mX4_keepsRather 0 = some (.aload_n 0)),
  by intros; exact G_own (by decide +kernel : fetch mX4_keepsRather 1 = some (.getfield 25)) (by decide +kernel),
  by intros; exact G_at (by decide +kernel : fetch mX4_keepsRather 4 = some (.iconst 1)),
  by intros; exact G_at (by decide +kernel : fetch mX4_keepsRather 5 = some (.iload_n 1)),
  by intros; exact G_at (by decide +kernel : fetch mX4_keepsRather 6 = some (.iload_n 2)),
  by intros; exact G_callV (by decide +kernel : fetch mX4_keepsRather 7 = some (.invokevirtual 42)) (by decide +kernel) (by decide +kernel) rfl,
  by intros; exact G_at (by decide +kernel : fetch mX4_keepsRather 10 = some (.istore 4)),
  by intros; exact G_at (by decide +kernel : fetch mX4_keepsRather 12 = some (.aload_n 0)),
  by intros; exact G_own (by decide +kernel : fetch mX4_keepsRather 13 = some (.getfield 25)) (by decide +kernel),
  by intros; exact G_at (by decide +kernel : fetch mX4_keepsRather 16 = some (.iconst 1)),
  by intros; exact G_at (by decide +kernel : fetch mX4_keepsRather 17 = some (.iload_n 1)),
  by intros; exact G_at (by decide +kernel : fetch mX4_keepsRather 18 = some (.iload_n 3)),
  by intros; exact G_callV (by decide +kernel : fetch mX4_keepsRather 19 = some (.invokevirtual 42)) (by decide +kernel) (by decide +kernel) rfl,
  by intros; exact G_at (by decide +kernel : fetch mX4_keepsRather 22 = some (.istore 5)),
  by intros; exact G_at (by decide +kernel : fetch mX4_keepsRather 24 = some (.iload 4)),
  by intros; exact G_at (by decide +kernel : fetch mX4_keepsRather 26 = some (.iload 5)),
  by intros; exact G_at (by decide +kernel : fetch mX4_keepsRather 28 = some (.if_icmp .gt 15)),
  by intros; exact G_at (by decide +kernel : fetch mX4_keepsRather 31 = some (.iload 4)),
  by intros; exact G_at (by decide +kernel : fetch mX4_keepsRather 33 = some (.iload 5)),
  by intros; exact G_at (by decide +kernel : fetch mX4_keepsRather 35 = some (.if_icmp .ne 12)),
  by intros; exact G_at (by decide +kernel : fetch mX4_keepsRather 38 = some (.iload_n 2)),
  by intros; exact G_at (by decide +kernel : fetch mX4_keepsRather 39 = some (.iload_n 3)),
  by intros; exact G_at (by decide +kernel : fetch mX4_keepsRather 40 = some (.if_icmp .ge 7)),
  by intros; exact G_at (by decide +kernel : fetch mX4_keepsRather 43 = some (.iconst 1)),
  by intros; exact G_at (by decide +kernel : fetch mX4_keepsRather 44 = some (.goto 4)),
  by intros; exact G_at (by decide +kernel : fetch mX4_keepsRather 47 = some (.iconst 0)),
  by intros; exact G_retz (by decide +kernel : fetch mX4_keepsRather 48 = some (.ireturn)) (by decide +kernel),
  by decide +kernel,
  by decide +kernel⟩
theorem gX4_survey : (∀ (n d : Nat) (L : List (Option iV)) (st : List iV) (h : iH) (Q : Option iV → iH → Prop), G sp sc [] d mX4_survey (n + 1) 0 L st h Q = (match ld L 0 with | some (.inr (.inr (r + 1))) => G sp sc [] d mX4_survey n 1 L (.inr (.inr (r + 1)) :: st) h Q | _ => False)) ∧
  (∀ (n d : Nat) (L : List (Option iV)) (r : List iV) (m : Nat) (h : iH) (Q : Option iV → iH → Prop), G sp sc [] (d + 1) mX4_survey (n + 1) 1 L (.inr (.inr (m + 2)) :: r) h Q = (match h.1[m]? with | some (.inl (ci, _)) => (match lkC 4 46 ci with | some (y1, n1, kd) => (n1 = 0 ∧ (kd = 2 ∨ kd = 3 ∨ kd = 8) ∧ cs r ≤ 8) ∧ Call sp sc d y1 [.inr (.inr (m + 2))] h (fun q h1 => GC sp sc [] (d + 1) mX4_survey n 4 L q r h h1 Q) | none => False) | _ => False)) ∧
  (∀ (n d : Nat) (L : List (Option iV)) (st : List iV) (h : iH) (Q : Option iV → iH → Prop), G sp sc [] d mX4_survey (n + 1) 4 L st h Q = (match ld L 0 with | some (.inr (.inr (r + 1))) => G sp sc [] d mX4_survey n 5 L (.inr (.inr (r + 1)) :: st) h Q | _ => False)) ∧
  (∀ (n d : Nat) (L : List (Option iV)) (st : List iV) (h : iH) (Q : Option iV → iH → Prop), G sp sc [] d mX4_survey (n + 1) 5 L st h Q = G sp sc [] d mX4_survey n 6 L (.inl 0 :: st) h Q) ∧
  (∀ (n d : Nat) (L : List (Option iV)) (r : List iV) (v : iV) (m : Nat) (h : iH) (Q : Option iV → iH → Prop), G sp sc [] d mX4_survey (n + 1) 6 L (v :: .inr (.inr (m + 2)) :: r) h Q = (match h.1[m]? with | some (.inl (ci, fs)) => (match lkF 4 60 ci with | some k => (fitV (tyT ci k) v = true ∧ k < fs.length ∧ pOK 4 false ci k = true) ∧ G sp sc [] d mX4_survey n 9 L r (h.1.set m (.inl (ci, fs.set k v)), h.2) Q | none => False) | _ => False)) ∧
  (∀ (n d : Nat) (L : List (Option iV)) (st : List iV) (h : iH) (Q : Option iV → iH → Prop), G sp sc [] d mX4_survey (n + 1) 9 L st h Q = (match ld L 0 with | some (.inr (.inr (r + 1))) => G sp sc [] d mX4_survey n 10 L (.inr (.inr (r + 1)) :: st) h Q | _ => False)) ∧
  (∀ (n d : Nat) (L : List (Option iV)) (st : List iV) (h : iH) (Q : Option iV → iH → Prop), G sp sc [] d mX4_survey (n + 1) 10 L st h Q = G sp sc [] d mX4_survey n 11 L (.inl (-1) :: st) h Q) ∧
  (∀ (n d : Nat) (L : List (Option iV)) (r : List iV) (v : iV) (m : Nat) (h : iH) (Q : Option iV → iH → Prop), G sp sc [] d mX4_survey (n + 1) 11 L (v :: .inr (.inr (m + 2)) :: r) h Q = (match h.1[m]? with | some (.inl (ci, fs)) => (match lkF 4 64 ci with | some k => (fitV (tyT ci k) v = true ∧ k < fs.length ∧ pOK 4 false ci k = true) ∧ G sp sc [] d mX4_survey n 14 L r (h.1.set m (.inl (ci, fs.set k v)), h.2) Q | none => False) | _ => False)) ∧
  (∀ (n d : Nat) (L : List (Option iV)) (st : List iV) (h : iH) (Q : Option iV → iH → Prop), G sp sc [] d mX4_survey (n + 1) 14 L st h Q = (match ld L 0 with | some (.inr (.inr (r + 1))) => G sp sc [] d mX4_survey n 15 L (.inr (.inr (r + 1)) :: st) h Q | _ => False)) ∧
  (∀ (n d : Nat) (L : List (Option iV)) (st : List iV) (h : iH) (Q : Option iV → iH → Prop), G sp sc [] d mX4_survey (n + 1) 15 L st h Q = G sp sc [] d mX4_survey n 16 L (.inl 0 :: st) h Q) ∧
  (∀ (n d : Nat) (L : List (Option iV)) (st : List iV) (h : iH) (Q : Option iV → iH → Prop), G sp sc [] d mX4_survey (n + 1) 16 L st h Q = G sp sc [] d mX4_survey n 17 L (.inl 0 :: st) h Q) ∧
  (∀ (n d : Nat) (L : List (Option iV)) (st : List iV) (h : iH) (Q : Option iV → iH → Prop), G sp sc [] d mX4_survey (n + 1) 17 L st h Q = (match ld L 0 with | some (.inr (.inr (r + 1))) => G sp sc [] d mX4_survey n 18 L (.inr (.inr (r + 1)) :: st) h Q | _ => False)) ∧
  (∀ (n d : Nat) (L : List (Option iV)) (r : List iV) (m : Nat) (h : iH) (Q : Option iV → iH → Prop), G sp sc [] d mX4_survey (n + 1) 18 L (.inr (.inr (m + 2)) :: r) h Q = (match h.1[m]? with | some (.inl (ci, fs)) => (match lkF 4 25 ci with | some k => (match fs[k]? with | some v => G sp sc [] d mX4_survey n 21 L (v :: r) h Q | none => False) | none => False) | _ => False)) ∧
  (∀ (n d : Nat) (L : List (Option iV)) (r : List iV) (m : Nat) (h : iH) (Q : Option iV → iH → Prop), G sp sc [] d mX4_survey (n + 1) 21 L (.inr (.inr (m + 2)) :: r) h Q = (match h.1[m]? with | some (.inl (ci, fs)) => (match lkF 4 33 ci with | some k => (match fs[k]? with | some v => G sp sc [] d mX4_survey n 24 L (v :: r) h Q | none => False) | none => False) | _ => False)) ∧
  (∀ (n d : Nat) (L : List (Option iV)) (st : List iV) (h : iH) (Q : Option iV → iH → Prop), G sp sc [] d mX4_survey (n + 1) 24 L st h Q = G sp sc [] d mX4_survey n 25 L (.inl 0 :: st) h Q) ∧
  (∀ (n d : Nat) (L : List (Option iV)) (r : List iV) (j : Int) (m : Nat) (h : iH) (Q : Option iV → iH → Prop), G sp sc [] d mX4_survey (n + 1) 25 L (.inl j :: .inr (.inr (m + 2)) :: r) h Q = (match h.1[m]? with | some (.inr (.inl (0, xs))) => inA j xs.length = true ∧ G sp sc [] d mX4_survey n 26 L (.inl (xs.getD j.toNat 0) :: r) h Q | _ => False)) ∧
  (∀ (n d : Nat) (L : List (Option iV)) (st : List iV) (h : iH) (Q : Option iV → iH → Prop), G sp sc [] d mX4_survey (n + 1) 26 L st h Q = (match ld L 0 with | some (.inr (.inr (r + 1))) => G sp sc [] d mX4_survey n 27 L (.inr (.inr (r + 1)) :: st) h Q | _ => False)) ∧
  (∀ (n d : Nat) (L : List (Option iV)) (r : List iV) (m : Nat) (h : iH) (Q : Option iV → iH → Prop), G sp sc [] d mX4_survey (n + 1) 27 L (.inr (.inr (m + 2)) :: r) h Q = (match h.1[m]? with | some (.inl (ci, fs)) => (match lkF 4 25 ci with | some k => (match fs[k]? with | some v => G sp sc [] d mX4_survey n 30 L (v :: r) h Q | none => False) | none => False) | _ => False)) ∧
  (∀ (n d : Nat) (L : List (Option iV)) (r : List iV) (m : Nat) (h : iH) (Q : Option iV → iH → Prop), G sp sc [] d mX4_survey (n + 1) 30 L (.inr (.inr (m + 2)) :: r) h Q = (match h.1[m]? with | some (.inl (ci, fs)) => (match lkF 4 33 ci with | some k => (match fs[k]? with | some v => G sp sc [] d mX4_survey n 33 L (v :: r) h Q | none => False) | none => False) | _ => False)) ∧
  (∀ (n d : Nat) (L : List (Option iV)) (st : List iV) (h : iH) (Q : Option iV → iH → Prop), G sp sc [] d mX4_survey (n + 1) 33 L st h Q = G sp sc [] d mX4_survey n 34 L (.inl 1 :: st) h Q) ∧
  (∀ (n d : Nat) (L : List (Option iV)) (r : List iV) (j : Int) (m : Nat) (h : iH) (Q : Option iV → iH → Prop), G sp sc [] d mX4_survey (n + 1) 34 L (.inl j :: .inr (.inr (m + 2)) :: r) h Q = (match h.1[m]? with | some (.inr (.inl (0, xs))) => inA j xs.length = true ∧ G sp sc [] d mX4_survey n 35 L (.inl (xs.getD j.toNat 0) :: r) h Q | _ => False)) ∧
  (∀ (n d : Nat) (L : List (Option iV)) (a : Int) (b : Int) (r : List iV) (h : iH) (Q : Option iV → iH → Prop), G sp sc [] d mX4_survey (n + 1) 35 L (.inl b :: .inl a :: r) h Q = G sp sc [] d mX4_survey n 36 L (.inl (a - b) :: r) h Q) ∧
  (∀ (n d : Nat) (L : List (Option iV)) (a : Int) (b : Int) (r : List iV) (h : iH) (Q : Option iV → iH → Prop), G sp sc [] (d + 1) mX4_survey (n + 1) 36 L (.inl b :: .inl a :: r) h Q = ((inI a = true ∧ inI b = true ∧ cs r ≤ 8) ∧ G sp sc [] (d + 1) mX4_survey n 39 L (.inl (if a < b then b else a) :: r) h Q)) ∧
  (∀ (n d : Nat) (L : List (Option iV)) (st : List iV) (h : iH) (Q : Option iV → iH → Prop), G sp sc [] d mX4_survey (n + 1) 39 L st h Q = G sp sc [] d mX4_survey n 40 L (.inl 0 :: st) h Q) ∧
  (∀ (n d : Nat) (L : List (Option iV)) (r : List iV) (z0 : iV) (z1 : iV) (z2 : iV) (z3 : iV) (h : iH) (Q : Option iV → iH → Prop), G sp sc [] (d + 1) mX4_survey (n + 1) 40 L (z3 :: z2 :: z1 :: z0 :: r) h Q = (cs r ≤ 8 ∧ Call sp sc d mX4_tryMan [z0, z1, z2, z3] h (fun q h1 => GC sp sc [] (d + 1) mX4_survey n 43 L q r h h1 Q))) ∧
  (∀ (n d : Nat) (L : List (Option iV))  (h : iH) (Q : Option iV → iH → Prop), G sp sc [] d mX4_survey (n + 1) 43 L [] h Q = Q none h) ∧
  lkC 4 46 4 = some (mX4_clear, 0, 2) ∧
  lkF 4 25 4 = some 0 ∧
  lkF 4 33 8 = some 0 ∧
  lkF 4 60 4 = some 5 ∧
  lkF 4 64 4 = some 6 ∧
  pOK 4 false 4 5 = true ∧
  pOK 4 false 4 6 = true := ⟨by intros; exact G_at (by decide +kernel : fetch mX4_survey 0 = some (.aload_n 0)),
  by intros; exact G_callV (by decide +kernel : fetch mX4_survey 1 = some (.invokevirtual 46)) (by decide +kernel) (by decide +kernel) rfl,
  by intros; exact G_at (by decide +kernel : fetch mX4_survey 4 = some (.aload_n 0)),
  by intros; exact G_at (by decide +kernel : fetch mX4_survey 5 = some (.iconst 0)),
  by intros; exact G_ownW (by decide +kernel : fetch mX4_survey 6 = some (.putfield 60)) (by decide +kernel) (by decide +kernel),
  by intros; exact G_at (by decide +kernel : fetch mX4_survey 9 = some (.aload_n 0)),
  by intros; exact G_at (by decide +kernel : fetch mX4_survey 10 = some (.iconst (-1))),
  by intros; exact G_ownW (by decide +kernel : fetch mX4_survey 11 = some (.putfield 64)) (by decide +kernel) (by decide +kernel),
  by intros; exact G_at (by decide +kernel : fetch mX4_survey 14 = some (.aload_n 0)),
  by intros; exact G_at (by decide +kernel : fetch mX4_survey 15 = some (.iconst 0)),
  by intros; exact G_at (by decide +kernel : fetch mX4_survey 16 = some (.iconst 0)),
  by intros; exact G_at (by decide +kernel : fetch mX4_survey 17 = some (.aload_n 0)),
  by intros; exact G_own (by decide +kernel : fetch mX4_survey 18 = some (.getfield 25)) (by decide +kernel),
  by intros; exact G_own (by decide +kernel : fetch mX4_survey 21 = some (.getfield 33)) (by decide +kernel),
  by intros; exact G_at (by decide +kernel : fetch mX4_survey 24 = some (.iconst 0)),
  by intros; exact G_at (by decide +kernel : fetch mX4_survey 25 = some (.iaload)),
  by intros; exact G_at (by decide +kernel : fetch mX4_survey 26 = some (.aload_n 0)),
  by intros; exact G_own (by decide +kernel : fetch mX4_survey 27 = some (.getfield 25)) (by decide +kernel),
  by intros; exact G_own (by decide +kernel : fetch mX4_survey 30 = some (.getfield 33)) (by decide +kernel),
  by intros; exact G_at (by decide +kernel : fetch mX4_survey 33 = some (.iconst 1)),
  by intros; exact G_at (by decide +kernel : fetch mX4_survey 34 = some (.iaload)),
  by intros; exact G_at (by decide +kernel : fetch mX4_survey 35 = some (.isub)),
  by intros; exact G_m1 (by decide +kernel : fetch mX4_survey 36 = some (.invokestatic 67)) (by decide +kernel),
  by intros; exact G_at (by decide +kernel : fetch mX4_survey 39 = some (.iconst 0)),
  by intros; exact G_callS (k := 4) (kd := 0) (by decide +kernel : fetch mX4_survey 40 = some (.invokestatic 73)) (by decide +kernel) (by decide +kernel) (by decide +kernel) rfl (by decide),
  by intros; exact G_retv (by decide +kernel : fetch mX4_survey 43 = some (.return_)) (by decide +kernel),
  by decide +kernel,
  by decide +kernel,
  by decide +kernel,
  by decide +kernel,
  by decide +kernel,
  by decide +kernel,
  by decide +kernel⟩
theorem gX4_tryMan : (∀ (n d : Nat) (L : List (Option iV)) (st : List iV) (h : iH) (Q : Option iV → iH → Prop), G sp sc [31] d mX4_tryMan (n + 1) 0 L st h Q = (match ld L 0 with | some (.inr (.inr (r + 1))) => G sp sc [31] d mX4_tryMan n 1 L (.inr (.inr (r + 1)) :: st) h Q | _ => False)) ∧
  (∀ (n d : Nat) (L : List (Option iV)) (r : List iV) (m : Nat) (h : iH) (Q : Option iV → iH → Prop), G sp sc [31] d mX4_tryMan (n + 1) 1 L (.inr (.inr (m + 2)) :: r) h Q = (match h.1[m]? with | some (.inl (ci, fs)) => (match lkF 4 25 ci with | some k => (match fs[k]? with | some v => G sp sc [31] d mX4_tryMan n 4 L (v :: r) h Q | none => False) | none => False) | _ => False)) ∧
  (∀ (n d : Nat) (L : List (Option iV)) (r : List iV) (x : Nat) (h : iH) (Q : Option iV → iH → Prop), G sp sc [31] d mX4_tryMan (n + 1) 4 L (.inr (.inr (x + 1)) :: r) h Q = (match st1 L 4 (.inr (.inr (x + 1))) with | some L' => G sp sc [31] d mX4_tryMan n 6 L' r h Q | none => False)) ∧
  (∀ (n d : Nat) (L : List (Option iV)) (st : List iV) (h : iH) (Q : Option iV → iH → Prop), G sp sc [31] d mX4_tryMan (n + 1) 6 L st h Q = (match ld L 1 with | some (.inl x) => G sp sc [31] d mX4_tryMan n 7 L (.inl x :: st) h Q | _ => False)) ∧
  (∀ (n d : Nat) (L : List (Option iV)) (st : List iV) (h : iH) (Q : Option iV → iH → Prop), G sp sc [31] d mX4_tryMan (n + 1) 7 L st h Q = (match ld L 4 with | some (.inr (.inr (r + 1))) => G sp sc [31] d mX4_tryMan n 9 L (.inr (.inr (r + 1)) :: st) h Q | _ => False)) ∧
  (∀ (n d : Nat) (L : List (Option iV)) (r : List iV) (m : Nat) (h : iH) (Q : Option iV → iH → Prop), G sp sc [31] d mX4_tryMan (n + 1) 9 L (.inr (.inr (m + 2)) :: r) h Q = (match h.1[m]? with | some (.inl (ci, fs)) => (match lkF 4 33 ci with | some k => (match fs[k]? with | some v => G sp sc [31] d mX4_tryMan n 12 L (v :: r) h Q | none => False) | none => False) | _ => False)) ∧
  (∀ (n d : Nat) (L : List (Option iV)) (st : List iV) (h : iH) (Q : Option iV → iH → Prop), G sp sc [31] d mX4_tryMan (n + 1) 12 L st h Q = G sp sc [31] d mX4_tryMan n 13 L (.inl 0 :: st) h Q) ∧
  (∀ (n d : Nat) (L : List (Option iV)) (r : List iV) (j : Int) (m : Nat) (h : iH) (Q : Option iV → iH → Prop), G sp sc [31] d mX4_tryMan (n + 1) 13 L (.inl j :: .inr (.inr (m + 2)) :: r) h Q = (match h.1[m]? with | some (.inr (.inl (0, xs))) => inA j xs.length = true ∧ G sp sc [31] d mX4_tryMan n 14 L (.inl (xs.getD j.toNat 0) :: r) h Q | _ => False)) ∧
  (∀ (n d : Nat) (L : List (Option iV)) (a : Int) (b : Int) (r : List iV) (h : iH) (Q : Option iV → iH → Prop), G sp sc [31] d mX4_tryMan (n + 1) 14 L (.inl b :: .inl a :: r) h Q = ((inI a = true ∧ inI b = true) ∧ (b ≤ a → G sp sc [31] d mX4_tryMan n 22 L r h Q) ∧ (¬ (b ≤ a) → G sp sc [31] d mX4_tryMan n 17 L r h Q))) ∧
  (∀ (n d : Nat) (L : List (Option iV)) (st : List iV) (h : iH) (Q : Option iV → iH → Prop), G sp sc [31] d mX4_tryMan (n + 1) 17 L st h Q = (match ld L 1 with | some (.inl x) => G sp sc [31] d mX4_tryMan n 18 L (.inl x :: st) h Q | _ => False)) ∧
  (∀ (n d : Nat) (L : List (Option iV)) (st : List iV) (h : iH) (Q : Option iV → iH → Prop), G sp sc [31] d mX4_tryMan (n + 1) 18 L st h Q = G sp sc [31] d mX4_tryMan n 19 L (.inl 5 :: st) h Q) ∧
  (∀ (n d : Nat) (L : List (Option iV)) (a : Int) (b : Int) (r : List iV) (h : iH) (Q : Option iV → iH → Prop), G sp sc [31] d mX4_tryMan (n + 1) 19 L (.inl b :: .inl a :: r) h Q = ((inI a = true ∧ inI b = true) ∧ (a < b → G sp sc [31] d mX4_tryMan n 28 L r h Q) ∧ (¬ (a < b) → G sp sc [31] d mX4_tryMan n 22 L r h Q))) ∧
  (∀ (n d : Nat) (L : List (Option iV)) (st : List iV) (h : iH) (Q : Option iV → iH → Prop), G sp sc [31] d mX4_tryMan (n + 1) 22 L st h Q = (match ld L 0 with | some (.inr (.inr (r + 1))) => G sp sc [31] d mX4_tryMan n 23 L (.inr (.inr (r + 1)) :: st) h Q | _ => False)) ∧
  (∀ (n d : Nat) (L : List (Option iV)) (st : List iV) (h : iH) (Q : Option iV → iH → Prop), G sp sc [31] d mX4_tryMan (n + 1) 23 L st h Q = (match ld L 3 with | some (.inl x) => G sp sc [31] d mX4_tryMan n 24 L (.inl x :: st) h Q | _ => False)) ∧
  (∀ (n d : Nat) (L : List (Option iV)) (r : List iV) (m : Nat) (z0 : iV) (h : iH) (Q : Option iV → iH → Prop), G sp sc [31] (d + 1) mX4_tryMan (n + 1) 24 L (z0 :: .inr (.inr (m + 2)) :: r) h Q = (match h.1[m]? with | some (.inl (ci, _)) => (match lkC 4 77 ci with | some (y1, n1, kd) => (n1 = 1 ∧ (kd = 2 ∨ kd = 3 ∨ kd = 8) ∧ cs r ≤ 8) ∧ Call sp sc d y1 [.inr (.inr (m + 2)), z0] h (fun q h1 => GC sp sc [31] (d + 1) mX4_tryMan n 27 L q r h h1 Q) | none => False) | _ => False)) ∧
  (∀ (n d : Nat) (L : List (Option iV))  (h : iH) (Q : Option iV → iH → Prop), G sp sc [31] d mX4_tryMan (n + 1) 27 L [] h Q = Q none h) ∧
  (∀ (n d : Nat) (L : List (Option iV)) (st : List iV) (h : iH) (Q : Option iV → iH → Prop), G sp sc [31] d mX4_tryMan (n + 1) 28 L st h Q = G sp sc [31] d mX4_tryMan n 29 L (.inl 0 :: st) h Q) ∧
  (∀ (n d : Nat) (L : List (Option iV)) (r : List iV) (x : Int) (h : iH) (Q : Option iV → iH → Prop), G sp sc [31] d mX4_tryMan (n + 1) 29 L (.inl x :: r) h Q = (match st1 L 5 (.inl x) with | some L' => Run sp sc d mX4_tryMan 31 L' r h Q | none => False)) ∧
  (∀ (n d : Nat) (L : List (Option iV)) (st : List iV) (h : iH) (Q : Option iV → iH → Prop), G sp sc [31] d mX4_tryMan (n + 1) 31 L st h Q = (match ld L 5 with | some (.inl x) => G sp sc [31] d mX4_tryMan n 33 L (.inl x :: st) h Q | _ => False)) ∧
  (∀ (n d : Nat) (L : List (Option iV)) (st : List iV) (h : iH) (Q : Option iV → iH → Prop), G sp sc [31] d mX4_tryMan (n + 1) 33 L st h Q = (match ld L 4 with | some (.inr (.inr (r + 1))) => G sp sc [31] d mX4_tryMan n 35 L (.inr (.inr (r + 1)) :: st) h Q | _ => False)) ∧
  (∀ (n d : Nat) (L : List (Option iV)) (r : List iV) (m : Nat) (h : iH) (Q : Option iV → iH → Prop), G sp sc [31] d mX4_tryMan (n + 1) 35 L (.inr (.inr (m + 2)) :: r) h Q = (match h.1[m]? with | some (.inl (ci, fs)) => (match lkF 4 33 ci with | some k => (match fs[k]? with | some v => G sp sc [31] d mX4_tryMan n 38 L (v :: r) h Q | none => False) | none => False) | _ => False)) ∧
  (∀ (n d : Nat) (L : List (Option iV)) (st : List iV) (h : iH) (Q : Option iV → iH → Prop), G sp sc [31] d mX4_tryMan (n + 1) 38 L st h Q = G sp sc [31] d mX4_tryMan n 39 L (.inl 1 :: st) h Q) ∧
  (∀ (n d : Nat) (L : List (Option iV)) (r : List iV) (j : Int) (m : Nat) (h : iH) (Q : Option iV → iH → Prop), G sp sc [31] d mX4_tryMan (n + 1) 39 L (.inl j :: .inr (.inr (m + 2)) :: r) h Q = (match h.1[m]? with | some (.inr (.inl (0, xs))) => inA j xs.length = true ∧ G sp sc [31] d mX4_tryMan n 40 L (.inl (xs.getD j.toNat 0) :: r) h Q | _ => False)) ∧
  (∀ (n d : Nat) (L : List (Option iV)) (a : Int) (b : Int) (r : List iV) (h : iH) (Q : Option iV → iH → Prop), G sp sc [31] d mX4_tryMan (n + 1) 40 L (.inl b :: .inl a :: r) h Q = ((inI a = true ∧ inI b = true) ∧ (b ≤ a → G sp sc [31] d mX4_tryMan n 83 L r h Q) ∧ (¬ (b ≤ a) → G sp sc [31] d mX4_tryMan n 43 L r h Q))) ∧
  (∀ (n d : Nat) (L : List (Option iV)) (st : List iV) (h : iH) (Q : Option iV → iH → Prop), G sp sc [31] d mX4_tryMan (n + 1) 43 L st h Q = (match ld L 0 with | some (.inr (.inr (r + 1))) => G sp sc [31] d mX4_tryMan n 44 L (.inr (.inr (r + 1)) :: st) h Q | _ => False)) ∧
  (∀ (n d : Nat) (L : List (Option iV)) (st : List iV) (h : iH) (Q : Option iV → iH → Prop), G sp sc [31] d mX4_tryMan (n + 1) 44 L st h Q = (match ld L 1 with | some (.inl x) => G sp sc [31] d mX4_tryMan n 45 L (.inl x :: st) h Q | _ => False)) ∧
  (∀ (n d : Nat) (L : List (Option iV)) (st : List iV) (h : iH) (Q : Option iV → iH → Prop), G sp sc [31] d mX4_tryMan (n + 1) 45 L st h Q = (match ld L 5 with | some (.inl x) => G sp sc [31] d mX4_tryMan n 47 L (.inl x :: st) h Q | _ => False)) ∧
  (∀ (n d : Nat) (L : List (Option iV)) (r : List iV) (m : Nat) (z0 : iV) (z1 : iV) (h : iH) (Q : Option iV → iH → Prop), G sp sc [31] (d + 1) mX4_tryMan (n + 1) 47 L (z1 :: z0 :: .inr (.inr (m + 2)) :: r) h Q = (match h.1[m]? with | some (.inl (ci, _)) => (match lkC 4 80 ci with | some (y1, n1, kd) => (n1 = 2 ∧ (kd = 2 ∨ kd = 3 ∨ kd = 8) ∧ cs r ≤ 8) ∧ Call sp sc d y1 [.inr (.inr (m + 2)), z0, z1] h (fun q h1 => GC sp sc [31] (d + 1) mX4_tryMan n 50 L q r h h1 Q) | none => False) | _ => False)) ∧
  (∀ (n d : Nat) (L : List (Option iV)) (a : Int) (r : List iV) (h : iH) (Q : Option iV → iH → Prop), G sp sc [31] d mX4_tryMan (n + 1) 50 L (.inl a :: r) h Q = (inI a = true ∧ (a = 0 → G sp sc [31] d mX4_tryMan n 77 L r h Q) ∧ (¬ (a = 0) → G sp sc [31] d mX4_tryMan n 53 L r h Q))) ∧
  (∀ (n d : Nat) (L : List (Option iV)) (st : List iV) (h : iH) (Q : Option iV → iH → Prop), G sp sc [31] d mX4_tryMan (n + 1) 53 L st h Q = (match ld L 0 with | some (.inr (.inr (r + 1))) => G sp sc [31] d mX4_tryMan n 54 L (.inr (.inr (r + 1)) :: st) h Q | _ => False)) ∧
  (∀ (n d : Nat) (L : List (Option iV)) (st : List iV) (h : iH) (Q : Option iV → iH → Prop), G sp sc [31] d mX4_tryMan (n + 1) 54 L st h Q = (match ld L 1 with | some (.inl x) => G sp sc [31] d mX4_tryMan n 55 L (.inl x :: st) h Q | _ => False)) ∧
  (∀ (n d : Nat) (L : List (Option iV)) (st : List iV) (h : iH) (Q : Option iV → iH → Prop), G sp sc [31] d mX4_tryMan (n + 1) 55 L st h Q = G sp sc [31] d mX4_tryMan n 56 L (.inl 1 :: st) h Q) ∧
  (∀ (n d : Nat) (L : List (Option iV)) (a : Int) (b : Int) (r : List iV) (h : iH) (Q : Option iV → iH → Prop), G sp sc [31] d mX4_tryMan (n + 1) 56 L (.inl b :: .inl a :: r) h Q = G sp sc [31] d mX4_tryMan n 57 L (.inl (a + b) :: r) h Q) ∧
  (∀ (n d : Nat) (L : List (Option iV)) (st : List iV) (h : iH) (Q : Option iV → iH → Prop), G sp sc [31] d mX4_tryMan (n + 1) 57 L st h Q = (match ld L 2 with | some (.inl x) => G sp sc [31] d mX4_tryMan n 58 L (.inl x :: st) h Q | _ => False)) ∧
  (∀ (n d : Nat) (L : List (Option iV)) (st : List iV) (h : iH) (Q : Option iV → iH → Prop), G sp sc [31] d mX4_tryMan (n + 1) 58 L st h Q = (match ld L 3 with | some (.inl x) => G sp sc [31] d mX4_tryMan n 59 L (.inl x :: st) h Q | _ => False)) ∧
  (∀ (n d : Nat) (L : List (Option iV)) (st : List iV) (h : iH) (Q : Option iV → iH → Prop), G sp sc [31] d mX4_tryMan (n + 1) 59 L st h Q = (match ld L 0 with | some (.inr (.inr (r + 1))) => G sp sc [31] d mX4_tryMan n 60 L (.inr (.inr (r + 1)) :: st) h Q | _ => False)) ∧
  (∀ (n d : Nat) (L : List (Option iV)) (st : List iV) (h : iH) (Q : Option iV → iH → Prop), G sp sc [31] d mX4_tryMan (n + 1) 60 L st h Q = (match ld L 1 with | some (.inl x) => G sp sc [31] d mX4_tryMan n 61 L (.inl x :: st) h Q | _ => False)) ∧
  (∀ (n d : Nat) (L : List (Option iV)) (st : List iV) (h : iH) (Q : Option iV → iH → Prop), G sp sc [31] d mX4_tryMan (n + 1) 61 L st h Q = (match ld L 5 with | some (.inl x) => G sp sc [31] d mX4_tryMan n 63 L (.inl x :: st) h Q | _ => False)) ∧
  (∀ (n d : Nat) (L : List (Option iV)) (r : List iV) (m : Nat) (z0 : iV) (z1 : iV) (h : iH) (Q : Option iV → iH → Prop), G sp sc [31] (d + 1) mX4_tryMan (n + 1) 63 L (z1 :: z0 :: .inr (.inr (m + 2)) :: r) h Q = (match h.1[m]? with | some (.inl (ci, _)) => (match lkC 4 84 ci with | some (y1, n1, kd) => (n1 = 2 ∧ (kd = 2 ∨ kd = 3 ∨ kd = 8) ∧ cs r ≤ 8) ∧ Call sp sc d y1 [.inr (.inr (m + 2)), z0, z1] h (fun q h1 => GC sp sc [31] (d + 1) mX4_tryMan n 66 L q r h h1 Q) | none => False) | _ => False)) ∧
  (∀ (n d : Nat) (L : List (Option iV)) (a : Int) (b : Int) (r : List iV) (h : iH) (Q : Option iV → iH → Prop), G sp sc [31] d mX4_tryMan (n + 1) 66 L (.inl b :: .inl a :: r) h Q = G sp sc [31] d mX4_tryMan n 67 L (.inl (a + b) :: r) h Q) ∧
  (∀ (n d : Nat) (L : List (Option iV)) (r : List iV) (z0 : iV) (z1 : iV) (z2 : iV) (z3 : iV) (h : iH) (Q : Option iV → iH → Prop), G sp sc [31] (d + 1) mX4_tryMan (n + 1) 67 L (z3 :: z2 :: z1 :: z0 :: r) h Q = (cs r ≤ 8 ∧ Call sp sc d mX4_tryMan [z0, z1, z2, z3] h (fun q h1 => GC sp sc [31] (d + 1) mX4_tryMan n 70 L q r h h1 Q))) ∧
  (∀ (n d : Nat) (L : List (Option iV)) (st : List iV) (h : iH) (Q : Option iV → iH → Prop), G sp sc [31] d mX4_tryMan (n + 1) 70 L st h Q = (match ld L 0 with | some (.inr (.inr (r + 1))) => G sp sc [31] d mX4_tryMan n 71 L (.inr (.inr (r + 1)) :: st) h Q | _ => False)) ∧
  (∀ (n d : Nat) (L : List (Option iV)) (st : List iV) (h : iH) (Q : Option iV → iH → Prop), G sp sc [31] d mX4_tryMan (n + 1) 71 L st h Q = (match ld L 1 with | some (.inl x) => G sp sc [31] d mX4_tryMan n 72 L (.inl x :: st) h Q | _ => False)) ∧
  (∀ (n d : Nat) (L : List (Option iV)) (st : List iV) (h : iH) (Q : Option iV → iH → Prop), G sp sc [31] d mX4_tryMan (n + 1) 72 L st h Q = (match ld L 5 with | some (.inl x) => G sp sc [31] d mX4_tryMan n 74 L (.inl x :: st) h Q | _ => False)) ∧
  (∀ (n d : Nat) (L : List (Option iV)) (r : List iV) (m : Nat) (z0 : iV) (z1 : iV) (h : iH) (Q : Option iV → iH → Prop), G sp sc [31] (d + 1) mX4_tryMan (n + 1) 74 L (z1 :: z0 :: .inr (.inr (m + 2)) :: r) h Q = (match h.1[m]? with | some (.inl (ci, _)) => (match lkC 4 57 ci with | some (y1, n1, kd) => (n1 = 2 ∧ (kd = 2 ∨ kd = 3 ∨ kd = 8) ∧ cs r ≤ 8) ∧ Call sp sc d y1 [.inr (.inr (m + 2)), z0, z1] h (fun q h1 => GC sp sc [31] (d + 1) mX4_tryMan n 77 L q r h h1 Q) | none => False) | _ => False)) ∧
  (∀ (n d : Nat) (L : List (Option iV)) (st : List iV) (h : iH) (Q : Option iV → iH → Prop), G sp sc [31] d mX4_tryMan (n + 1) 77 L st h Q = (match ld L 5 with | some (.inl x) => (match st1 L 5 (.inl (x + 1)) with | some L' => G sp sc [31] d mX4_tryMan n 80 L' st h Q | none => False) | _ => False)) ∧
  (∀ (n d : Nat) (L : List (Option iV)) (st : List iV) (h : iH) (Q : Option iV → iH → Prop), G sp sc [31] d mX4_tryMan (n + 1) 80 L st h Q = Run sp sc d mX4_tryMan 31 L st h Q) ∧
  (∀ (n d : Nat) (L : List (Option iV)) (st : List iV) (h : iH) (Q : Option iV → iH → Prop), G sp sc [31] d mX4_tryMan (n + 1) 83 L st h Q = (match ld L 2 with | some (.inl x) => G sp sc [31] d mX4_tryMan n 84 L (.inl x :: st) h Q | _ => False)) ∧
  (∀ (n d : Nat) (L : List (Option iV)) (a : Int) (r : List iV) (h : iH) (Q : Option iV → iH → Prop), G sp sc [31] d mX4_tryMan (n + 1) 84 L (.inl a :: r) h Q = (inI a = true ∧ (a ≤ 0 → G sp sc [31] d mX4_tryMan n 98 L r h Q) ∧ (¬ (a ≤ 0) → G sp sc [31] d mX4_tryMan n 87 L r h Q))) ∧
  (∀ (n d : Nat) (L : List (Option iV)) (st : List iV) (h : iH) (Q : Option iV → iH → Prop), G sp sc [31] d mX4_tryMan (n + 1) 87 L st h Q = (match ld L 0 with | some (.inr (.inr (r + 1))) => G sp sc [31] d mX4_tryMan n 88 L (.inr (.inr (r + 1)) :: st) h Q | _ => False)) ∧
  (∀ (n d : Nat) (L : List (Option iV)) (st : List iV) (h : iH) (Q : Option iV → iH → Prop), G sp sc [31] d mX4_tryMan (n + 1) 88 L st h Q = (match ld L 1 with | some (.inl x) => G sp sc [31] d mX4_tryMan n 89 L (.inl x :: st) h Q | _ => False)) ∧
  (∀ (n d : Nat) (L : List (Option iV)) (st : List iV) (h : iH) (Q : Option iV → iH → Prop), G sp sc [31] d mX4_tryMan (n + 1) 89 L st h Q = G sp sc [31] d mX4_tryMan n 90 L (.inl 1 :: st) h Q) ∧
  (∀ (n d : Nat) (L : List (Option iV)) (a : Int) (b : Int) (r : List iV) (h : iH) (Q : Option iV → iH → Prop), G sp sc [31] d mX4_tryMan (n + 1) 90 L (.inl b :: .inl a :: r) h Q = G sp sc [31] d mX4_tryMan n 91 L (.inl (a + b) :: r) h Q) ∧
  (∀ (n d : Nat) (L : List (Option iV)) (st : List iV) (h : iH) (Q : Option iV → iH → Prop), G sp sc [31] d mX4_tryMan (n + 1) 91 L st h Q = (match ld L 2 with | some (.inl x) => G sp sc [31] d mX4_tryMan n 92 L (.inl x :: st) h Q | _ => False)) ∧
  (∀ (n d : Nat) (L : List (Option iV)) (st : List iV) (h : iH) (Q : Option iV → iH → Prop), G sp sc [31] d mX4_tryMan (n + 1) 92 L st h Q = G sp sc [31] d mX4_tryMan n 93 L (.inl 1 :: st) h Q) ∧
  (∀ (n d : Nat) (L : List (Option iV)) (a : Int) (b : Int) (r : List iV) (h : iH) (Q : Option iV → iH → Prop), G sp sc [31] d mX4_tryMan (n + 1) 93 L (.inl b :: .inl a :: r) h Q = G sp sc [31] d mX4_tryMan n 94 L (.inl (a - b) :: r) h Q) ∧
  (∀ (n d : Nat) (L : List (Option iV)) (st : List iV) (h : iH) (Q : Option iV → iH → Prop), G sp sc [31] d mX4_tryMan (n + 1) 94 L st h Q = (match ld L 3 with | some (.inl x) => G sp sc [31] d mX4_tryMan n 95 L (.inl x :: st) h Q | _ => False)) ∧
  (∀ (n d : Nat) (L : List (Option iV)) (r : List iV) (z0 : iV) (z1 : iV) (z2 : iV) (z3 : iV) (h : iH) (Q : Option iV → iH → Prop), G sp sc [31] (d + 1) mX4_tryMan (n + 1) 95 L (z3 :: z2 :: z1 :: z0 :: r) h Q = (cs r ≤ 8 ∧ Call sp sc d mX4_tryMan [z0, z1, z2, z3] h (fun q h1 => GC sp sc [31] (d + 1) mX4_tryMan n 98 L q r h h1 Q))) ∧
  (∀ (n d : Nat) (L : List (Option iV))  (h : iH) (Q : Option iV → iH → Prop), G sp sc [31] d mX4_tryMan (n + 1) 98 L [] h Q = Q none h) ∧
  lkC 4 57 4 = some (mX4_part, 2, 2) ∧
  lkC 4 77 4 = some (mX4_noteMatching, 1, 2) ∧
  lkC 4 80 4 = some (mX4_joinFree, 2, 2) ∧
  lkC 4 84 4 = some (mX4_likingOfBoth, 2, 2) ∧
  lkF 4 25 4 = some 0 ∧
  lkF 4 33 8 = some 0 := ⟨by intros; exact G_at (by decide +kernel : fetch mX4_tryMan 0 = some (.aload_n 0)),
  by intros; exact G_own (by decide +kernel : fetch mX4_tryMan 1 = some (.getfield 25)) (by decide +kernel),
  by intros; exact G_at (by decide +kernel : fetch mX4_tryMan 4 = some (.astore 4)),
  by intros; exact G_at (by decide +kernel : fetch mX4_tryMan 6 = some (.iload_n 1)),
  by intros; exact G_at (by decide +kernel : fetch mX4_tryMan 7 = some (.aload 4)),
  by intros; exact G_own (by decide +kernel : fetch mX4_tryMan 9 = some (.getfield 33)) (by decide +kernel),
  by intros; exact G_at (by decide +kernel : fetch mX4_tryMan 12 = some (.iconst 0)),
  by intros; exact G_at (by decide +kernel : fetch mX4_tryMan 13 = some (.iaload)),
  by intros; exact G_at (by decide +kernel : fetch mX4_tryMan 14 = some (.if_icmp .ge 8)),
  by intros; exact G_at (by decide +kernel : fetch mX4_tryMan 17 = some (.iload_n 1)),
  by intros; exact G_at (by decide +kernel : fetch mX4_tryMan 18 = some (.iconst 5)),
  by intros; exact G_at (by decide +kernel : fetch mX4_tryMan 19 = some (.if_icmp .lt 9)),
  by intros; exact G_at (by decide +kernel : fetch mX4_tryMan 22 = some (.aload_n 0)),
  by intros; exact G_at (by decide +kernel : fetch mX4_tryMan 23 = some (.iload_n 3)),
  by intros; exact G_callV (by decide +kernel : fetch mX4_tryMan 24 = some (.invokevirtual 77)) (by decide +kernel) (by decide +kernel) rfl,
  by intros; exact G_retv (by decide +kernel : fetch mX4_tryMan 27 = some (.return_)) (by decide +kernel),
  by intros; exact G_at (by decide +kernel : fetch mX4_tryMan 28 = some (.iconst 0)),
  by intros; exact G_at (by decide +kernel : fetch mX4_tryMan 29 = some (.istore 5)),
  by intros; exact G_at (by decide +kernel : fetch mX4_tryMan 31 = some (.iload 5)),
  by intros; exact G_at (by decide +kernel : fetch mX4_tryMan 33 = some (.aload 4)),
  by intros; exact G_own (by decide +kernel : fetch mX4_tryMan 35 = some (.getfield 33)) (by decide +kernel),
  by intros; exact G_at (by decide +kernel : fetch mX4_tryMan 38 = some (.iconst 1)),
  by intros; exact G_at (by decide +kernel : fetch mX4_tryMan 39 = some (.iaload)),
  by intros; exact G_at (by decide +kernel : fetch mX4_tryMan 40 = some (.if_icmp .ge 43)),
  by intros; exact G_at (by decide +kernel : fetch mX4_tryMan 43 = some (.aload_n 0)),
  by intros; exact G_at (by decide +kernel : fetch mX4_tryMan 44 = some (.iload_n 1)),
  by intros; exact G_at (by decide +kernel : fetch mX4_tryMan 45 = some (.iload 5)),
  by intros; exact G_callV (by decide +kernel : fetch mX4_tryMan 47 = some (.invokevirtual 80)) (by decide +kernel) (by decide +kernel) rfl,
  by intros; exact G_at (by decide +kernel : fetch mX4_tryMan 50 = some (.ifCond .eq 27)),
  by intros; exact G_at (by decide +kernel : fetch mX4_tryMan 53 = some (.aload_n 0)),
  by intros; exact G_at (by decide +kernel : fetch mX4_tryMan 54 = some (.iload_n 1)),
  by intros; exact G_at (by decide +kernel : fetch mX4_tryMan 55 = some (.iconst 1)),
  by intros; exact G_at (by decide +kernel : fetch mX4_tryMan 56 = some (.iadd)),
  by intros; exact G_at (by decide +kernel : fetch mX4_tryMan 57 = some (.iload_n 2)),
  by intros; exact G_at (by decide +kernel : fetch mX4_tryMan 58 = some (.iload_n 3)),
  by intros; exact G_at (by decide +kernel : fetch mX4_tryMan 59 = some (.aload_n 0)),
  by intros; exact G_at (by decide +kernel : fetch mX4_tryMan 60 = some (.iload_n 1)),
  by intros; exact G_at (by decide +kernel : fetch mX4_tryMan 61 = some (.iload 5)),
  by intros; exact G_callV (by decide +kernel : fetch mX4_tryMan 63 = some (.invokevirtual 84)) (by decide +kernel) (by decide +kernel) rfl,
  by intros; exact G_at (by decide +kernel : fetch mX4_tryMan 66 = some (.iadd)),
  by intros; exact G_callS (k := 4) (kd := 0) (by decide +kernel : fetch mX4_tryMan 67 = some (.invokestatic 73)) (by decide +kernel) (by decide +kernel) (by decide +kernel) rfl (by decide),
  by intros; exact G_at (by decide +kernel : fetch mX4_tryMan 70 = some (.aload_n 0)),
  by intros; exact G_at (by decide +kernel : fetch mX4_tryMan 71 = some (.iload_n 1)),
  by intros; exact G_at (by decide +kernel : fetch mX4_tryMan 72 = some (.iload 5)),
  by intros; exact G_callV (by decide +kernel : fetch mX4_tryMan 74 = some (.invokevirtual 57)) (by decide +kernel) (by decide +kernel) rfl,
  by intros; exact G_at (by decide +kernel : fetch mX4_tryMan 77 = some (.iinc 5 1)),
  by intros; exact G_at (by decide +kernel : fetch mX4_tryMan 80 = some (.goto (-49))),
  by intros; exact G_at (by decide +kernel : fetch mX4_tryMan 83 = some (.iload_n 2)),
  by intros; exact G_at (by decide +kernel : fetch mX4_tryMan 84 = some (.ifCond .le 14)),
  by intros; exact G_at (by decide +kernel : fetch mX4_tryMan 87 = some (.aload_n 0)),
  by intros; exact G_at (by decide +kernel : fetch mX4_tryMan 88 = some (.iload_n 1)),
  by intros; exact G_at (by decide +kernel : fetch mX4_tryMan 89 = some (.iconst 1)),
  by intros; exact G_at (by decide +kernel : fetch mX4_tryMan 90 = some (.iadd)),
  by intros; exact G_at (by decide +kernel : fetch mX4_tryMan 91 = some (.iload_n 2)),
  by intros; exact G_at (by decide +kernel : fetch mX4_tryMan 92 = some (.iconst 1)),
  by intros; exact G_at (by decide +kernel : fetch mX4_tryMan 93 = some (.isub)),
  by intros; exact G_at (by decide +kernel : fetch mX4_tryMan 94 = some (.iload_n 3)),
  by intros; exact G_callS (k := 4) (kd := 0) (by decide +kernel : fetch mX4_tryMan 95 = some (.invokestatic 73)) (by decide +kernel) (by decide +kernel) (by decide +kernel) rfl (by decide),
  by intros; exact G_retv (by decide +kernel : fetch mX4_tryMan 98 = some (.return_)) (by decide +kernel),
  by decide +kernel,
  by decide +kernel,
  by decide +kernel,
  by decide +kernel,
  by decide +kernel,
  by decide +kernel⟩
theorem gX4_likingOfBoth : (∀ (n d : Nat) (L : List (Option iV)) (st : List iV) (h : iH) (Q : Option iV → iH → Prop), G sp sc [] d mX4_likingOfBoth (n + 1) 0 L st h Q = (match ld L 0 with | some (.inr (.inr (r + 1))) => G sp sc [] d mX4_likingOfBoth n 1 L (.inr (.inr (r + 1)) :: st) h Q | _ => False)) ∧
  (∀ (n d : Nat) (L : List (Option iV)) (r : List iV) (m : Nat) (h : iH) (Q : Option iV → iH → Prop), G sp sc [] d mX4_likingOfBoth (n + 1) 1 L (.inr (.inr (m + 2)) :: r) h Q = (match h.1[m]? with | some (.inl (ci, fs)) => (match lkF 4 25 ci with | some k => (match fs[k]? with | some v => G sp sc [] d mX4_likingOfBoth n 4 L (v :: r) h Q | none => False) | none => False) | _ => False)) ∧
  (∀ (n d : Nat) (L : List (Option iV)) (st : List iV) (h : iH) (Q : Option iV → iH → Prop), G sp sc [] d mX4_likingOfBoth (n + 1) 4 L st h Q = G sp sc [] d mX4_likingOfBoth n 5 L (.inl 0 :: st) h Q) ∧
  (∀ (n d : Nat) (L : List (Option iV)) (st : List iV) (h : iH) (Q : Option iV → iH → Prop), G sp sc [] d mX4_likingOfBoth (n + 1) 5 L st h Q = (match ld L 1 with | some (.inl x) => G sp sc [] d mX4_likingOfBoth n 6 L (.inl x :: st) h Q | _ => False)) ∧
  (∀ (n d : Nat) (L : List (Option iV)) (st : List iV) (h : iH) (Q : Option iV → iH → Prop), G sp sc [] d mX4_likingOfBoth (n + 1) 6 L st h Q = (match ld L 2 with | some (.inl x) => G sp sc [] d mX4_likingOfBoth n 7 L (.inl x :: st) h Q | _ => False)) ∧
  (∀ (n d : Nat) (L : List (Option iV)) (r : List iV) (m : Nat) (z0 : iV) (z1 : iV) (z2 : iV) (h : iH) (Q : Option iV → iH → Prop), G sp sc [] (d + 1) mX4_likingOfBoth (n + 1) 7 L (z2 :: z1 :: z0 :: .inr (.inr (m + 2)) :: r) h Q = (match h.1[m]? with | some (.inl (ci, _)) => (match lkC 4 42 ci with | some (y1, n1, kd) => (n1 = 3 ∧ (kd = 2 ∨ kd = 3 ∨ kd = 8) ∧ cs r ≤ 8) ∧ Call sp sc d y1 [.inr (.inr (m + 2)), z0, z1, z2] h (fun q h1 => GC sp sc [] (d + 1) mX4_likingOfBoth n 10 L q r h h1 Q) | none => False) | _ => False)) ∧
  (∀ (n d : Nat) (L : List (Option iV)) (st : List iV) (h : iH) (Q : Option iV → iH → Prop), G sp sc [] d mX4_likingOfBoth (n + 1) 10 L st h Q = (match ld L 0 with | some (.inr (.inr (r + 1))) => G sp sc [] d mX4_likingOfBoth n 11 L (.inr (.inr (r + 1)) :: st) h Q | _ => False)) ∧
  (∀ (n d : Nat) (L : List (Option iV)) (r : List iV) (m : Nat) (h : iH) (Q : Option iV → iH → Prop), G sp sc [] d mX4_likingOfBoth (n + 1) 11 L (.inr (.inr (m + 2)) :: r) h Q = (match h.1[m]? with | some (.inl (ci, fs)) => (match lkF 4 25 ci with | some k => (match fs[k]? with | some v => G sp sc [] d mX4_likingOfBoth n 14 L (v :: r) h Q | none => False) | none => False) | _ => False)) ∧
  (∀ (n d : Nat) (L : List (Option iV)) (st : List iV) (h : iH) (Q : Option iV → iH → Prop), G sp sc [] d mX4_likingOfBoth (n + 1) 14 L st h Q = G sp sc [] d mX4_likingOfBoth n 15 L (.inl 1 :: st) h Q) ∧
  (∀ (n d : Nat) (L : List (Option iV)) (st : List iV) (h : iH) (Q : Option iV → iH → Prop), G sp sc [] d mX4_likingOfBoth (n + 1) 15 L st h Q = (match ld L 2 with | some (.inl x) => G sp sc [] d mX4_likingOfBoth n 16 L (.inl x :: st) h Q | _ => False)) ∧
  (∀ (n d : Nat) (L : List (Option iV)) (st : List iV) (h : iH) (Q : Option iV → iH → Prop), G sp sc [] d mX4_likingOfBoth (n + 1) 16 L st h Q = (match ld L 1 with | some (.inl x) => G sp sc [] d mX4_likingOfBoth n 17 L (.inl x :: st) h Q | _ => False)) ∧
  (∀ (n d : Nat) (L : List (Option iV)) (r : List iV) (m : Nat) (z0 : iV) (z1 : iV) (z2 : iV) (h : iH) (Q : Option iV → iH → Prop), G sp sc [] (d + 1) mX4_likingOfBoth (n + 1) 17 L (z2 :: z1 :: z0 :: .inr (.inr (m + 2)) :: r) h Q = (match h.1[m]? with | some (.inl (ci, _)) => (match lkC 4 42 ci with | some (y1, n1, kd) => (n1 = 3 ∧ (kd = 2 ∨ kd = 3 ∨ kd = 8) ∧ cs r ≤ 8) ∧ Call sp sc d y1 [.inr (.inr (m + 2)), z0, z1, z2] h (fun q h1 => GC sp sc [] (d + 1) mX4_likingOfBoth n 20 L q r h h1 Q) | none => False) | _ => False)) ∧
  (∀ (n d : Nat) (L : List (Option iV)) (a : Int) (b : Int) (r : List iV) (h : iH) (Q : Option iV → iH → Prop), G sp sc [] d mX4_likingOfBoth (n + 1) 20 L (.inl b :: .inl a :: r) h Q = G sp sc [] d mX4_likingOfBoth n 21 L (.inl (a + b) :: r) h Q) ∧
  (∀ (n d : Nat) (L : List (Option iV)) (a : Int) (h : iH) (Q : Option iV → iH → Prop), G sp sc [] d mX4_likingOfBoth (n + 1) 21 L [.inl a] h Q = Q (some (.inl a)) h) ∧
  lkC 4 42 8 = some (mX8_liking, 3, 2) ∧
  lkF 4 25 4 = some 0 := ⟨by intros; exact G_at (by decide +kernel : fetch mX4_likingOfBoth 0 = some (.aload_n 0)),
  by intros; exact G_own (by decide +kernel : fetch mX4_likingOfBoth 1 = some (.getfield 25)) (by decide +kernel),
  by intros; exact G_at (by decide +kernel : fetch mX4_likingOfBoth 4 = some (.iconst 0)),
  by intros; exact G_at (by decide +kernel : fetch mX4_likingOfBoth 5 = some (.iload_n 1)),
  by intros; exact G_at (by decide +kernel : fetch mX4_likingOfBoth 6 = some (.iload_n 2)),
  by intros; exact G_callV (by decide +kernel : fetch mX4_likingOfBoth 7 = some (.invokevirtual 42)) (by decide +kernel) (by decide +kernel) rfl,
  by intros; exact G_at (by decide +kernel : fetch mX4_likingOfBoth 10 = some (.aload_n 0)),
  by intros; exact G_own (by decide +kernel : fetch mX4_likingOfBoth 11 = some (.getfield 25)) (by decide +kernel),
  by intros; exact G_at (by decide +kernel : fetch mX4_likingOfBoth 14 = some (.iconst 1)),
  by intros; exact G_at (by decide +kernel : fetch mX4_likingOfBoth 15 = some (.iload_n 2)),
  by intros; exact G_at (by decide +kernel : fetch mX4_likingOfBoth 16 = some (.iload_n 1)),
  by intros; exact G_callV (by decide +kernel : fetch mX4_likingOfBoth 17 = some (.invokevirtual 42)) (by decide +kernel) (by decide +kernel) rfl,
  by intros; exact G_at (by decide +kernel : fetch mX4_likingOfBoth 20 = some (.iadd)),
  by intros; exact G_reti (by decide +kernel : fetch mX4_likingOfBoth 21 = some (.ireturn)) (by decide +kernel),
  by decide +kernel,
  by decide +kernel⟩
theorem gX4_noteMatching : (∀ (n d : Nat) (L : List (Option iV)) (st : List iV) (h : iH) (Q : Option iV → iH → Prop), G sp sc [] d mX4_noteMatching (n + 1) 0 L st h Q = (match ld L 0 with | some (.inr (.inr (r + 1))) => G sp sc [] d mX4_noteMatching n 1 L (.inr (.inr (r + 1)) :: st) h Q | _ => False)) ∧
  (∀ (n d : Nat) (L : List (Option iV)) (r : List iV) (m : Nat) (h : iH) (Q : Option iV → iH → Prop), G sp sc [] (d + 1) mX4_noteMatching (n + 1) 1 L (.inr (.inr (m + 2)) :: r) h Q = (match h.1[m]? with | some (.inl (ci, _)) => (match lkC 4 87 ci with | some (y1, n1, kd) => (n1 = 0 ∧ (kd = 2 ∨ kd = 3 ∨ kd = 8) ∧ cs r ≤ 8) ∧ Call sp sc d y1 [.inr (.inr (m + 2))] h (fun q h1 => GC sp sc [] (d + 1) mX4_noteMatching n 4 L q r h h1 Q) | none => False) | _ => False)) ∧
  (∀ (n d : Nat) (L : List (Option iV)) (st : List iV) (h : iH) (Q : Option iV → iH → Prop), G sp sc [] d mX4_noteMatching (n + 1) 4 L st h Q = ((-128 ≤ ((-4) : Int) ∧ ((-4) : Int) < 128) ∧ G sp sc [] d mX4_noteMatching n 6 L (.inl (-4) :: st) h Q)) ∧
  (∀ (n d : Nat) (L : List (Option iV)) (a : Int) (b : Int) (r : List iV) (h : iH) (Q : Option iV → iH → Prop), G sp sc [] d mX4_noteMatching (n + 1) 6 L (.inl b :: .inl a :: r) h Q = ((inI a = true ∧ inI b = true) ∧ (¬ a = b → G sp sc [] d mX4_noteMatching n 19 L r h Q) ∧ (¬ (¬ a = b) → G sp sc [] d mX4_noteMatching n 9 L r h Q))) ∧
  (∀ (n d : Nat) (L : List (Option iV)) (st : List iV) (h : iH) (Q : Option iV → iH → Prop), G sp sc [] d mX4_noteMatching (n + 1) 9 L st h Q = (match ld L 0 with | some (.inr (.inr (r + 1))) => G sp sc [] d mX4_noteMatching n 10 L (.inr (.inr (r + 1)) :: st) h Q | _ => False)) ∧
  (∀ (n d : Nat) (L : List (Option iV)) (a : Int) (r : List iV) (h : iH) (Q : Option iV → iH → Prop), G sp sc [] d mX4_noteMatching (n + 1) 10 L (.inl a :: r) h Q = G sp sc [] d mX4_noteMatching n 11 L (.inl a :: .inl a :: r) h Q) ∧
  (∀ (n d : Nat) (L : List (Option iV)) (a : Nat) (r : List iV) (h : iH) (Q : Option iV → iH → Prop), G sp sc [] d mX4_noteMatching (n + 1) 10 L (.inr (.inr a) :: r) h Q = G sp sc [] d mX4_noteMatching n 11 L (.inr (.inr a) :: .inr (.inr a) :: r) h Q) ∧
  (∀ (n d : Nat) (L : List (Option iV)) (r : List iV) (m : Nat) (h : iH) (Q : Option iV → iH → Prop), G sp sc [] d mX4_noteMatching (n + 1) 11 L (.inr (.inr (m + 2)) :: r) h Q = (match h.1[m]? with | some (.inl (ci, fs)) => (match lkF 4 60 ci with | some k => (match fs[k]? with | some v => G sp sc [] d mX4_noteMatching n 14 L (v :: r) h Q | none => False) | none => False) | _ => False)) ∧
  (∀ (n d : Nat) (L : List (Option iV)) (st : List iV) (h : iH) (Q : Option iV → iH → Prop), G sp sc [] d mX4_noteMatching (n + 1) 14 L st h Q = G sp sc [] d mX4_noteMatching n 15 L (.inl 1 :: st) h Q) ∧
  (∀ (n d : Nat) (L : List (Option iV)) (a : Int) (b : Int) (r : List iV) (h : iH) (Q : Option iV → iH → Prop), G sp sc [] d mX4_noteMatching (n + 1) 15 L (.inl b :: .inl a :: r) h Q = G sp sc [] d mX4_noteMatching n 16 L (.inl (a + b) :: r) h Q) ∧
  (∀ (n d : Nat) (L : List (Option iV)) (r : List iV) (v : iV) (m : Nat) (h : iH) (Q : Option iV → iH → Prop), G sp sc [] d mX4_noteMatching (n + 1) 16 L (v :: .inr (.inr (m + 2)) :: r) h Q = (match h.1[m]? with | some (.inl (ci, fs)) => (match lkF 4 60 ci with | some k => (fitV (tyT ci k) v = true ∧ k < fs.length ∧ pOK 4 false ci k = true) ∧ G sp sc [] d mX4_noteMatching n 19 L r (h.1.set m (.inl (ci, fs.set k v)), h.2) Q | none => False) | _ => False)) ∧
  (∀ (n d : Nat) (L : List (Option iV)) (st : List iV) (h : iH) (Q : Option iV → iH → Prop), G sp sc [] d mX4_noteMatching (n + 1) 19 L st h Q = (match ld L 1 with | some (.inl x) => G sp sc [] d mX4_noteMatching n 20 L (.inl x :: st) h Q | _ => False)) ∧
  (∀ (n d : Nat) (L : List (Option iV)) (st : List iV) (h : iH) (Q : Option iV → iH → Prop), G sp sc [] d mX4_noteMatching (n + 1) 20 L st h Q = (match ld L 0 with | some (.inr (.inr (r + 1))) => G sp sc [] d mX4_noteMatching n 21 L (.inr (.inr (r + 1)) :: st) h Q | _ => False)) ∧
  (∀ (n d : Nat) (L : List (Option iV)) (r : List iV) (m : Nat) (h : iH) (Q : Option iV → iH → Prop), G sp sc [] d mX4_noteMatching (n + 1) 21 L (.inr (.inr (m + 2)) :: r) h Q = (match h.1[m]? with | some (.inl (ci, fs)) => (match lkF 4 64 ci with | some k => (match fs[k]? with | some v => G sp sc [] d mX4_noteMatching n 24 L (v :: r) h Q | none => False) | none => False) | _ => False)) ∧
  (∀ (n d : Nat) (L : List (Option iV)) (a : Int) (b : Int) (r : List iV) (h : iH) (Q : Option iV → iH → Prop), G sp sc [] d mX4_noteMatching (n + 1) 24 L (.inl b :: .inl a :: r) h Q = ((inI a = true ∧ inI b = true) ∧ (a ≤ b → G sp sc [] d mX4_noteMatching n 46 L r h Q) ∧ (¬ (a ≤ b) → G sp sc [] d mX4_noteMatching n 27 L r h Q))) ∧
  (∀ (n d : Nat) (L : List (Option iV)) (st : List iV) (h : iH) (Q : Option iV → iH → Prop), G sp sc [] d mX4_noteMatching (n + 1) 27 L st h Q = (match ld L 0 with | some (.inr (.inr (r + 1))) => G sp sc [] d mX4_noteMatching n 28 L (.inr (.inr (r + 1)) :: st) h Q | _ => False)) ∧
  (∀ (n d : Nat) (L : List (Option iV)) (st : List iV) (h : iH) (Q : Option iV → iH → Prop), G sp sc [] d mX4_noteMatching (n + 1) 28 L st h Q = (match ld L 1 with | some (.inl x) => G sp sc [] d mX4_noteMatching n 29 L (.inl x :: st) h Q | _ => False)) ∧
  (∀ (n d : Nat) (L : List (Option iV)) (r : List iV) (v : iV) (m : Nat) (h : iH) (Q : Option iV → iH → Prop), G sp sc [] d mX4_noteMatching (n + 1) 29 L (v :: .inr (.inr (m + 2)) :: r) h Q = (match h.1[m]? with | some (.inl (ci, fs)) => (match lkF 4 64 ci with | some k => (fitV (tyT ci k) v = true ∧ k < fs.length ∧ pOK 4 false ci k = true) ∧ G sp sc [] d mX4_noteMatching n 32 L r (h.1.set m (.inl (ci, fs.set k v)), h.2) Q | none => False) | _ => False)) ∧
  (∀ (n d : Nat) (L : List (Option iV)) (st : List iV) (h : iH) (Q : Option iV → iH → Prop), G sp sc [] d mX4_noteMatching (n + 1) 32 L st h Q = (match ld L 0 with | some (.inr (.inr (r + 1))) => G sp sc [] d mX4_noteMatching n 33 L (.inr (.inr (r + 1)) :: st) h Q | _ => False)) ∧
  (∀ (n d : Nat) (L : List (Option iV)) (r : List iV) (m : Nat) (h : iH) (Q : Option iV → iH → Prop), G sp sc [] d mX4_noteMatching (n + 1) 33 L (.inr (.inr (m + 2)) :: r) h Q = (match h.1[m]? with | some (.inl (ci, fs)) => (match lkF 4 9 ci with | some k => (match fs[k]? with | some v => G sp sc [] d mX4_noteMatching n 36 L (v :: r) h Q | none => False) | none => False) | _ => False)) ∧
  (∀ (n d : Nat) (L : List (Option iV)) (st : List iV) (h : iH) (Q : Option iV → iH → Prop), G sp sc [] d mX4_noteMatching (n + 1) 36 L st h Q = G sp sc [] d mX4_noteMatching n 37 L (.inl 0 :: st) h Q) ∧
  (∀ (n d : Nat) (L : List (Option iV)) (st : List iV) (h : iH) (Q : Option iV → iH → Prop), G sp sc [] d mX4_noteMatching (n + 1) 37 L st h Q = (match ld L 0 with | some (.inr (.inr (r + 1))) => G sp sc [] d mX4_noteMatching n 38 L (.inr (.inr (r + 1)) :: st) h Q | _ => False)) ∧
  (∀ (n d : Nat) (L : List (Option iV)) (r : List iV) (m : Nat) (h : iH) (Q : Option iV → iH → Prop), G sp sc [] d mX4_noteMatching (n + 1) 38 L (.inr (.inr (m + 2)) :: r) h Q = (match h.1[m]? with | some (.inl (ci, fs)) => (match lkF 4 18 ci with | some k => (match fs[k]? with | some v => G sp sc [] d mX4_noteMatching n 41 L (v :: r) h Q | none => False) | none => False) | _ => False)) ∧
  (∀ (n d : Nat) (L : List (Option iV)) (st : List iV) (h : iH) (Q : Option iV → iH → Prop), G sp sc [] d mX4_noteMatching (n + 1) 41 L st h Q = G sp sc [] d mX4_noteMatching n 42 L (.inl 0 :: st) h Q) ∧
  (∀ (n d : Nat) (L : List (Option iV)) (st : List iV) (h : iH) (Q : Option iV → iH → Prop), G sp sc [] d mX4_noteMatching (n + 1) 42 L st h Q = G sp sc [] d mX4_noteMatching n 43 L (.inl 5 :: st) h Q) ∧
  (∀ (n d : Nat) (L : List (Option iV))  (h : iH) (Q : Option iV → iH → Prop), G sp sc [] d mX4_noteMatching (n + 1) 46 L [] h Q = Q none h) ∧
  lkC 4 87 4 = some (mX4_firstLeaving, 0, 2) ∧
  lkF 4 18 4 = some 3 ∧
  lkF 4 60 4 = some 5 ∧
  lkF 4 64 4 = some 6 ∧
  lkF 4 9 4 = some 1 ∧
  pOK 4 false 4 5 = true ∧
  pOK 4 false 4 6 = true := ⟨by intros; exact G_at (by decide +kernel : fetch mX4_noteMatching 0 = some (.aload_n 0)),
  by intros; exact G_callV (by decide +kernel : fetch mX4_noteMatching 1 = some (.invokevirtual 87)) (by decide +kernel) (by decide +kernel) rfl,
  by intros; exact G_at (by decide +kernel : fetch mX4_noteMatching 4 = some (.bipush (-4))),
  by intros; exact G_at (by decide +kernel : fetch mX4_noteMatching 6 = some (.if_icmp .ne 13)),
  by intros; exact G_at (by decide +kernel : fetch mX4_noteMatching 9 = some (.aload_n 0)),
  by intros; exact G_at (by decide +kernel : fetch mX4_noteMatching 10 = some (.dup)),
  by intros; exact G_at (by decide +kernel : fetch mX4_noteMatching 10 = some (.dup)),
  by intros; exact G_own (by decide +kernel : fetch mX4_noteMatching 11 = some (.getfield 60)) (by decide +kernel),
  by intros; exact G_at (by decide +kernel : fetch mX4_noteMatching 14 = some (.iconst 1)),
  by intros; exact G_at (by decide +kernel : fetch mX4_noteMatching 15 = some (.iadd)),
  by intros; exact G_ownW (by decide +kernel : fetch mX4_noteMatching 16 = some (.putfield 60)) (by decide +kernel) (by decide +kernel),
  by intros; exact G_at (by decide +kernel : fetch mX4_noteMatching 19 = some (.iload_n 1)),
  by intros; exact G_at (by decide +kernel : fetch mX4_noteMatching 20 = some (.aload_n 0)),
  by intros; exact G_own (by decide +kernel : fetch mX4_noteMatching 21 = some (.getfield 64)) (by decide +kernel),
  by intros; exact G_at (by decide +kernel : fetch mX4_noteMatching 24 = some (.if_icmp .le 22)),
  by intros; exact G_at (by decide +kernel : fetch mX4_noteMatching 27 = some (.aload_n 0)),
  by intros; exact G_at (by decide +kernel : fetch mX4_noteMatching 28 = some (.iload_n 1)),
  by intros; exact G_ownW (by decide +kernel : fetch mX4_noteMatching 29 = some (.putfield 64)) (by decide +kernel) (by decide +kernel),
  by intros; exact G_at (by decide +kernel : fetch mX4_noteMatching 32 = some (.aload_n 0)),
  by intros; exact G_own (by decide +kernel : fetch mX4_noteMatching 33 = some (.getfield 9)) (by decide +kernel),
  by intros; exact G_at (by decide +kernel : fetch mX4_noteMatching 36 = some (.iconst 0)),
  by intros; exact G_at (by decide +kernel : fetch mX4_noteMatching 37 = some (.aload_n 0)),
  by intros; exact G_own (by decide +kernel : fetch mX4_noteMatching 38 = some (.getfield 18)) (by decide +kernel),
  by intros; exact G_at (by decide +kernel : fetch mX4_noteMatching 41 = some (.iconst 0)),
  by intros; exact G_at (by decide +kernel : fetch mX4_noteMatching 42 = some (.iconst 5)),
  by intros; exact G_retv (by decide +kernel : fetch mX4_noteMatching 46 = some (.return_)) (by decide +kernel),
  by decide +kernel,
  by decide +kernel,
  by decide +kernel,
  by decide +kernel,
  by decide +kernel,
  by decide +kernel,
  by decide +kernel⟩
end GG
