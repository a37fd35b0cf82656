section GG
variable {sp : Nat → List iV → iH → Option (Option iV × iH)} {sc : List Int}
theorem gX0_init : (∀ (n d : Nat) (L : List (Option iV)) (st : List iV) (h : iH) (Q : Option iV → iH → Prop), G sp sc [] d mX0_init (n + 1) 0 L st h Q = (match ld L 0 with | some (.inr (.inr (r + 1))) => G sp sc [] d mX0_init n 1 L (.inr (.inr (r + 1)) :: st) h Q | _ => False)) ∧
  (∀ (n d : Nat) (L : List (Option iV)) (st : List iV) (h : iH) (Q : Option iV → iH → Prop), G sp sc [] d mX0_init (n + 1) 1 L st h Q = (match ld L 1 with | some (.inl x) => G sp sc [] d mX0_init n 2 L (.inl x :: st) h Q | _ => False)) ∧
  (∀ (n d : Nat) (L : List (Option iV)) (r : List iV) (m : Nat) (z0 : iV) (h : iH) (Q : Option iV → iH → Prop), G sp sc [] (d + 1) mX0_init (n + 1) 2 L (z0 :: .inr (.inr (m + 2)) :: r) h Q = (match h.1[m]? with | some (.inl (ci, _)) => cs r ≤ 8 ∧ Call sp sc d mX6_init [.inr (.inr (m + 2)), z0] h (fun q h1 => GC sp sc [] (d + 1) mX0_init n 5 L q r h h1 Q) | _ => False)) ∧
  (∀ (n d : Nat) (L : List (Option iV))  (h : iH) (Q : Option iV → iH → Prop), G sp sc [] d mX0_init (n + 1) 5 L [] h Q = Q none h) := ⟨by intros; exact G_at (by decide +kernel : fetch mX0_init 0 = some (.aload_n 0)),
  by intros; exact G_at (by decide +kernel : fetch mX0_init 1 = some (.iload_n 1)),
  by intros; exact G_callP (k := 1) (kd := 4) (by decide +kernel : fetch mX0_init 2 = some (.invokespecial 1)) (by decide +kernel) (by decide +kernel) rfl (by decide),
  by intros; exact G_retv (by decide +kernel : fetch mX0_init 5 = some (.return_)) (by decide +kernel)⟩
theorem gX0_kind : (∀ (n d : Nat) (L : List (Option iV)) (st : List iV) (h : iH) (Q : Option iV → iH → Prop), G sp sc [] d mX0_kind (n + 1) 0 L st h Q = G sp sc [] d mX0_kind n 1 L (.inl 2 :: st) h Q) ∧
  (∀ (n d : Nat) (L : List (Option iV)) (a : Int) (h : iH) (Q : Option iV → iH → Prop), G sp sc [] d mX0_kind (n + 1) 1 L [.inl a] h Q = Q (some (.inl a)) h) := ⟨by intros; exact G_at (by decide +kernel : fetch mX0_kind 0 = some (.iconst 2)),
  by intros; exact G_reti (by decide +kernel : fetch mX0_kind 1 = some (.ireturn)) (by decide +kernel)⟩
theorem gX0_growth : (∀ (n d : Nat) (L : List (Option iV)) (st : List iV) (h : iH) (Q : Option iV → iH → Prop), G sp sc [] d mX0_growth (n + 1) 0 L st h Q = (match ld L 0 with | some (.inr (.inr (r + 1))) => G sp sc [] d mX0_growth n 1 L (.inr (.inr (r + 1)) :: st) h Q | _ => False)) ∧
  (∀ (n d : Nat) (L : List (Option iV)) (st : List iV) (h : iH) (Q : Option iV → iH → Prop), G sp sc [] d mX0_growth (n + 1) 1 L st h Q = (match ld L 1 with | some (.inl x) => G sp sc [] d mX0_growth n 2 L (.inl x :: st) h Q | _ => False)) ∧
  (∀ (n d : Nat) (L : List (Option iV)) (r : List iV) (m : Nat) (z0 : iV) (h : iH) (Q : Option iV → iH → Prop), G sp sc [] (d + 1) mX0_growth (n + 1) 2 L (z0 :: .inr (.inr (m + 2)) :: r) h Q = (match h.1[m]? with | some (.inl (ci, _)) => cs r ≤ 8 ∧ Call sp sc d mX6_growth [.inr (.inr (m + 2)), z0] h (fun q h1 => GC sp sc [] (d + 1) mX0_growth n 5 L q r h h1 Q) | _ => False)) ∧
  (∀ (n d : Nat) (L : List (Option iV)) (st : List iV) (h : iH) (Q : Option iV → iH → Prop), G sp sc [] d mX0_growth (n + 1) 5 L st h Q = G sp sc [] d mX0_growth n 6 L (.inl 2 :: st) h Q) ∧
  (∀ (n d : Nat) (L : List (Option iV)) (a : Int) (b : Int) (r : List iV) (h : iH) (Q : Option iV → iH → Prop), G sp sc [] d mX0_growth (n + 1) 6 L (.inl b :: .inl a :: r) h Q = G sp sc [] d mX0_growth n 7 L (.inl (a - b) :: r) h Q) ∧
  (∀ (n d : Nat) (L : List (Option iV)) (a : Int) (h : iH) (Q : Option iV → iH → Prop), G sp sc [] d mX0_growth (n + 1) 7 L [.inl a] h Q = Q (some (.inl a)) h) := ⟨by intros; exact G_at (by decide +kernel : fetch mX0_growth 0 = some (.aload_n 0)),
  by intros; exact G_at (by decide +kernel : fetch mX0_growth 1 = some (.iload_n 1)),
  by intros; exact G_callP (k := 1) (kd := 6) (by decide +kernel : fetch mX0_growth 2 = some (.invokespecial 7)) (by decide +kernel) (by decide +kernel) rfl (by decide),
  by intros; exact G_at (by decide +kernel : fetch mX0_growth 5 = some (.iconst 2)),
  by intros; exact G_at (by decide +kernel : fetch mX0_growth 6 = some (.isub)),
  by intros; exact G_reti (by decide +kernel : fetch mX0_growth 7 = some (.ireturn)) (by decide +kernel)⟩
theorem gX0_sulking : (∀ (n d : Nat) (L : List (Option iV)) (st : List iV) (h : iH) (Q : Option iV → iH → Prop), G sp sc [] d mX0_sulking (n + 1) 0 L st h Q = (match ld L 0 with | some (.inr (.inr (r + 1))) => G sp sc [] d mX0_sulking n 1 L (.inr (.inr (r + 1)) :: st) h Q | _ => False)) ∧
  (∀ (n d : Nat) (L : List (Option iV)) (r : List iV) (m : Nat) (h : iH) (Q : Option iV → iH → Prop), G sp sc [] (d + 1) mX0_sulking (n + 1) 1 L (.inr (.inr (m + 2)) :: r) h Q = (match h.1[m]? with | some (.inl (ci, _)) => cs r ≤ 8 ∧ Call sp sc d mX6_sulking [.inr (.inr (m + 2))] h (fun q h1 => GC sp sc [] (d + 1) mX0_sulking n 4 L q r h h1 Q) | _ => False)) ∧
  (∀ (n d : Nat) (L : List (Option iV)) (st : List iV) (h : iH) (Q : Option iV → iH → Prop), G sp sc [] d mX0_sulking (n + 1) 4 L st h Q = G sp sc [] d mX0_sulking n 5 L (.inl 1 :: st) h Q) ∧
  (∀ (n d : Nat) (L : List (Option iV)) (a : Int) (b : Int) (r : List iV) (h : iH) (Q : Option iV → iH → Prop), G sp sc [] d mX0_sulking (n + 1) 5 L (.inl b :: .inl a :: r) h Q = G sp sc [] d mX0_sulking n 6 L (.inl (a + b) :: r) h Q) ∧
  (∀ (n d : Nat) (L : List (Option iV)) (a : Int) (h : iH) (Q : Option iV → iH → Prop), G sp sc [] d mX0_sulking (n + 1) 6 L [.inl a] h Q = Q (some (.inl a)) h) := ⟨by intros; exact G_at (by decide +kernel : fetch mX0_sulking 0 = some (.aload_n 0)),
  by intros; exact G_callP (k := 0) (kd := 6) (by decide +kernel : fetch mX0_sulking 1 = some (.invokespecial 11)) (by decide +kernel) (by decide +kernel) rfl (by decide),
  by intros; exact G_at (by decide +kernel : fetch mX0_sulking 4 = some (.iconst 1)),
  by intros; exact G_at (by decide +kernel : fetch mX0_sulking 5 = some (.iadd)),
  by intros; exact G_reti (by decide +kernel : fetch mX0_sulking 6 = some (.ireturn)) (by decide +kernel)⟩
theorem gX0_retold : (∀ (n d : Nat) (L : List (Option iV)) (st : List iV) (h : iH) (Q : Option iV → iH → Prop), G sp sc [] d mX0_retold (n + 1) 0 L st h Q = (match ld L 0 with | some (.inr (.inr (r + 1))) => G sp sc [] d mX0_retold n 1 L (.inr (.inr (r + 1)) :: st) h Q | _ => False)) ∧
  (∀ (n d : Nat) (L : List (Option iV)) (st : List iV) (h : iH) (Q : Option iV → iH → Prop), G sp sc [] d mX0_retold (n + 1) 1 L st h Q = (match ld L 1 with | some (.inl x) => G sp sc [] d mX0_retold n 2 L (.inl x :: st) h Q | _ => False)) ∧
  (∀ (n d : Nat) (L : List (Option iV)) (r : List iV) (m : Nat) (z0 : iV) (h : iH) (Q : Option iV → iH → Prop), G sp sc [] (d + 1) mX0_retold (n + 1) 2 L (z0 :: .inr (.inr (m + 2)) :: r) h Q = (match h.1[m]? with | some (.inl (ci, _)) => cs r ≤ 8 ∧ Call sp sc d mX6_retold [.inr (.inr (m + 2)), z0] h (fun q h1 => GC sp sc [] (d + 1) mX0_retold n 5 L q r h h1 Q) | _ => False)) ∧
  (∀ (n d : Nat) (L : List (Option iV)) (st : List iV) (h : iH) (Q : Option iV → iH → Prop), G sp sc [] d mX0_retold (n + 1) 5 L st h Q = G sp sc [] d mX0_retold n 6 L (.inl 2 :: st) h Q) ∧
  (∀ (n d : Nat) (L : List (Option iV)) (a : Int) (b : Int) (r : List iV) (h : iH) (Q : Option iV → iH → Prop), G sp sc [] d mX0_retold (n + 1) 6 L (.inl b :: .inl a :: r) h Q = ((inI a = true ∧ inI b = true ∧ 0 < b) ∧ G sp sc [] d mX0_retold n 7 L (.inl (a.tdiv b) :: r) h Q)) ∧
  (∀ (n d : Nat) (L : List (Option iV)) (a : Int) (h : iH) (Q : Option iV → iH → Prop), G sp sc [] d mX0_retold (n + 1) 7 L [.inl a] h Q = Q (some (.inl a)) h) := ⟨by intros; exact G_at (by decide +kernel : fetch mX0_retold 0 = some (.aload_n 0)),
  by intros; exact G_at (by decide +kernel : fetch mX0_retold 1 = some (.iload_n 1)),
  by intros; exact G_callP (k := 1) (kd := 6) (by decide +kernel : fetch mX0_retold 2 = some (.invokespecial 15)) (by decide +kernel) (by decide +kernel) rfl (by decide),
  by intros; exact G_at (by decide +kernel : fetch mX0_retold 5 = some (.iconst 2)),
  by intros; exact G_at (by decide +kernel : fetch mX0_retold 6 = some (.idiv)),
  by intros; exact G_reti (by decide +kernel : fetch mX0_retold 7 = some (.ireturn)) (by decide +kernel)⟩
theorem gX0_price : (∀ (n d : Nat) (L : List (Option iV)) (st : List iV) (h : iH) (Q : Option iV → iH → Prop), G sp sc [] d mX0_price (n + 1) 0 L st h Q = (match ld L 0 with | some (.inr (.inr (r + 1))) => G sp sc [] d mX0_price n 1 L (.inr (.inr (r + 1)) :: st) h Q | _ => False)) ∧
  (∀ (n d : Nat) (L : List (Option iV)) (r : List iV) (m : Nat) (h : iH) (Q : Option iV → iH → Prop), G sp sc [] (d + 1) mX0_price (n + 1) 1 L (.inr (.inr (m + 2)) :: r) h Q = (match h.1[m]? with | some (.inl (ci, _)) => cs r ≤ 8 ∧ Call sp sc d mX6_price [.inr (.inr (m + 2))] h (fun q h1 => GC sp sc [] (d + 1) mX0_price n 4 L q r h h1 Q) | _ => False)) ∧
  (∀ (n d : Nat) (L : List (Option iV)) (st : List iV) (h : iH) (Q : Option iV → iH → Prop), G sp sc [] d mX0_price (n + 1) 4 L st h Q = G sp sc [] d mX0_price n 5 L (.inl 2 :: st) h Q) ∧
  (∀ (n d : Nat) (L : List (Option iV)) (a : Int) (b : Int) (r : List iV) (h : iH) (Q : Option iV → iH → Prop), G sp sc [] d mX0_price (n + 1) 5 L (.inl b :: .inl a :: r) h Q = ((inI a = true ∧ inI b = true ∧ 0 < b) ∧ G sp sc [] d mX0_price n 6 L (.inl (a.tdiv b) :: r) h Q)) ∧
  (∀ (n d : Nat) (L : List (Option iV)) (a : Int) (h : iH) (Q : Option iV → iH → Prop), G sp sc [] d mX0_price (n + 1) 6 L [.inl a] h Q = Q (some (.inl a)) h) := ⟨by intros; exact G_at (by decide +kernel : fetch mX0_price 0 = some (.aload_n 0)),
  by intros; exact G_callP (k := 0) (kd := 6) (by decide +kernel : fetch mX0_price 1 = some (.invokespecial 19)) (by decide +kernel) (by decide +kernel) rfl (by decide),
  by intros; exact G_at (by decide +kernel : fetch mX0_price 4 = some (.iconst 2)),
  by intros; exact G_at (by decide +kernel : fetch mX0_price 5 = some (.idiv)),
  by intros; exact G_reti (by decide +kernel : fetch mX0_price 6 = some (.ireturn)) (by decide +kernel)⟩
theorem gX1_init : (∀ (n d : Nat) (L : List (Option iV)) (st : List iV) (h : iH) (Q : Option iV → iH → Prop), G sp sc [] d mX1_init (n + 1) 0 L st h Q = (match ld L 0 with | some (.inr (.inr (r + 1))) => G sp sc [] d mX1_init n 1 L (.inr (.inr (r + 1)) :: st) h Q | _ => False)) ∧
  (∀ (n d : Nat) (L : List (Option iV)) (st : List iV) (h : iH) (Q : Option iV → iH → Prop), G sp sc [] d mX1_init (n + 1) 1 L st h Q = (match ld L 1 with | some (.inl x) => G sp sc [] d mX1_init n 2 L (.inl x :: st) h Q | _ => False)) ∧
  (∀ (n d : Nat) (L : List (Option iV)) (r : List iV) (m : Nat) (z0 : iV) (h : iH) (Q : Option iV → iH → Prop), G sp sc [] (d + 1) mX1_init (n + 1) 2 L (z0 :: .inr (.inr (m + 2)) :: r) h Q = (match h.1[m]? with | some (.inl (ci, _)) => cs r ≤ 8 ∧ Call sp sc d mX6_init [.inr (.inr (m + 2)), z0] h (fun q h1 => GC sp sc [] (d + 1) mX1_init n 5 L q r h h1 Q) | _ => False)) ∧
  (∀ (n d : Nat) (L : List (Option iV))  (h : iH) (Q : Option iV → iH → Prop), G sp sc [] d mX1_init (n + 1) 5 L [] h Q = Q none h) := ⟨by intros; exact G_at (by decide +kernel : fetch mX1_init 0 = some (.aload_n 0)),
  by intros; exact G_at (by decide +kernel : fetch mX1_init 1 = some (.iload_n 1)),
  by intros; exact G_callP (k := 1) (kd := 4) (by decide +kernel : fetch mX1_init 2 = some (.invokespecial 1)) (by decide +kernel) (by decide +kernel) rfl (by decide),
  by intros; exact G_retv (by decide +kernel : fetch mX1_init 5 = some (.return_)) (by decide +kernel)⟩
theorem gX1_kind : (∀ (n d : Nat) (L : List (Option iV)) (st : List iV) (h : iH) (Q : Option iV → iH → Prop), G sp sc [] d mX1_kind (n + 1) 0 L st h Q = G sp sc [] d mX1_kind n 1 L (.inl 5 :: st) h Q) ∧
  (∀ (n d : Nat) (L : List (Option iV)) (a : Int) (h : iH) (Q : Option iV → iH → Prop), G sp sc [] d mX1_kind (n + 1) 1 L [.inl a] h Q = Q (some (.inl a)) h) := ⟨by intros; exact G_at (by decide +kernel : fetch mX1_kind 0 = some (.iconst 5)),
  by intros; exact G_reti (by decide +kernel : fetch mX1_kind 1 = some (.ireturn)) (by decide +kernel)⟩
theorem gX1_growth : (∀ (n d : Nat) (L : List (Option iV)) (st : List iV) (h : iH) (Q : Option iV → iH → Prop), G sp sc [] d mX1_growth (n + 1) 0 L st h Q = (match ld L 1 with | some (.inl x) => G sp sc [] d mX1_growth n 1 L (.inl x :: st) h Q | _ => False)) ∧
  (∀ (n d : Nat) (L : List (Option iV)) (a : Int) (r : List iV) (h : iH) (Q : Option iV → iH → Prop), G sp sc [] d mX1_growth (n + 1) 1 L (.inl a :: r) h Q = (inI a = true ∧ (a = 0 → G sp sc [] d mX1_growth n 14 L r h Q) ∧ (¬ (a = 0) → G sp sc [] d mX1_growth n 4 L r h Q))) ∧
  (∀ (n d : Nat) (L : List (Option iV)) (st : List iV) (h : iH) (Q : Option iV → iH → Prop), G sp sc [] d mX1_growth (n + 1) 4 L st h Q = G sp sc [] d mX1_growth n 5 L (.inl 2 :: st) h Q) ∧
  (∀ (n d : Nat) (L : List (Option iV)) (st : List iV) (h : iH) (Q : Option iV → iH → Prop), G sp sc [] d mX1_growth (n + 1) 5 L st h Q = (match ld L 0 with | some (.inr (.inr (r + 1))) => G sp sc [] d mX1_growth n 6 L (.inr (.inr (r + 1)) :: st) h Q | _ => False)) ∧
  (∀ (n d : Nat) (L : List (Option iV)) (st : List iV) (h : iH) (Q : Option iV → iH → Prop), G sp sc [] d mX1_growth (n + 1) 6 L st h Q = (match ld L 1 with | some (.inl x) => G sp sc [] d mX1_growth n 7 L (.inl x :: st) h Q | _ => False)) ∧
  (∀ (n d : Nat) (L : List (Option iV)) (r : List iV) (m : Nat) (z0 : iV) (h : iH) (Q : Option iV → iH → Prop), G sp sc [] (d + 1) mX1_growth (n + 1) 7 L (z0 :: .inr (.inr (m + 2)) :: r) h Q = (match h.1[m]? with | some (.inl (ci, _)) => cs r ≤ 8 ∧ Call sp sc d mX6_growth [.inr (.inr (m + 2)), z0] h (fun q h1 => GC sp sc [] (d + 1) mX1_growth n 10 L q r h h1 Q) | _ => False)) ∧
  (∀ (n d : Nat) (L : List (Option iV)) (a : Int) (b : Int) (r : List iV) (h : iH) (Q : Option iV → iH → Prop), G sp sc [] d mX1_growth (n + 1) 10 L (.inl b :: .inl a :: r) h Q = G sp sc [] d mX1_growth n 11 L (.inl (a * b) :: r) h Q) ∧
  (∀ (n d : Nat) (L : List (Option iV)) (st : List iV) (h : iH) (Q : Option iV → iH → Prop), G sp sc [] d mX1_growth (n + 1) 11 L st h Q = G sp sc [] d mX1_growth n 15 L st h Q) ∧
  (∀ (n d : Nat) (L : List (Option iV)) (st : List iV) (h : iH) (Q : Option iV → iH → Prop), G sp sc [] d mX1_growth (n + 1) 14 L st h Q = G sp sc [] d mX1_growth n 15 L (.inl 0 :: st) h Q) ∧
  (∀ (n d : Nat) (L : List (Option iV)) (a : Int) (h : iH) (Q : Option iV → iH → Prop), G sp sc [] d mX1_growth (n + 1) 15 L [.inl a] h Q = Q (some (.inl a)) h) := ⟨by intros; exact G_at (by decide +kernel : fetch mX1_growth 0 = some (.iload_n 1)),
  by intros; exact G_at (by decide +kernel : fetch mX1_growth 1 = some (.ifCond .eq 13)),
  by intros; exact G_at (by decide +kernel : fetch mX1_growth 4 = some (.iconst 2)),
  by intros; exact G_at (by decide +kernel : fetch mX1_growth 5 = some (.aload_n 0)),
  by intros; exact G_at (by decide +kernel : fetch mX1_growth 6 = some (.iload_n 1)),
  by intros; exact G_callP (k := 1) (kd := 6) (by decide +kernel : fetch mX1_growth 7 = some (.invokespecial 7)) (by decide +kernel) (by decide +kernel) rfl (by decide),
  by intros; exact G_at (by decide +kernel : fetch mX1_growth 10 = some (.imul)),
  by intros; exact G_at (by decide +kernel : fetch mX1_growth 11 = some (.goto 4)),
  by intros; exact G_at (by decide +kernel : fetch mX1_growth 14 = some (.iconst 0)),
  by intros; exact G_reti (by decide +kernel : fetch mX1_growth 15 = some (.ireturn)) (by decide +kernel)⟩
theorem gX1_retold : (∀ (n d : Nat) (L : List (Option iV)) (st : List iV) (h : iH) (Q : Option iV → iH → Prop), G sp sc [] d mX1_retold (n + 1) 0 L st h Q = (match ld L 1 with | some (.inl x) => G sp sc [] d mX1_retold n 1 L (.inl x :: st) h Q | _ => False)) ∧
  (∀ (n d : Nat) (L : List (Option iV)) (a : Int) (h : iH) (Q : Option iV → iH → Prop), G sp sc [] d mX1_retold (n + 1) 1 L [.inl a] h Q = Q (some (.inl a)) h) := ⟨by intros; exact G_at (by decide +kernel : fetch mX1_retold 0 = some (.iload_n 1)),
  by intros; exact G_reti (by decide +kernel : fetch mX1_retold 1 = some (.ireturn)) (by decide +kernel)⟩
theorem gX1_price : (∀ (n d : Nat) (L : List (Option iV)) (st : List iV) (h : iH) (Q : Option iV → iH → Prop), G sp sc [] d mX1_price (n + 1) 0 L st h Q = (match ld L 0 with | some (.inr (.inr (r + 1))) => G sp sc [] d mX1_price n 1 L (.inr (.inr (r + 1)) :: st) h Q | _ => False)) ∧
  (∀ (n d : Nat) (L : List (Option iV)) (r : List iV) (m : Nat) (h : iH) (Q : Option iV → iH → Prop), G sp sc [] (d + 1) mX1_price (n + 1) 1 L (.inr (.inr (m + 2)) :: r) h Q = (match h.1[m]? with | some (.inl (ci, _)) => cs r ≤ 8 ∧ Call sp sc d mX6_price [.inr (.inr (m + 2))] h (fun q h1 => GC sp sc [] (d + 1) mX1_price n 4 L q r h h1 Q) | _ => False)) ∧
  (∀ (n d : Nat) (L : List (Option iV)) (st : List iV) (h : iH) (Q : Option iV → iH → Prop), G sp sc [] d mX1_price (n + 1) 4 L st h Q = (match ld L 0 with | some (.inr (.inr (r + 1))) => G sp sc [] d mX1_price n 5 L (.inr (.inr (r + 1)) :: st) h Q | _ => False)) ∧
  (∀ (n d : Nat) (L : List (Option iV)) (r : List iV) (m : Nat) (h : iH) (Q : Option iV → iH → Prop), G sp sc [] d mX1_price (n + 1) 5 L (.inr (.inr (m + 2)) :: r) h Q = (match h.1[m]? with | some (.inl (ci, fs)) => (match lkF 1 15 ci with | some k => (match fs[k]? with | some v => G sp sc [] d mX1_price n 8 L (v :: r) h Q | none => False) | none => False) | _ => False)) ∧
  (∀ (n d : Nat) (L : List (Option iV)) (a : Int) (b : Int) (r : List iV) (h : iH) (Q : Option iV → iH → Prop), G sp sc [] d mX1_price (n + 1) 8 L (.inl b :: .inl a :: r) h Q = G sp sc [] d mX1_price n 9 L (.inl (a + b) :: r) h Q) ∧
  (∀ (n d : Nat) (L : List (Option iV)) (a : Int) (h : iH) (Q : Option iV → iH → Prop), G sp sc [] d mX1_price (n + 1) 9 L [.inl a] h Q = Q (some (.inl a)) h) ∧
  lkF 1 15 1 = some 0 := ⟨by intros; exact G_at (by decide +kernel : fetch mX1_price 0 = some (.aload_n 0)),
  by intros; exact G_callP (k := 0) (kd := 6) (by decide +kernel : fetch mX1_price 1 = some (.invokespecial 11)) (by decide +kernel) (by decide +kernel) rfl (by decide),
  by intros; exact G_at (by decide +kernel : fetch mX1_price 4 = some (.aload_n 0)),
  by intros; exact G_own (by decide +kernel : fetch mX1_price 5 = some (.getfield 15)) (by decide +kernel),
  by intros; exact G_at (by decide +kernel : fetch mX1_price 8 = some (.iadd)),
  by intros; exact G_reti (by decide +kernel : fetch mX1_price 9 = some (.ireturn)) (by decide +kernel),
  by decide +kernel⟩
theorem gX1_fail : (∀ (n d : Nat) (L : List (Option iV))  (h : iH) (Q : Option iV → iH → Prop), G sp sc [] d mX1_fail (n + 1) 0 L [] h Q = Q none h) := by intros; exact G_retv (by decide +kernel : fetch mX1_fail 0 = some (.return_)) (by decide +kernel)
theorem gX2_init : (∀ (n d : Nat) (L : List (Option iV)) (st : List iV) (h : iH) (Q : Option iV → iH → Prop), G sp sc [] d mX2_init (n + 1) 0 L st h Q = (match ld L 0 with | some (.inr (.inr (r + 1))) => G sp sc [] d mX2_init n 1 L (.inr (.inr (r + 1)) :: st) h Q | _ => False)) ∧
  (∀ (n d : Nat) (L : List (Option iV)) (r : List iV) (m : Nat) (h : iH) (Q : Option iV → iH → Prop), G sp sc [] (d + 1) mX2_init (n + 1) 1 L (.inr (.inr (m + 2)) :: r) h Q = (cs r ≤ 8 ∧ G sp sc [] (d + 1) mX2_init n 4 L r h Q)) ∧
  (∀ (n d : Nat) (L : List (Option iV)) (st : List iV) (h : iH) (Q : Option iV → iH → Prop), G sp sc [] d mX2_init (n + 1) 4 L st h Q = (match ld L 0 with | some (.inr (.inr (r + 1))) => G sp sc [] d mX2_init n 5 L (.inr (.inr (r + 1)) :: st) h Q | _ => False)) ∧
  (∀ (n d : Nat) (L : List (Option iV)) (st : List iV) (h : iH) (Q : Option iV → iH → Prop), G sp sc [] d mX2_init (n + 1) 5 L st h Q = ((-128 ≤ (8 : Int) ∧ (8 : Int) < 128) ∧ G sp sc [] d mX2_init n 7 L (.inl 8 :: st) h Q)) ∧
  (∀ (n d : Nat) (L : List (Option iV)) (r : List iV) (v : iV) (m : Nat) (h : iH) (Q : Option iV → iH → Prop), G sp sc [] d mX2_init (n + 1) 9 L (v :: .inr (.inr (m + 2)) :: r) h Q = (match h.1[m]? with | some (.inl (ci, fs)) => (match lkF 2 7 ci with | some k => (fitV (tyT ci k) v = true ∧ k < fs.length ∧ pOK 2 true ci k = true) ∧ G sp sc [] d mX2_init n 12 L r (h.1.set m (.inl (ci, fs.set k v)), h.2) Q | none => False) | _ => False)) ∧
  (∀ (n d : Nat) (L : List (Option iV))  (h : iH) (Q : Option iV → iH → Prop), G sp sc [] d mX2_init (n + 1) 12 L [] h Q = Q none h) ∧
  lkF 2 7 2 = some 0 ∧
  pOK 2 true 2 0 = true := ⟨by intros; exact G_at (by decide +kernel : fetch mX2_init 0 = some (.aload_n 0)),
  by intros; exact G_obj (by decide +kernel : fetch mX2_init 1 = some (.invokespecial 1)) (by decide +kernel),
  by intros; exact G_at (by decide +kernel : fetch mX2_init 4 = some (.aload_n 0)),
  by intros; exact G_at (by decide +kernel : fetch mX2_init 5 = some (.bipush 8)),
  by intros; exact G_ownW (by decide +kernel : fetch mX2_init 9 = some (.putfield 7)) (by decide +kernel) (by decide +kernel),
  by intros; exact G_retv (by decide +kernel : fetch mX2_init 12 = some (.return_)) (by decide +kernel),
  by decide +kernel,
  by decide +kernel⟩
theorem gX2_become : (∀ (n d : Nat) (L : List (Option iV)) (st : List iV) (h : iH) (Q : Option iV → iH → Prop), G sp sc [5] d mX2_become (n + 1) 0 L st h Q = (match ld L 1 with | some (.inr (.inl x)) => G sp sc [5] d mX2_become n 1 L (.inr (.inl x) :: st) h Q | _ => False)) ∧
  (∀ (n d : Nat) (L : List (Option iV)) (r : List iV) (x : Int) (h : iH) (Q : Option iV → iH → Prop), G sp sc [5] d mX2_become (n + 1) 1 L (.inr (.inl x) :: r) h Q = (match st2 L 3 (.inr (.inl x)) with | some L' => G sp sc [5] d mX2_become n 2 L' r h Q | none => False)) ∧
  (∀ (n d : Nat) (L : List (Option iV)) (st : List iV) (h : iH) (Q : Option iV → iH → Prop), G sp sc [5] d mX2_become (n + 1) 2 L st h Q = G sp sc [5] d mX2_become n 3 L (.inl 0 :: st) h Q) ∧
  (∀ (n d : Nat) (L : List (Option iV)) (r : List iV) (x : Int) (h : iH) (Q : Option iV → iH → Prop), G sp sc [5] d mX2_become (n + 1) 3 L (.inl x :: r) h Q = (match st1 L 5 (.inl x) with | some L' => Run sp sc d mX2_become 5 L' r h Q | none => False)) ∧
  (∀ (n d : Nat) (L : List (Option iV)) (st : List iV) (h : iH) (Q : Option iV → iH → Prop), G sp sc [5] d mX2_become (n + 1) 5 L st h Q = (match ld L 5 with | some (.inl x) => G sp sc [5] d mX2_become n 7 L (.inl x :: st) h Q | _ => False)) ∧
  (∀ (n d : Nat) (L : List (Option iV)) (st : List iV) (h : iH) (Q : Option iV → iH → Prop), G sp sc [5] d mX2_become (n + 1) 7 L st h Q = (match ld L 0 with | some (.inr (.inr (r + 1))) => G sp sc [5] d mX2_become n 8 L (.inr (.inr (r + 1)) :: st) h Q | _ => False)) ∧
  (∀ (n d : Nat) (L : List (Option iV)) (r : List iV) (m : Nat) (h : iH) (Q : Option iV → iH → Prop), G sp sc [5] d mX2_become (n + 1) 8 L (.inr (.inr (m + 2)) :: r) h Q = (match h.1[m]? with | some (.inl (ci, fs)) => (match lkF 2 7 ci with | some k => (match fs[k]? with | some v => G sp sc [5] d mX2_become n 11 L (v :: r) h Q | none => False) | none => False) | _ => False)) ∧
  (∀ (n d : Nat) (L : List (Option iV)) (r : List iV) (m : Nat) (h : iH) (Q : Option iV → iH → Prop), G sp sc [5] d mX2_become (n + 1) 11 L (.inr (.inr (m + 2)) :: r) h Q = (match h.1[m]? with | some (.inr (.inl (t, xs))) => t < 6 ∧ G sp sc [5] d mX2_become n 12 L (.inl (xs.length : Int) :: r) h Q | some (.inr (.inr (t, rs))) => t < 6 ∧ G sp sc [5] d mX2_become n 12 L (.inl (rs.length : Int) :: r) h Q | _ => False)) ∧
  (∀ (n d : Nat) (L : List (Option iV)) (a : Int) (b : Int) (r : List iV) (h : iH) (Q : Option iV → iH → Prop), G sp sc [5] d mX2_become (n + 1) 12 L (.inl b :: .inl a :: r) h Q = ((inI a = true ∧ inI b = true) ∧ (b ≤ a → G sp sc [5] d mX2_become n 39 L r h Q) ∧ (¬ (b ≤ a) → G sp sc [5] d mX2_become n 15 L r h Q))) ∧
  (∀ (n d : Nat) (L : List (Option iV)) (st : List iV) (h : iH) (Q : Option iV → iH → Prop), G sp sc [5] d mX2_become (n + 1) 15 L st h Q = (match ld L 0 with | some (.inr (.inr (r + 1))) => G sp sc [5] d mX2_become n 16 L (.inr (.inr (r + 1)) :: st) h Q | _ => False)) ∧
  (∀ (n d : Nat) (L : List (Option iV)) (r : List iV) (m : Nat) (h : iH) (Q : Option iV → iH → Prop), G sp sc [5] d mX2_become (n + 1) 16 L (.inr (.inr (m + 2)) :: r) h Q = (match h.1[m]? with | some (.inl (ci, fs)) => (match lkF 2 7 ci with | some k => (match fs[k]? with | some v => G sp sc [5] d mX2_become n 19 L (v :: r) h Q | none => False) | none => False) | _ => False)) ∧
  (∀ (n d : Nat) (L : List (Option iV)) (st : List iV) (h : iH) (Q : Option iV → iH → Prop), G sp sc [5] d mX2_become (n + 1) 19 L st h Q = (match ld L 5 with | some (.inl x) => G sp sc [5] d mX2_become n 21 L (.inl x :: st) h Q | _ => False)) ∧
  (∀ (n d : Nat) (L : List (Option iV)) (st : List iV) (h : iH) (Q : Option iV → iH → Prop), G sp sc [5] d mX2_become (n + 1) 21 L st h Q = (match ld L 3 with | some (.inr (.inl x)) => G sp sc [5] d mX2_become n 22 L (.inr (.inl x) :: st) h Q | _ => False)) ∧
  (∀ (n d : Nat) (L : List (Option iV)) (st : List iV) (h : iH) (Q : Option iV → iH → Prop), G sp sc [5] d mX2_become (n + 1) 22 L st h Q = G sp sc [5] d mX2_become n 25 L (.inr (.inl (1000000000)) :: st) h Q) ∧
  (∀ (n d : Nat) (L : List (Option iV)) (a : Int) (b : Int) (r : List iV) (h : iH) (Q : Option iV → iH → Prop), G sp sc [5] d mX2_become (n + 1) 25 L (.inr (.inl b) :: .inr (.inl a) :: r) h Q = ((inJ a = true ∧ inJ b = true ∧ 0 < b) ∧ G sp sc [5] d mX2_become n 26 L (.inr (.inl (a.tmod b)) :: r) h Q)) ∧
  (∀ (n d : Nat) (L : List (Option iV)) (r : List iV) (v : Int) (j : Int) (m : Nat) (h : iH) (Q : Option iV → iH → Prop), G sp sc [5] d mX2_become (n + 1) 26 L (.inr (.inl v) :: .inl j :: .inr (.inr (m + 2)) :: r) h Q = (match h.1[m]? with | some (.inr (.inl (1, xs))) => inA j xs.length = true ∧ G sp sc [5] d mX2_become n 27 L r (h.1.set m (.inr (.inl (1, xs.set j.toNat v))), h.2) Q | _ => False)) ∧
  (∀ (n d : Nat) (L : List (Option iV)) (st : List iV) (h : iH) (Q : Option iV → iH → Prop), G sp sc [5] d mX2_become (n + 1) 27 L st h Q = (match ld L 3 with | some (.inr (.inl x)) => G sp sc [5] d mX2_become n 28 L (.inr (.inl x) :: st) h Q | _ => False)) ∧
  (∀ (n d : Nat) (L : List (Option iV)) (st : List iV) (h : iH) (Q : Option iV → iH → Prop), G sp sc [5] d mX2_become (n + 1) 28 L st h Q = G sp sc [5] d mX2_become n 31 L (.inr (.inl (1000000000)) :: st) h Q) ∧
  (∀ (n d : Nat) (L : List (Option iV)) (a : Int) (b : Int) (r : List iV) (h : iH) (Q : Option iV → iH → Prop), G sp sc [5] d mX2_become (n + 1) 31 L (.inr (.inl b) :: .inr (.inl a) :: r) h Q = ((inJ a = true ∧ inJ b = true ∧ 0 < b) ∧ G sp sc [5] d mX2_become n 32 L (.inr (.inl (a.tdiv b)) :: r) h Q)) ∧
  (∀ (n d : Nat) (L : List (Option iV)) (r : List iV) (x : Int) (h : iH) (Q : Option iV → iH → Prop), G sp sc [5] d mX2_become (n + 1) 32 L (.inr (.inl x) :: r) h Q = (match st2 L 3 (.inr (.inl x)) with | some L' => G sp sc [5] d mX2_become n 33 L' r h Q | none => False)) ∧
  (∀ (n d : Nat) (L : List (Option iV)) (st : List iV) (h : iH) (Q : Option iV → iH → Prop), G sp sc [5] d mX2_become (n + 1) 33 L st h Q = (match ld L 5 with | some (.inl x) => (match st1 L 5 (.inl (x + 1)) with | some L' => G sp sc [5] d mX2_become n 36 L' st h Q | none => False) | _ => False)) ∧
  (∀ (n d : Nat) (L : List (Option iV)) (st : List iV) (h : iH) (Q : Option iV → iH → Prop), G sp sc [5] d mX2_become (n + 1) 36 L st h Q = Run sp sc d mX2_become 5 L st h Q) ∧
  (∀ (n d : Nat) (L : List (Option iV))  (h : iH) (Q : Option iV → iH → Prop), G sp sc [5] d mX2_become (n + 1) 39 L [] h Q = Q none h) ∧
  lkF 2 7 2 = some 0 := ⟨by intros; exact G_at (by decide +kernel : fetch mX2_become 0 = some (.lload_n 1)),
  by intros; exact G_at (by decide +kernel : fetch mX2_become 1 = some (.lstore_n 3)),
  by intros; exact G_at (by decide +kernel : fetch mX2_become 2 = some (.iconst 0)),
  by intros; exact G_at (by decide +kernel : fetch mX2_become 3 = some (.istore 5)),
  by intros; exact G_at (by decide +kernel : fetch mX2_become 5 = some (.iload 5)),
  by intros; exact G_at (by decide +kernel : fetch mX2_become 7 = some (.aload_n 0)),
  by intros; exact G_own (by decide +kernel : fetch mX2_become 8 = some (.getfield 7)) (by decide +kernel),
  by intros; exact G_at (by decide +kernel : fetch mX2_become 11 = some (.arraylength)),
  by intros; exact G_at (by decide +kernel : fetch mX2_become 12 = some (.if_icmp .ge 27)),
  by intros; exact G_at (by decide +kernel : fetch mX2_become 15 = some (.aload_n 0)),
  by intros; exact G_own (by decide +kernel : fetch mX2_become 16 = some (.getfield 7)) (by decide +kernel),
  by intros; exact G_at (by decide +kernel : fetch mX2_become 19 = some (.iload 5)),
  by intros; exact G_at (by decide +kernel : fetch mX2_become 21 = some (.lload_n 3)),
  by intros; exact G_ldc2 (by decide +kernel : fetch mX2_become 22 = some (.ldc2_w 13)) (by decide +kernel),
  by intros; exact G_at (by decide +kernel : fetch mX2_become 25 = some (.lrem)),
  by intros; exact G_at (by decide +kernel : fetch mX2_become 26 = some (.lastore)),
  by intros; exact G_at (by decide +kernel : fetch mX2_become 27 = some (.lload_n 3)),
  by intros; exact G_ldc2 (by decide +kernel : fetch mX2_become 28 = some (.ldc2_w 13)) (by decide +kernel),
  by intros; exact G_at (by decide +kernel : fetch mX2_become 31 = some (.ldiv)),
  by intros; exact G_at (by decide +kernel : fetch mX2_become 32 = some (.lstore_n 3)),
  by intros; exact G_at (by decide +kernel : fetch mX2_become 33 = some (.iinc 5 1)),
  by intros; exact G_at (by decide +kernel : fetch mX2_become 36 = some (.goto (-31))),
  by intros; exact G_retv (by decide +kernel : fetch mX2_become 39 = some (.return_)) (by decide +kernel),
  by decide +kernel⟩
theorem gX2_mix : (∀ (n d : Nat) (L : List (Option iV)) (st : List iV) (h : iH) (Q : Option iV → iH → Prop), G sp sc [6] d mX2_mix (n + 1) 0 L st h Q = G sp sc [6] d mX2_mix n 1 L (.inr (.inl ((0 : Fin 2).val : Int)) :: st) h Q) ∧
  (∀ (n d : Nat) (L : List (Option iV)) (r : List iV) (x : Int) (h : iH) (Q : Option iV → iH → Prop), G sp sc [6] d mX2_mix (n + 1) 1 L (.inr (.inl x) :: r) h Q = (match st2 L 4 (.inr (.inl x)) with | some L' => G sp sc [6] d mX2_mix n 3 L' r h Q | none => False)) ∧
  (∀ (n d : Nat) (L : List (Option iV)) (st : List iV) (h : iH) (Q : Option iV → iH → Prop), G sp sc [6] d mX2_mix (n + 1) 3 L st h Q = G sp sc [6] d mX2_mix n 4 L (.inl 0 :: st) h Q) ∧
  (∀ (n d : Nat) (L : List (Option iV)) (r : List iV) (x : Int) (h : iH) (Q : Option iV → iH → Prop), G sp sc [6] d mX2_mix (n + 1) 4 L (.inl x :: r) h Q = (match st1 L 6 (.inl x) with | some L' => Run sp sc d mX2_mix 6 L' r h Q | none => False)) ∧
  (∀ (n d : Nat) (L : List (Option iV)) (st : List iV) (h : iH) (Q : Option iV → iH → Prop), G sp sc [6] d mX2_mix (n + 1) 6 L st h Q = (match ld L 6 with | some (.inl x) => G sp sc [6] d mX2_mix n 8 L (.inl x :: st) h Q | _ => False)) ∧
  (∀ (n d : Nat) (L : List (Option iV)) (st : List iV) (h : iH) (Q : Option iV → iH → Prop), G sp sc [6] d mX2_mix (n + 1) 8 L st h Q = (match ld L 0 with | some (.inr (.inr (r + 1))) => G sp sc [6] d mX2_mix n 9 L (.inr (.inr (r + 1)) :: st) h Q | _ => False)) ∧
  (∀ (n d : Nat) (L : List (Option iV)) (r : List iV) (m : Nat) (h : iH) (Q : Option iV → iH → Prop), G sp sc [6] d mX2_mix (n + 1) 9 L (.inr (.inr (m + 2)) :: r) h Q = (match h.1[m]? with | some (.inl (ci, fs)) => (match lkF 2 7 ci with | some k => (match fs[k]? with | some v => G sp sc [6] d mX2_mix n 12 L (v :: r) h Q | none => False) | none => False) | _ => False)) ∧
  (∀ (n d : Nat) (L : List (Option iV)) (r : List iV) (m : Nat) (h : iH) (Q : Option iV → iH → Prop), G sp sc [6] d mX2_mix (n + 1) 12 L (.inr (.inr (m + 2)) :: r) h Q = (match h.1[m]? with | some (.inr (.inl (t, xs))) => t < 6 ∧ G sp sc [6] d mX2_mix n 13 L (.inl (xs.length : Int) :: r) h Q | some (.inr (.inr (t, rs))) => t < 6 ∧ G sp sc [6] d mX2_mix n 13 L (.inl (rs.length : Int) :: r) h Q | _ => False)) ∧
  (∀ (n d : Nat) (L : List (Option iV)) (a : Int) (b : Int) (r : List iV) (h : iH) (Q : Option iV → iH → Prop), G sp sc [6] d mX2_mix (n + 1) 13 L (.inl b :: .inl a :: r) h Q = ((inI a = true ∧ inI b = true) ∧ (b ≤ a → G sp sc [6] d mX2_mix n 69 L r h Q) ∧ (¬ (b ≤ a) → G sp sc [6] d mX2_mix n 16 L r h Q))) ∧
  (∀ (n d : Nat) (L : List (Option iV)) (st : List iV) (h : iH) (Q : Option iV → iH → Prop), G sp sc [6] d mX2_mix (n + 1) 16 L st h Q = (match ld L 4 with | some (.inr (.inl x)) => G sp sc [6] d mX2_mix n 18 L (.inr (.inl x) :: st) h Q | _ => False)) ∧
  (∀ (n d : Nat) (L : List (Option iV)) (st : List iV) (h : iH) (Q : Option iV → iH → Prop), G sp sc [6] d mX2_mix (n + 1) 18 L st h Q = (match ld L 0 with | some (.inr (.inr (r + 1))) => G sp sc [6] d mX2_mix n 19 L (.inr (.inr (r + 1)) :: st) h Q | _ => False)) ∧
  (∀ (n d : Nat) (L : List (Option iV)) (r : List iV) (m : Nat) (h : iH) (Q : Option iV → iH → Prop), G sp sc [6] d mX2_mix (n + 1) 19 L (.inr (.inr (m + 2)) :: r) h Q = (match h.1[m]? with | some (.inl (ci, fs)) => (match lkF 2 7 ci with | some k => (match fs[k]? with | some v => G sp sc [6] d mX2_mix n 22 L (v :: r) h Q | none => False) | none => False) | _ => False)) ∧
  (∀ (n d : Nat) (L : List (Option iV)) (st : List iV) (h : iH) (Q : Option iV → iH → Prop), G sp sc [6] d mX2_mix (n + 1) 22 L st h Q = (match ld L 6 with | some (.inl x) => G sp sc [6] d mX2_mix n 24 L (.inl x :: st) h Q | _ => False)) ∧
  (∀ (n d : Nat) (L : List (Option iV)) (r : List iV) (j : Int) (m : Nat) (h : iH) (Q : Option iV → iH → Prop), G sp sc [6] d mX2_mix (n + 1) 24 L (.inl j :: .inr (.inr (m + 2)) :: r) h Q = (match h.1[m]? with | some (.inr (.inl (1, xs))) => inA j xs.length = true ∧ G sp sc [6] d mX2_mix n 25 L (.inr (.inl (xs.getD j.toNat 0)) :: r) h Q | _ => False)) ∧
  (∀ (n d : Nat) (L : List (Option iV)) (st : List iV) (h : iH) (Q : Option iV → iH → Prop), G sp sc [6] d mX2_mix (n + 1) 25 L st h Q = (match ld L 1 with | some (.inl x) => G sp sc [6] d mX2_mix n 26 L (.inl x :: st) h Q | _ => False)) ∧
  (∀ (n d : Nat) (L : List (Option iV)) (a : Int) (r : List iV) (h : iH) (Q : Option iV → iH → Prop), G sp sc [6] d mX2_mix (n + 1) 26 L (.inl a :: r) h Q = (inI a = true ∧ G sp sc [6] d mX2_mix n 27 L (.inr (.inl a) :: r) h Q)) ∧
  (∀ (n d : Nat) (L : List (Option iV)) (a : Int) (b : Int) (r : List iV) (h : iH) (Q : Option iV → iH → Prop), G sp sc [6] d mX2_mix (n + 1) 27 L (.inr (.inl b) :: .inr (.inl a) :: r) h Q = G sp sc [6] d mX2_mix n 28 L (.inr (.inl (a * b)) :: r) h Q) ∧
  (∀ (n d : Nat) (L : List (Option iV)) (st : List iV) (h : iH) (Q : Option iV → iH → Prop), G sp sc [6] d mX2_mix (n + 1) 28 L st h Q = (match ld L 2 with | some (.inr (.inr (r + 1))) => G sp sc [6] d mX2_mix n 29 L (.inr (.inr (r + 1)) :: st) h Q | _ => False)) ∧
  (∀ (n d : Nat) (L : List (Option iV)) (r : List iV) (m : Nat) (h : iH) (Q : Option iV → iH → Prop), G sp sc [6] d mX2_mix (n + 1) 29 L (.inr (.inr (m + 2)) :: r) h Q = (match h.1[m]? with | some (.inl (ci, fs)) => (match lkF 2 7 ci with | some k => (match fs[k]? with | some v => G sp sc [6] d mX2_mix n 32 L (v :: r) h Q | none => False) | none => False) | _ => False)) ∧
  (∀ (n d : Nat) (L : List (Option iV)) (st : List iV) (h : iH) (Q : Option iV → iH → Prop), G sp sc [6] d mX2_mix (n + 1) 32 L st h Q = (match ld L 6 with | some (.inl x) => G sp sc [6] d mX2_mix n 34 L (.inl x :: st) h Q | _ => False)) ∧
  (∀ (n d : Nat) (L : List (Option iV)) (r : List iV) (j : Int) (m : Nat) (h : iH) (Q : Option iV → iH → Prop), G sp sc [6] d mX2_mix (n + 1) 34 L (.inl j :: .inr (.inr (m + 2)) :: r) h Q = (match h.1[m]? with | some (.inr (.inl (1, xs))) => inA j xs.length = true ∧ G sp sc [6] d mX2_mix n 35 L (.inr (.inl (xs.getD j.toNat 0)) :: r) h Q | _ => False)) ∧
  (∀ (n d : Nat) (L : List (Option iV)) (st : List iV) (h : iH) (Q : Option iV → iH → Prop), G sp sc [6] d mX2_mix (n + 1) 35 L st h Q = (match ld L 3 with | some (.inl x) => G sp sc [6] d mX2_mix n 36 L (.inl x :: st) h Q | _ => False)) ∧
  (∀ (n d : Nat) (L : List (Option iV)) (a : Int) (r : List iV) (h : iH) (Q : Option iV → iH → Prop), G sp sc [6] d mX2_mix (n + 1) 36 L (.inl a :: r) h Q = (inI a = true ∧ G sp sc [6] d mX2_mix n 37 L (.inr (.inl a) :: r) h Q)) ∧
  (∀ (n d : Nat) (L : List (Option iV)) (a : Int) (b : Int) (r : List iV) (h : iH) (Q : Option iV → iH → Prop), G sp sc [6] d mX2_mix (n + 1) 37 L (.inr (.inl b) :: .inr (.inl a) :: r) h Q = G sp sc [6] d mX2_mix n 38 L (.inr (.inl (a * b)) :: r) h Q) ∧
  (∀ (n d : Nat) (L : List (Option iV)) (a : Int) (b : Int) (r : List iV) (h : iH) (Q : Option iV → iH → Prop), G sp sc [6] d mX2_mix (n + 1) 38 L (.inr (.inl b) :: .inr (.inl a) :: r) h Q = G sp sc [6] d mX2_mix n 39 L (.inr (.inl (a + b)) :: r) h Q) ∧
  (∀ (n d : Nat) (L : List (Option iV)) (a : Int) (b : Int) (r : List iV) (h : iH) (Q : Option iV → iH → Prop), G sp sc [6] d mX2_mix (n + 1) 39 L (.inr (.inl b) :: .inr (.inl a) :: r) h Q = G sp sc [6] d mX2_mix n 40 L (.inr (.inl (a + b)) :: r) h Q) ∧
  (∀ (n d : Nat) (L : List (Option iV)) (r : List iV) (x : Int) (h : iH) (Q : Option iV → iH → Prop), G sp sc [6] d mX2_mix (n + 1) 40 L (.inr (.inl x) :: r) h Q = (match st2 L 4 (.inr (.inl x)) with | some L' => G sp sc [6] d mX2_mix n 42 L' r h Q | none => False)) ∧
  (∀ (n d : Nat) (L : List (Option iV)) (st : List iV) (h : iH) (Q : Option iV → iH → Prop), G sp sc [6] d mX2_mix (n + 1) 42 L st h Q = (match ld L 0 with | some (.inr (.inr (r + 1))) => G sp sc [6] d mX2_mix n 43 L (.inr (.inr (r + 1)) :: st) h Q | _ => False)) ∧
  (∀ (n d : Nat) (L : List (Option iV)) (r : List iV) (m : Nat) (h : iH) (Q : Option iV → iH → Prop), G sp sc [6] d mX2_mix (n + 1) 43 L (.inr (.inr (m + 2)) :: r) h Q = (match h.1[m]? with | some (.inl (ci, fs)) => (match lkF 2 7 ci with | some k => (match fs[k]? with | some v => G sp sc [6] d mX2_mix n 46 L (v :: r) h Q | none => False) | none => False) | _ => False)) ∧
  (∀ (n d : Nat) (L : List (Option iV)) (st : List iV) (h : iH) (Q : Option iV → iH → Prop), G sp sc [6] d mX2_mix (n + 1) 46 L st h Q = (match ld L 6 with | some (.inl x) => G sp sc [6] d mX2_mix n 48 L (.inl x :: st) h Q | _ => False)) ∧
  (∀ (n d : Nat) (L : List (Option iV)) (st : List iV) (h : iH) (Q : Option iV → iH → Prop), G sp sc [6] d mX2_mix (n + 1) 48 L st h Q = (match ld L 4 with | some (.inr (.inl x)) => G sp sc [6] d mX2_mix n 50 L (.inr (.inl x) :: st) h Q | _ => False)) ∧
  (∀ (n d : Nat) (L : List (Option iV)) (st : List iV) (h : iH) (Q : Option iV → iH → Prop), G sp sc [6] d mX2_mix (n + 1) 50 L st h Q = G sp sc [6] d mX2_mix n 53 L (.inr (.inl (1000000000)) :: st) h Q) ∧
  (∀ (n d : Nat) (L : List (Option iV)) (a : Int) (b : Int) (r : List iV) (h : iH) (Q : Option iV → iH → Prop), G sp sc [6] d mX2_mix (n + 1) 53 L (.inr (.inl b) :: .inr (.inl a) :: r) h Q = ((inJ a = true ∧ inJ b = true ∧ 0 < b) ∧ G sp sc [6] d mX2_mix n 54 L (.inr (.inl (a.tmod b)) :: r) h Q)) ∧
  (∀ (n d : Nat) (L : List (Option iV)) (r : List iV) (v : Int) (j : Int) (m : Nat) (h : iH) (Q : Option iV → iH → Prop), G sp sc [6] d mX2_mix (n + 1) 54 L (.inr (.inl v) :: .inl j :: .inr (.inr (m + 2)) :: r) h Q = (match h.1[m]? with | some (.inr (.inl (1, xs))) => inA j xs.length = true ∧ G sp sc [6] d mX2_mix n 55 L r (h.1.set m (.inr (.inl (1, xs.set j.toNat v))), h.2) Q | _ => False)) ∧
  (∀ (n d : Nat) (L : List (Option iV)) (st : List iV) (h : iH) (Q : Option iV → iH → Prop), G sp sc [6] d mX2_mix (n + 1) 55 L st h Q = (match ld L 4 with | some (.inr (.inl x)) => G sp sc [6] d mX2_mix n 57 L (.inr (.inl x) :: st) h Q | _ => False)) ∧
  (∀ (n d : Nat) (L : List (Option iV)) (st : List iV) (h : iH) (Q : Option iV → iH → Prop), G sp sc [6] d mX2_mix (n + 1) 57 L st h Q = G sp sc [6] d mX2_mix n 60 L (.inr (.inl (1000000000)) :: st) h Q) ∧
  (∀ (n d : Nat) (L : List (Option iV)) (a : Int) (b : Int) (r : List iV) (h : iH) (Q : Option iV → iH → Prop), G sp sc [6] d mX2_mix (n + 1) 60 L (.inr (.inl b) :: .inr (.inl a) :: r) h Q = ((inJ a = true ∧ inJ b = true ∧ 0 < b) ∧ G sp sc [6] d mX2_mix n 61 L (.inr (.inl (a.tdiv b)) :: r) h Q)) ∧
  (∀ (n d : Nat) (L : List (Option iV)) (r : List iV) (x : Int) (h : iH) (Q : Option iV → iH → Prop), G sp sc [6] d mX2_mix (n + 1) 61 L (.inr (.inl x) :: r) h Q = (match st2 L 4 (.inr (.inl x)) with | some L' => G sp sc [6] d mX2_mix n 63 L' r h Q | none => False)) ∧
  (∀ (n d : Nat) (L : List (Option iV)) (st : List iV) (h : iH) (Q : Option iV → iH → Prop), G sp sc [6] d mX2_mix (n + 1) 63 L st h Q = (match ld L 6 with | some (.inl x) => (match st1 L 6 (.inl (x + 1)) with | some L' => G sp sc [6] d mX2_mix n 66 L' st h Q | none => False) | _ => False)) ∧
  (∀ (n d : Nat) (L : List (Option iV)) (st : List iV) (h : iH) (Q : Option iV → iH → Prop), G sp sc [6] d mX2_mix (n + 1) 66 L st h Q = Run sp sc d mX2_mix 6 L st h Q) ∧
  (∀ (n d : Nat) (L : List (Option iV))  (h : iH) (Q : Option iV → iH → Prop), G sp sc [6] d mX2_mix (n + 1) 69 L [] h Q = Q none h) ∧
  lkF 2 7 2 = some 0 := ⟨by intros; exact G_at (by decide +kernel : fetch mX2_mix 0 = some (.lconst 0)),
  by intros; exact G_at (by decide +kernel : fetch mX2_mix 1 = some (.lstore 4)),
  by intros; exact G_at (by decide +kernel : fetch mX2_mix 3 = some (.iconst 0)),
  by intros; exact G_at (by decide +kernel : fetch mX2_mix 4 = some (.istore 6)),
  by intros; exact G_at (by decide +kernel : fetch mX2_mix 6 = some (.iload 6)),
  by intros; exact G_at (by decide +kernel : fetch mX2_mix 8 = some (.aload_n 0)),
  by intros; exact G_own (by decide +kernel : fetch mX2_mix 9 = some (.getfield 7)) (by decide +kernel),
  by intros; exact G_at (by decide +kernel : fetch mX2_mix 12 = some (.arraylength)),
  by intros; exact G_at (by decide +kernel : fetch mX2_mix 13 = some (.if_icmp .ge 56)),
  by intros; exact G_at (by decide +kernel : fetch mX2_mix 16 = some (.lload 4)),
  by intros; exact G_at (by decide +kernel : fetch mX2_mix 18 = some (.aload_n 0)),
  by intros; exact G_own (by decide +kernel : fetch mX2_mix 19 = some (.getfield 7)) (by decide +kernel),
  by intros; exact G_at (by decide +kernel : fetch mX2_mix 22 = some (.iload 6)),
  by intros; exact G_at (by decide +kernel : fetch mX2_mix 24 = some (.laload)),
  by intros; exact G_at (by decide +kernel : fetch mX2_mix 25 = some (.iload_n 1)),
  by intros; exact G_at (by decide +kernel : fetch mX2_mix 26 = some (.i2l)),
  by intros; exact G_at (by decide +kernel : fetch mX2_mix 27 = some (.lmul)),
  by intros; exact G_at (by decide +kernel : fetch mX2_mix 28 = some (.aload_n 2)),
  by intros; exact G_own (by decide +kernel : fetch mX2_mix 29 = some (.getfield 7)) (by decide +kernel),
  by intros; exact G_at (by decide +kernel : fetch mX2_mix 32 = some (.iload 6)),
  by intros; exact G_at (by decide +kernel : fetch mX2_mix 34 = some (.laload)),
  by intros; exact G_at (by decide +kernel : fetch mX2_mix 35 = some (.iload_n 3)),
  by intros; exact G_at (by decide +kernel : fetch mX2_mix 36 = some (.i2l)),
  by intros; exact G_at (by decide +kernel : fetch mX2_mix 37 = some (.lmul)),
  by intros; exact G_at (by decide +kernel : fetch mX2_mix 38 = some (.ladd)),
  by intros; exact G_at (by decide +kernel : fetch mX2_mix 39 = some (.ladd)),
  by intros; exact G_at (by decide +kernel : fetch mX2_mix 40 = some (.lstore 4)),
  by intros; exact G_at (by decide +kernel : fetch mX2_mix 42 = some (.aload_n 0)),
  by intros; exact G_own (by decide +kernel : fetch mX2_mix 43 = some (.getfield 7)) (by decide +kernel),
  by intros; exact G_at (by decide +kernel : fetch mX2_mix 46 = some (.iload 6)),
  by intros; exact G_at (by decide +kernel : fetch mX2_mix 48 = some (.lload 4)),
  by intros; exact G_ldc2 (by decide +kernel : fetch mX2_mix 50 = some (.ldc2_w 13)) (by decide +kernel),
  by intros; exact G_at (by decide +kernel : fetch mX2_mix 53 = some (.lrem)),
  by intros; exact G_at (by decide +kernel : fetch mX2_mix 54 = some (.lastore)),
  by intros; exact G_at (by decide +kernel : fetch mX2_mix 55 = some (.lload 4)),
  by intros; exact G_ldc2 (by decide +kernel : fetch mX2_mix 57 = some (.ldc2_w 13)) (by decide +kernel),
  by intros; exact G_at (by decide +kernel : fetch mX2_mix 60 = some (.ldiv)),
  by intros; exact G_at (by decide +kernel : fetch mX2_mix 61 = some (.lstore 4)),
  by intros; exact G_at (by decide +kernel : fetch mX2_mix 63 = some (.iinc 6 1)),
  by intros; exact G_at (by decide +kernel : fetch mX2_mix 66 = some (.goto (-60))),
  by intros; exact G_retv (by decide +kernel : fetch mX2_mix 69 = some (.return_)) (by decide +kernel),
  by decide +kernel⟩
theorem gX2_tell : (∀ (n d : Nat) (L : List (Option iV)) (st : List iV) (h : iH) (Q : Option iV → iH → Prop), G sp sc [21] d mX2_tell (n + 1) 0 L st h Q = (match ld L 1 with | some (.inl x) => G sp sc [21] d mX2_tell n 1 L (.inl x :: st) h Q | _ => False)) ∧
  (∀ (n d : Nat) (L : List (Option iV)) (a : Int) (r : List iV) (h : iH) (Q : Option iV → iH → Prop), G sp sc [21] d mX2_tell (n + 1) 1 L (.inl a :: r) h Q = (inI a = true ∧ (a < 0 → G sp sc [21] d mX2_tell n 10 L r h Q) ∧ (¬ (a < 0) → G sp sc [21] d mX2_tell n 4 L r h Q))) ∧
  (∀ (n d : Nat) (L : List (Option iV)) (st : List iV) (h : iH) (Q : Option iV → iH → Prop), G sp sc [21] d mX2_tell (n + 1) 4 L st h Q = (match ld L 0 with | some (.inr (.inr (r + 1))) => G sp sc [21] d mX2_tell n 5 L (.inr (.inr (r + 1)) :: st) h Q | _ => False)) ∧
  (∀ (n d : Nat) (L : List (Option iV)) (st : List iV) (h : iH) (Q : Option iV → iH → Prop), G sp sc [21] d mX2_tell (n + 1) 5 L st h Q = (match ld L 1 with | some (.inl x) => G sp sc [21] d mX2_tell n 6 L (.inl x :: st) h Q | _ => False)) ∧
  (∀ (n d : Nat) (L : List (Option iV)) (r : List iV) (m : Nat) (z0 : iV) (h : iH) (Q : Option iV → iH → Prop), G sp sc [21] (d + 1) mX2_tell (n + 1) 6 L (z0 :: .inr (.inr (m + 2)) :: r) h Q = (match h.1[m]? with | some (.inl (ci, _)) => (match lkC 2 15 ci with | some (y1, n1, kd) => (n1 = 1 ∧ (kd = 2 ∨ kd = 3 ∨ kd = 8) ∧ cs r ≤ 8) ∧ Call sp sc d y1 [.inr (.inr (m + 2)), z0] h (fun q h1 => GC sp sc [21] (d + 1) mX2_tell n 9 L q r h h1 Q) | none => False) | _ => False)) ∧
  (∀ (n d : Nat) (L : List (Option iV)) (a : Int) (h : iH) (Q : Option iV → iH → Prop), G sp sc [21] d mX2_tell (n + 1) 9 L [.inl a] h Q = Q (some (.inl a)) h) ∧
  (∀ (n d : Nat) (L : List (Option iV)) (st : List iV) (h : iH) (Q : Option iV → iH → Prop), G sp sc [21] d mX2_tell (n + 1) 10 L st h Q = (match ld L 0 with | some (.inr (.inr (r + 1))) => G sp sc [21] d mX2_tell n 11 L (.inr (.inr (r + 1)) :: st) h Q | _ => False)) ∧
  (∀ (n d : Nat) (L : List (Option iV)) (r : List iV) (m : Nat) (h : iH) (Q : Option iV → iH → Prop), G sp sc [21] d mX2_tell (n + 1) 11 L (.inr (.inr (m + 2)) :: r) h Q = (match h.1[m]? with | some (.inl (ci, fs)) => (match lkF 2 7 ci with | some k => (match fs[k]? with | some v => G sp sc [21] d mX2_tell n 14 L (v :: r) h Q | none => False) | none => False) | _ => False)) ∧
  (∀ (n d : Nat) (L : List (Option iV)) (r : List iV) (m : Nat) (h : iH) (Q : Option iV → iH → Prop), G sp sc [21] d mX2_tell (n + 1) 14 L (.inr (.inr (m + 2)) :: r) h Q = (match h.1[m]? with | some (.inr (.inl (t, xs))) => t < 6 ∧ G sp sc [21] d mX2_tell n 15 L (.inl (xs.length : Int) :: r) h Q | some (.inr (.inr (t, rs))) => t < 6 ∧ G sp sc [21] d mX2_tell n 15 L (.inl (rs.length : Int) :: r) h Q | _ => False)) ∧
  (∀ (n d : Nat) (L : List (Option iV)) (st : List iV) (h : iH) (Q : Option iV → iH → Prop), G sp sc [21] d mX2_tell (n + 1) 15 L st h Q = ((-128 ≤ (9 : Int) ∧ (9 : Int) < 128) ∧ G sp sc [21] d mX2_tell n 17 L (.inl 9 :: st) h Q)) ∧
  (∀ (n d : Nat) (L : List (Option iV)) (a : Int) (b : Int) (r : List iV) (h : iH) (Q : Option iV → iH → Prop), G sp sc [21] d mX2_tell (n + 1) 17 L (.inl b :: .inl a :: r) h Q = G sp sc [21] d mX2_tell n 18 L (.inl (a * b) :: r) h Q) ∧
  (∀ (n d : Nat) (L : List (Option iV)) (st : List iV) (h : iH) (Q : Option iV → iH → Prop), G sp sc [21] d mX2_tell (n + 1) 18 L st h Q = G sp sc [21] d mX2_tell n 19 L (.inl 1 :: st) h Q) ∧
  (∀ (n d : Nat) (L : List (Option iV)) (a : Int) (b : Int) (r : List iV) (h : iH) (Q : Option iV → iH → Prop), G sp sc [21] d mX2_tell (n + 1) 19 L (.inl b :: .inl a :: r) h Q = G sp sc [21] d mX2_tell n 20 L (.inl (a - b) :: r) h Q) ∧
  (∀ (n d : Nat) (L : List (Option iV)) (r : List iV) (x : Int) (h : iH) (Q : Option iV → iH → Prop), G sp sc [21] d mX2_tell (n + 1) 20 L (.inl x :: r) h Q = (match st1 L 2 (.inl x) with | some L' => Run sp sc d mX2_tell 21 L' r h Q | none => False)) ∧
  (∀ (n d : Nat) (L : List (Option iV)) (st : List iV) (h : iH) (Q : Option iV → iH → Prop), G sp sc [21] d mX2_tell (n + 1) 21 L st h Q = (match ld L 2 with | some (.inl x) => G sp sc [21] d mX2_tell n 22 L (.inl x :: st) h Q | _ => False)) ∧
  (∀ (n d : Nat) (L : List (Option iV)) (a : Int) (r : List iV) (h : iH) (Q : Option iV → iH → Prop), G sp sc [21] d mX2_tell (n + 1) 22 L (.inl a :: r) h Q = (inI a = true ∧ (a ≤ 0 → G sp sc [21] d mX2_tell n 39 L r h Q) ∧ (¬ (a ≤ 0) → G sp sc [21] d mX2_tell n 25 L r h Q))) ∧
  (∀ (n d : Nat) (L : List (Option iV)) (st : List iV) (h : iH) (Q : Option iV → iH → Prop), G sp sc [21] d mX2_tell (n + 1) 25 L st h Q = (match ld L 0 with | some (.inr (.inr (r + 1))) => G sp sc [21] d mX2_tell n 26 L (.inr (.inr (r + 1)) :: st) h Q | _ => False)) ∧
  (∀ (n d : Nat) (L : List (Option iV)) (st : List iV) (h : iH) (Q : Option iV → iH → Prop), G sp sc [21] d mX2_tell (n + 1) 26 L st h Q = (match ld L 2 with | some (.inl x) => G sp sc [21] d mX2_tell n 27 L (.inl x :: st) h Q | _ => False)) ∧
  (∀ (n d : Nat) (L : List (Option iV)) (r : List iV) (m : Nat) (z0 : iV) (h : iH) (Q : Option iV → iH → Prop), G sp sc [21] (d + 1) mX2_tell (n + 1) 27 L (z0 :: .inr (.inr (m + 2)) :: r) h Q = (match h.1[m]? with | some (.inl (ci, _)) => (match lkC 2 15 ci with | some (y1, n1, kd) => (n1 = 1 ∧ (kd = 2 ∨ kd = 3 ∨ kd = 8) ∧ cs r ≤ 8) ∧ Call sp sc d y1 [.inr (.inr (m + 2)), z0] h (fun q h1 => GC sp sc [21] (d + 1) mX2_tell n 30 L q r h h1 Q) | none => False) | _ => False)) ∧
  (∀ (n d : Nat) (L : List (Option iV)) (a : Int) (r : List iV) (h : iH) (Q : Option iV → iH → Prop), G sp sc [21] d mX2_tell (n + 1) 30 L (.inl a :: r) h Q = (inI a = true ∧ (¬ a = 0 → G sp sc [21] d mX2_tell n 39 L r h Q) ∧ (¬ (¬ a = 0) → G sp sc [21] d mX2_tell n 33 L r h Q))) ∧
  (∀ (n d : Nat) (L : List (Option iV)) (st : List iV) (h : iH) (Q : Option iV → iH → Prop), G sp sc [21] d mX2_tell (n + 1) 33 L st h Q = (match ld L 2 with | some (.inl x) => (match st1 L 2 (.inl (x + (-1))) with | some L' => G sp sc [21] d mX2_tell n 36 L' st h Q | none => False) | _ => False)) ∧
  (∀ (n d : Nat) (L : List (Option iV)) (st : List iV) (h : iH) (Q : Option iV → iH → Prop), G sp sc [21] d mX2_tell (n + 1) 36 L st h Q = Run sp sc d mX2_tell 21 L st h Q) ∧
  (∀ (n d : Nat) (L : List (Option iV)) (st : List iV) (h : iH) (Q : Option iV → iH → Prop), G sp sc [21] d mX2_tell (n + 1) 39 L st h Q = (match ld L 2 with | some (.inl x) => G sp sc [21] d mX2_tell n 40 L (.inl x :: st) h Q | _ => False)) ∧
  (∀ (n d : Nat) (L : List (Option iV)) (st : List iV) (h : iH) (Q : Option iV → iH → Prop), G sp sc [21] d mX2_tell (n + 1) 40 L st h Q = G sp sc [21] d mX2_tell n 41 L (.inl 1 :: st) h Q) ∧
  (∀ (n d : Nat) (L : List (Option iV)) (a : Int) (b : Int) (r : List iV) (h : iH) (Q : Option iV → iH → Prop), G sp sc [21] d mX2_tell (n + 1) 41 L (.inl b :: .inl a :: r) h Q = G sp sc [21] d mX2_tell n 42 L (.inl (a + b) :: r) h Q) ∧
  (∀ (n d : Nat) (L : List (Option iV)) (a : Int) (h : iH) (Q : Option iV → iH → Prop), G sp sc [21] d mX2_tell (n + 1) 42 L [.inl a] h Q = Q (some (.inl a)) h) ∧
  lkC 2 15 2 = some (mX2_digit, 1, 2) ∧
  lkF 2 7 2 = some 0 := ⟨by intros; exact G_at (by decide +kernel : fetch mX2_tell 0 = some (.iload_n 1)),
  by intros; exact G_at (by decide +kernel : fetch mX2_tell 1 = some (.ifCond .lt 9)),
  by intros; exact G_at (by decide +kernel : fetch mX2_tell 4 = some (.aload_n 0)),
  by intros; exact G_at (by decide +kernel : fetch mX2_tell 5 = some (.iload_n 1)),
  by intros; exact G_callV (by decide +kernel : fetch mX2_tell 6 = some (.invokevirtual 15)) (by decide +kernel) (by decide +kernel) rfl,
  by intros; exact G_reti (by decide +kernel : fetch mX2_tell 9 = some (.ireturn)) (by decide +kernel),
  by intros; exact G_at (by decide +kernel : fetch mX2_tell 10 = some (.aload_n 0)),
  by intros; exact G_own (by decide +kernel : fetch mX2_tell 11 = some (.getfield 7)) (by decide +kernel),
  by intros; exact G_at (by decide +kernel : fetch mX2_tell 14 = some (.arraylength)),
  by intros; exact G_at (by decide +kernel : fetch mX2_tell 15 = some (.bipush 9)),
  by intros; exact G_at (by decide +kernel : fetch mX2_tell 17 = some (.imul)),
  by intros; exact G_at (by decide +kernel : fetch mX2_tell 18 = some (.iconst 1)),
  by intros; exact G_at (by decide +kernel : fetch mX2_tell 19 = some (.isub)),
  by intros; exact G_at (by decide +kernel : fetch mX2_tell 20 = some (.istore_n 2)),
  by intros; exact G_at (by decide +kernel : fetch mX2_tell 21 = some (.iload_n 2)),
  by intros; exact G_at (by decide +kernel : fetch mX2_tell 22 = some (.ifCond .le 17)),
  by intros; exact G_at (by decide +kernel : fetch mX2_tell 25 = some (.aload_n 0)),
  by intros; exact G_at (by decide +kernel : fetch mX2_tell 26 = some (.iload_n 2)),
  by intros; exact G_callV (by decide +kernel : fetch mX2_tell 27 = some (.invokevirtual 15)) (by decide +kernel) (by decide +kernel) rfl,
  by intros; exact G_at (by decide +kernel : fetch mX2_tell 30 = some (.ifCond .ne 9)),
  by intros; exact G_at (by decide +kernel : fetch mX2_tell 33 = some (.iinc 2 (-1))),
  by intros; exact G_at (by decide +kernel : fetch mX2_tell 36 = some (.goto (-15))),
  by intros; exact G_at (by decide +kernel : fetch mX2_tell 39 = some (.iload_n 2)),
  by intros; exact G_at (by decide +kernel : fetch mX2_tell 40 = some (.iconst 1)),
  by intros; exact G_at (by decide +kernel : fetch mX2_tell 41 = some (.iadd)),
  by intros; exact G_reti (by decide +kernel : fetch mX2_tell 42 = some (.ireturn)) (by decide +kernel),
  by decide +kernel,
  by decide +kernel⟩
theorem gX2_digit : (∀ (n d : Nat) (L : List (Option iV)) (st : List iV) (h : iH) (Q : Option iV → iH → Prop), G sp sc [30] d mX2_digit (n + 1) 0 L st h Q = (match ld L 1 with | some (.inl x) => G sp sc [30] d mX2_digit n 1 L (.inl x :: st) h Q | _ => False)) ∧
  (∀ (n d : Nat) (L : List (Option iV)) (st : List iV) (h : iH) (Q : Option iV → iH → Prop), G sp sc [30] d mX2_digit (n + 1) 1 L st h Q = (match ld L 0 with | some (.inr (.inr (r + 1))) => G sp sc [30] d mX2_digit n 2 L (.inr (.inr (r + 1)) :: st) h Q | _ => False)) ∧
  (∀ (n d : Nat) (L : List (Option iV)) (r : List iV) (m : Nat) (h : iH) (Q : Option iV → iH → Prop), G sp sc [30] d mX2_digit (n + 1) 2 L (.inr (.inr (m + 2)) :: r) h Q = (match h.1[m]? with | some (.inl (ci, fs)) => (match lkF 2 7 ci with | some k => (match fs[k]? with | some v => G sp sc [30] d mX2_digit n 5 L (v :: r) h Q | none => False) | none => False) | _ => False)) ∧
  (∀ (n d : Nat) (L : List (Option iV)) (r : List iV) (m : Nat) (h : iH) (Q : Option iV → iH → Prop), G sp sc [30] d mX2_digit (n + 1) 5 L (.inr (.inr (m + 2)) :: r) h Q = (match h.1[m]? with | some (.inr (.inl (t, xs))) => t < 6 ∧ G sp sc [30] d mX2_digit n 6 L (.inl (xs.length : Int) :: r) h Q | some (.inr (.inr (t, rs))) => t < 6 ∧ G sp sc [30] d mX2_digit n 6 L (.inl (rs.length : Int) :: r) h Q | _ => False)) ∧
  (∀ (n d : Nat) (L : List (Option iV)) (st : List iV) (h : iH) (Q : Option iV → iH → Prop), G sp sc [30] d mX2_digit (n + 1) 6 L st h Q = ((-128 ≤ (9 : Int) ∧ (9 : Int) < 128) ∧ G sp sc [30] d mX2_digit n 8 L (.inl 9 :: st) h Q)) ∧
  (∀ (n d : Nat) (L : List (Option iV)) (a : Int) (b : Int) (r : List iV) (h : iH) (Q : Option iV → iH → Prop), G sp sc [30] d mX2_digit (n + 1) 8 L (.inl b :: .inl a :: r) h Q = G sp sc [30] d mX2_digit n 9 L (.inl (a * b) :: r) h Q) ∧
  (∀ (n d : Nat) (L : List (Option iV)) (a : Int) (b : Int) (r : List iV) (h : iH) (Q : Option iV → iH → Prop), G sp sc [30] d mX2_digit (n + 1) 9 L (.inl b :: .inl a :: r) h Q = ((inI a = true ∧ inI b = true) ∧ (a < b → G sp sc [30] d mX2_digit n 14 L r h Q) ∧ (¬ (a < b) → G sp sc [30] d mX2_digit n 12 L r h Q))) ∧
  (∀ (n d : Nat) (L : List (Option iV)) (st : List iV) (h : iH) (Q : Option iV → iH → Prop), G sp sc [30] d mX2_digit (n + 1) 12 L st h Q = G sp sc [30] d mX2_digit n 13 L (.inl 0 :: st) h Q) ∧
  (∀ (n d : Nat) (L : List (Option iV)) (a : Int) (h : iH) (Q : Option iV → iH → Prop), G sp sc [30] d mX2_digit (n + 1) 13 L [.inl a] h Q = Q (some (.inl a)) h) ∧
  (∀ (n d : Nat) (L : List (Option iV)) (st : List iV) (h : iH) (Q : Option iV → iH → Prop), G sp sc [30] d mX2_digit (n + 1) 14 L st h Q = (match ld L 0 with | some (.inr (.inr (r + 1))) => G sp sc [30] d mX2_digit n 15 L (.inr (.inr (r + 1)) :: st) h Q | _ => False)) ∧
  (∀ (n d : Nat) (L : List (Option iV)) (r : List iV) (m : Nat) (h : iH) (Q : Option iV → iH → Prop), G sp sc [30] d mX2_digit (n + 1) 15 L (.inr (.inr (m + 2)) :: r) h Q = (match h.1[m]? with | some (.inl (ci, fs)) => (match lkF 2 7 ci with | some k => (match fs[k]? with | some v => G sp sc [30] d mX2_digit n 18 L (v :: r) h Q | none => False) | none => False) | _ => False)) ∧
  (∀ (n d : Nat) (L : List (Option iV)) (st : List iV) (h : iH) (Q : Option iV → iH → Prop), G sp sc [30] d mX2_digit (n + 1) 18 L st h Q = (match ld L 1 with | some (.inl x) => G sp sc [30] d mX2_digit n 19 L (.inl x :: st) h Q | _ => False)) ∧
  (∀ (n d : Nat) (L : List (Option iV)) (st : List iV) (h : iH) (Q : Option iV → iH → Prop), G sp sc [30] d mX2_digit (n + 1) 19 L st h Q = ((-128 ≤ (9 : Int) ∧ (9 : Int) < 128) ∧ G sp sc [30] d mX2_digit n 21 L (.inl 9 :: st) h Q)) ∧
  (∀ (n d : Nat) (L : List (Option iV)) (a : Int) (b : Int) (r : List iV) (h : iH) (Q : Option iV → iH → Prop), G sp sc [30] d mX2_digit (n + 1) 21 L (.inl b :: .inl a :: r) h Q = ((inI a = true ∧ inI b = true ∧ 0 < b) ∧ G sp sc [30] d mX2_digit n 22 L (.inl (a.tdiv b) :: r) h Q)) ∧
  (∀ (n d : Nat) (L : List (Option iV)) (r : List iV) (j : Int) (m : Nat) (h : iH) (Q : Option iV → iH → Prop), G sp sc [30] d mX2_digit (n + 1) 22 L (.inl j :: .inr (.inr (m + 2)) :: r) h Q = (match h.1[m]? with | some (.inr (.inl (1, xs))) => inA j xs.length = true ∧ G sp sc [30] d mX2_digit n 23 L (.inr (.inl (xs.getD j.toNat 0)) :: r) h Q | _ => False)) ∧
  (∀ (n d : Nat) (L : List (Option iV)) (r : List iV) (x : Int) (h : iH) (Q : Option iV → iH → Prop), G sp sc [30] d mX2_digit (n + 1) 23 L (.inr (.inl x) :: r) h Q = (match st2 L 2 (.inr (.inl x)) with | some L' => G sp sc [30] d mX2_digit n 24 L' r h Q | none => False)) ∧
  (∀ (n d : Nat) (L : List (Option iV)) (st : List iV) (h : iH) (Q : Option iV → iH → Prop), G sp sc [30] d mX2_digit (n + 1) 24 L st h Q = (match ld L 1 with | some (.inl x) => G sp sc [30] d mX2_digit n 25 L (.inl x :: st) h Q | _ => False)) ∧
  (∀ (n d : Nat) (L : List (Option iV)) (st : List iV) (h : iH) (Q : Option iV → iH → Prop), G sp sc [30] d mX2_digit (n + 1) 25 L st h Q = ((-128 ≤ (9 : Int) ∧ (9 : Int) < 128) ∧ G sp sc [30] d mX2_digit n 27 L (.inl 9 :: st) h Q)) ∧
  (∀ (n d : Nat) (L : List (Option iV)) (a : Int) (b : Int) (r : List iV) (h : iH) (Q : Option iV → iH → Prop), G sp sc [30] d mX2_digit (n + 1) 27 L (.inl b :: .inl a :: r) h Q = ((inI a = true ∧ inI b = true ∧ 0 < b) ∧ G sp sc [30] d mX2_digit n 28 L (.inl (a.tmod b) :: r) h Q)) ∧
  (∀ (n d : Nat) (L : List (Option iV)) (r : List iV) (x : Int) (h : iH) (Q : Option iV → iH → Prop), G sp sc [30] d mX2_digit (n + 1) 28 L (.inl x :: r) h Q = (match st1 L 4 (.inl x) with | some L' => Run sp sc d mX2_digit 30 L' r h Q | none => False)) ∧
  (∀ (n d : Nat) (L : List (Option iV)) (st : List iV) (h : iH) (Q : Option iV → iH → Prop), G sp sc [30] d mX2_digit (n + 1) 30 L st h Q = (match ld L 4 with | some (.inl x) => G sp sc [30] d mX2_digit n 32 L (.inl x :: st) h Q | _ => False)) ∧
  (∀ (n d : Nat) (L : List (Option iV)) (a : Int) (r : List iV) (h : iH) (Q : Option iV → iH → Prop), G sp sc [30] d mX2_digit (n + 1) 32 L (.inl a :: r) h Q = (inI a = true ∧ (a ≤ 0 → G sp sc [30] d mX2_digit n 47 L r h Q) ∧ (¬ (a ≤ 0) → G sp sc [30] d mX2_digit n 35 L r h Q))) ∧
  (∀ (n d : Nat) (L : List (Option iV)) (st : List iV) (h : iH) (Q : Option iV → iH → Prop), G sp sc [30] d mX2_digit (n + 1) 35 L st h Q = (match ld L 2 with | some (.inr (.inl x)) => G sp sc [30] d mX2_digit n 36 L (.inr (.inl x) :: st) h Q | _ => False)) ∧
  (∀ (n d : Nat) (L : List (Option iV)) (st : List iV) (h : iH) (Q : Option iV → iH → Prop), G sp sc [30] d mX2_digit (n + 1) 36 L st h Q = G sp sc [30] d mX2_digit n 39 L (.inr (.inl (10)) :: st) h Q) ∧
  (∀ (n d : Nat) (L : List (Option iV)) (a : Int) (b : Int) (r : List iV) (h : iH) (Q : Option iV → iH → Prop), G sp sc [30] d mX2_digit (n + 1) 39 L (.inr (.inl b) :: .inr (.inl a) :: r) h Q = ((inJ a = true ∧ inJ b = true ∧ 0 < b) ∧ G sp sc [30] d mX2_digit n 40 L (.inr (.inl (a.tdiv b)) :: r) h Q)) ∧
  (∀ (n d : Nat) (L : List (Option iV)) (r : List iV) (x : Int) (h : iH) (Q : Option iV → iH → Prop), G sp sc [30] d mX2_digit (n + 1) 40 L (.inr (.inl x) :: r) h Q = (match st2 L 2 (.inr (.inl x)) with | some L' => G sp sc [30] d mX2_digit n 41 L' r h Q | none => False)) ∧
  (∀ (n d : Nat) (L : List (Option iV)) (st : List iV) (h : iH) (Q : Option iV → iH → Prop), G sp sc [30] d mX2_digit (n + 1) 41 L st h Q = (match ld L 4 with | some (.inl x) => (match st1 L 4 (.inl (x + (-1))) with | some L' => G sp sc [30] d mX2_digit n 44 L' st h Q | none => False) | _ => False)) ∧
  (∀ (n d : Nat) (L : List (Option iV)) (st : List iV) (h : iH) (Q : Option iV → iH → Prop), G sp sc [30] d mX2_digit (n + 1) 44 L st h Q = Run sp sc d mX2_digit 30 L st h Q) ∧
  (∀ (n d : Nat) (L : List (Option iV)) (st : List iV) (h : iH) (Q : Option iV → iH → Prop), G sp sc [30] d mX2_digit (n + 1) 47 L st h Q = (match ld L 2 with | some (.inr (.inl x)) => G sp sc [30] d mX2_digit n 48 L (.inr (.inl x) :: st) h Q | _ => False)) ∧
  (∀ (n d : Nat) (L : List (Option iV)) (st : List iV) (h : iH) (Q : Option iV → iH → Prop), G sp sc [30] d mX2_digit (n + 1) 48 L st h Q = G sp sc [30] d mX2_digit n 51 L (.inr (.inl (10)) :: st) h Q) ∧
  (∀ (n d : Nat) (L : List (Option iV)) (a : Int) (b : Int) (r : List iV) (h : iH) (Q : Option iV → iH → Prop), G sp sc [30] d mX2_digit (n + 1) 51 L (.inr (.inl b) :: .inr (.inl a) :: r) h Q = ((inJ a = true ∧ inJ b = true ∧ 0 < b) ∧ G sp sc [30] d mX2_digit n 52 L (.inr (.inl (a.tmod b)) :: r) h Q)) ∧
  (∀ (n d : Nat) (L : List (Option iV)) (a : Int) (r : List iV) (h : iH) (Q : Option iV → iH → Prop), G sp sc [30] d mX2_digit (n + 1) 52 L (.inr (.inl a) :: r) h Q = G sp sc [30] d mX2_digit n 53 L (.inl a :: r) h Q) ∧
  (∀ (n d : Nat) (L : List (Option iV)) (a : Int) (h : iH) (Q : Option iV → iH → Prop), G sp sc [30] d mX2_digit (n + 1) 53 L [.inl a] h Q = Q (some (.inl a)) h) ∧
  lkF 2 7 2 = some 0 := ⟨by intros; exact G_at (by decide +kernel : fetch mX2_digit 0 = some (.iload_n 1)),
  by intros; exact G_at (by decide +kernel : fetch mX2_digit 1 = some (.aload_n 0)),
  by intros; exact G_own (by decide +kernel : fetch mX2_digit 2 = some (.getfield 7)) (by decide +kernel),
  by intros; exact G_at (by decide +kernel : fetch mX2_digit 5 = some (.arraylength)),
  by intros; exact G_at (by decide +kernel : fetch mX2_digit 6 = some (.bipush 9)),
  by intros; exact G_at (by decide +kernel : fetch mX2_digit 8 = some (.imul)),
  by intros; exact G_at (by decide +kernel : fetch mX2_digit 9 = some (.if_icmp .lt 5)),
  by intros; exact G_at (by decide +kernel : fetch mX2_digit 12 = some (.iconst 0)),
  by intros; exact G_reti (by decide +kernel : fetch mX2_digit 13 = some (.ireturn)) (by decide +kernel),
  by intros; exact G_at (by decide +kernel : fetch mX2_digit 14 = some (.aload_n 0)),
  by intros; exact G_own (by decide +kernel : fetch mX2_digit 15 = some (.getfield 7)) (by decide +kernel),
  by intros; exact G_at (by decide +kernel : fetch mX2_digit 18 = some (.iload_n 1)),
  by intros; exact G_at (by decide +kernel : fetch mX2_digit 19 = some (.bipush 9)),
  by intros; exact G_at (by decide +kernel : fetch mX2_digit 21 = some (.idiv)),
  by intros; exact G_at (by decide +kernel : fetch mX2_digit 22 = some (.laload)),
  by intros; exact G_at (by decide +kernel : fetch mX2_digit 23 = some (.lstore_n 2)),
  by intros; exact G_at (by decide +kernel : fetch mX2_digit 24 = some (.iload_n 1)),
  by intros; exact G_at (by decide +kernel : fetch mX2_digit 25 = some (.bipush 9)),
  by intros; exact G_at (by decide +kernel : fetch mX2_digit 27 = some (.irem)),
  by intros; exact G_at (by decide +kernel : fetch mX2_digit 28 = some (.istore 4)),
  by intros; exact G_at (by decide +kernel : fetch mX2_digit 30 = some (.iload 4)),
  by intros; exact G_at (by decide +kernel : fetch mX2_digit 32 = some (.ifCond .le 15)),
  by intros; exact G_at (by decide +kernel : fetch mX2_digit 35 = some (.lload_n 2)),
  by intros; exact G_ldc2 (by decide +kernel : fetch mX2_digit 36 = some (.ldc2_w 19)) (by decide +kernel),
  by intros; exact G_at (by decide +kernel : fetch mX2_digit 39 = some (.ldiv)),
  by intros; exact G_at (by decide +kernel : fetch mX2_digit 40 = some (.lstore_n 2)),
  by intros; exact G_at (by decide +kernel : fetch mX2_digit 41 = some (.iinc 4 (-1))),
  by intros; exact G_at (by decide +kernel : fetch mX2_digit 44 = some (.goto (-14))),
  by intros; exact G_at (by decide +kernel : fetch mX2_digit 47 = some (.lload_n 2)),
  by intros; exact G_ldc2 (by decide +kernel : fetch mX2_digit 48 = some (.ldc2_w 19)) (by decide +kernel),
  by intros; exact G_at (by decide +kernel : fetch mX2_digit 51 = some (.lrem)),
  by intros; exact G_at (by decide +kernel : fetch mX2_digit 52 = some (.l2i)),
  by intros; exact G_reti (by decide +kernel : fetch mX2_digit 53 = some (.ireturn)) (by decide +kernel),
  by decide +kernel⟩
theorem gX3_init : (∀ (n d : Nat) (L : List (Option iV)) (st : List iV) (h : iH) (Q : Option iV → iH → Prop), G sp sc [] d mX3_init (n + 1) 0 L st h Q = (match ld L 0 with | some (.inr (.inr (r + 1))) => G sp sc [] d mX3_init n 1 L (.inr (.inr (r + 1)) :: st) h Q | _ => False)) ∧
  (∀ (n d : Nat) (L : List (Option iV)) (st : List iV) (h : iH) (Q : Option iV → iH → Prop), G sp sc [] d mX3_init (n + 1) 1 L st h Q = (match ld L 1 with | some (.inl x) => G sp sc [] d mX3_init n 2 L (.inl x :: st) h Q | _ => False)) ∧
  (∀ (n d : Nat) (L : List (Option iV)) (r : List iV) (m : Nat) (z0 : iV) (h : iH) (Q : Option iV → iH → Prop), G sp sc [] (d + 1) mX3_init (n + 1) 2 L (z0 :: .inr (.inr (m + 2)) :: r) h Q = (match h.1[m]? with | some (.inl (ci, _)) => cs r ≤ 8 ∧ Call sp sc d mX9_init [.inr (.inr (m + 2)), z0] h (fun q h1 => GC sp sc [] (d + 1) mX3_init n 5 L q r h h1 Q) | _ => False)) ∧
  (∀ (n d : Nat) (L : List (Option iV))  (h : iH) (Q : Option iV → iH → Prop), G sp sc [] d mX3_init (n + 1) 5 L [] h Q = Q none h) := ⟨by intros; exact G_at (by decide +kernel : fetch mX3_init 0 = some (.aload_n 0)),
  by intros; exact G_at (by decide +kernel : fetch mX3_init 1 = some (.iload_n 1)),
  by intros; exact G_callP (k := 1) (kd := 4) (by decide +kernel : fetch mX3_init 2 = some (.invokespecial 1)) (by decide +kernel) (by decide +kernel) rfl (by decide),
  by intros; exact G_retv (by decide +kernel : fetch mX3_init 5 = some (.return_)) (by decide +kernel)⟩
theorem gX3_kind : (∀ (n d : Nat) (L : List (Option iV)) (st : List iV) (h : iH) (Q : Option iV → iH → Prop), G sp sc [] d mX3_kind (n + 1) 0 L st h Q = G sp sc [] d mX3_kind n 1 L (.inl 3 :: st) h Q) ∧
  (∀ (n d : Nat) (L : List (Option iV)) (a : Int) (h : iH) (Q : Option iV → iH → Prop), G sp sc [] d mX3_kind (n + 1) 1 L [.inl a] h Q = Q (some (.inl a)) h) := ⟨by intros; exact G_at (by decide +kernel : fetch mX3_kind 0 = some (.iconst 3)),
  by intros; exact G_reti (by decide +kernel : fetch mX3_kind 1 = some (.ireturn)) (by decide +kernel)⟩
theorem gX3_sulking : (∀ (n d : Nat) (L : List (Option iV)) (st : List iV) (h : iH) (Q : Option iV → iH → Prop), G sp sc [] d mX3_sulking (n + 1) 0 L st h Q = (match ld L 0 with | some (.inr (.inr (r + 1))) => G sp sc [] d mX3_sulking n 1 L (.inr (.inr (r + 1)) :: st) h Q | _ => False)) ∧
  (∀ (n d : Nat) (L : List (Option iV)) (r : List iV) (m : Nat) (h : iH) (Q : Option iV → iH → Prop), G sp sc [] (d + 1) mX3_sulking (n + 1) 1 L (.inr (.inr (m + 2)) :: r) h Q = (match h.1[m]? with | some (.inl (ci, _)) => cs r ≤ 8 ∧ Call sp sc d mX6_sulking [.inr (.inr (m + 2))] h (fun q h1 => GC sp sc [] (d + 1) mX3_sulking n 4 L q r h h1 Q) | _ => False)) ∧
  (∀ (n d : Nat) (L : List (Option iV)) (st : List iV) (h : iH) (Q : Option iV → iH → Prop), G sp sc [] d mX3_sulking (n + 1) 4 L st h Q = (match ld L 0 with | some (.inr (.inr (r + 1))) => G sp sc [] d mX3_sulking n 5 L (.inr (.inr (r + 1)) :: st) h Q | _ => False)) ∧
  (∀ (n d : Nat) (L : List (Option iV)) (r : List iV) (m : Nat) (h : iH) (Q : Option iV → iH → Prop), G sp sc [] d mX3_sulking (n + 1) 5 L (.inr (.inr (m + 2)) :: r) h Q = (match h.1[m]? with | some (.inl (ci, fs)) => (match lkF 3 11 ci with | some k => (match fs[k]? with | some v => G sp sc [] d mX3_sulking n 8 L (v :: r) h Q | none => False) | none => False) | _ => False)) ∧
  (∀ (n d : Nat) (L : List (Option iV)) (a : Int) (b : Int) (r : List iV) (h : iH) (Q : Option iV → iH → Prop), G sp sc [] d mX3_sulking (n + 1) 8 L (.inl b :: .inl a :: r) h Q = G sp sc [] d mX3_sulking n 9 L (.inl (a + b) :: r) h Q) ∧
  (∀ (n d : Nat) (L : List (Option iV)) (a : Int) (h : iH) (Q : Option iV → iH → Prop), G sp sc [] d mX3_sulking (n + 1) 9 L [.inl a] h Q = Q (some (.inl a)) h) ∧
  lkF 3 11 3 = some 0 ∧
  lkF 3 11 7 = some 0 := ⟨by intros; exact G_at (by decide +kernel : fetch mX3_sulking 0 = some (.aload_n 0)),
  by intros; exact G_callP (k := 0) (kd := 7) (by decide +kernel : fetch mX3_sulking 1 = some (.invokespecial 7)) (by decide +kernel) (by decide +kernel) rfl (by decide),
  by intros; exact G_at (by decide +kernel : fetch mX3_sulking 4 = some (.aload_n 0)),
  by intros; exact G_own (by decide +kernel : fetch mX3_sulking 5 = some (.getfield 11)) (by decide +kernel),
  by intros; exact G_at (by decide +kernel : fetch mX3_sulking 8 = some (.iadd)),
  by intros; exact G_reti (by decide +kernel : fetch mX3_sulking 9 = some (.ireturn)) (by decide +kernel),
  by decide +kernel,
  by decide +kernel⟩
theorem gX3_retold : (∀ (n d : Nat) (L : List (Option iV)) (st : List iV) (h : iH) (Q : Option iV → iH → Prop), G sp sc [] d mX3_retold (n + 1) 0 L st h Q = G sp sc [] d mX3_retold n 1 L (.inl 0 :: st) h Q) ∧
  (∀ (n d : Nat) (L : List (Option iV)) (st : List iV) (h : iH) (Q : Option iV → iH → Prop), G sp sc [] d mX3_retold (n + 1) 1 L st h Q = (match ld L 0 with | some (.inr (.inr (r + 1))) => G sp sc [] d mX3_retold n 2 L (.inr (.inr (r + 1)) :: st) h Q | _ => False)) ∧
  (∀ (n d : Nat) (L : List (Option iV)) (st : List iV) (h : iH) (Q : Option iV → iH → Prop), G sp sc [] d mX3_retold (n + 1) 2 L st h Q = (match ld L 1 with | some (.inl x) => G sp sc [] d mX3_retold n 3 L (.inl x :: st) h Q | _ => False)) ∧
  (∀ (n d : Nat) (L : List (Option iV)) (r : List iV) (m : Nat) (z0 : iV) (h : iH) (Q : Option iV → iH → Prop), G sp sc [] (d + 1) mX3_retold (n + 1) 3 L (z0 :: .inr (.inr (m + 2)) :: r) h Q = (match h.1[m]? with | some (.inl (ci, _)) => cs r ≤ 8 ∧ Call sp sc d mX9_retold [.inr (.inr (m + 2)), z0] h (fun q h1 => GC sp sc [] (d + 1) mX3_retold n 6 L q r h h1 Q) | _ => False)) ∧
  (∀ (n d : Nat) (L : List (Option iV)) (st : List iV) (h : iH) (Q : Option iV → iH → Prop), G sp sc [] d mX3_retold (n + 1) 6 L st h Q = (match ld L 0 with | some (.inr (.inr (r + 1))) => G sp sc [] d mX3_retold n 7 L (.inr (.inr (r + 1)) :: st) h Q | _ => False)) ∧
  (∀ (n d : Nat) (L : List (Option iV)) (r : List iV) (m : Nat) (h : iH) (Q : Option iV → iH → Prop), G sp sc [] d mX3_retold (n + 1) 7 L (.inr (.inr (m + 2)) :: r) h Q = (match h.1[m]? with | some (.inl (ci, fs)) => (match lkF 3 11 ci with | some k => (match fs[k]? with | some v => G sp sc [] d mX3_retold n 10 L (v :: r) h Q | none => False) | none => False) | _ => False)) ∧
  (∀ (n d : Nat) (L : List (Option iV)) (a : Int) (b : Int) (r : List iV) (h : iH) (Q : Option iV → iH → Prop), G sp sc [] d mX3_retold (n + 1) 10 L (.inl b :: .inl a :: r) h Q = G sp sc [] d mX3_retold n 11 L (.inl (a - b) :: r) h Q) ∧
  (∀ (n d : Nat) (L : List (Option iV)) (a : Int) (b : Int) (r : List iV) (h : iH) (Q : Option iV → iH → Prop), G sp sc [] (d + 1) mX3_retold (n + 1) 11 L (.inl b :: .inl a :: r) h Q = ((inI a = true ∧ inI b = true ∧ cs r ≤ 8) ∧ G sp sc [] (d + 1) mX3_retold n 14 L (.inl (if a < b then b else a) :: r) h Q)) ∧
  (∀ (n d : Nat) (L : List (Option iV)) (a : Int) (h : iH) (Q : Option iV → iH → Prop), G sp sc [] d mX3_retold (n + 1) 14 L [.inl a] h Q = Q (some (.inl a)) h) ∧
  lkF 3 11 3 = some 0 ∧
  lkF 3 11 7 = some 0 := ⟨by intros; exact G_at (by decide +kernel : fetch mX3_retold 0 = some (.iconst 0)),
  by intros; exact G_at (by decide +kernel : fetch mX3_retold 1 = some (.aload_n 0)),
  by intros; exact G_at (by decide +kernel : fetch mX3_retold 2 = some (.iload_n 1)),
  by intros; exact G_callP (k := 1) (kd := 6) (by decide +kernel : fetch mX3_retold 3 = some (.invokespecial 17)) (by decide +kernel) (by decide +kernel) rfl (by decide),
  by intros; exact G_at (by decide +kernel : fetch mX3_retold 6 = some (.aload_n 0)),
  by intros; exact G_own (by decide +kernel : fetch mX3_retold 7 = some (.getfield 11)) (by decide +kernel),
  by intros; exact G_at (by decide +kernel : fetch mX3_retold 10 = some (.isub)),
  by intros; exact G_m1 (by decide +kernel : fetch mX3_retold 11 = some (.invokestatic 21)) (by decide +kernel),
  by intros; exact G_reti (by decide +kernel : fetch mX3_retold 14 = some (.ireturn)) (by decide +kernel),
  by decide +kernel,
  by decide +kernel⟩
theorem gX3_price : (∀ (n d : Nat) (L : List (Option iV)) (st : List iV) (h : iH) (Q : Option iV → iH → Prop), G sp sc [] d mX3_price (n + 1) 0 L st h Q = (match ld L 0 with | some (.inr (.inr (r + 1))) => G sp sc [] d mX3_price n 1 L (.inr (.inr (r + 1)) :: st) h Q | _ => False)) ∧
  (∀ (n d : Nat) (L : List (Option iV)) (r : List iV) (m : Nat) (h : iH) (Q : Option iV → iH → Prop), G sp sc [] (d + 1) mX3_price (n + 1) 1 L (.inr (.inr (m + 2)) :: r) h Q = (match h.1[m]? with | some (.inl (ci, _)) => cs r ≤ 8 ∧ Call sp sc d mX9_price [.inr (.inr (m + 2))] h (fun q h1 => GC sp sc [] (d + 1) mX3_price n 4 L q r h h1 Q) | _ => False)) ∧
  (∀ (n d : Nat) (L : List (Option iV)) (st : List iV) (h : iH) (Q : Option iV → iH → Prop), G sp sc [] d mX3_price (n + 1) 4 L st h Q = (match ld L 0 with | some (.inr (.inr (r + 1))) => G sp sc [] d mX3_price n 5 L (.inr (.inr (r + 1)) :: st) h Q | _ => False)) ∧
  (∀ (n d : Nat) (L : List (Option iV)) (r : List iV) (m : Nat) (h : iH) (Q : Option iV → iH → Prop), G sp sc [] (d + 1) mX3_price (n + 1) 5 L (.inr (.inr (m + 2)) :: r) h Q = (match h.1[m]? with | some (.inl (ci, _)) => (match lkC 3 30 ci with | some (y1, n1, kd) => (n1 = 0 ∧ (kd = 2 ∨ kd = 3 ∨ kd = 8) ∧ cs r ≤ 8) ∧ Call sp sc d y1 [.inr (.inr (m + 2))] h (fun q h1 => GC sp sc [] (d + 1) mX3_price n 8 L q r h h1 Q) | none => False) | _ => False)) ∧
  (∀ (n d : Nat) (L : List (Option iV)) (a : Int) (b : Int) (r : List iV) (h : iH) (Q : Option iV → iH → Prop), G sp sc [] d mX3_price (n + 1) 8 L (.inl b :: .inl a :: r) h Q = G sp sc [] d mX3_price n 9 L (.inl (a + b) :: r) h Q) ∧
  (∀ (n d : Nat) (L : List (Option iV)) (a : Int) (h : iH) (Q : Option iV → iH → Prop), G sp sc [] d mX3_price (n + 1) 9 L [.inl a] h Q = Q (some (.inl a)) h) ∧
  lkC 3 30 3 = some (mX3_sulking, 0, 2) ∧
  lkC 3 30 7 = some (mX7_sulking, 0, 3) := ⟨by intros; exact G_at (by decide +kernel : fetch mX3_price 0 = some (.aload_n 0)),
  by intros; exact G_callP (k := 0) (kd := 6) (by decide +kernel : fetch mX3_price 1 = some (.invokespecial 27)) (by decide +kernel) (by decide +kernel) rfl (by decide),
  by intros; exact G_at (by decide +kernel : fetch mX3_price 4 = some (.aload_n 0)),
  by intros; exact G_callV (by decide +kernel : fetch mX3_price 5 = some (.invokevirtual 30)) (by decide +kernel) (by decide +kernel) rfl,
  by intros; exact G_at (by decide +kernel : fetch mX3_price 8 = some (.iadd)),
  by intros; exact G_reti (by decide +kernel : fetch mX3_price 9 = some (.ireturn)) (by decide +kernel),
  by decide +kernel,
  by decide +kernel⟩
theorem gX3_fail : (∀ (n d : Nat) (L : List (Option iV)) (st : List iV) (h : iH) (Q : Option iV → iH → Prop), G sp sc [] d mX3_fail (n + 1) 0 L st h Q = (match ld L 0 with | some (.inr (.inr (r + 1))) => G sp sc [] d mX3_fail n 1 L (.inr (.inr (r + 1)) :: st) h Q | _ => False)) ∧
  (∀ (n d : Nat) (L : List (Option iV)) (r : List iV) (m : Nat) (h : iH) (Q : Option iV → iH → Prop), G sp sc [] d mX3_fail (n + 1) 1 L (.inr (.inr (m + 2)) :: r) h Q = (match h.1[m]? with | some (.inl (ci, fs)) => (match lkF 3 11 ci with | some k => (match fs[k]? with | some v => G sp sc [] d mX3_fail n 4 L (v :: r) h Q | none => False) | none => False) | _ => False)) ∧
  (∀ (n d : Nat) (L : List (Option iV)) (a : Int) (r : List iV) (h : iH) (Q : Option iV → iH → Prop), G sp sc [] d mX3_fail (n + 1) 4 L (.inl a :: r) h Q = (inI a = true ∧ (a = 0 → G sp sc [] d mX3_fail n 17 L r h Q) ∧ (¬ (a = 0) → G sp sc [] d mX3_fail n 7 L r h Q))) ∧
  (∀ (n d : Nat) (L : List (Option iV)) (a : Int) (r : List iV) (h : iH) (Q : Option iV → iH → Prop), G sp sc [] d mX3_fail (n + 1) 10 L (.inl a :: r) h Q = G sp sc [] d mX3_fail n 11 L (.inl a :: .inl a :: r) h Q) ∧
  (∀ (n d : Nat) (L : List (Option iV)) (a : Nat) (r : List iV) (h : iH) (Q : Option iV → iH → Prop), G sp sc [] d mX3_fail (n + 1) 10 L (.inr (.inr a) :: r) h Q = G sp sc [] d mX3_fail n 11 L (.inr (.inr a) :: .inr (.inr a) :: r) h Q) ∧
  (∀ (n d : Nat) (L : List (Option iV))  (h : iH) (Q : Option iV → iH → Prop), G sp sc [] d mX3_fail (n + 1) 17 L [] h Q = Q none h) ∧
  lkF 3 11 3 = some 0 ∧
  lkF 3 11 7 = some 0 := ⟨by intros; exact G_at (by decide +kernel : fetch mX3_fail 0 = some (.aload_n 0)),
  by intros; exact G_own (by decide +kernel : fetch mX3_fail 1 = some (.getfield 11)) (by decide +kernel),
  by intros; exact G_at (by decide +kernel : fetch mX3_fail 4 = some (.ifCond .eq 13)),
  by intros; exact G_at (by decide +kernel : fetch mX3_fail 10 = some (.dup)),
  by intros; exact G_at (by decide +kernel : fetch mX3_fail 10 = some (.dup)),
  by intros; exact G_retv (by decide +kernel : fetch mX3_fail 17 = some (.return_)) (by decide +kernel),
  by decide +kernel,
  by decide +kernel⟩
theorem gX5_init : (∀ (n d : Nat) (L : List (Option iV)) (st : List iV) (h : iH) (Q : Option iV → iH → Prop), G sp sc [] d mX5_init (n + 1) 0 L st h Q = (match ld L 0 with | some (.inr (.inr (r + 1))) => G sp sc [] d mX5_init n 1 L (.inr (.inr (r + 1)) :: st) h Q | _ => False)) ∧
  (∀ (n d : Nat) (L : List (Option iV)) (r : List iV) (m : Nat) (h : iH) (Q : Option iV → iH → Prop), G sp sc [] (d + 1) mX5_init (n + 1) 1 L (.inr (.inr (m + 2)) :: r) h Q = (cs r ≤ 8 ∧ G sp sc [] (d + 1) mX5_init n 4 L r h Q)) ∧
  (∀ (n d : Nat) (L : List (Option iV)) (st : List iV) (h : iH) (Q : Option iV → iH → Prop), G sp sc [] d mX5_init (n + 1) 4 L st h Q = (match ld L 0 with | some (.inr (.inr (r + 1))) => G sp sc [] d mX5_init n 5 L (.inr (.inr (r + 1)) :: st) h Q | _ => False)) ∧
  (∀ (n d : Nat) (L : List (Option iV)) (st : List iV) (h : iH) (Q : Option iV → iH → Prop), G sp sc [] d mX5_init (n + 1) 5 L st h Q = G sp sc [] d mX5_init n 6 L (.inl 0 :: st) h Q) ∧
  (∀ (n d : Nat) (L : List (Option iV)) (r : List iV) (v : iV) (m : Nat) (h : iH) (Q : Option iV → iH → Prop), G sp sc [] d mX5_init (n + 1) 6 L (v :: .inr (.inr (m + 2)) :: r) h Q = (match h.1[m]? with | some (.inl (ci, fs)) => (match lkF 5 9 ci with | some k => (fitV (tyT ci k) v = true ∧ k < fs.length ∧ pOK 5 true ci k = true) ∧ G sp sc [] d mX5_init n 9 L r (h.1.set m (.inl (ci, fs.set k v)), h.2) Q | none => False) | _ => False)) ∧
  (∀ (n d : Nat) (L : List (Option iV)) (st : List iV) (h : iH) (Q : Option iV → iH → Prop), G sp sc [] d mX5_init (n + 1) 9 L st h Q = (match ld L 0 with | some (.inr (.inr (r + 1))) => G sp sc [] d mX5_init n 10 L (.inr (.inr (r + 1)) :: st) h Q | _ => False)) ∧
  (∀ (n d : Nat) (L : List (Option iV)) (st : List iV) (h : iH) (Q : Option iV → iH → Prop), G sp sc [] d mX5_init (n + 1) 10 L st h Q = G sp sc [] d mX5_init n 11 L (.inl 0 :: st) h Q) ∧
  (∀ (n d : Nat) (L : List (Option iV)) (r : List iV) (v : iV) (m : Nat) (h : iH) (Q : Option iV → iH → Prop), G sp sc [] d mX5_init (n + 1) 13 L (v :: .inr (.inr (m + 2)) :: r) h Q = (match h.1[m]? with | some (.inl (ci, fs)) => (match lkF 5 15 ci with | some k => (fitV (tyT ci k) v = true ∧ k < fs.length ∧ pOK 5 true ci k = true) ∧ G sp sc [] d mX5_init n 16 L r (h.1.set m (.inl (ci, fs.set k v)), h.2) Q | none => False) | _ => False)) ∧
  (∀ (n d : Nat) (L : List (Option iV)) (st : List iV) (h : iH) (Q : Option iV → iH → Prop), G sp sc [] d mX5_init (n + 1) 16 L st h Q = (match ld L 0 with | some (.inr (.inr (r + 1))) => G sp sc [] d mX5_init n 17 L (.inr (.inr (r + 1)) :: st) h Q | _ => False)) ∧
  (∀ (n d : Nat) (L : List (Option iV)) (st : List iV) (h : iH) (Q : Option iV → iH → Prop), G sp sc [] d mX5_init (n + 1) 17 L st h Q = (match ld L 1 with | some (.inr (.inr (r + 1))) => G sp sc [] d mX5_init n 18 L (.inr (.inr (r + 1)) :: st) h Q | _ => False)) ∧
  (∀ (n d : Nat) (L : List (Option iV)) (r : List iV) (v : iV) (m : Nat) (h : iH) (Q : Option iV → iH → Prop), G sp sc [] d mX5_init (n + 1) 18 L (v :: .inr (.inr (m + 2)) :: r) h Q = (match h.1[m]? with | some (.inl (ci, fs)) => (match lkF 5 19 ci with | some k => (fitV (tyT ci k) v = true ∧ k < fs.length ∧ pOK 5 true ci k = true) ∧ G sp sc [] d mX5_init n 21 L r (h.1.set m (.inl (ci, fs.set k v)), h.2) Q | none => False) | _ => False)) ∧
  (∀ (n d : Nat) (L : List (Option iV))  (h : iH) (Q : Option iV → iH → Prop), G sp sc [] d mX5_init (n + 1) 21 L [] h Q = Q none h) ∧
  lkF 5 15 5 = some 4 ∧
  lkF 5 19 5 = some 1 ∧
  lkF 5 9 5 = some 0 ∧
  pOK 5 true 5 0 = true ∧
  pOK 5 true 5 1 = true ∧
  pOK 5 true 5 4 = true := ⟨by intros; exact G_at (by decide +kernel : fetch mX5_init 0 = some (.aload_n 0)),
  by intros; exact G_obj (by decide +kernel : fetch mX5_init 1 = some (.invokespecial 3)) (by decide +kernel),
  by intros; exact G_at (by decide +kernel : fetch mX5_init 4 = some (.aload_n 0)),
  by intros; exact G_at (by decide +kernel : fetch mX5_init 5 = some (.iconst 0)),
  by intros; exact G_ownW (by decide +kernel : fetch mX5_init 6 = some (.putfield 9)) (by decide +kernel) (by decide +kernel),
  by intros; exact G_at (by decide +kernel : fetch mX5_init 9 = some (.aload_n 0)),
  by intros; exact G_at (by decide +kernel : fetch mX5_init 10 = some (.iconst 0)),
  by intros; exact G_ownW (by decide +kernel : fetch mX5_init 13 = some (.putfield 15)) (by decide +kernel) (by decide +kernel),
  by intros; exact G_at (by decide +kernel : fetch mX5_init 16 = some (.aload_n 0)),
  by intros; exact G_at (by decide +kernel : fetch mX5_init 17 = some (.aload_n 1)),
  by intros; exact G_ownW (by decide +kernel : fetch mX5_init 18 = some (.putfield 19)) (by decide +kernel) (by decide +kernel),
  by intros; exact G_retv (by decide +kernel : fetch mX5_init 21 = some (.return_)) (by decide +kernel),
  by decide +kernel,
  by decide +kernel,
  by decide +kernel,
  by decide +kernel,
  by decide +kernel,
  by decide +kernel⟩
theorem gX5_holdNature : (∀ (n d : Nat) (L : List (Option iV)) (st : List iV) (h : iH) (Q : Option iV → iH → Prop), G sp sc [] d mX5_holdNature (n + 1) 0 L st h Q = (match ld L 0 with | some (.inr (.inr (r + 1))) => G sp sc [] d mX5_holdNature n 1 L (.inr (.inr (r + 1)) :: st) h Q | _ => False)) ∧
  (∀ (n d : Nat) (L : List (Option iV)) (st : List iV) (h : iH) (Q : Option iV → iH → Prop), G sp sc [] d mX5_holdNature (n + 1) 1 L st h Q = G sp sc [] d mX5_holdNature n 2 L (.inl 1 :: st) h Q) ∧
  (∀ (n d : Nat) (L : List (Option iV)) (r : List iV) (v : iV) (m : Nat) (h : iH) (Q : Option iV → iH → Prop), G sp sc [] d mX5_holdNature (n + 1) 2 L (v :: .inr (.inr (m + 2)) :: r) h Q = (match h.1[m]? with | some (.inl (ci, fs)) => (match lkF 5 9 ci with | some k => (fitV (tyT ci k) v = true ∧ k < fs.length ∧ pOK 5 false ci k = true) ∧ G sp sc [] d mX5_holdNature n 5 L r (h.1.set m (.inl (ci, fs.set k v)), h.2) Q | none => False) | _ => False)) ∧
  (∀ (n d : Nat) (L : List (Option iV)) (st : List iV) (h : iH) (Q : Option iV → iH → Prop), G sp sc [] d mX5_holdNature (n + 1) 5 L st h Q = (match ld L 0 with | some (.inr (.inr (r + 1))) => G sp sc [] d mX5_holdNature n 6 L (.inr (.inr (r + 1)) :: st) h Q | _ => False)) ∧
  (∀ (n d : Nat) (L : List (Option iV)) (st : List iV) (h : iH) (Q : Option iV → iH → Prop), G sp sc [] d mX5_holdNature (n + 1) 6 L st h Q = (match ld L 1 with | some (.inr (.inr (r + 1))) => G sp sc [] d mX5_holdNature n 7 L (.inr (.inr (r + 1)) :: st) h Q | _ => False)) ∧
  (∀ (n d : Nat) (L : List (Option iV)) (r : List iV) (v : iV) (m : Nat) (h : iH) (Q : Option iV → iH → Prop), G sp sc [] d mX5_holdNature (n + 1) 7 L (v :: .inr (.inr (m + 2)) :: r) h Q = (match h.1[m]? with | some (.inl (ci, fs)) => (match lkF 5 19 ci with | some k => (fitV (tyT ci k) v = true ∧ k < fs.length ∧ pOK 5 false ci k = true) ∧ G sp sc [] d mX5_holdNature n 10 L r (h.1.set m (.inl (ci, fs.set k v)), h.2) Q | none => False) | _ => False)) ∧
  (∀ (n d : Nat) (L : List (Option iV))  (h : iH) (Q : Option iV → iH → Prop), G sp sc [] d mX5_holdNature (n + 1) 10 L [] h Q = Q none h) ∧
  lkF 5 19 5 = some 1 ∧
  lkF 5 9 5 = some 0 ∧
  pOK 5 false 5 0 = true ∧
  pOK 5 false 5 1 = true := ⟨by intros; exact G_at (by decide +kernel : fetch mX5_holdNature 0 = some (.aload_n 0)),
  by intros; exact G_at (by decide +kernel : fetch mX5_holdNature 1 = some (.iconst 1)),
  by intros; exact G_ownW (by decide +kernel : fetch mX5_holdNature 2 = some (.putfield 9)) (by decide +kernel) (by decide +kernel),
  by intros; exact G_at (by decide +kernel : fetch mX5_holdNature 5 = some (.aload_n 0)),
  by intros; exact G_at (by decide +kernel : fetch mX5_holdNature 6 = some (.aload_n 1)),
  by intros; exact G_ownW (by decide +kernel : fetch mX5_holdNature 7 = some (.putfield 19)) (by decide +kernel) (by decide +kernel),
  by intros; exact G_retv (by decide +kernel : fetch mX5_holdNature 10 = some (.return_)) (by decide +kernel),
  by decide +kernel,
  by decide +kernel,
  by decide +kernel,
  by decide +kernel⟩
theorem gX5_holdRow : (∀ (n d : Nat) (L : List (Option iV)) (st : List iV) (h : iH) (Q : Option iV → iH → Prop), G sp sc [34] d mX5_holdRow (n + 1) 0 L st h Q = (match ld L 0 with | some (.inr (.inr (r + 1))) => G sp sc [34] d mX5_holdRow n 1 L (.inr (.inr (r + 1)) :: st) h Q | _ => False)) ∧
  (∀ (n d : Nat) (L : List (Option iV)) (r : List iV) (m : Nat) (h : iH) (Q : Option iV → iH → Prop), G sp sc [34] d mX5_holdRow (n + 1) 1 L (.inr (.inr (m + 2)) :: r) h Q = (match h.1[m]? with | some (.inl (ci, fs)) => (match lkF 5 15 ci with | some k => (match fs[k]? with | some v => G sp sc [34] d mX5_holdRow n 4 L (v :: r) h Q | none => False) | none => False) | _ => False)) ∧
  (∀ (n d : Nat) (L : List (Option iV)) (r : List iV) (m : Nat) (h : iH) (Q : Option iV → iH → Prop), G sp sc [34] d mX5_holdRow (n + 1) 4 L (.inr (.inr (m + 2)) :: r) h Q = (match h.1[m]? with | some (.inr (.inl (t, xs))) => t < 6 ∧ G sp sc [34] d mX5_holdRow n 5 L (.inl (xs.length : Int) :: r) h Q | some (.inr (.inr (t, rs))) => t < 6 ∧ G sp sc [34] d mX5_holdRow n 5 L (.inl (rs.length : Int) :: r) h Q | _ => False)) ∧
  (∀ (n d : Nat) (L : List (Option iV)) (st : List iV) (h : iH) (Q : Option iV → iH → Prop), G sp sc [34] d mX5_holdRow (n + 1) 5 L st h Q = (match ld L 2 with | some (.inl x) => G sp sc [34] d mX5_holdRow n 6 L (.inl x :: st) h Q | _ => False)) ∧
  (∀ (n d : Nat) (L : List (Option iV)) (a : Int) (b : Int) (r : List iV) (h : iH) (Q : Option iV → iH → Prop), G sp sc [34] d mX5_holdRow (n + 1) 6 L (.inl b :: .inl a :: r) h Q = ((inI a = true ∧ inI b = true) ∧ (b ≤ a → G sp sc [34] d mX5_holdRow n 17 L r h Q) ∧ (¬ (b ≤ a) → G sp sc [34] d mX5_holdRow n 9 L r h Q))) ∧
  (∀ (n d : Nat) (L : List (Option iV)) (st : List iV) (h : iH) (Q : Option iV → iH → Prop), G sp sc [34] d mX5_holdRow (n + 1) 9 L st h Q = (match ld L 0 with | some (.inr (.inr (r + 1))) => G sp sc [34] d mX5_holdRow n 10 L (.inr (.inr (r + 1)) :: st) h Q | _ => False)) ∧
  (∀ (n d : Nat) (L : List (Option iV)) (st : List iV) (h : iH) (Q : Option iV → iH → Prop), G sp sc [34] d mX5_holdRow (n + 1) 10 L st h Q = ((-128 ≤ (100 : Int) ∧ (100 : Int) < 128) ∧ G sp sc [34] d mX5_holdRow n 12 L (.inl 100 :: st) h Q)) ∧
  (∀ (n d : Nat) (L : List (Option iV)) (r : List iV) (v : iV) (m : Nat) (h : iH) (Q : Option iV → iH → Prop), G sp sc [34] d mX5_holdRow (n + 1) 14 L (v :: .inr (.inr (m + 2)) :: r) h Q = (match h.1[m]? with | some (.inl (ci, fs)) => (match lkF 5 15 ci with | some k => (fitV (tyT ci k) v = true ∧ k < fs.length ∧ pOK 5 false ci k = true) ∧ G sp sc [34] d mX5_holdRow n 17 L r (h.1.set m (.inl (ci, fs.set k v)), h.2) Q | none => False) | _ => False)) ∧
  (∀ (n d : Nat) (L : List (Option iV)) (st : List iV) (h : iH) (Q : Option iV → iH → Prop), G sp sc [34] d mX5_holdRow (n + 1) 17 L st h Q = (match ld L 0 with | some (.inr (.inr (r + 1))) => G sp sc [34] d mX5_holdRow n 18 L (.inr (.inr (r + 1)) :: st) h Q | _ => False)) ∧
  (∀ (n d : Nat) (L : List (Option iV)) (st : List iV) (h : iH) (Q : Option iV → iH → Prop), G sp sc [34] d mX5_holdRow (n + 1) 18 L st h Q = G sp sc [34] d mX5_holdRow n 19 L (.inl 2 :: st) h Q) ∧
  (∀ (n d : Nat) (L : List (Option iV)) (r : List iV) (v : iV) (m : Nat) (h : iH) (Q : Option iV → iH → Prop), G sp sc [34] d mX5_holdRow (n + 1) 19 L (v :: .inr (.inr (m + 2)) :: r) h Q = (match h.1[m]? with | some (.inl (ci, fs)) => (match lkF 5 9 ci with | some k => (fitV (tyT ci k) v = true ∧ k < fs.length ∧ pOK 5 false ci k = true) ∧ G sp sc [34] d mX5_holdRow n 22 L r (h.1.set m (.inl (ci, fs.set k v)), h.2) Q | none => False) | _ => False)) ∧
  (∀ (n d : Nat) (L : List (Option iV)) (st : List iV) (h : iH) (Q : Option iV → iH → Prop), G sp sc [34] d mX5_holdRow (n + 1) 22 L st h Q = (match ld L 0 with | some (.inr (.inr (r + 1))) => G sp sc [34] d mX5_holdRow n 23 L (.inr (.inr (r + 1)) :: st) h Q | _ => False)) ∧
  (∀ (n d : Nat) (L : List (Option iV)) (st : List iV) (h : iH) (Q : Option iV → iH → Prop), G sp sc [34] d mX5_holdRow (n + 1) 23 L st h Q = (match ld L 1 with | some (.inl x) => G sp sc [34] d mX5_holdRow n 24 L (.inl x :: st) h Q | _ => False)) ∧
  (∀ (n d : Nat) (L : List (Option iV)) (r : List iV) (v : iV) (m : Nat) (h : iH) (Q : Option iV → iH → Prop), G sp sc [34] d mX5_holdRow (n + 1) 24 L (v :: .inr (.inr (m + 2)) :: r) h Q = (match h.1[m]? with | some (.inl (ci, fs)) => (match lkF 5 23 ci with | some k => (fitV (tyT ci k) v = true ∧ k < fs.length ∧ pOK 5 false ci k = true) ∧ G sp sc [34] d mX5_holdRow n 27 L r (h.1.set m (.inl (ci, fs.set k v)), h.2) Q | none => False) | _ => False)) ∧
  (∀ (n d : Nat) (L : List (Option iV)) (st : List iV) (h : iH) (Q : Option iV → iH → Prop), G sp sc [34] d mX5_holdRow (n + 1) 27 L st h Q = (match ld L 0 with | some (.inr (.inr (r + 1))) => G sp sc [34] d mX5_holdRow n 28 L (.inr (.inr (r + 1)) :: st) h Q | _ => False)) ∧
  (∀ (n d : Nat) (L : List (Option iV)) (st : List iV) (h : iH) (Q : Option iV → iH → Prop), G sp sc [34] d mX5_holdRow (n + 1) 28 L st h Q = (match ld L 2 with | some (.inl x) => G sp sc [34] d mX5_holdRow n 29 L (.inl x :: st) h Q | _ => False)) ∧
  (∀ (n d : Nat) (L : List (Option iV)) (r : List iV) (v : iV) (m : Nat) (h : iH) (Q : Option iV → iH → Prop), G sp sc [34] d mX5_holdRow (n + 1) 29 L (v :: .inr (.inr (m + 2)) :: r) h Q = (match h.1[m]? with | some (.inl (ci, fs)) => (match lkF 5 26 ci with | some k => (fitV (tyT ci k) v = true ∧ k < fs.length ∧ pOK 5 false ci k = true) ∧ G sp sc [34] d mX5_holdRow n 32 L r (h.1.set m (.inl (ci, fs.set k v)), h.2) Q | none => False) | _ => False)) ∧
  (∀ (n d : Nat) (L : List (Option iV)) (st : List iV) (h : iH) (Q : Option iV → iH → Prop), G sp sc [34] d mX5_holdRow (n + 1) 32 L st h Q = G sp sc [34] d mX5_holdRow n 33 L (.inl 0 :: st) h Q) ∧
  (∀ (n d : Nat) (L : List (Option iV)) (r : List iV) (x : Int) (h : iH) (Q : Option iV → iH → Prop), G sp sc [34] d mX5_holdRow (n + 1) 33 L (.inl x :: r) h Q = (match st1 L 3 (.inl x) with | some L' => Run sp sc d mX5_holdRow 34 L' r h Q | none => False)) ∧
  (∀ (n d : Nat) (L : List (Option iV)) (st : List iV) (h : iH) (Q : Option iV → iH → Prop), G sp sc [34] d mX5_holdRow (n + 1) 34 L st h Q = (match ld L 3 with | some (.inl x) => G sp sc [34] d mX5_holdRow n 35 L (.inl x :: st) h Q | _ => False)) ∧
  (∀ (n d : Nat) (L : List (Option iV)) (st : List iV) (h : iH) (Q : Option iV → iH → Prop), G sp sc [34] d mX5_holdRow (n + 1) 35 L st h Q = (match ld L 2 with | some (.inl x) => G sp sc [34] d mX5_holdRow n 36 L (.inl x :: st) h Q | _ => False)) ∧
  (∀ (n d : Nat) (L : List (Option iV)) (a : Int) (b : Int) (r : List iV) (h : iH) (Q : Option iV → iH → Prop), G sp sc [34] d mX5_holdRow (n + 1) 36 L (.inl b :: .inl a :: r) h Q = ((inI a = true ∧ inI b = true) ∧ (b ≤ a → G sp sc [34] d mX5_holdRow n 52 L r h Q) ∧ (¬ (b ≤ a) → G sp sc [34] d mX5_holdRow n 39 L r h Q))) ∧
  (∀ (n d : Nat) (L : List (Option iV)) (st : List iV) (h : iH) (Q : Option iV → iH → Prop), G sp sc [34] d mX5_holdRow (n + 1) 39 L st h Q = (match ld L 0 with | some (.inr (.inr (r + 1))) => G sp sc [34] d mX5_holdRow n 40 L (.inr (.inr (r + 1)) :: st) h Q | _ => False)) ∧
  (∀ (n d : Nat) (L : List (Option iV)) (r : List iV) (m : Nat) (h : iH) (Q : Option iV → iH → Prop), G sp sc [34] d mX5_holdRow (n + 1) 40 L (.inr (.inr (m + 2)) :: r) h Q = (match h.1[m]? with | some (.inl (ci, fs)) => (match lkF 5 15 ci with | some k => (match fs[k]? with | some v => G sp sc [34] d mX5_holdRow n 43 L (v :: r) h Q | none => False) | none => False) | _ => False)) ∧
  (∀ (n d : Nat) (L : List (Option iV)) (st : List iV) (h : iH) (Q : Option iV → iH → Prop), G sp sc [34] d mX5_holdRow (n + 1) 43 L st h Q = (match ld L 3 with | some (.inl x) => G sp sc [34] d mX5_holdRow n 44 L (.inl x :: st) h Q | _ => False)) ∧
  (∀ (n d : Nat) (L : List (Option iV)) (st : List iV) (h : iH) (Q : Option iV → iH → Prop), G sp sc [34] d mX5_holdRow (n + 1) 44 L st h Q = G sp sc [34] d mX5_holdRow n 45 L (.inr (.inl ((0 : Fin 2).val : Int)) :: st) h Q) ∧
  (∀ (n d : Nat) (L : List (Option iV)) (r : List iV) (v : Int) (j : Int) (m : Nat) (h : iH) (Q : Option iV → iH → Prop), G sp sc [34] d mX5_holdRow (n + 1) 45 L (.inr (.inl v) :: .inl j :: .inr (.inr (m + 2)) :: r) h Q = (match h.1[m]? with | some (.inr (.inl (1, xs))) => inA j xs.length = true ∧ G sp sc [34] d mX5_holdRow n 46 L r (h.1.set m (.inr (.inl (1, xs.set j.toNat v))), h.2) Q | _ => False)) ∧
  (∀ (n d : Nat) (L : List (Option iV)) (st : List iV) (h : iH) (Q : Option iV → iH → Prop), G sp sc [34] d mX5_holdRow (n + 1) 46 L st h Q = (match ld L 3 with | some (.inl x) => (match st1 L 3 (.inl (x + 1)) with | some L' => G sp sc [34] d mX5_holdRow n 49 L' st h Q | none => False) | _ => False)) ∧
  (∀ (n d : Nat) (L : List (Option iV)) (st : List iV) (h : iH) (Q : Option iV → iH → Prop), G sp sc [34] d mX5_holdRow (n + 1) 49 L st h Q = Run sp sc d mX5_holdRow 34 L st h Q) ∧
  (∀ (n d : Nat) (L : List (Option iV))  (h : iH) (Q : Option iV → iH → Prop), G sp sc [34] d mX5_holdRow (n + 1) 52 L [] h Q = Q none h) ∧
  lkF 5 15 5 = some 4 ∧
  lkF 5 23 5 = some 2 ∧
  lkF 5 26 5 = some 3 ∧
  lkF 5 9 5 = some 0 ∧
  pOK 5 false 5 0 = true ∧
  pOK 5 false 5 2 = true ∧
  pOK 5 false 5 3 = true ∧
  pOK 5 false 5 4 = true := ⟨by intros; exact G_at (by decide +kernel : fetch mX5_holdRow 0 = some (.aload_n 0)),
  by intros; exact G_own (by decide +kernel : fetch mX5_holdRow 1 = some (.getfield 15)) (by decide +kernel),
  by intros; exact G_at (by decide +kernel : fetch mX5_holdRow 4 = some (.arraylength)),
  by intros; exact G_at (by decide +kernel : fetch mX5_holdRow 5 = some (.iload_n 2)),
  by intros; exact G_at (by decide +kernel : fetch mX5_holdRow 6 = some (.if_icmp .ge 11)),
  by intros; exact G_at (by decide +kernel : fetch mX5_holdRow 9 = some (.aload_n 0)),
  by intros; exact G_at (by decide +kernel : fetch mX5_holdRow 10 = some (.bipush 100)),
  by intros; exact G_ownW (by decide +kernel : fetch mX5_holdRow 14 = some (.putfield 15)) (by decide +kernel) (by decide +kernel),
  by intros; exact G_at (by decide +kernel : fetch mX5_holdRow 17 = some (.aload_n 0)),
  by intros; exact G_at (by decide +kernel : fetch mX5_holdRow 18 = some (.iconst 2)),
  by intros; exact G_ownW (by decide +kernel : fetch mX5_holdRow 19 = some (.putfield 9)) (by decide +kernel) (by decide +kernel),
  by intros; exact G_at (by decide +kernel : fetch mX5_holdRow 22 = some (.aload_n 0)),
  by intros; exact G_at (by decide +kernel : fetch mX5_holdRow 23 = some (.iload_n 1)),
  by intros; exact G_ownW (by decide +kernel : fetch mX5_holdRow 24 = some (.putfield 23)) (by decide +kernel) (by decide +kernel),
  by intros; exact G_at (by decide +kernel : fetch mX5_holdRow 27 = some (.aload_n 0)),
  by intros; exact G_at (by decide +kernel : fetch mX5_holdRow 28 = some (.iload_n 2)),
  by intros; exact G_ownW (by decide +kernel : fetch mX5_holdRow 29 = some (.putfield 26)) (by decide +kernel) (by decide +kernel),
  by intros; exact G_at (by decide +kernel : fetch mX5_holdRow 32 = some (.iconst 0)),
  by intros; exact G_at (by decide +kernel : fetch mX5_holdRow 33 = some (.istore_n 3)),
  by intros; exact G_at (by decide +kernel : fetch mX5_holdRow 34 = some (.iload_n 3)),
  by intros; exact G_at (by decide +kernel : fetch mX5_holdRow 35 = some (.iload_n 2)),
  by intros; exact G_at (by decide +kernel : fetch mX5_holdRow 36 = some (.if_icmp .ge 16)),
  by intros; exact G_at (by decide +kernel : fetch mX5_holdRow 39 = some (.aload_n 0)),
  by intros; exact G_own (by decide +kernel : fetch mX5_holdRow 40 = some (.getfield 15)) (by decide +kernel),
  by intros; exact G_at (by decide +kernel : fetch mX5_holdRow 43 = some (.iload_n 3)),
  by intros; exact G_at (by decide +kernel : fetch mX5_holdRow 44 = some (.lconst 0)),
  by intros; exact G_at (by decide +kernel : fetch mX5_holdRow 45 = some (.lastore)),
  by intros; exact G_at (by decide +kernel : fetch mX5_holdRow 46 = some (.iinc 3 1)),
  by intros; exact G_at (by decide +kernel : fetch mX5_holdRow 49 = some (.goto (-15))),
  by intros; exact G_retv (by decide +kernel : fetch mX5_holdRow 52 = some (.return_)) (by decide +kernel),
  by decide +kernel,
  by decide +kernel,
  by decide +kernel,
  by decide +kernel,
  by decide +kernel,
  by decide +kernel,
  by decide +kernel,
  by decide +kernel⟩
theorem gX5_refusalAsRow : (∀ (n d : Nat) (L : List (Option iV)) (st : List iV) (h : iH) (Q : Option iV → iH → Prop), G sp sc [] d mX5_refusalAsRow (n + 1) 0 L st h Q = (match ld L 0 with | some (.inr (.inr (r + 1))) => G sp sc [] d mX5_refusalAsRow n 1 L (.inr (.inr (r + 1)) :: st) h Q | _ => False)) ∧
  (∀ (n d : Nat) (L : List (Option iV)) (r : List iV) (m : Nat) (h : iH) (Q : Option iV → iH → Prop), G sp sc [] d mX5_refusalAsRow (n + 1) 1 L (.inr (.inr (m + 2)) :: r) h Q = (match h.1[m]? with | some (.inl (ci, fs)) => (match lkF 5 9 ci with | some k => (match fs[k]? with | some v => G sp sc [] d mX5_refusalAsRow n 4 L (v :: r) h Q | none => False) | none => False) | _ => False)) ∧
  (∀ (n d : Nat) (L : List (Option iV)) (a : Int) (r : List iV) (h : iH) (Q : Option iV → iH → Prop), G sp sc [] d mX5_refusalAsRow (n + 1) 4 L (.inl a :: r) h Q = (inI a = true ∧ (¬ a = 0 → G sp sc [] d mX5_refusalAsRow n 12 L r h Q) ∧ (¬ (¬ a = 0) → G sp sc [] d mX5_refusalAsRow n 7 L r h Q))) ∧
  (∀ (n d : Nat) (L : List (Option iV)) (st : List iV) (h : iH) (Q : Option iV → iH → Prop), G sp sc [] d mX5_refusalAsRow (n + 1) 7 L st h Q = ((-128 ≤ ((-11) : Int) ∧ ((-11) : Int) < 128) ∧ G sp sc [] d mX5_refusalAsRow n 9 L (.inl (-11) :: st) h Q)) ∧
  (∀ (n d : Nat) (L : List (Option iV)) (st : List iV) (h : iH) (Q : Option iV → iH → Prop), G sp sc [] d mX5_refusalAsRow (n + 1) 9 L st h Q = G sp sc [] d mX5_refusalAsRow n 26 L st h Q) ∧
  (∀ (n d : Nat) (L : List (Option iV)) (st : List iV) (h : iH) (Q : Option iV → iH → Prop), G sp sc [] d mX5_refusalAsRow (n + 1) 12 L st h Q = (match ld L 0 with | some (.inr (.inr (r + 1))) => G sp sc [] d mX5_refusalAsRow n 13 L (.inr (.inr (r + 1)) :: st) h Q | _ => False)) ∧
  (∀ (n d : Nat) (L : List (Option iV)) (r : List iV) (m : Nat) (h : iH) (Q : Option iV → iH → Prop), G sp sc [] d mX5_refusalAsRow (n + 1) 13 L (.inr (.inr (m + 2)) :: r) h Q = (match h.1[m]? with | some (.inl (ci, fs)) => (match lkF 5 9 ci with | some k => (match fs[k]? with | some v => G sp sc [] d mX5_refusalAsRow n 16 L (v :: r) h Q | none => False) | none => False) | _ => False)) ∧
  (∀ (n d : Nat) (L : List (Option iV)) (st : List iV) (h : iH) (Q : Option iV → iH → Prop), G sp sc [] d mX5_refusalAsRow (n + 1) 16 L st h Q = G sp sc [] d mX5_refusalAsRow n 17 L (.inl 2 :: st) h Q) ∧
  (∀ (n d : Nat) (L : List (Option iV)) (a : Int) (b : Int) (r : List iV) (h : iH) (Q : Option iV → iH → Prop), G sp sc [] d mX5_refusalAsRow (n + 1) 17 L (.inl b :: .inl a :: r) h Q = ((inI a = true ∧ inI b = true) ∧ (¬ a = b → G sp sc [] d mX5_refusalAsRow n 24 L r h Q) ∧ (¬ (¬ a = b) → G sp sc [] d mX5_refusalAsRow n 20 L r h Q))) ∧
  (∀ (n d : Nat) (L : List (Option iV)) (st : List iV) (h : iH) (Q : Option iV → iH → Prop), G sp sc [] d mX5_refusalAsRow (n + 1) 20 L st h Q = G sp sc [] d mX5_refusalAsRow n 21 L (.inl 0 :: st) h Q) ∧
  (∀ (n d : Nat) (L : List (Option iV)) (st : List iV) (h : iH) (Q : Option iV → iH → Prop), G sp sc [] d mX5_refusalAsRow (n + 1) 21 L st h Q = G sp sc [] d mX5_refusalAsRow n 26 L st h Q) ∧
  (∀ (n d : Nat) (L : List (Option iV)) (st : List iV) (h : iH) (Q : Option iV → iH → Prop), G sp sc [] d mX5_refusalAsRow (n + 1) 24 L st h Q = ((-128 ≤ ((-12) : Int) ∧ ((-12) : Int) < 128) ∧ G sp sc [] d mX5_refusalAsRow n 26 L (.inl (-12) :: st) h Q)) ∧
  (∀ (n d : Nat) (L : List (Option iV)) (a : Int) (h : iH) (Q : Option iV → iH → Prop), G sp sc [] d mX5_refusalAsRow (n + 1) 26 L [.inl a] h Q = Q (some (.inl a)) h) ∧
  lkF 5 9 5 = some 0 := ⟨by intros; exact G_at (by decide +kernel : fetch mX5_refusalAsRow 0 = some (.aload_n 0)),
  by intros; exact G_own (by decide +kernel : fetch mX5_refusalAsRow 1 = some (.getfield 9)) (by decide +kernel),
  by intros; exact G_at (by decide +kernel : fetch mX5_refusalAsRow 4 = some (.ifCond .ne 8)),
  by intros; exact G_at (by decide +kernel : fetch mX5_refusalAsRow 7 = some (.bipush (-11))),
  by intros; exact G_at (by decide +kernel : fetch mX5_refusalAsRow 9 = some (.goto 17)),
  by intros; exact G_at (by decide +kernel : fetch mX5_refusalAsRow 12 = some (.aload_n 0)),
  by intros; exact G_own (by decide +kernel : fetch mX5_refusalAsRow 13 = some (.getfield 9)) (by decide +kernel),
  by intros; exact G_at (by decide +kernel : fetch mX5_refusalAsRow 16 = some (.iconst 2)),
  by intros; exact G_at (by decide +kernel : fetch mX5_refusalAsRow 17 = some (.if_icmp .ne 7)),
  by intros; exact G_at (by decide +kernel : fetch mX5_refusalAsRow 20 = some (.iconst 0)),
  by intros; exact G_at (by decide +kernel : fetch mX5_refusalAsRow 21 = some (.goto 5)),
  by intros; exact G_at (by decide +kernel : fetch mX5_refusalAsRow 24 = some (.bipush (-12))),
  by intros; exact G_reti (by decide +kernel : fetch mX5_refusalAsRow 26 = some (.ireturn)) (by decide +kernel),
  by decide +kernel⟩
theorem gX5_refusalAsNature : (∀ (n d : Nat) (L : List (Option iV)) (st : List iV) (h : iH) (Q : Option iV → iH → Prop), G sp sc [] d mX5_refusalAsNature (n + 1) 0 L st h Q = (match ld L 0 with | some (.inr (.inr (r + 1))) => G sp sc [] d mX5_refusalAsNature n 1 L (.inr (.inr (r + 1)) :: st) h Q | _ => False)) ∧
  (∀ (n d : Nat) (L : List (Option iV)) (r : List iV) (m : Nat) (h : iH) (Q : Option iV → iH → Prop), G sp sc [] d mX5_refusalAsNature (n + 1) 1 L (.inr (.inr (m + 2)) :: r) h Q = (match h.1[m]? with | some (.inl (ci, fs)) => (match lkF 5 9 ci with | some k => (match fs[k]? with | some v => G sp sc [] d mX5_refusalAsNature n 4 L (v :: r) h Q | none => False) | none => False) | _ => False)) ∧
  (∀ (n d : Nat) (L : List (Option iV)) (a : Int) (r : List iV) (h : iH) (Q : Option iV → iH → Prop), G sp sc [] d mX5_refusalAsNature (n + 1) 4 L (.inl a :: r) h Q = (inI a = true ∧ (¬ a = 0 → G sp sc [] d mX5_refusalAsNature n 12 L r h Q) ∧ (¬ (¬ a = 0) → G sp sc [] d mX5_refusalAsNature n 7 L r h Q))) ∧
  (∀ (n d : Nat) (L : List (Option iV)) (st : List iV) (h : iH) (Q : Option iV → iH → Prop), G sp sc [] d mX5_refusalAsNature (n + 1) 7 L st h Q = ((-128 ≤ ((-11) : Int) ∧ ((-11) : Int) < 128) ∧ G sp sc [] d mX5_refusalAsNature n 9 L (.inl (-11) :: st) h Q)) ∧
  (∀ (n d : Nat) (L : List (Option iV)) (st : List iV) (h : iH) (Q : Option iV → iH → Prop), G sp sc [] d mX5_refusalAsNature (n + 1) 9 L st h Q = G sp sc [] d mX5_refusalAsNature n 26 L st h Q) ∧
  (∀ (n d : Nat) (L : List (Option iV)) (st : List iV) (h : iH) (Q : Option iV → iH → Prop), G sp sc [] d mX5_refusalAsNature (n + 1) 12 L st h Q = (match ld L 0 with | some (.inr (.inr (r + 1))) => G sp sc [] d mX5_refusalAsNature n 13 L (.inr (.inr (r + 1)) :: st) h Q | _ => False)) ∧
  (∀ (n d : Nat) (L : List (Option iV)) (r : List iV) (m : Nat) (h : iH) (Q : Option iV → iH → Prop), G sp sc [] d mX5_refusalAsNature (n + 1) 13 L (.inr (.inr (m + 2)) :: r) h Q = (match h.1[m]? with | some (.inl (ci, fs)) => (match lkF 5 9 ci with | some k => (match fs[k]? with | some v => G sp sc [] d mX5_refusalAsNature n 16 L (v :: r) h Q | none => False) | none => False) | _ => False)) ∧
  (∀ (n d : Nat) (L : List (Option iV)) (st : List iV) (h : iH) (Q : Option iV → iH → Prop), G sp sc [] d mX5_refusalAsNature (n + 1) 16 L st h Q = G sp sc [] d mX5_refusalAsNature n 17 L (.inl 1 :: st) h Q) ∧
  (∀ (n d : Nat) (L : List (Option iV)) (a : Int) (b : Int) (r : List iV) (h : iH) (Q : Option iV → iH → Prop), G sp sc [] d mX5_refusalAsNature (n + 1) 17 L (.inl b :: .inl a :: r) h Q = ((inI a = true ∧ inI b = true) ∧ (¬ a = b → G sp sc [] d mX5_refusalAsNature n 24 L r h Q) ∧ (¬ (¬ a = b) → G sp sc [] d mX5_refusalAsNature n 20 L r h Q))) ∧
  (∀ (n d : Nat) (L : List (Option iV)) (st : List iV) (h : iH) (Q : Option iV → iH → Prop), G sp sc [] d mX5_refusalAsNature (n + 1) 20 L st h Q = G sp sc [] d mX5_refusalAsNature n 21 L (.inl 0 :: st) h Q) ∧
  (∀ (n d : Nat) (L : List (Option iV)) (st : List iV) (h : iH) (Q : Option iV → iH → Prop), G sp sc [] d mX5_refusalAsNature (n + 1) 21 L st h Q = G sp sc [] d mX5_refusalAsNature n 26 L st h Q) ∧
  (∀ (n d : Nat) (L : List (Option iV)) (st : List iV) (h : iH) (Q : Option iV → iH → Prop), G sp sc [] d mX5_refusalAsNature (n + 1) 24 L st h Q = ((-128 ≤ ((-12) : Int) ∧ ((-12) : Int) < 128) ∧ G sp sc [] d mX5_refusalAsNature n 26 L (.inl (-12) :: st) h Q)) ∧
  (∀ (n d : Nat) (L : List (Option iV)) (a : Int) (h : iH) (Q : Option iV → iH → Prop), G sp sc [] d mX5_refusalAsNature (n + 1) 26 L [.inl a] h Q = Q (some (.inl a)) h) ∧
  lkF 5 9 5 = some 0 := ⟨by intros; exact G_at (by decide +kernel : fetch mX5_refusalAsNature 0 = some (.aload_n 0)),
  by intros; exact G_own (by decide +kernel : fetch mX5_refusalAsNature 1 = some (.getfield 9)) (by decide +kernel),
  by intros; exact G_at (by decide +kernel : fetch mX5_refusalAsNature 4 = some (.ifCond .ne 8)),
  by intros; exact G_at (by decide +kernel : fetch mX5_refusalAsNature 7 = some (.bipush (-11))),
  by intros; exact G_at (by decide +kernel : fetch mX5_refusalAsNature 9 = some (.goto 17)),
  by intros; exact G_at (by decide +kernel : fetch mX5_refusalAsNature 12 = some (.aload_n 0)),
  by intros; exact G_own (by decide +kernel : fetch mX5_refusalAsNature 13 = some (.getfield 9)) (by decide +kernel),
  by intros; exact G_at (by decide +kernel : fetch mX5_refusalAsNature 16 = some (.iconst 1)),
  by intros; exact G_at (by decide +kernel : fetch mX5_refusalAsNature 17 = some (.if_icmp .ne 7)),
  by intros; exact G_at (by decide +kernel : fetch mX5_refusalAsNature 20 = some (.iconst 0)),
  by intros; exact G_at (by decide +kernel : fetch mX5_refusalAsNature 21 = some (.goto 5)),
  by intros; exact G_at (by decide +kernel : fetch mX5_refusalAsNature 24 = some (.bipush (-12))),
  by intros; exact G_reti (by decide +kernel : fetch mX5_refusalAsNature 26 = some (.ireturn)) (by decide +kernel),
  by decide +kernel⟩
theorem gX5_hasPlace : (∀ (n d : Nat) (L : List (Option iV)) (st : List iV) (h : iH) (Q : Option iV → iH → Prop), G sp sc [] d mX5_hasPlace (n + 1) 0 L st h Q = (match ld L 1 with | some (.inl x) => G sp sc [] d mX5_hasPlace n 1 L (.inl x :: st) h Q | _ => False)) ∧
  (∀ (n d : Nat) (L : List (Option iV)) (a : Int) (r : List iV) (h : iH) (Q : Option iV → iH → Prop), G sp sc [] d mX5_hasPlace (n + 1) 1 L (.inl a :: r) h Q = (inI a = true ∧ (a < 0 → G sp sc [] d mX5_hasPlace n 16 L r h Q) ∧ (¬ (a < 0) → G sp sc [] d mX5_hasPlace n 4 L r h Q))) ∧
  (∀ (n d : Nat) (L : List (Option iV)) (st : List iV) (h : iH) (Q : Option iV → iH → Prop), G sp sc [] d mX5_hasPlace (n + 1) 4 L st h Q = (match ld L 1 with | some (.inl x) => G sp sc [] d mX5_hasPlace n 5 L (.inl x :: st) h Q | _ => False)) ∧
  (∀ (n d : Nat) (L : List (Option iV)) (st : List iV) (h : iH) (Q : Option iV → iH → Prop), G sp sc [] d mX5_hasPlace (n + 1) 5 L st h Q = (match ld L 0 with | some (.inr (.inr (r + 1))) => G sp sc [] d mX5_hasPlace n 6 L (.inr (.inr (r + 1)) :: st) h Q | _ => False)) ∧
  (∀ (n d : Nat) (L : List (Option iV)) (r : List iV) (m : Nat) (h : iH) (Q : Option iV → iH → Prop), G sp sc [] d mX5_hasPlace (n + 1) 6 L (.inr (.inr (m + 2)) :: r) h Q = (match h.1[m]? with | some (.inl (ci, fs)) => (match lkF 5 26 ci with | some k => (match fs[k]? with | some v => G sp sc [] d mX5_hasPlace n 9 L (v :: r) h Q | none => False) | none => False) | _ => False)) ∧
  (∀ (n d : Nat) (L : List (Option iV)) (a : Int) (b : Int) (r : List iV) (h : iH) (Q : Option iV → iH → Prop), G sp sc [] d mX5_hasPlace (n + 1) 9 L (.inl b :: .inl a :: r) h Q = ((inI a = true ∧ inI b = true) ∧ (b ≤ a → G sp sc [] d mX5_hasPlace n 16 L r h Q) ∧ (¬ (b ≤ a) → G sp sc [] d mX5_hasPlace n 12 L r h Q))) ∧
  (∀ (n d : Nat) (L : List (Option iV)) (st : List iV) (h : iH) (Q : Option iV → iH → Prop), G sp sc [] d mX5_hasPlace (n + 1) 12 L st h Q = G sp sc [] d mX5_hasPlace n 13 L (.inl 1 :: st) h Q) ∧
  (∀ (n d : Nat) (L : List (Option iV)) (st : List iV) (h : iH) (Q : Option iV → iH → Prop), G sp sc [] d mX5_hasPlace (n + 1) 13 L st h Q = G sp sc [] d mX5_hasPlace n 17 L st h Q) ∧
  (∀ (n d : Nat) (L : List (Option iV)) (st : List iV) (h : iH) (Q : Option iV → iH → Prop), G sp sc [] d mX5_hasPlace (n + 1) 16 L st h Q = G sp sc [] d mX5_hasPlace n 17 L (.inl 0 :: st) h Q) ∧
  (∀ (n d : Nat) (L : List (Option iV)) (a : Int) (h : iH) (Q : Option iV → iH → Prop), G sp sc [] d mX5_hasPlace (n + 1) 17 L [.inl a] h Q = ((a = 0 ∨ a = 1) ∧ Q (some (.inl a)) h)) ∧
  lkF 5 26 5 = some 3 := ⟨by intros; exact G_at (by decide +kernel : fetch mX5_hasPlace 0 = some (.iload_n 1)),
  by intros; exact G_at (by decide +kernel : fetch mX5_hasPlace 1 = some (.ifCond .lt 15)),
  by intros; exact G_at (by decide +kernel : fetch mX5_hasPlace 4 = some (.iload_n 1)),
  by intros; exact G_at (by decide +kernel : fetch mX5_hasPlace 5 = some (.aload_n 0)),
  by intros; exact G_own (by decide +kernel : fetch mX5_hasPlace 6 = some (.getfield 26)) (by decide +kernel),
  by intros; exact G_at (by decide +kernel : fetch mX5_hasPlace 9 = some (.if_icmp .ge 7)),
  by intros; exact G_at (by decide +kernel : fetch mX5_hasPlace 12 = some (.iconst 1)),
  by intros; exact G_at (by decide +kernel : fetch mX5_hasPlace 13 = some (.goto 4)),
  by intros; exact G_at (by decide +kernel : fetch mX5_hasPlace 16 = some (.iconst 0)),
  by intros; exact G_retz (by decide +kernel : fetch mX5_hasPlace 17 = some (.ireturn)) (by decide +kernel),
  by decide +kernel⟩
theorem gX5_hasPlaces : (∀ (n d : Nat) (L : List (Option iV)) (st : List iV) (h : iH) (Q : Option iV → iH → Prop), G sp sc [] d mX5_hasPlaces (n + 1) 0 L st h Q = (match ld L 2 with | some (.inl x) => G sp sc [] d mX5_hasPlaces n 1 L (.inl x :: st) h Q | _ => False)) ∧
  (∀ (n d : Nat) (L : List (Option iV)) (a : Int) (r : List iV) (h : iH) (Q : Option iV → iH → Prop), G sp sc [] d mX5_hasPlaces (n + 1) 1 L (.inl a :: r) h Q = (inI a = true ∧ (a < 0 → G sp sc [] d mX5_hasPlaces n 30 L r h Q) ∧ (¬ (a < 0) → G sp sc [] d mX5_hasPlaces n 4 L r h Q))) ∧
  (∀ (n d : Nat) (L : List (Option iV)) (st : List iV) (h : iH) (Q : Option iV → iH → Prop), G sp sc [] d mX5_hasPlaces (n + 1) 4 L st h Q = (match ld L 2 with | some (.inl x) => G sp sc [] d mX5_hasPlaces n 5 L (.inl x :: st) h Q | _ => False)) ∧
  (∀ (n d : Nat) (L : List (Option iV)) (st : List iV) (h : iH) (Q : Option iV → iH → Prop), G sp sc [] d mX5_hasPlaces (n + 1) 5 L st h Q = (match ld L 0 with | some (.inr (.inr (r + 1))) => G sp sc [] d mX5_hasPlaces n 6 L (.inr (.inr (r + 1)) :: st) h Q | _ => False)) ∧
  (∀ (n d : Nat) (L : List (Option iV)) (r : List iV) (m : Nat) (h : iH) (Q : Option iV → iH → Prop), G sp sc [] d mX5_hasPlaces (n + 1) 6 L (.inr (.inr (m + 2)) :: r) h Q = (match h.1[m]? with | some (.inl (ci, fs)) => (match lkF 5 26 ci with | some k => (match fs[k]? with | some v => G sp sc [] d mX5_hasPlaces n 9 L (v :: r) h Q | none => False) | none => False) | _ => False)) ∧
  (∀ (n d : Nat) (L : List (Option iV)) (a : Int) (b : Int) (r : List iV) (h : iH) (Q : Option iV → iH → Prop), G sp sc [] d mX5_hasPlaces (n + 1) 9 L (.inl b :: .inl a :: r) h Q = ((inI a = true ∧ inI b = true) ∧ (b < a → G sp sc [] d mX5_hasPlaces n 30 L r h Q) ∧ (¬ (b < a) → G sp sc [] d mX5_hasPlaces n 12 L r h Q))) ∧
  (∀ (n d : Nat) (L : List (Option iV)) (st : List iV) (h : iH) (Q : Option iV → iH → Prop), G sp sc [] d mX5_hasPlaces (n + 1) 12 L st h Q = (match ld L 1 with | some (.inl x) => G sp sc [] d mX5_hasPlaces n 13 L (.inl x :: st) h Q | _ => False)) ∧
  (∀ (n d : Nat) (L : List (Option iV)) (a : Int) (r : List iV) (h : iH) (Q : Option iV → iH → Prop), G sp sc [] d mX5_hasPlaces (n + 1) 13 L (.inl a :: r) h Q = (inI a = true ∧ (a < 0 → G sp sc [] d mX5_hasPlaces n 30 L r h Q) ∧ (¬ (a < 0) → G sp sc [] d mX5_hasPlaces n 16 L r h Q))) ∧
  (∀ (n d : Nat) (L : List (Option iV)) (st : List iV) (h : iH) (Q : Option iV → iH → Prop), G sp sc [] d mX5_hasPlaces (n + 1) 16 L st h Q = (match ld L 1 with | some (.inl x) => G sp sc [] d mX5_hasPlaces n 17 L (.inl x :: st) h Q | _ => False)) ∧
  (∀ (n d : Nat) (L : List (Option iV)) (st : List iV) (h : iH) (Q : Option iV → iH → Prop), G sp sc [] d mX5_hasPlaces (n + 1) 17 L st h Q = (match ld L 0 with | some (.inr (.inr (r + 1))) => G sp sc [] d mX5_hasPlaces n 18 L (.inr (.inr (r + 1)) :: st) h Q | _ => False)) ∧
  (∀ (n d : Nat) (L : List (Option iV)) (r : List iV) (m : Nat) (h : iH) (Q : Option iV → iH → Prop), G sp sc [] d mX5_hasPlaces (n + 1) 18 L (.inr (.inr (m + 2)) :: r) h Q = (match h.1[m]? with | some (.inl (ci, fs)) => (match lkF 5 26 ci with | some k => (match fs[k]? with | some v => G sp sc [] d mX5_hasPlaces n 21 L (v :: r) h Q | none => False) | none => False) | _ => False)) ∧
  (∀ (n d : Nat) (L : List (Option iV)) (st : List iV) (h : iH) (Q : Option iV → iH → Prop), G sp sc [] d mX5_hasPlaces (n + 1) 21 L st h Q = (match ld L 2 with | some (.inl x) => G sp sc [] d mX5_hasPlaces n 22 L (.inl x :: st) h Q | _ => False)) ∧
  (∀ (n d : Nat) (L : List (Option iV)) (a : Int) (b : Int) (r : List iV) (h : iH) (Q : Option iV → iH → Prop), G sp sc [] d mX5_hasPlaces (n + 1) 22 L (.inl b :: .inl a :: r) h Q = G sp sc [] d mX5_hasPlaces n 23 L (.inl (a - b) :: r) h Q) ∧
  (∀ (n d : Nat) (L : List (Option iV)) (a : Int) (b : Int) (r : List iV) (h : iH) (Q : Option iV → iH → Prop), G sp sc [] d mX5_hasPlaces (n + 1) 23 L (.inl b :: .inl a :: r) h Q = ((inI a = true ∧ inI b = true) ∧ (b < a → G sp sc [] d mX5_hasPlaces n 30 L r h Q) ∧ (¬ (b < a) → G sp sc [] d mX5_hasPlaces n 26 L r h Q))) ∧
  (∀ (n d : Nat) (L : List (Option iV)) (st : List iV) (h : iH) (Q : Option iV → iH → Prop), G sp sc [] d mX5_hasPlaces (n + 1) 26 L st h Q = G sp sc [] d mX5_hasPlaces n 27 L (.inl 1 :: st) h Q) ∧
  (∀ (n d : Nat) (L : List (Option iV)) (st : List iV) (h : iH) (Q : Option iV → iH → Prop), G sp sc [] d mX5_hasPlaces (n + 1) 27 L st h Q = G sp sc [] d mX5_hasPlaces n 31 L st h Q) ∧
  (∀ (n d : Nat) (L : List (Option iV)) (st : List iV) (h : iH) (Q : Option iV → iH → Prop), G sp sc [] d mX5_hasPlaces (n + 1) 30 L st h Q = G sp sc [] d mX5_hasPlaces n 31 L (.inl 0 :: st) h Q) ∧
  (∀ (n d : Nat) (L : List (Option iV)) (a : Int) (h : iH) (Q : Option iV → iH → Prop), G sp sc [] d mX5_hasPlaces (n + 1) 31 L [.inl a] h Q = ((a = 0 ∨ a = 1) ∧ Q (some (.inl a)) h)) ∧
  lkF 5 26 5 = some 3 := ⟨by intros; exact G_at (by decide +kernel : fetch mX5_hasPlaces 0 = some (.iload_n 2)),
  by intros; exact G_at (by decide +kernel : fetch mX5_hasPlaces 1 = some (.ifCond .lt 29)),
  by intros; exact G_at (by decide +kernel : fetch mX5_hasPlaces 4 = some (.iload_n 2)),
  by intros; exact G_at (by decide +kernel : fetch mX5_hasPlaces 5 = some (.aload_n 0)),
  by intros; exact G_own (by decide +kernel : fetch mX5_hasPlaces 6 = some (.getfield 26)) (by decide +kernel),
  by intros; exact G_at (by decide +kernel : fetch mX5_hasPlaces 9 = some (.if_icmp .gt 21)),
  by intros; exact G_at (by decide +kernel : fetch mX5_hasPlaces 12 = some (.iload_n 1)),
  by intros; exact G_at (by decide +kernel : fetch mX5_hasPlaces 13 = some (.ifCond .lt 17)),
  by intros; exact G_at (by decide +kernel : fetch mX5_hasPlaces 16 = some (.iload_n 1)),
  by intros; exact G_at (by decide +kernel : fetch mX5_hasPlaces 17 = some (.aload_n 0)),
  by intros; exact G_own (by decide +kernel : fetch mX5_hasPlaces 18 = some (.getfield 26)) (by decide +kernel),
  by intros; exact G_at (by decide +kernel : fetch mX5_hasPlaces 21 = some (.iload_n 2)),
  by intros; exact G_at (by decide +kernel : fetch mX5_hasPlaces 22 = some (.isub)),
  by intros; exact G_at (by decide +kernel : fetch mX5_hasPlaces 23 = some (.if_icmp .gt 7)),
  by intros; exact G_at (by decide +kernel : fetch mX5_hasPlaces 26 = some (.iconst 1)),
  by intros; exact G_at (by decide +kernel : fetch mX5_hasPlaces 27 = some (.goto 4)),
  by intros; exact G_at (by decide +kernel : fetch mX5_hasPlaces 30 = some (.iconst 0)),
  by intros; exact G_retz (by decide +kernel : fetch mX5_hasPlaces 31 = some (.ireturn)) (by decide +kernel),
  by decide +kernel⟩
theorem gX5_store : (∀ (n d : Nat) (L : List (Option iV)) (st : List iV) (h : iH) (Q : Option iV → iH → Prop), G sp sc [] d mX5_store (n + 1) 0 L st h Q = (match ld L 0 with | some (.inr (.inr (r + 1))) => G sp sc [] d mX5_store n 1 L (.inr (.inr (r + 1)) :: st) h Q | _ => False)) ∧
  (∀ (n d : Nat) (L : List (Option iV)) (r : List iV) (m : Nat) (h : iH) (Q : Option iV → iH → Prop), G sp sc [] d mX5_store (n + 1) 1 L (.inr (.inr (m + 2)) :: r) h Q = (match h.1[m]? with | some (.inl (ci, fs)) => (match lkF 5 15 ci with | some k => (match fs[k]? with | some v => G sp sc [] d mX5_store n 4 L (v :: r) h Q | none => False) | none => False) | _ => False)) ∧
  (∀ (n d : Nat) (L : List (Option iV)) (st : List iV) (h : iH) (Q : Option iV → iH → Prop), G sp sc [] d mX5_store (n + 1) 4 L st h Q = (match ld L 1 with | some (.inl x) => G sp sc [] d mX5_store n 5 L (.inl x :: st) h Q | _ => False)) ∧
  (∀ (n d : Nat) (L : List (Option iV)) (st : List iV) (h : iH) (Q : Option iV → iH → Prop), G sp sc [] d mX5_store (n + 1) 5 L st h Q = (match ld L 0 with | some (.inr (.inr (r + 1))) => G sp sc [] d mX5_store n 6 L (.inr (.inr (r + 1)) :: st) h Q | _ => False)) ∧
  (∀ (n d : Nat) (L : List (Option iV)) (r : List iV) (m : Nat) (h : iH) (Q : Option iV → iH → Prop), G sp sc [] d mX5_store (n + 1) 6 L (.inr (.inr (m + 2)) :: r) h Q = (match h.1[m]? with | some (.inl (ci, fs)) => (match lkF 5 23 ci with | some k => (match fs[k]? with | some v => G sp sc [] d mX5_store n 9 L (v :: r) h Q | none => False) | none => False) | _ => False)) ∧
  (∀ (n d : Nat) (L : List (Option iV)) (a : Int) (r : List iV) (h : iH) (Q : Option iV → iH → Prop), G sp sc [] d mX5_store (n + 1) 9 L (.inl a :: r) h Q = (inI a = true ∧ (¬ a = 0 → G sp sc [] d mX5_store n 18 L r h Q) ∧ (¬ (¬ a = 0) → G sp sc [] d mX5_store n 12 L r h Q))) ∧
  (∀ (n d : Nat) (L : List (Option iV)) (st : List iV) (h : iH) (Q : Option iV → iH → Prop), G sp sc [] d mX5_store (n + 1) 12 L st h Q = (match ld L 2 with | some (.inl x) => G sp sc [] d mX5_store n 13 L (.inl x :: st) h Q | _ => False)) ∧
  (∀ (n d : Nat) (L : List (Option iV)) (a : Int) (r : List iV) (h : iH) (Q : Option iV → iH → Prop), G sp sc [] d mX5_store (n + 1) 13 L (.inl a :: r) h Q = G sp sc [] d mX5_store n 14 L (.inl (w8 a) :: r) h Q) ∧
  (∀ (n d : Nat) (L : List (Option iV)) (a : Int) (r : List iV) (h : iH) (Q : Option iV → iH → Prop), G sp sc [] d mX5_store (n + 1) 14 L (.inl a :: r) h Q = (inI a = true ∧ G sp sc [] d mX5_store n 15 L (.inr (.inl a) :: r) h Q)) ∧
  (∀ (n d : Nat) (L : List (Option iV)) (st : List iV) (h : iH) (Q : Option iV → iH → Prop), G sp sc [] d mX5_store (n + 1) 15 L st h Q = G sp sc [] d mX5_store n 20 L st h Q) ∧
  (∀ (n d : Nat) (L : List (Option iV)) (st : List iV) (h : iH) (Q : Option iV → iH → Prop), G sp sc [] d mX5_store (n + 1) 18 L st h Q = (match ld L 2 with | some (.inl x) => G sp sc [] d mX5_store n 19 L (.inl x :: st) h Q | _ => False)) ∧
  (∀ (n d : Nat) (L : List (Option iV)) (a : Int) (r : List iV) (h : iH) (Q : Option iV → iH → Prop), G sp sc [] d mX5_store (n + 1) 19 L (.inl a :: r) h Q = (inI a = true ∧ G sp sc [] d mX5_store n 20 L (.inr (.inl a) :: r) h Q)) ∧
  (∀ (n d : Nat) (L : List (Option iV)) (r : List iV) (v : Int) (j : Int) (m : Nat) (h : iH) (Q : Option iV → iH → Prop), G sp sc [] d mX5_store (n + 1) 20 L (.inr (.inl v) :: .inl j :: .inr (.inr (m + 2)) :: r) h Q = (match h.1[m]? with | some (.inr (.inl (1, xs))) => inA j xs.length = true ∧ G sp sc [] d mX5_store n 21 L r (h.1.set m (.inr (.inl (1, xs.set j.toNat v))), h.2) Q | _ => False)) ∧
  (∀ (n d : Nat) (L : List (Option iV))  (h : iH) (Q : Option iV → iH → Prop), G sp sc [] d mX5_store (n + 1) 21 L [] h Q = Q none h) ∧
  lkF 5 15 5 = some 4 ∧
  lkF 5 23 5 = some 2 := ⟨by intros; exact G_at (by decide +kernel : fetch mX5_store 0 = some (.aload_n 0)),
  by intros; exact G_own (by decide +kernel : fetch mX5_store 1 = some (.getfield 15)) (by decide +kernel),
  by intros; exact G_at (by decide +kernel : fetch mX5_store 4 = some (.iload_n 1)),
  by intros; exact G_at (by decide +kernel : fetch mX5_store 5 = some (.aload_n 0)),
  by intros; exact G_own (by decide +kernel : fetch mX5_store 6 = some (.getfield 23)) (by decide +kernel),
  by intros; exact G_at (by decide +kernel : fetch mX5_store 9 = some (.ifCond .ne 9)),
  by intros; exact G_at (by decide +kernel : fetch mX5_store 12 = some (.iload_n 2)),
  by intros; exact G_at (by decide +kernel : fetch mX5_store 13 = some (.i2b)),
  by intros; exact G_at (by decide +kernel : fetch mX5_store 14 = some (.i2l)),
  by intros; exact G_at (by decide +kernel : fetch mX5_store 15 = some (.goto 5)),
  by intros; exact G_at (by decide +kernel : fetch mX5_store 18 = some (.iload_n 2)),
  by intros; exact G_at (by decide +kernel : fetch mX5_store 19 = some (.i2l)),
  by intros; exact G_at (by decide +kernel : fetch mX5_store 20 = some (.lastore)),
  by intros; exact G_retv (by decide +kernel : fetch mX5_store 21 = some (.return_)) (by decide +kernel),
  by decide +kernel,
  by decide +kernel⟩
theorem gX5_leastOfSort : (∀ (n d : Nat) (L : List (Option iV)) (st : List iV) (h : iH) (Q : Option iV → iH → Prop), G sp sc [] d mX5_leastOfSort (n + 1) 0 L st h Q = (match ld L 0 with | some (.inr (.inr (r + 1))) => G sp sc [] d mX5_leastOfSort n 1 L (.inr (.inr (r + 1)) :: st) h Q | _ => False)) ∧
  (∀ (n d : Nat) (L : List (Option iV)) (r : List iV) (m : Nat) (h : iH) (Q : Option iV → iH → Prop), G sp sc [] d mX5_leastOfSort (n + 1) 1 L (.inr (.inr (m + 2)) :: r) h Q = (match h.1[m]? with | some (.inl (ci, fs)) => (match lkF 5 23 ci with | some k => (match fs[k]? with | some v => G sp sc [] d mX5_leastOfSort n 4 L (v :: r) h Q | none => False) | none => False) | _ => False)) ∧
  (∀ (n d : Nat) (L : List (Option iV)) (a : Int) (r : List iV) (h : iH) (Q : Option iV → iH → Prop), G sp sc [] d mX5_leastOfSort (n + 1) 4 L (.inl a :: r) h Q = (inI a = true ∧ (¬ a = 0 → G sp sc [] d mX5_leastOfSort n 13 L r h Q) ∧ (¬ (¬ a = 0) → G sp sc [] d mX5_leastOfSort n 7 L r h Q))) ∧
  (∀ (n d : Nat) (L : List (Option iV)) (st : List iV) (h : iH) (Q : Option iV → iH → Prop), G sp sc [] d mX5_leastOfSort (n + 1) 7 L st h Q = G sp sc [] d mX5_leastOfSort n 10 L (.inr (.inl (-128)) :: st) h Q) ∧
  (∀ (n d : Nat) (L : List (Option iV)) (st : List iV) (h : iH) (Q : Option iV → iH → Prop), G sp sc [] d mX5_leastOfSort (n + 1) 10 L st h Q = G sp sc [] d mX5_leastOfSort n 30 L st h Q) ∧
  (∀ (n d : Nat) (L : List (Option iV)) (st : List iV) (h : iH) (Q : Option iV → iH → Prop), G sp sc [] d mX5_leastOfSort (n + 1) 13 L st h Q = (match ld L 0 with | some (.inr (.inr (r + 1))) => G sp sc [] d mX5_leastOfSort n 14 L (.inr (.inr (r + 1)) :: st) h Q | _ => False)) ∧
  (∀ (n d : Nat) (L : List (Option iV)) (r : List iV) (m : Nat) (h : iH) (Q : Option iV → iH → Prop), G sp sc [] d mX5_leastOfSort (n + 1) 14 L (.inr (.inr (m + 2)) :: r) h Q = (match h.1[m]? with | some (.inl (ci, fs)) => (match lkF 5 23 ci with | some k => (match fs[k]? with | some v => G sp sc [] d mX5_leastOfSort n 17 L (v :: r) h Q | none => False) | none => False) | _ => False)) ∧
  (∀ (n d : Nat) (L : List (Option iV)) (st : List iV) (h : iH) (Q : Option iV → iH → Prop), G sp sc [] d mX5_leastOfSort (n + 1) 17 L st h Q = G sp sc [] d mX5_leastOfSort n 18 L (.inl 1 :: st) h Q) ∧
  (∀ (n d : Nat) (L : List (Option iV)) (a : Int) (b : Int) (r : List iV) (h : iH) (Q : Option iV → iH → Prop), G sp sc [] d mX5_leastOfSort (n + 1) 18 L (.inl b :: .inl a :: r) h Q = ((inI a = true ∧ inI b = true) ∧ (¬ a = b → G sp sc [] d mX5_leastOfSort n 27 L r h Q) ∧ (¬ (¬ a = b) → G sp sc [] d mX5_leastOfSort n 21 L r h Q))) ∧
  (∀ (n d : Nat) (L : List (Option iV)) (st : List iV) (h : iH) (Q : Option iV → iH → Prop), G sp sc [] d mX5_leastOfSort (n + 1) 21 L st h Q = G sp sc [] d mX5_leastOfSort n 24 L (.inr (.inl (-2147483648)) :: st) h Q) ∧
  (∀ (n d : Nat) (L : List (Option iV)) (st : List iV) (h : iH) (Q : Option iV → iH → Prop), G sp sc [] d mX5_leastOfSort (n + 1) 24 L st h Q = G sp sc [] d mX5_leastOfSort n 30 L st h Q) ∧
  (∀ (n d : Nat) (L : List (Option iV)) (st : List iV) (h : iH) (Q : Option iV → iH → Prop), G sp sc [] d mX5_leastOfSort (n + 1) 27 L st h Q = G sp sc [] d mX5_leastOfSort n 30 L (.inr (.inl (-9223372036854775808)) :: st) h Q) ∧
  (∀ (n d : Nat) (L : List (Option iV)) (a : Int) (h : iH) (Q : Option iV → iH → Prop), G sp sc [] d mX5_leastOfSort (n + 1) 30 L [.inr (.inl a)] h Q = Q (some (.inr (.inl a))) h) ∧
  lkF 5 23 5 = some 2 := ⟨by intros; exact G_at (by decide +kernel : fetch mX5_leastOfSort 0 = some (.aload_n 0)),
  by intros; exact G_own (by decide +kernel : fetch mX5_leastOfSort 1 = some (.getfield 23)) (by decide +kernel),
  by intros; exact G_at (by decide +kernel : fetch mX5_leastOfSort 4 = some (.ifCond .ne 9)),
  by intros; exact G_ldc2 (by decide +kernel : fetch mX5_leastOfSort 7 = some (.ldc2_w 29)) (by decide +kernel),
  by intros; exact G_at (by decide +kernel : fetch mX5_leastOfSort 10 = some (.goto 20)),
  by intros; exact G_at (by decide +kernel : fetch mX5_leastOfSort 13 = some (.aload_n 0)),
  by intros; exact G_own (by decide +kernel : fetch mX5_leastOfSort 14 = some (.getfield 23)) (by decide +kernel),
  by intros; exact G_at (by decide +kernel : fetch mX5_leastOfSort 17 = some (.iconst 1)),
  by intros; exact G_at (by decide +kernel : fetch mX5_leastOfSort 18 = some (.if_icmp .ne 9)),
  by intros; exact G_ldc2 (by decide +kernel : fetch mX5_leastOfSort 21 = some (.ldc2_w 31)) (by decide +kernel),
  by intros; exact G_at (by decide +kernel : fetch mX5_leastOfSort 24 = some (.goto 6)),
  by intros; exact G_ldc2 (by decide +kernel : fetch mX5_leastOfSort 27 = some (.ldc2_w 33)) (by decide +kernel),
  by intros; exact G_retl (by decide +kernel : fetch mX5_leastOfSort 30 = some (.lreturn)) (by decide +kernel),
  by decide +kernel⟩
theorem gX5_isAll : (∀ (n d : Nat) (L : List (Option iV)) (st : List iV) (h : iH) (Q : Option iV → iH → Prop), G sp sc [2] d mX5_isAll (n + 1) 0 L st h Q = G sp sc [2] d mX5_isAll n 1 L (.inl 0 :: st) h Q) ∧
  (∀ (n d : Nat) (L : List (Option iV)) (r : List iV) (x : Int) (h : iH) (Q : Option iV → iH → Prop), G sp sc [2] d mX5_isAll (n + 1) 1 L (.inl x :: r) h Q = (match st1 L 2 (.inl x) with | some L' => Run sp sc d mX5_isAll 2 L' r h Q | none => False)) ∧
  (∀ (n d : Nat) (L : List (Option iV)) (st : List iV) (h : iH) (Q : Option iV → iH → Prop), G sp sc [2] d mX5_isAll (n + 1) 2 L st h Q = (match ld L 2 with | some (.inl x) => G sp sc [2] d mX5_isAll n 3 L (.inl x :: st) h Q | _ => False)) ∧
  (∀ (n d : Nat) (L : List (Option iV)) (st : List iV) (h : iH) (Q : Option iV → iH → Prop), G sp sc [2] d mX5_isAll (n + 1) 3 L st h Q = (match ld L 0 with | some (.inr (.inr (r + 1))) => G sp sc [2] d mX5_isAll n 4 L (.inr (.inr (r + 1)) :: st) h Q | _ => False)) ∧
  (∀ (n d : Nat) (L : List (Option iV)) (r : List iV) (m : Nat) (h : iH) (Q : Option iV → iH → Prop), G sp sc [2] d mX5_isAll (n + 1) 4 L (.inr (.inr (m + 2)) :: r) h Q = (match h.1[m]? with | some (.inl (ci, fs)) => (match lkF 5 26 ci with | some k => (match fs[k]? with | some v => G sp sc [2] d mX5_isAll n 7 L (v :: r) h Q | none => False) | none => False) | _ => False)) ∧
  (∀ (n d : Nat) (L : List (Option iV)) (a : Int) (b : Int) (r : List iV) (h : iH) (Q : Option iV → iH → Prop), G sp sc [2] d mX5_isAll (n + 1) 7 L (.inl b :: .inl a :: r) h Q = ((inI a = true ∧ inI b = true) ∧ (b ≤ a → G sp sc [2] d mX5_isAll n 30 L r h Q) ∧ (¬ (b ≤ a) → G sp sc [2] d mX5_isAll n 10 L r h Q))) ∧
  (∀ (n d : Nat) (L : List (Option iV)) (st : List iV) (h : iH) (Q : Option iV → iH → Prop), G sp sc [2] d mX5_isAll (n + 1) 10 L st h Q = (match ld L 0 with | some (.inr (.inr (r + 1))) => G sp sc [2] d mX5_isAll n 11 L (.inr (.inr (r + 1)) :: st) h Q | _ => False)) ∧
  (∀ (n d : Nat) (L : List (Option iV)) (r : List iV) (m : Nat) (h : iH) (Q : Option iV → iH → Prop), G sp sc [2] d mX5_isAll (n + 1) 11 L (.inr (.inr (m + 2)) :: r) h Q = (match h.1[m]? with | some (.inl (ci, fs)) => (match lkF 5 15 ci with | some k => (match fs[k]? with | some v => G sp sc [2] d mX5_isAll n 14 L (v :: r) h Q | none => False) | none => False) | _ => False)) ∧
  (∀ (n d : Nat) (L : List (Option iV)) (st : List iV) (h : iH) (Q : Option iV → iH → Prop), G sp sc [2] d mX5_isAll (n + 1) 14 L st h Q = (match ld L 2 with | some (.inl x) => G sp sc [2] d mX5_isAll n 15 L (.inl x :: st) h Q | _ => False)) ∧
  (∀ (n d : Nat) (L : List (Option iV)) (r : List iV) (j : Int) (m : Nat) (h : iH) (Q : Option iV → iH → Prop), G sp sc [2] d mX5_isAll (n + 1) 15 L (.inl j :: .inr (.inr (m + 2)) :: r) h Q = (match h.1[m]? with | some (.inr (.inl (1, xs))) => inA j xs.length = true ∧ G sp sc [2] d mX5_isAll n 16 L (.inr (.inl (xs.getD j.toNat 0)) :: r) h Q | _ => False)) ∧
  (∀ (n d : Nat) (L : List (Option iV)) (st : List iV) (h : iH) (Q : Option iV → iH → Prop), G sp sc [2] d mX5_isAll (n + 1) 16 L st h Q = (match ld L 1 with | some (.inl x) => G sp sc [2] d mX5_isAll n 17 L (.inl x :: st) h Q | _ => False)) ∧
  (∀ (n d : Nat) (L : List (Option iV)) (a : Int) (r : List iV) (h : iH) (Q : Option iV → iH → Prop), G sp sc [2] d mX5_isAll (n + 1) 17 L (.inl a :: r) h Q = (inI a = true ∧ G sp sc [2] d mX5_isAll n 18 L (.inr (.inl a) :: r) h Q)) ∧
  (∀ (n d : Nat) (L : List (Option iV)) (a : Int) (b : Int) (r : List iV) (h : iH) (Q : Option iV → iH → Prop), G sp sc [2] d mX5_isAll (n + 1) 18 L (.inr (.inl b) :: .inr (.inl a) :: r) h Q = ((inJ a = true ∧ inJ b = true) ∧ G sp sc [2] d mX5_isAll n 19 L (.inl (if b < a then 1 else if a = b then 0 else -1) :: r) h Q)) ∧
  (∀ (n d : Nat) (L : List (Option iV)) (a : Int) (r : List iV) (h : iH) (Q : Option iV → iH → Prop), G sp sc [2] d mX5_isAll (n + 1) 19 L (.inl a :: r) h Q = (inI a = true ∧ (a = 0 → G sp sc [2] d mX5_isAll n 24 L r h Q) ∧ (¬ (a = 0) → G sp sc [2] d mX5_isAll n 22 L r h Q))) ∧
  (∀ (n d : Nat) (L : List (Option iV)) (st : List iV) (h : iH) (Q : Option iV → iH → Prop), G sp sc [2] d mX5_isAll (n + 1) 22 L st h Q = G sp sc [2] d mX5_isAll n 23 L (.inl 0 :: st) h Q) ∧
  (∀ (n d : Nat) (L : List (Option iV)) (a : Int) (h : iH) (Q : Option iV → iH → Prop), G sp sc [2] d mX5_isAll (n + 1) 23 L [.inl a] h Q = ((a = 0 ∨ a = 1) ∧ Q (some (.inl a)) h)) ∧
  (∀ (n d : Nat) (L : List (Option iV)) (st : List iV) (h : iH) (Q : Option iV → iH → Prop), G sp sc [2] d mX5_isAll (n + 1) 24 L st h Q = (match ld L 2 with | some (.inl x) => (match st1 L 2 (.inl (x + 1)) with | some L' => G sp sc [2] d mX5_isAll n 27 L' st h Q | none => False) | _ => False)) ∧
  (∀ (n d : Nat) (L : List (Option iV)) (st : List iV) (h : iH) (Q : Option iV → iH → Prop), G sp sc [2] d mX5_isAll (n + 1) 27 L st h Q = Run sp sc d mX5_isAll 2 L st h Q) ∧
  (∀ (n d : Nat) (L : List (Option iV)) (st : List iV) (h : iH) (Q : Option iV → iH → Prop), G sp sc [2] d mX5_isAll (n + 1) 30 L st h Q = G sp sc [2] d mX5_isAll n 31 L (.inl 1 :: st) h Q) ∧
  (∀ (n d : Nat) (L : List (Option iV)) (a : Int) (h : iH) (Q : Option iV → iH → Prop), G sp sc [2] d mX5_isAll (n + 1) 31 L [.inl a] h Q = ((a = 0 ∨ a = 1) ∧ Q (some (.inl a)) h)) ∧
  lkF 5 15 5 = some 4 ∧
  lkF 5 26 5 = some 3 := ⟨by intros; exact G_at (by decide +kernel : fetch mX5_isAll 0 = some (.iconst 0)),
  by intros; exact G_at (by decide +kernel : fetch mX5_isAll 1 = some (.istore_n 2)),
  by intros; exact G_at (by decide +kernel : fetch mX5_isAll 2 = some (.iload_n 2)),
  by intros; exact G_at (by decide +kernel : fetch mX5_isAll 3 = some (.aload_n 0)),
  by intros; exact G_own (by decide +kernel : fetch mX5_isAll 4 = some (.getfield 26)) (by decide +kernel),
  by intros; exact G_at (by decide +kernel : fetch mX5_isAll 7 = some (.if_icmp .ge 23)),
  by intros; exact G_at (by decide +kernel : fetch mX5_isAll 10 = some (.aload_n 0)),
  by intros; exact G_own (by decide +kernel : fetch mX5_isAll 11 = some (.getfield 15)) (by decide +kernel),
  by intros; exact G_at (by decide +kernel : fetch mX5_isAll 14 = some (.iload_n 2)),
  by intros; exact G_at (by decide +kernel : fetch mX5_isAll 15 = some (.laload)),
  by intros; exact G_at (by decide +kernel : fetch mX5_isAll 16 = some (.iload_n 1)),
  by intros; exact G_at (by decide +kernel : fetch mX5_isAll 17 = some (.i2l)),
  by intros; exact G_at (by decide +kernel : fetch mX5_isAll 18 = some (.lcmp)),
  by intros; exact G_at (by decide +kernel : fetch mX5_isAll 19 = some (.ifCond .eq 5)),
  by intros; exact G_at (by decide +kernel : fetch mX5_isAll 22 = some (.iconst 0)),
  by intros; exact G_retz (by decide +kernel : fetch mX5_isAll 23 = some (.ireturn)) (by decide +kernel),
  by intros; exact G_at (by decide +kernel : fetch mX5_isAll 24 = some (.iinc 2 1)),
  by intros; exact G_at (by decide +kernel : fetch mX5_isAll 27 = some (.goto (-25))),
  by intros; exact G_at (by decide +kernel : fetch mX5_isAll 30 = some (.iconst 1)),
  by intros; exact G_retz (by decide +kernel : fetch mX5_isAll 31 = some (.ireturn)) (by decide +kernel),
  by decide +kernel,
  by decide +kernel⟩
theorem gX5_byteAt : (∀ (n d : Nat) (L : List (Option iV)) (st : List iV) (h : iH) (Q : Option iV → iH → Prop), G sp sc [] d mX5_byteAt (n + 1) 0 L st h Q = (match ld L 0 with | some (.inr (.inr (r + 1))) => G sp sc [] d mX5_byteAt n 1 L (.inr (.inr (r + 1)) :: st) h Q | _ => False)) ∧
  (∀ (n d : Nat) (L : List (Option iV)) (st : List iV) (h : iH) (Q : Option iV → iH → Prop), G sp sc [] d mX5_byteAt (n + 1) 1 L st h Q = (match ld L 1 with | some (.inl x) => G sp sc [] d mX5_byteAt n 2 L (.inl x :: st) h Q | _ => False)) ∧
  (∀ (n d : Nat) (L : List (Option iV)) (r : List iV) (m : Nat) (z0 : iV) (h : iH) (Q : Option iV → iH → Prop), G sp sc [] (d + 1) mX5_byteAt (n + 1) 2 L (z0 :: .inr (.inr (m + 2)) :: r) h Q = (match h.1[m]? with | some (.inl (ci, _)) => (match lkC 5 35 ci with | some (y1, n1, kd) => (n1 = 1 ∧ (kd = 2 ∨ kd = 3 ∨ kd = 8) ∧ cs r ≤ 8) ∧ Call sp sc d y1 [.inr (.inr (m + 2)), z0] h (fun q h1 => GC sp sc [] (d + 1) mX5_byteAt n 5 L q r h h1 Q) | none => False) | _ => False)) ∧
  (∀ (n d : Nat) (L : List (Option iV)) (a : Int) (r : List iV) (h : iH) (Q : Option iV → iH → Prop), G sp sc [] d mX5_byteAt (n + 1) 5 L (.inl a :: r) h Q = (inI a = true ∧ (a = 0 → G sp sc [] d mX5_byteAt n 18 L r h Q) ∧ (¬ (a = 0) → G sp sc [] d mX5_byteAt n 8 L r h Q))) ∧
  (∀ (n d : Nat) (L : List (Option iV)) (st : List iV) (h : iH) (Q : Option iV → iH → Prop), G sp sc [] d mX5_byteAt (n + 1) 8 L st h Q = (match ld L 0 with | some (.inr (.inr (r + 1))) => G sp sc [] d mX5_byteAt n 9 L (.inr (.inr (r + 1)) :: st) h Q | _ => False)) ∧
  (∀ (n d : Nat) (L : List (Option iV)) (r : List iV) (m : Nat) (h : iH) (Q : Option iV → iH → Prop), G sp sc [] d mX5_byteAt (n + 1) 9 L (.inr (.inr (m + 2)) :: r) h Q = (match h.1[m]? with | some (.inl (ci, fs)) => (match lkF 5 15 ci with | some k => (match fs[k]? with | some v => G sp sc [] d mX5_byteAt n 12 L (v :: r) h Q | none => False) | none => False) | _ => False)) ∧
  (∀ (n d : Nat) (L : List (Option iV)) (st : List iV) (h : iH) (Q : Option iV → iH → Prop), G sp sc [] d mX5_byteAt (n + 1) 12 L st h Q = (match ld L 1 with | some (.inl x) => G sp sc [] d mX5_byteAt n 13 L (.inl x :: st) h Q | _ => False)) ∧
  (∀ (n d : Nat) (L : List (Option iV)) (r : List iV) (j : Int) (m : Nat) (h : iH) (Q : Option iV → iH → Prop), G sp sc [] d mX5_byteAt (n + 1) 13 L (.inl j :: .inr (.inr (m + 2)) :: r) h Q = (match h.1[m]? with | some (.inr (.inl (1, xs))) => inA j xs.length = true ∧ G sp sc [] d mX5_byteAt n 14 L (.inr (.inl (xs.getD j.toNat 0)) :: r) h Q | _ => False)) ∧
  (∀ (n d : Nat) (L : List (Option iV)) (a : Int) (r : List iV) (h : iH) (Q : Option iV → iH → Prop), G sp sc [] d mX5_byteAt (n + 1) 14 L (.inr (.inl a) :: r) h Q = G sp sc [] d mX5_byteAt n 15 L (.inl a :: r) h Q) ∧
  (∀ (n d : Nat) (L : List (Option iV)) (st : List iV) (h : iH) (Q : Option iV → iH → Prop), G sp sc [] d mX5_byteAt (n + 1) 15 L st h Q = G sp sc [] d mX5_byteAt n 19 L st h Q) ∧
  (∀ (n d : Nat) (L : List (Option iV)) (st : List iV) (h : iH) (Q : Option iV → iH → Prop), G sp sc [] d mX5_byteAt (n + 1) 18 L st h Q = G sp sc [] d mX5_byteAt n 19 L (.inl 0 :: st) h Q) ∧
  (∀ (n d : Nat) (L : List (Option iV)) (a : Int) (h : iH) (Q : Option iV → iH → Prop), G sp sc [] d mX5_byteAt (n + 1) 19 L [.inl a] h Q = Q (some (.inl a)) h) ∧
  lkC 5 35 5 = some (mX5_hasPlace, 1, 2) ∧
  lkF 5 15 5 = some 4 := ⟨by intros; exact G_at (by decide +kernel : fetch mX5_byteAt 0 = some (.aload_n 0)),
  by intros; exact G_at (by decide +kernel : fetch mX5_byteAt 1 = some (.iload_n 1)),
  by intros; exact G_callV (by decide +kernel : fetch mX5_byteAt 2 = some (.invokevirtual 35)) (by decide +kernel) (by decide +kernel) rfl,
  by intros; exact G_at (by decide +kernel : fetch mX5_byteAt 5 = some (.ifCond .eq 13)),
  by intros; exact G_at (by decide +kernel : fetch mX5_byteAt 8 = some (.aload_n 0)),
  by intros; exact G_own (by decide +kernel : fetch mX5_byteAt 9 = some (.getfield 15)) (by decide +kernel),
  by intros; exact G_at (by decide +kernel : fetch mX5_byteAt 12 = some (.iload_n 1)),
  by intros; exact G_at (by decide +kernel : fetch mX5_byteAt 13 = some (.laload)),
  by intros; exact G_at (by decide +kernel : fetch mX5_byteAt 14 = some (.l2i)),
  by intros; exact G_at (by decide +kernel : fetch mX5_byteAt 15 = some (.goto 4)),
  by intros; exact G_at (by decide +kernel : fetch mX5_byteAt 18 = some (.iconst 0)),
  by intros; exact G_reti (by decide +kernel : fetch mX5_byteAt 19 = some (.ireturn)) (by decide +kernel),
  by decide +kernel,
  by decide +kernel⟩
theorem gX5_digitAt : (∀ (n d : Nat) (L : List (Option iV)) (st : List iV) (h : iH) (Q : Option iV → iH → Prop), G sp sc [] d mX5_digitAt (n + 1) 0 L st h Q = (match ld L 0 with | some (.inr (.inr (r + 1))) => G sp sc [] d mX5_digitAt n 1 L (.inr (.inr (r + 1)) :: st) h Q | _ => False)) ∧
  (∀ (n d : Nat) (L : List (Option iV)) (st : List iV) (h : iH) (Q : Option iV → iH → Prop), G sp sc [] d mX5_digitAt (n + 1) 1 L st h Q = (match ld L 1 with | some (.inl x) => G sp sc [] d mX5_digitAt n 2 L (.inl x :: st) h Q | _ => False)) ∧
  (∀ (n d : Nat) (L : List (Option iV)) (r : List iV) (m : Nat) (z0 : iV) (h : iH) (Q : Option iV → iH → Prop), G sp sc [] (d + 1) mX5_digitAt (n + 1) 2 L (z0 :: .inr (.inr (m + 2)) :: r) h Q = (match h.1[m]? with | some (.inl (ci, _)) => (match lkC 5 39 ci with | some (y1, n1, kd) => (n1 = 1 ∧ (kd = 2 ∨ kd = 3 ∨ kd = 8) ∧ cs r ≤ 8) ∧ Call sp sc d y1 [.inr (.inr (m + 2)), z0] h (fun q h1 => GC sp sc [] (d + 1) mX5_digitAt n 5 L q r h h1 Q) | none => False) | _ => False)) ∧
  (∀ (n d : Nat) (L : List (Option iV)) (st : List iV) (h : iH) (Q : Option iV → iH → Prop), G sp sc [] d mX5_digitAt (n + 1) 5 L st h Q = ((-128 ≤ (48 : Int) ∧ (48 : Int) < 128) ∧ G sp sc [] d mX5_digitAt n 7 L (.inl 48 :: st) h Q)) ∧
  (∀ (n d : Nat) (L : List (Option iV)) (a : Int) (b : Int) (r : List iV) (h : iH) (Q : Option iV → iH → Prop), G sp sc [] d mX5_digitAt (n + 1) 7 L (.inl b :: .inl a :: r) h Q = G sp sc [] d mX5_digitAt n 8 L (.inl (a - b) :: r) h Q) ∧
  (∀ (n d : Nat) (L : List (Option iV)) (a : Int) (h : iH) (Q : Option iV → iH → Prop), G sp sc [] d mX5_digitAt (n + 1) 8 L [.inl a] h Q = Q (some (.inl a)) h) ∧
  lkC 5 39 5 = some (mX5_byteAt, 1, 2) := ⟨by intros; exact G_at (by decide +kernel : fetch mX5_digitAt 0 = some (.aload_n 0)),
  by intros; exact G_at (by decide +kernel : fetch mX5_digitAt 1 = some (.iload_n 1)),
  by intros; exact G_callV (by decide +kernel : fetch mX5_digitAt 2 = some (.invokevirtual 39)) (by decide +kernel) (by decide +kernel) rfl,
  by intros; exact G_at (by decide +kernel : fetch mX5_digitAt 5 = some (.bipush 48)),
  by intros; exact G_at (by decide +kernel : fetch mX5_digitAt 7 = some (.isub)),
  by intros; exact G_reti (by decide +kernel : fetch mX5_digitAt 8 = some (.ireturn)) (by decide +kernel),
  by decide +kernel⟩
theorem gX6_init : (∀ (n d : Nat) (L : List (Option iV)) (st : List iV) (h : iH) (Q : Option iV → iH → Prop), G sp sc [] d mX6_init (n + 1) 0 L st h Q = (match ld L 0 with | some (.inr (.inr (r + 1))) => G sp sc [] d mX6_init n 1 L (.inr (.inr (r + 1)) :: st) h Q | _ => False)) ∧
  (∀ (n d : Nat) (L : List (Option iV)) (r : List iV) (m : Nat) (h : iH) (Q : Option iV → iH → Prop), G sp sc [] (d + 1) mX6_init (n + 1) 1 L (.inr (.inr (m + 2)) :: r) h Q = (cs r ≤ 8 ∧ G sp sc [] (d + 1) mX6_init n 4 L r h Q)) ∧
  (∀ (n d : Nat) (L : List (Option iV)) (st : List iV) (h : iH) (Q : Option iV → iH → Prop), G sp sc [] d mX6_init (n + 1) 4 L st h Q = (match ld L 0 with | some (.inr (.inr (r + 1))) => G sp sc [] d mX6_init n 5 L (.inr (.inr (r + 1)) :: st) h Q | _ => False)) ∧
  (∀ (n d : Nat) (L : List (Option iV)) (st : List iV) (h : iH) (Q : Option iV → iH → Prop), G sp sc [] d mX6_init (n + 1) 5 L st h Q = (match ld L 1 with | some (.inl x) => G sp sc [] d mX6_init n 6 L (.inl x :: st) h Q | _ => False)) ∧
  (∀ (n d : Nat) (L : List (Option iV)) (r : List iV) (v : iV) (m : Nat) (h : iH) (Q : Option iV → iH → Prop), G sp sc [] d mX6_init (n + 1) 6 L (v :: .inr (.inr (m + 2)) :: r) h Q = (match h.1[m]? with | some (.inl (ci, fs)) => (match lkF 6 7 ci with | some k => (fitV (tyT ci k) v = true ∧ k < fs.length ∧ pOK 6 true ci k = true) ∧ G sp sc [] d mX6_init n 9 L r (h.1.set m (.inl (ci, fs.set k v)), h.2) Q | none => False) | _ => False)) ∧
  (∀ (n d : Nat) (L : List (Option iV))  (h : iH) (Q : Option iV → iH → Prop), G sp sc [] d mX6_init (n + 1) 9 L [] h Q = Q none h) ∧
  lkF 6 7 0 = some 0 ∧
  lkF 6 7 1 = some 0 ∧
  lkF 6 7 3 = some 0 ∧
  lkF 6 7 6 = some 0 ∧
  lkF 6 7 7 = some 0 ∧
  lkF 6 7 9 = some 0 ∧
  pOK 6 true 0 0 = true ∧
  pOK 6 true 1 0 = true ∧
  pOK 6 true 3 0 = true ∧
  pOK 6 true 6 0 = true ∧
  pOK 6 true 7 0 = true ∧
  pOK 6 true 9 0 = true := ⟨by intros; exact G_at (by decide +kernel : fetch mX6_init 0 = some (.aload_n 0)),
  by intros; exact G_obj (by decide +kernel : fetch mX6_init 1 = some (.invokespecial 1)) (by decide +kernel),
  by intros; exact G_at (by decide +kernel : fetch mX6_init 4 = some (.aload_n 0)),
  by intros; exact G_at (by decide +kernel : fetch mX6_init 5 = some (.iload_n 1)),
  by intros; exact G_ownW (by decide +kernel : fetch mX6_init 6 = some (.putfield 7)) (by decide +kernel) (by decide +kernel),
  by intros; exact G_retv (by decide +kernel : fetch mX6_init 9 = some (.return_)) (by decide +kernel),
  by decide +kernel,
  by decide +kernel,
  by decide +kernel,
  by decide +kernel,
  by decide +kernel,
  by decide +kernel,
  by decide +kernel,
  by decide +kernel,
  by decide +kernel,
  by decide +kernel,
  by decide +kernel,
  by decide +kernel⟩
theorem gX6_kind : (∀ (n d : Nat) (L : List (Option iV)) (st : List iV) (h : iH) (Q : Option iV → iH → Prop), G sp sc [] d mX6_kind (n + 1) 0 L st h Q = G sp sc [] d mX6_kind n 1 L (.inl 0 :: st) h Q) ∧
  (∀ (n d : Nat) (L : List (Option iV)) (a : Int) (h : iH) (Q : Option iV → iH → Prop), G sp sc [] d mX6_kind (n + 1) 1 L [.inl a] h Q = Q (some (.inl a)) h) := ⟨by intros; exact G_at (by decide +kernel : fetch mX6_kind 0 = some (.iconst 0)),
  by intros; exact G_reti (by decide +kernel : fetch mX6_kind 1 = some (.ireturn)) (by decide +kernel)⟩
theorem gX6_growth : (∀ (n d : Nat) (L : List (Option iV)) (st : List iV) (h : iH) (Q : Option iV → iH → Prop), G sp sc [] d mX6_growth (n + 1) 0 L st h Q = G sp sc [] d mX6_growth n 1 L (.inl 3 :: st) h Q) ∧
  (∀ (n d : Nat) (L : List (Option iV)) (a : Int) (h : iH) (Q : Option iV → iH → Prop), G sp sc [] d mX6_growth (n + 1) 1 L [.inl a] h Q = Q (some (.inl a)) h) := ⟨by intros; exact G_at (by decide +kernel : fetch mX6_growth 0 = some (.iconst 3)),
  by intros; exact G_reti (by decide +kernel : fetch mX6_growth 1 = some (.ireturn)) (by decide +kernel)⟩
theorem gX6_sulking : (∀ (n d : Nat) (L : List (Option iV)) (st : List iV) (h : iH) (Q : Option iV → iH → Prop), G sp sc [] d mX6_sulking (n + 1) 0 L st h Q = G sp sc [] d mX6_sulking n 1 L (.inl 0 :: st) h Q) ∧
  (∀ (n d : Nat) (L : List (Option iV)) (a : Int) (h : iH) (Q : Option iV → iH → Prop), G sp sc [] d mX6_sulking (n + 1) 1 L [.inl a] h Q = Q (some (.inl a)) h) := ⟨by intros; exact G_at (by decide +kernel : fetch mX6_sulking 0 = some (.iconst 0)),
  by intros; exact G_reti (by decide +kernel : fetch mX6_sulking 1 = some (.ireturn)) (by decide +kernel)⟩
theorem gX6_retold : (∀ (n d : Nat) (L : List (Option iV)) (st : List iV) (h : iH) (Q : Option iV → iH → Prop), G sp sc [] d mX6_retold (n + 1) 0 L st h Q = (match ld L 1 with | some (.inl x) => G sp sc [] d mX6_retold n 1 L (.inl x :: st) h Q | _ => False)) ∧
  (∀ (n d : Nat) (L : List (Option iV)) (st : List iV) (h : iH) (Q : Option iV → iH → Prop), G sp sc [] d mX6_retold (n + 1) 1 L st h Q = (match ld L 1 with | some (.inl x) => G sp sc [] d mX6_retold n 2 L (.inl x :: st) h Q | _ => False)) ∧
  (∀ (n d : Nat) (L : List (Option iV)) (st : List iV) (h : iH) (Q : Option iV → iH → Prop), G sp sc [] d mX6_retold (n + 1) 2 L st h Q = G sp sc [] d mX6_retold n 3 L (.inl 4 :: st) h Q) ∧
  (∀ (n d : Nat) (L : List (Option iV)) (a : Int) (b : Int) (r : List iV) (h : iH) (Q : Option iV → iH → Prop), G sp sc [] d mX6_retold (n + 1) 3 L (.inl b :: .inl a :: r) h Q = ((inI a = true ∧ inI b = true ∧ 0 < b) ∧ G sp sc [] d mX6_retold n 4 L (.inl (a.tdiv b) :: r) h Q)) ∧
  (∀ (n d : Nat) (L : List (Option iV)) (a : Int) (b : Int) (r : List iV) (h : iH) (Q : Option iV → iH → Prop), G sp sc [] d mX6_retold (n + 1) 4 L (.inl b :: .inl a :: r) h Q = G sp sc [] d mX6_retold n 5 L (.inl (a - b) :: r) h Q) ∧
  (∀ (n d : Nat) (L : List (Option iV)) (a : Int) (h : iH) (Q : Option iV → iH → Prop), G sp sc [] d mX6_retold (n + 1) 5 L [.inl a] h Q = Q (some (.inl a)) h) := ⟨by intros; exact G_at (by decide +kernel : fetch mX6_retold 0 = some (.iload_n 1)),
  by intros; exact G_at (by decide +kernel : fetch mX6_retold 1 = some (.iload_n 1)),
  by intros; exact G_at (by decide +kernel : fetch mX6_retold 2 = some (.iconst 4)),
  by intros; exact G_at (by decide +kernel : fetch mX6_retold 3 = some (.idiv)),
  by intros; exact G_at (by decide +kernel : fetch mX6_retold 4 = some (.isub)),
  by intros; exact G_reti (by decide +kernel : fetch mX6_retold 5 = some (.ireturn)) (by decide +kernel)⟩
theorem gX6_price : (∀ (n d : Nat) (L : List (Option iV)) (st : List iV) (h : iH) (Q : Option iV → iH → Prop), G sp sc [] d mX6_price (n + 1) 0 L st h Q = G sp sc [] d mX6_price n 1 L (.inl 5 :: st) h Q) ∧
  (∀ (n d : Nat) (L : List (Option iV)) (a : Int) (h : iH) (Q : Option iV → iH → Prop), G sp sc [] d mX6_price (n + 1) 1 L [.inl a] h Q = Q (some (.inl a)) h) := ⟨by intros; exact G_at (by decide +kernel : fetch mX6_price 0 = some (.iconst 5)),
  by intros; exact G_reti (by decide +kernel : fetch mX6_price 1 = some (.ireturn)) (by decide +kernel)⟩
theorem gX6_fail : (∀ (n d : Nat) (L : List (Option iV)) (st : List iV) (h : iH) (Q : Option iV → iH → Prop), G sp sc [] d mX6_fail (n + 1) 0 L st h Q = (match ld L 0 with | some (.inr (.inr (r + 1))) => G sp sc [] d mX6_fail n 1 L (.inr (.inr (r + 1)) :: st) h Q | _ => False)) ∧
  (∀ (n d : Nat) (L : List (Option iV)) (r : List iV) (m : Nat) (h : iH) (Q : Option iV → iH → Prop), G sp sc [] d mX6_fail (n + 1) 1 L (.inr (.inr (m + 2)) :: r) h Q = (match h.1[m]? with | some (.inl (ci, fs)) => (match lkF 6 7 ci with | some k => (match fs[k]? with | some v => G sp sc [] d mX6_fail n 4 L (v :: r) h Q | none => False) | none => False) | _ => False)) ∧
  (∀ (n d : Nat) (L : List (Option iV)) (a : Int) (r : List iV) (h : iH) (Q : Option iV → iH → Prop), G sp sc [] d mX6_fail (n + 1) 4 L (.inl a :: r) h Q = (inI a = true ∧ (a = 0 → G sp sc [] d mX6_fail n 17 L r h Q) ∧ (¬ (a = 0) → G sp sc [] d mX6_fail n 7 L r h Q))) ∧
  (∀ (n d : Nat) (L : List (Option iV)) (a : Int) (r : List iV) (h : iH) (Q : Option iV → iH → Prop), G sp sc [] d mX6_fail (n + 1) 10 L (.inl a :: r) h Q = G sp sc [] d mX6_fail n 11 L (.inl a :: .inl a :: r) h Q) ∧
  (∀ (n d : Nat) (L : List (Option iV)) (a : Nat) (r : List iV) (h : iH) (Q : Option iV → iH → Prop), G sp sc [] d mX6_fail (n + 1) 10 L (.inr (.inr a) :: r) h Q = G sp sc [] d mX6_fail n 11 L (.inr (.inr a) :: .inr (.inr a) :: r) h Q) ∧
  (∀ (n d : Nat) (L : List (Option iV))  (h : iH) (Q : Option iV → iH → Prop), G sp sc [] d mX6_fail (n + 1) 17 L [] h Q = Q none h) ∧
  lkF 6 7 0 = some 0 ∧
  lkF 6 7 1 = some 0 ∧
  lkF 6 7 3 = some 0 ∧
  lkF 6 7 6 = some 0 ∧
  lkF 6 7 7 = some 0 ∧
  lkF 6 7 9 = some 0 := ⟨by intros; exact G_at (by decide +kernel : fetch mX6_fail 0 = some (.aload_n 0)),
  by intros; exact G_own (by decide +kernel : fetch mX6_fail 1 = some (.getfield 7)) (by decide +kernel),
  by intros; exact G_at (by decide +kernel : fetch mX6_fail 4 = some (.ifCond .eq 13)),
  by intros; exact G_at (by decide +kernel : fetch mX6_fail 10 = some (.dup)),
  by intros; exact G_at (by decide +kernel : fetch mX6_fail 10 = some (.dup)),
  by intros; exact G_retv (by decide +kernel : fetch mX6_fail 17 = some (.return_)) (by decide +kernel),
  by decide +kernel,
  by decide +kernel,
  by decide +kernel,
  by decide +kernel,
  by decide +kernel,
  by decide +kernel⟩
theorem gX7_init : (∀ (n d : Nat) (L : List (Option iV)) (st : List iV) (h : iH) (Q : Option iV → iH → Prop), G sp sc [] d mX7_init (n + 1) 0 L st h Q = (match ld L 0 with | some (.inr (.inr (r + 1))) => G sp sc [] d mX7_init n 1 L (.inr (.inr (r + 1)) :: st) h Q | _ => False)) ∧
  (∀ (n d : Nat) (L : List (Option iV)) (st : List iV) (h : iH) (Q : Option iV → iH → Prop), G sp sc [] d mX7_init (n + 1) 1 L st h Q = (match ld L 1 with | some (.inl x) => G sp sc [] d mX7_init n 2 L (.inl x :: st) h Q | _ => False)) ∧
  (∀ (n d : Nat) (L : List (Option iV)) (r : List iV) (m : Nat) (z0 : iV) (h : iH) (Q : Option iV → iH → Prop), G sp sc [] (d + 1) mX7_init (n + 1) 2 L (z0 :: .inr (.inr (m + 2)) :: r) h Q = (match h.1[m]? with | some (.inl (ci, _)) => cs r ≤ 8 ∧ Call sp sc d mX3_init [.inr (.inr (m + 2)), z0] h (fun q h1 => GC sp sc [] (d + 1) mX7_init n 5 L q r h h1 Q) | _ => False)) ∧
  (∀ (n d : Nat) (L : List (Option iV))  (h : iH) (Q : Option iV → iH → Prop), G sp sc [] d mX7_init (n + 1) 5 L [] h Q = Q none h) := ⟨by intros; exact G_at (by decide +kernel : fetch mX7_init 0 = some (.aload_n 0)),
  by intros; exact G_at (by decide +kernel : fetch mX7_init 1 = some (.iload_n 1)),
  by intros; exact G_callP (k := 1) (kd := 4) (by decide +kernel : fetch mX7_init 2 = some (.invokespecial 1)) (by decide +kernel) (by decide +kernel) rfl (by decide),
  by intros; exact G_retv (by decide +kernel : fetch mX7_init 5 = some (.return_)) (by decide +kernel)⟩
theorem gX7_kind : (∀ (n d : Nat) (L : List (Option iV)) (st : List iV) (h : iH) (Q : Option iV → iH → Prop), G sp sc [] d mX7_kind (n + 1) 0 L st h Q = G sp sc [] d mX7_kind n 1 L (.inl 4 :: st) h Q) ∧
  (∀ (n d : Nat) (L : List (Option iV)) (a : Int) (h : iH) (Q : Option iV → iH → Prop), G sp sc [] d mX7_kind (n + 1) 1 L [.inl a] h Q = Q (some (.inl a)) h) := ⟨by intros; exact G_at (by decide +kernel : fetch mX7_kind 0 = some (.iconst 4)),
  by intros; exact G_reti (by decide +kernel : fetch mX7_kind 1 = some (.ireturn)) (by decide +kernel)⟩
theorem gX7_growth : (∀ (n d : Nat) (L : List (Option iV)) (st : List iV) (h : iH) (Q : Option iV → iH → Prop), G sp sc [] d mX7_growth (n + 1) 0 L st h Q = (match ld L 0 with | some (.inr (.inr (r + 1))) => G sp sc [] d mX7_growth n 1 L (.inr (.inr (r + 1)) :: st) h Q | _ => False)) ∧
  (∀ (n d : Nat) (L : List (Option iV)) (st : List iV) (h : iH) (Q : Option iV → iH → Prop), G sp sc [] d mX7_growth (n + 1) 1 L st h Q = (match ld L 1 with | some (.inl x) => G sp sc [] d mX7_growth n 2 L (.inl x :: st) h Q | _ => False)) ∧
  (∀ (n d : Nat) (L : List (Option iV)) (r : List iV) (m : Nat) (z0 : iV) (h : iH) (Q : Option iV → iH → Prop), G sp sc [] (d + 1) mX7_growth (n + 1) 2 L (z0 :: .inr (.inr (m + 2)) :: r) h Q = (match h.1[m]? with | some (.inl (ci, _)) => cs r ≤ 8 ∧ Call sp sc d mX9_growth [.inr (.inr (m + 2)), z0] h (fun q h1 => GC sp sc [] (d + 1) mX7_growth n 5 L q r h h1 Q) | _ => False)) ∧
  (∀ (n d : Nat) (L : List (Option iV)) (st : List iV) (h : iH) (Q : Option iV → iH → Prop), G sp sc [] d mX7_growth (n + 1) 5 L st h Q = (match ld L 0 with | some (.inr (.inr (r + 1))) => G sp sc [] d mX7_growth n 6 L (.inr (.inr (r + 1)) :: st) h Q | _ => False)) ∧
  (∀ (n d : Nat) (L : List (Option iV)) (r : List iV) (m : Nat) (h : iH) (Q : Option iV → iH → Prop), G sp sc [] d mX7_growth (n + 1) 6 L (.inr (.inr (m + 2)) :: r) h Q = (match h.1[m]? with | some (.inl (ci, fs)) => (match lkF 7 11 ci with | some k => (match fs[k]? with | some v => G sp sc [] d mX7_growth n 9 L (v :: r) h Q | none => False) | none => False) | _ => False)) ∧
  (∀ (n d : Nat) (L : List (Option iV)) (a : Int) (b : Int) (r : List iV) (h : iH) (Q : Option iV → iH → Prop), G sp sc [] d mX7_growth (n + 1) 9 L (.inl b :: .inl a :: r) h Q = G sp sc [] d mX7_growth n 10 L (.inl (a + b) :: r) h Q) ∧
  (∀ (n d : Nat) (L : List (Option iV)) (a : Int) (h : iH) (Q : Option iV → iH → Prop), G sp sc [] d mX7_growth (n + 1) 10 L [.inl a] h Q = Q (some (.inl a)) h) ∧
  lkF 7 11 7 = some 0 := ⟨by intros; exact G_at (by decide +kernel : fetch mX7_growth 0 = some (.aload_n 0)),
  by intros; exact G_at (by decide +kernel : fetch mX7_growth 1 = some (.iload_n 1)),
  by intros; exact G_callP (k := 1) (kd := 7) (by decide +kernel : fetch mX7_growth 2 = some (.invokespecial 7)) (by decide +kernel) (by decide +kernel) rfl (by decide),
  by intros; exact G_at (by decide +kernel : fetch mX7_growth 5 = some (.aload_n 0)),
  by intros; exact G_own (by decide +kernel : fetch mX7_growth 6 = some (.getfield 11)) (by decide +kernel),
  by intros; exact G_at (by decide +kernel : fetch mX7_growth 9 = some (.iadd)),
  by intros; exact G_reti (by decide +kernel : fetch mX7_growth 10 = some (.ireturn)) (by decide +kernel),
  by decide +kernel⟩
theorem gX7_sulking : (∀ (n d : Nat) (L : List (Option iV)) (st : List iV) (h : iH) (Q : Option iV → iH → Prop), G sp sc [] d mX7_sulking (n + 1) 0 L st h Q = G sp sc [] d mX7_sulking n 1 L (.inl 2 :: st) h Q) ∧
  (∀ (n d : Nat) (L : List (Option iV)) (st : List iV) (h : iH) (Q : Option iV → iH → Prop), G sp sc [] d mX7_sulking (n + 1) 1 L st h Q = (match ld L 0 with | some (.inr (.inr (r + 1))) => G sp sc [] d mX7_sulking n 2 L (.inr (.inr (r + 1)) :: st) h Q | _ => False)) ∧
  (∀ (n d : Nat) (L : List (Option iV)) (r : List iV) (m : Nat) (h : iH) (Q : Option iV → iH → Prop), G sp sc [] (d + 1) mX7_sulking (n + 1) 2 L (.inr (.inr (m + 2)) :: r) h Q = (match h.1[m]? with | some (.inl (ci, _)) => cs r ≤ 8 ∧ Call sp sc d mX3_sulking [.inr (.inr (m + 2))] h (fun q h1 => GC sp sc [] (d + 1) mX7_sulking n 5 L q r h h1 Q) | _ => False)) ∧
  (∀ (n d : Nat) (L : List (Option iV)) (a : Int) (b : Int) (r : List iV) (h : iH) (Q : Option iV → iH → Prop), G sp sc [] d mX7_sulking (n + 1) 5 L (.inl b :: .inl a :: r) h Q = G sp sc [] d mX7_sulking n 6 L (.inl (a * b) :: r) h Q) ∧
  (∀ (n d : Nat) (L : List (Option iV)) (a : Int) (h : iH) (Q : Option iV → iH → Prop), G sp sc [] d mX7_sulking (n + 1) 6 L [.inl a] h Q = Q (some (.inl a)) h) := ⟨by intros; exact G_at (by decide +kernel : fetch mX7_sulking 0 = some (.iconst 2)),
  by intros; exact G_at (by decide +kernel : fetch mX7_sulking 1 = some (.aload_n 0)),
  by intros; exact G_callP (k := 0) (kd := 6) (by decide +kernel : fetch mX7_sulking 2 = some (.invokespecial 17)) (by decide +kernel) (by decide +kernel) rfl (by decide),
  by intros; exact G_at (by decide +kernel : fetch mX7_sulking 5 = some (.imul)),
  by intros; exact G_reti (by decide +kernel : fetch mX7_sulking 6 = some (.ireturn)) (by decide +kernel)⟩
theorem gX7_retold : (∀ (n d : Nat) (L : List (Option iV)) (st : List iV) (h : iH) (Q : Option iV → iH → Prop), G sp sc [] d mX7_retold (n + 1) 0 L st h Q = (match ld L 0 with | some (.inr (.inr (r + 1))) => G sp sc [] d mX7_retold n 1 L (.inr (.inr (r + 1)) :: st) h Q | _ => False)) ∧
  (∀ (n d : Nat) (L : List (Option iV)) (st : List iV) (h : iH) (Q : Option iV → iH → Prop), G sp sc [] d mX7_retold (n + 1) 1 L st h Q = (match ld L 1 with | some (.inl x) => G sp sc [] d mX7_retold n 2 L (.inl x :: st) h Q | _ => False)) ∧
  (∀ (n d : Nat) (L : List (Option iV)) (r : List iV) (m : Nat) (z0 : iV) (h : iH) (Q : Option iV → iH → Prop), G sp sc [] (d + 1) mX7_retold (n + 1) 2 L (z0 :: .inr (.inr (m + 2)) :: r) h Q = (match h.1[m]? with | some (.inl (ci, _)) => cs r ≤ 8 ∧ Call sp sc d mX3_retold [.inr (.inr (m + 2)), z0] h (fun q h1 => GC sp sc [] (d + 1) mX7_retold n 5 L q r h h1 Q) | _ => False)) ∧
  (∀ (n d : Nat) (L : List (Option iV)) (st : List iV) (h : iH) (Q : Option iV → iH → Prop), G sp sc [] d mX7_retold (n + 1) 5 L st h Q = (match ld L 1 with | some (.inl x) => G sp sc [] d mX7_retold n 6 L (.inl x :: st) h Q | _ => False)) ∧
  (∀ (n d : Nat) (L : List (Option iV)) (a : Int) (b : Int) (r : List iV) (h : iH) (Q : Option iV → iH → Prop), G sp sc [] d mX7_retold (n + 1) 6 L (.inl b :: .inl a :: r) h Q = G sp sc [] d mX7_retold n 7 L (.inl (a + b) :: r) h Q) ∧
  (∀ (n d : Nat) (L : List (Option iV)) (a : Int) (h : iH) (Q : Option iV → iH → Prop), G sp sc [] d mX7_retold (n + 1) 7 L [.inl a] h Q = Q (some (.inl a)) h) := ⟨by intros; exact G_at (by decide +kernel : fetch mX7_retold 0 = some (.aload_n 0)),
  by intros; exact G_at (by decide +kernel : fetch mX7_retold 1 = some (.iload_n 1)),
  by intros; exact G_callP (k := 1) (kd := 6) (by decide +kernel : fetch mX7_retold 2 = some (.invokespecial 21)) (by decide +kernel) (by decide +kernel) rfl (by decide),
  by intros; exact G_at (by decide +kernel : fetch mX7_retold 5 = some (.iload_n 1)),
  by intros; exact G_at (by decide +kernel : fetch mX7_retold 6 = some (.iadd)),
  by intros; exact G_reti (by decide +kernel : fetch mX7_retold 7 = some (.ireturn)) (by decide +kernel)⟩
theorem gX7_price : (∀ (n d : Nat) (L : List (Option iV)) (st : List iV) (h : iH) (Q : Option iV → iH → Prop), G sp sc [] d mX7_price (n + 1) 0 L st h Q = G sp sc [] d mX7_price n 1 L (.inl 2 :: st) h Q) ∧
  (∀ (n d : Nat) (L : List (Option iV)) (st : List iV) (h : iH) (Q : Option iV → iH → Prop), G sp sc [] d mX7_price (n + 1) 1 L st h Q = (match ld L 0 with | some (.inr (.inr (r + 1))) => G sp sc [] d mX7_price n 2 L (.inr (.inr (r + 1)) :: st) h Q | _ => False)) ∧
  (∀ (n d : Nat) (L : List (Option iV)) (r : List iV) (m : Nat) (h : iH) (Q : Option iV → iH → Prop), G sp sc [] (d + 1) mX7_price (n + 1) 2 L (.inr (.inr (m + 2)) :: r) h Q = (match h.1[m]? with | some (.inl (ci, _)) => cs r ≤ 8 ∧ Call sp sc d mX3_price [.inr (.inr (m + 2))] h (fun q h1 => GC sp sc [] (d + 1) mX7_price n 5 L q r h h1 Q) | _ => False)) ∧
  (∀ (n d : Nat) (L : List (Option iV)) (a : Int) (b : Int) (r : List iV) (h : iH) (Q : Option iV → iH → Prop), G sp sc [] d mX7_price (n + 1) 5 L (.inl b :: .inl a :: r) h Q = G sp sc [] d mX7_price n 6 L (.inl (a * b) :: r) h Q) ∧
  (∀ (n d : Nat) (L : List (Option iV)) (a : Int) (h : iH) (Q : Option iV → iH → Prop), G sp sc [] d mX7_price (n + 1) 6 L [.inl a] h Q = Q (some (.inl a)) h) := ⟨by intros; exact G_at (by decide +kernel : fetch mX7_price 0 = some (.iconst 2)),
  by intros; exact G_at (by decide +kernel : fetch mX7_price 1 = some (.aload_n 0)),
  by intros; exact G_callP (k := 0) (kd := 6) (by decide +kernel : fetch mX7_price 2 = some (.invokespecial 25)) (by decide +kernel) (by decide +kernel) rfl (by decide),
  by intros; exact G_at (by decide +kernel : fetch mX7_price 5 = some (.imul)),
  by intros; exact G_reti (by decide +kernel : fetch mX7_price 6 = some (.ireturn)) (by decide +kernel)⟩
theorem gX7_fail : (∀ (n d : Nat) (L : List (Option iV)) (st : List iV) (h : iH) (Q : Option iV → iH → Prop), G sp sc [] d mX7_fail (n + 1) 0 L st h Q = (match ld L 0 with | some (.inr (.inr (r + 1))) => G sp sc [] d mX7_fail n 1 L (.inr (.inr (r + 1)) :: st) h Q | _ => False)) ∧
  (∀ (n d : Nat) (L : List (Option iV)) (r : List iV) (m : Nat) (h : iH) (Q : Option iV → iH → Prop), G sp sc [] d mX7_fail (n + 1) 1 L (.inr (.inr (m + 2)) :: r) h Q = (match h.1[m]? with | some (.inl (ci, fs)) => (match lkF 7 11 ci with | some k => (match fs[k]? with | some v => G sp sc [] d mX7_fail n 4 L (v :: r) h Q | none => False) | none => False) | _ => False)) ∧
  (∀ (n d : Nat) (L : List (Option iV)) (a : Int) (r : List iV) (h : iH) (Q : Option iV → iH → Prop), G sp sc [] d mX7_fail (n + 1) 4 L (.inl a :: r) h Q = (inI a = true ∧ (a = 0 → G sp sc [] d mX7_fail n 17 L r h Q) ∧ (¬ (a = 0) → G sp sc [] d mX7_fail n 7 L r h Q))) ∧
  (∀ (n d : Nat) (L : List (Option iV)) (a : Int) (r : List iV) (h : iH) (Q : Option iV → iH → Prop), G sp sc [] d mX7_fail (n + 1) 10 L (.inl a :: r) h Q = G sp sc [] d mX7_fail n 11 L (.inl a :: .inl a :: r) h Q) ∧
  (∀ (n d : Nat) (L : List (Option iV)) (a : Nat) (r : List iV) (h : iH) (Q : Option iV → iH → Prop), G sp sc [] d mX7_fail (n + 1) 10 L (.inr (.inr a) :: r) h Q = G sp sc [] d mX7_fail n 11 L (.inr (.inr a) :: .inr (.inr a) :: r) h Q) ∧
  (∀ (n d : Nat) (L : List (Option iV))  (h : iH) (Q : Option iV → iH → Prop), G sp sc [] d mX7_fail (n + 1) 17 L [] h Q = Q none h) ∧
  lkF 7 11 7 = some 0 := ⟨by intros; exact G_at (by decide +kernel : fetch mX7_fail 0 = some (.aload_n 0)),
  by intros; exact G_own (by decide +kernel : fetch mX7_fail 1 = some (.getfield 11)) (by decide +kernel),
  by intros; exact G_at (by decide +kernel : fetch mX7_fail 4 = some (.ifCond .eq 13)),
  by intros; exact G_at (by decide +kernel : fetch mX7_fail 10 = some (.dup)),
  by intros; exact G_at (by decide +kernel : fetch mX7_fail 10 = some (.dup)),
  by intros; exact G_retv (by decide +kernel : fetch mX7_fail 17 = some (.return_)) (by decide +kernel),
  by decide +kernel⟩
theorem gX9_init : (∀ (n d : Nat) (L : List (Option iV)) (st : List iV) (h : iH) (Q : Option iV → iH → Prop), G sp sc [] d mX9_init (n + 1) 0 L st h Q = (match ld L 0 with | some (.inr (.inr (r + 1))) => G sp sc [] d mX9_init n 1 L (.inr (.inr (r + 1)) :: st) h Q | _ => False)) ∧
  (∀ (n d : Nat) (L : List (Option iV)) (st : List iV) (h : iH) (Q : Option iV → iH → Prop), G sp sc [] d mX9_init (n + 1) 1 L st h Q = (match ld L 1 with | some (.inl x) => G sp sc [] d mX9_init n 2 L (.inl x :: st) h Q | _ => False)) ∧
  (∀ (n d : Nat) (L : List (Option iV)) (r : List iV) (m : Nat) (z0 : iV) (h : iH) (Q : Option iV → iH → Prop), G sp sc [] (d + 1) mX9_init (n + 1) 2 L (z0 :: .inr (.inr (m + 2)) :: r) h Q = (match h.1[m]? with | some (.inl (ci, _)) => cs r ≤ 8 ∧ Call sp sc d mX6_init [.inr (.inr (m + 2)), z0] h (fun q h1 => GC sp sc [] (d + 1) mX9_init n 5 L q r h h1 Q) | _ => False)) ∧
  (∀ (n d : Nat) (L : List (Option iV))  (h : iH) (Q : Option iV → iH → Prop), G sp sc [] d mX9_init (n + 1) 5 L [] h Q = Q none h) := ⟨by intros; exact G_at (by decide +kernel : fetch mX9_init 0 = some (.aload_n 0)),
  by intros; exact G_at (by decide +kernel : fetch mX9_init 1 = some (.iload_n 1)),
  by intros; exact G_callP (k := 1) (kd := 4) (by decide +kernel : fetch mX9_init 2 = some (.invokespecial 1)) (by decide +kernel) (by decide +kernel) rfl (by decide),
  by intros; exact G_retv (by decide +kernel : fetch mX9_init 5 = some (.return_)) (by decide +kernel)⟩
theorem gX9_kind : (∀ (n d : Nat) (L : List (Option iV)) (st : List iV) (h : iH) (Q : Option iV → iH → Prop), G sp sc [] d mX9_kind (n + 1) 0 L st h Q = G sp sc [] d mX9_kind n 1 L (.inl 1 :: st) h Q) ∧
  (∀ (n d : Nat) (L : List (Option iV)) (a : Int) (h : iH) (Q : Option iV → iH → Prop), G sp sc [] d mX9_kind (n + 1) 1 L [.inl a] h Q = Q (some (.inl a)) h) := ⟨by intros; exact G_at (by decide +kernel : fetch mX9_kind 0 = some (.iconst 1)),
  by intros; exact G_reti (by decide +kernel : fetch mX9_kind 1 = some (.ireturn)) (by decide +kernel)⟩
theorem gX9_growth : (∀ (n d : Nat) (L : List (Option iV)) (st : List iV) (h : iH) (Q : Option iV → iH → Prop), G sp sc [] d mX9_growth (n + 1) 0 L st h Q = (match ld L 0 with | some (.inr (.inr (r + 1))) => G sp sc [] d mX9_growth n 1 L (.inr (.inr (r + 1)) :: st) h Q | _ => False)) ∧
  (∀ (n d : Nat) (L : List (Option iV)) (st : List iV) (h : iH) (Q : Option iV → iH → Prop), G sp sc [] d mX9_growth (n + 1) 1 L st h Q = (match ld L 1 with | some (.inl x) => G sp sc [] d mX9_growth n 2 L (.inl x :: st) h Q | _ => False)) ∧
  (∀ (n d : Nat) (L : List (Option iV)) (r : List iV) (m : Nat) (z0 : iV) (h : iH) (Q : Option iV → iH → Prop), G sp sc [] (d + 1) mX9_growth (n + 1) 2 L (z0 :: .inr (.inr (m + 2)) :: r) h Q = (match h.1[m]? with | some (.inl (ci, _)) => cs r ≤ 8 ∧ Call sp sc d mX6_growth [.inr (.inr (m + 2)), z0] h (fun q h1 => GC sp sc [] (d + 1) mX9_growth n 5 L q r h h1 Q) | _ => False)) ∧
  (∀ (n d : Nat) (L : List (Option iV)) (st : List iV) (h : iH) (Q : Option iV → iH → Prop), G sp sc [] d mX9_growth (n + 1) 5 L st h Q = G sp sc [] d mX9_growth n 6 L (.inl 2 :: st) h Q) ∧
  (∀ (n d : Nat) (L : List (Option iV)) (a : Int) (b : Int) (r : List iV) (h : iH) (Q : Option iV → iH → Prop), G sp sc [] d mX9_growth (n + 1) 6 L (.inl b :: .inl a :: r) h Q = G sp sc [] d mX9_growth n 7 L (.inl (a + b) :: r) h Q) ∧
  (∀ (n d : Nat) (L : List (Option iV)) (a : Int) (h : iH) (Q : Option iV → iH → Prop), G sp sc [] d mX9_growth (n + 1) 7 L [.inl a] h Q = Q (some (.inl a)) h) := ⟨by intros; exact G_at (by decide +kernel : fetch mX9_growth 0 = some (.aload_n 0)),
  by intros; exact G_at (by decide +kernel : fetch mX9_growth 1 = some (.iload_n 1)),
  by intros; exact G_callP (k := 1) (kd := 6) (by decide +kernel : fetch mX9_growth 2 = some (.invokespecial 7)) (by decide +kernel) (by decide +kernel) rfl (by decide),
  by intros; exact G_at (by decide +kernel : fetch mX9_growth 5 = some (.iconst 2)),
  by intros; exact G_at (by decide +kernel : fetch mX9_growth 6 = some (.iadd)),
  by intros; exact G_reti (by decide +kernel : fetch mX9_growth 7 = some (.ireturn)) (by decide +kernel)⟩
theorem gX9_retold : (∀ (n d : Nat) (L : List (Option iV)) (st : List iV) (h : iH) (Q : Option iV → iH → Prop), G sp sc [] d mX9_retold (n + 1) 0 L st h Q = (match ld L 0 with | some (.inr (.inr (r + 1))) => G sp sc [] d mX9_retold n 1 L (.inr (.inr (r + 1)) :: st) h Q | _ => False)) ∧
  (∀ (n d : Nat) (L : List (Option iV)) (st : List iV) (h : iH) (Q : Option iV → iH → Prop), G sp sc [] d mX9_retold (n + 1) 1 L st h Q = (match ld L 1 with | some (.inl x) => G sp sc [] d mX9_retold n 2 L (.inl x :: st) h Q | _ => False)) ∧
  (∀ (n d : Nat) (L : List (Option iV)) (r : List iV) (m : Nat) (z0 : iV) (h : iH) (Q : Option iV → iH → Prop), G sp sc [] (d + 1) mX9_retold (n + 1) 2 L (z0 :: .inr (.inr (m + 2)) :: r) h Q = (match h.1[m]? with | some (.inl (ci, _)) => cs r ≤ 8 ∧ Call sp sc d mX6_retold [.inr (.inr (m + 2)), z0] h (fun q h1 => GC sp sc [] (d + 1) mX9_retold n 5 L q r h h1 Q) | _ => False)) ∧
  (∀ (n d : Nat) (L : List (Option iV)) (st : List iV) (h : iH) (Q : Option iV → iH → Prop), G sp sc [] d mX9_retold (n + 1) 5 L st h Q = G sp sc [] d mX9_retold n 6 L (.inl 2 :: st) h Q) ∧
  (∀ (n d : Nat) (L : List (Option iV)) (a : Int) (b : Int) (r : List iV) (h : iH) (Q : Option iV → iH → Prop), G sp sc [] d mX9_retold (n + 1) 6 L (.inl b :: .inl a :: r) h Q = G sp sc [] d mX9_retold n 7 L (.inl (a + b) :: r) h Q) ∧
  (∀ (n d : Nat) (L : List (Option iV)) (a : Int) (h : iH) (Q : Option iV → iH → Prop), G sp sc [] d mX9_retold (n + 1) 7 L [.inl a] h Q = Q (some (.inl a)) h) := ⟨by intros; exact G_at (by decide +kernel : fetch mX9_retold 0 = some (.aload_n 0)),
  by intros; exact G_at (by decide +kernel : fetch mX9_retold 1 = some (.iload_n 1)),
  by intros; exact G_callP (k := 1) (kd := 6) (by decide +kernel : fetch mX9_retold 2 = some (.invokespecial 11)) (by decide +kernel) (by decide +kernel) rfl (by decide),
  by intros; exact G_at (by decide +kernel : fetch mX9_retold 5 = some (.iconst 2)),
  by intros; exact G_at (by decide +kernel : fetch mX9_retold 6 = some (.iadd)),
  by intros; exact G_reti (by decide +kernel : fetch mX9_retold 7 = some (.ireturn)) (by decide +kernel)⟩
theorem gX9_price : (∀ (n d : Nat) (L : List (Option iV)) (st : List iV) (h : iH) (Q : Option iV → iH → Prop), G sp sc [] d mX9_price (n + 1) 0 L st h Q = (match ld L 0 with | some (.inr (.inr (r + 1))) => G sp sc [] d mX9_price n 1 L (.inr (.inr (r + 1)) :: st) h Q | _ => False)) ∧
  (∀ (n d : Nat) (L : List (Option iV)) (r : List iV) (m : Nat) (h : iH) (Q : Option iV → iH → Prop), G sp sc [] (d + 1) mX9_price (n + 1) 1 L (.inr (.inr (m + 2)) :: r) h Q = (match h.1[m]? with | some (.inl (ci, _)) => cs r ≤ 8 ∧ Call sp sc d mX6_price [.inr (.inr (m + 2))] h (fun q h1 => GC sp sc [] (d + 1) mX9_price n 4 L q r h h1 Q) | _ => False)) ∧
  (∀ (n d : Nat) (L : List (Option iV)) (st : List iV) (h : iH) (Q : Option iV → iH → Prop), G sp sc [] d mX9_price (n + 1) 4 L st h Q = G sp sc [] d mX9_price n 5 L (.inl 2 :: st) h Q) ∧
  (∀ (n d : Nat) (L : List (Option iV)) (a : Int) (b : Int) (r : List iV) (h : iH) (Q : Option iV → iH → Prop), G sp sc [] d mX9_price (n + 1) 5 L (.inl b :: .inl a :: r) h Q = G sp sc [] d mX9_price n 6 L (.inl (a + b) :: r) h Q) ∧
  (∀ (n d : Nat) (L : List (Option iV)) (a : Int) (h : iH) (Q : Option iV → iH → Prop), G sp sc [] d mX9_price (n + 1) 6 L [.inl a] h Q = Q (some (.inl a)) h) := ⟨by intros; exact G_at (by decide +kernel : fetch mX9_price 0 = some (.aload_n 0)),
  by intros; exact G_callP (k := 0) (kd := 6) (by decide +kernel : fetch mX9_price 1 = some (.invokespecial 15)) (by decide +kernel) (by decide +kernel) rfl (by decide),
  by intros; exact G_at (by decide +kernel : fetch mX9_price 4 = some (.iconst 2)),
  by intros; exact G_at (by decide +kernel : fetch mX9_price 5 = some (.iadd)),
  by intros; exact G_reti (by decide +kernel : fetch mX9_price 6 = some (.ireturn)) (by decide +kernel)⟩
end GG
