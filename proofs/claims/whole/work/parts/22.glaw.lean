section GG
variable {sp : Nat → List iV → iH → Option (Option iV × iH)} {sc : List Int}
theorem gL_h : (∀ (n d : Nat) (L : List (Option iV)) (a : Int) (r : List iV) (h : iH) (Q : Option iV → iH → Prop), G sp sc [23] d mL_law (n + 1) 3 L (.inl a :: r) h Q = G sp sc [23] d mL_law n 4 L (.inl a :: .inl a :: r) h Q) ∧
  (∀ (n d : Nat) (L : List (Option iV)) (a : Nat) (r : List iV) (h : iH) (Q : Option iV → iH → Prop), G sp sc [23] d mL_law (n + 1) 3 L (.inr (.inr a) :: r) h Q = G sp sc [23] d mL_law n 4 L (.inr (.inr a) :: .inr (.inr a) :: r) h Q) ∧
  (∀ (n d : Nat) (L : List (Option iV)) (r : List iV) (m : Nat) (h : iH) (Q : Option iV → iH → Prop), G sp sc [23] (d + 1) mL_law (n + 1) 4 L (.inr (.inr (m + 2)) :: r) h Q = (match h.1[m]? with | some (.inl (ci, _)) => cs r ≤ 8 ∧ Call sp sc d mX11_init [.inr (.inr (m + 2))] h (fun q h1 => GC sp sc [23] (d + 1) mL_law n 7 L q r h h1 Q) | _ => False)) ∧
  (∀ (n d : Nat) (L : List (Option iV)) (r : List iV) (x : Nat) (h : iH) (Q : Option iV → iH → Prop), G sp sc [23] d mL_law (n + 1) 7 L (.inr (.inr (x + 1)) :: r) h Q = (match st1 L 1 (.inr (.inr (x + 1))) with | some L' => G sp sc [23] d mL_law n 8 L' r h Q | none => False)) ∧
  (∀ (n d : Nat) (L : List (Option iV)) (a : Int) (r : List iV) (h : iH) (Q : Option iV → iH → Prop), G sp sc [23] d mL_law (n + 1) 11 L (.inl a :: r) h Q = G sp sc [23] d mL_law n 12 L (.inl a :: .inl a :: r) h Q) ∧
  (∀ (n d : Nat) (L : List (Option iV)) (a : Nat) (r : List iV) (h : iH) (Q : Option iV → iH → Prop), G sp sc [23] d mL_law (n + 1) 11 L (.inr (.inr a) :: r) h Q = G sp sc [23] d mL_law n 12 L (.inr (.inr a) :: .inr (.inr a) :: r) h Q) ∧
  (∀ (n d : Nat) (L : List (Option iV)) (r : List iV) (m : Nat) (h : iH) (Q : Option iV → iH → Prop), G sp sc [23] (d + 1) mL_law (n + 1) 12 L (.inr (.inr (m + 2)) :: r) h Q = (match h.1[m]? with | some (.inl (ci, _)) => cs r ≤ 8 ∧ Call sp sc d mX12_init [.inr (.inr (m + 2))] h (fun q h1 => GC sp sc [23] (d + 1) mL_law n 15 L q r h h1 Q) | _ => False)) ∧
  (∀ (n d : Nat) (L : List (Option iV)) (r : List iV) (x : Nat) (h : iH) (Q : Option iV → iH → Prop), G sp sc [23] d mL_law (n + 1) 15 L (.inr (.inr (x + 1)) :: r) h Q = (match st1 L 2 (.inr (.inr (x + 1))) with | some L' => G sp sc [23] d mL_law n 16 L' r h Q | none => False)) ∧
  (∀ (n d : Nat) (L : List (Option iV)) (st : List iV) (h : iH) (Q : Option iV → iH → Prop), G sp sc [23] d mL_law (n + 1) 16 L st h Q = G sp sc [23] d mL_law n 17 L (.inl 1 :: st) h Q) ∧
  (∀ (n d : Nat) (L : List (Option iV)) (r : List iV) (x : Nat) (h : iH) (Q : Option iV → iH → Prop), G sp sc [23] d mL_law (n + 1) 19 L (.inr (.inr (x + 1)) :: r) h Q = (match st1 L 3 (.inr (.inr (x + 1))) with | some L' => G sp sc [23] d mL_law n 20 L' r h Q | none => False)) ∧
  (∀ (n d : Nat) (L : List (Option iV)) (st : List iV) (h : iH) (Q : Option iV → iH → Prop), G sp sc [23] d mL_law (n + 1) 20 L st h Q = G sp sc [23] d mL_law n 21 L (.inl 0 :: st) h Q) ∧
  (∀ (n d : Nat) (L : List (Option iV)) (r : List iV) (x : Int) (h : iH) (Q : Option iV → iH → Prop), G sp sc [23] d mL_law (n + 1) 21 L (.inl x :: r) h Q = (match st1 L 4 (.inl x) with | some L' => Run sp sc d mL_law 23 L' r h Q | none => False)) ∧
  (∀ (n d : Nat) (L : List (Option iV)) (st : List iV) (h : iH) (Q : Option iV → iH → Prop), G sp sc [23] d mL_law (n + 1) 23 L st h Q = (match ld L 4 with | some (.inl x) => G sp sc [23] d mL_law n 25 L (.inl x :: st) h Q | _ => False)) ∧
  (∀ (n d : Nat) (L : List (Option iV)) (st : List iV) (h : iH) (Q : Option iV → iH → Prop), G sp sc [23] d mL_law (n + 1) 25 L st h Q = (match ld L 0 with | some (.inr (.inr (r + 1))) => G sp sc [23] d mL_law n 26 L (.inr (.inr (r + 1)) :: st) h Q | _ => False)) ∧
  (∀ (n d : Nat) (L : List (Option iV)) (r : List iV) (h : iH) (Q : Option iV → iH → Prop), G sp sc [23] d mL_law (n + 1) 26 L (.inr (.inr 1) :: r) h Q = G sp sc [23] d mL_law n 27 L (.inl (sc.length : Int) :: r) h Q) ∧
  (∀ (n d : Nat) (L : List (Option iV)) (r : List iV) (m : Nat) (h : iH) (Q : Option iV → iH → Prop), G sp sc [23] d mL_law (n + 1) 26 L (.inr (.inr (m + 2)) :: r) h Q = (match h.1[m]? with | some (.inr (.inl (t, xs))) => t < 6 ∧ G sp sc [23] d mL_law n 27 L (.inl (xs.length : Int) :: r) h Q | some (.inr (.inr (t, rs))) => t < 6 ∧ G sp sc [23] d mL_law n 27 L (.inl (rs.length : Int) :: r) h Q | _ => False)) ∧
  (∀ (n d : Nat) (L : List (Option iV)) (st : List iV) (h : iH) (Q : Option iV → iH → Prop), G sp sc [23] d mL_law (n + 1) 27 L st h Q = ((-128 ≤ (6 : Int) ∧ (6 : Int) < 128) ∧ G sp sc [23] d mL_law n 29 L (.inl 6 :: st) h Q)) ∧
  (∀ (n d : Nat) (L : List (Option iV)) (a : Int) (b : Int) (r : List iV) (h : iH) (Q : Option iV → iH → Prop), G sp sc [23] d mL_law (n + 1) 29 L (.inl b :: .inl a :: r) h Q = G sp sc [23] d mL_law n 30 L (.inl (a - b) :: r) h Q) ∧
  (∀ (n d : Nat) (L : List (Option iV)) (a : Int) (b : Int) (r : List iV) (h : iH) (Q : Option iV → iH → Prop), G sp sc [23] d mL_law (n + 1) 30 L (.inl b :: .inl a :: r) h Q = ((inI a = true ∧ inI b = true) ∧ (b < a → G sp sc [23] d mL_law n 1956 L r h Q) ∧ (¬ (b < a) → G sp sc [23] d mL_law n 33 L r h Q))) ∧
  (∀ (n d : Nat) (L : List (Option iV)) (st : List iV) (h : iH) (Q : Option iV → iH → Prop), G sp sc [23] d mL_law (n + 1) 33 L st h Q = (match ld L 0 with | some (.inr (.inr (r + 1))) => G sp sc [23] d mL_law n 34 L (.inr (.inr (r + 1)) :: st) h Q | _ => False)) ∧
  (∀ (n d : Nat) (L : List (Option iV)) (st : List iV) (h : iH) (Q : Option iV → iH → Prop), G sp sc [23] d mL_law (n + 1) 34 L st h Q = (match ld L 4 with | some (.inl x) => G sp sc [23] d mL_law n 36 L (.inl x :: st) h Q | _ => False)) ∧
  (∀ (n d : Nat) (L : List (Option iV)) (r : List iV) (j : Int) (h : iH) (Q : Option iV → iH → Prop), G sp sc [23] d mL_law (n + 1) 36 L (.inl j :: .inr (.inr 1) :: r) h Q = (inA j sc.length = true ∧ G sp sc [23] d mL_law n 37 L (.inl (sc.getD j.toNat 0) :: r) h Q)) ∧
  (∀ (n d : Nat) (L : List (Option iV)) (r : List iV) (j : Int) (m : Nat) (h : iH) (Q : Option iV → iH → Prop), G sp sc [23] d mL_law (n + 1) 36 L (.inl j :: .inr (.inr (m + 2)) :: r) h Q = (match h.1[m]? with | some (.inr (.inl (0, xs))) => inA j xs.length = true ∧ G sp sc [23] d mL_law n 37 L (.inl (xs.getD j.toNat 0) :: r) h Q | _ => False)) ∧
  (∀ (n d : Nat) (L : List (Option iV)) (st : List iV) (h : iH) (Q : Option iV → iH → Prop), G sp sc [23] d mL_law (n + 1) 37 L st h Q = ((-128 ≤ (63 : Int) ∧ (63 : Int) < 128) ∧ G sp sc [23] d mL_law n 39 L (.inl 63 :: st) h Q)) ∧
  (∀ (n d : Nat) (L : List (Option iV)) (a : Int) (b : Int) (r : List iV) (h : iH) (Q : Option iV → iH → Prop), G sp sc [23] d mL_law (n + 1) 39 L (.inl b :: .inl a :: r) h Q = G sp sc [23] d mL_law n 40 L (.inl (bAnd a b) :: r) h Q) ∧
  (∀ (n d : Nat) (L : List (Option iV)) (a : Int) (r : List iV) (h : iH) (Q : Option iV → iH → Prop), G sp sc [23] d mL_law (n + 1) 40 L (.inl a :: r) h Q = (inI a = true ∧ ((a < 0 ∨ 43 < a) → G sp sc [23] d mL_law n 1950 L r h Q) ∧ (¬ (a < 0 ∨ 43 < a) → (match (#[192, 217, 266, 315, 364, 401, 450, 511, 560, 597, 634, 671, 696, 721, 770, 831, 880, 917, 930, 955, 992, 1017, 1042, 1067, 1080, 1093, 1118, 1167, 1228, 1265, 1314, 1339, 1400, 1461, 1510, 1523, 1536, 1561, 1622, 1671, 1720, 1787, 1860, 1885] : Array Int)[(a - (0 : Int)).toNat]? with | some off => (match jmp 40 off with | some q => GK sp sc [23] d mL_law n q L r h Q | none => False) | none => False)))) ∧
  (∀ (n d : Nat) (L : List (Option iV)) (st : List iV) (h : iH) (Q : Option iV → iH → Prop), G sp sc [23] d mL_law (n + 1) 1950 L st h Q = (match ld L 4 with | some (.inl x) => (match st1 L 4 (.inl (x + 6)) with | some L' => G sp sc [23] d mL_law n 1953 L' st h Q | none => False) | _ => False)) ∧
  (∀ (n d : Nat) (L : List (Option iV)) (st : List iV) (h : iH) (Q : Option iV → iH → Prop), G sp sc [23] d mL_law (n + 1) 1953 L st h Q = Run sp sc d mL_law 23 L st h Q) ∧
  (∀ (n d : Nat) (L : List (Option iV)) (st : List iV) (h : iH) (Q : Option iV → iH → Prop), G sp sc [23] d mL_law (n + 1) 1956 L st h Q = G sp sc [23] d mL_law n 1957 L (.inl 1 :: st) h Q) ∧
  (∀ (n d : Nat) (L : List (Option iV)) (a : Int) (h : iH) (Q : Option iV → iH → Prop), G sp sc [23] d mL_law (n + 1) 1957 L [.inl a] h Q = ((a = 0 ∨ a = 1) ∧ Q (some (.inl a)) h)) := ⟨by intros; exact G_at (by decide +kernel : fetch mL_law 3 = some (.dup)),
  by intros; exact G_at (by decide +kernel : fetch mL_law 3 = some (.dup)),
  by intros; exact G_callP (k := 0) (kd := 4) (by decide +kernel : fetch mL_law 4 = some (.invokespecial 17)) (by decide +kernel) (by decide +kernel) rfl (by decide),
  by intros; exact G_at (by decide +kernel : fetch mL_law 7 = some (.astore_n 1)),
  by intros; exact G_at (by decide +kernel : fetch mL_law 11 = some (.dup)),
  by intros; exact G_at (by decide +kernel : fetch mL_law 11 = some (.dup)),
  by intros; exact G_callP (k := 0) (kd := 4) (by decide +kernel : fetch mL_law 12 = some (.invokespecial 20)) (by decide +kernel) (by decide +kernel) rfl (by decide),
  by intros; exact G_at (by decide +kernel : fetch mL_law 15 = some (.astore_n 2)),
  by intros; exact G_at (by decide +kernel : fetch mL_law 16 = some (.iconst 1)),
  by intros; exact G_at (by decide +kernel : fetch mL_law 19 = some (.astore_n 3)),
  by intros; exact G_at (by decide +kernel : fetch mL_law 20 = some (.iconst 0)),
  by intros; exact G_at (by decide +kernel : fetch mL_law 21 = some (.istore 4)),
  by intros; exact G_at (by decide +kernel : fetch mL_law 23 = some (.iload 4)),
  by intros; exact G_at (by decide +kernel : fetch mL_law 25 = some (.aload_n 0)),
  by intros; exact G_at (by decide +kernel : fetch mL_law 26 = some (.arraylength)),
  by intros; exact G_at (by decide +kernel : fetch mL_law 26 = some (.arraylength)),
  by intros; exact G_at (by decide +kernel : fetch mL_law 27 = some (.bipush 6)),
  by intros; exact G_at (by decide +kernel : fetch mL_law 29 = some (.isub)),
  by intros; exact G_at (by decide +kernel : fetch mL_law 30 = some (.if_icmp .gt 1926)),
  by intros; exact G_at (by decide +kernel : fetch mL_law 33 = some (.aload_n 0)),
  by intros; exact G_at (by decide +kernel : fetch mL_law 34 = some (.iload 4)),
  by intros; exact G_at (by decide +kernel : fetch mL_law 36 = some (.iaload)),
  by intros; exact G_at (by decide +kernel : fetch mL_law 36 = some (.iaload)),
  by intros; exact G_at (by decide +kernel : fetch mL_law 37 = some (.bipush 63)),
  by intros; exact G_at (by decide +kernel : fetch mL_law 39 = some (.iand)),
  by intros; exact G_at (by decide +kernel : fetch mL_law 40 = some (.tableswitch 1910 0 43 #[192, 217, 266, 315, 364, 401, 450, 511, 560, 597, 634, 671, 696, 721, 770, 831, 880, 917, 930, 955, 992, 1017, 1042, 1067, 1080, 1093, 1118, 1167, 1228, 1265, 1314, 1339, 1400, 1461, 1510, 1523, 1536, 1561, 1622, 1671, 1720, 1787, 1860, 1885])),
  by intros; exact G_at (by decide +kernel : fetch mL_law 1950 = some (.iinc 4 6)),
  by intros; exact G_at (by decide +kernel : fetch mL_law 1953 = some (.goto (-1930))),
  by intros; exact G_at (by decide +kernel : fetch mL_law 1956 = some (.iconst 1)),
  by intros; exact G_retz (by decide +kernel : fetch mL_law 1957 = some (.ireturn)) (by decide +kernel)⟩
theorem gL_c0 : (∀ (n d : Nat) (L : List (Option iV)) (st : List iV) (h : iH) (Q : Option iV → iH → Prop), G sp sc [23] d mL_law (n + 1) 232 L st h Q = (match ld L 1 with | some (.inr (.inr (r + 1))) => G sp sc [23] d mL_law n 233 L (.inr (.inr (r + 1)) :: st) h Q | _ => False)) ∧
  (∀ (n d : Nat) (L : List (Option iV)) (st : List iV) (h : iH) (Q : Option iV → iH → Prop), G sp sc [23] d mL_law (n + 1) 233 L st h Q = (match ld L 0 with | some (.inr (.inr (r + 1))) => G sp sc [23] d mL_law n 234 L (.inr (.inr (r + 1)) :: st) h Q | _ => False)) ∧
  (∀ (n d : Nat) (L : List (Option iV)) (st : List iV) (h : iH) (Q : Option iV → iH → Prop), G sp sc [23] d mL_law (n + 1) 234 L st h Q = (match ld L 4 with | some (.inl x) => G sp sc [23] d mL_law n 236 L (.inl x :: st) h Q | _ => False)) ∧
  (∀ (n d : Nat) (L : List (Option iV)) (st : List iV) (h : iH) (Q : Option iV → iH → Prop), G sp sc [23] d mL_law (n + 1) 236 L st h Q = G sp sc [23] d mL_law n 237 L (.inl 1 :: st) h Q) ∧
  (∀ (n d : Nat) (L : List (Option iV)) (a : Int) (b : Int) (r : List iV) (h : iH) (Q : Option iV → iH → Prop), G sp sc [23] d mL_law (n + 1) 237 L (.inl b :: .inl a :: r) h Q = G sp sc [23] d mL_law n 238 L (.inl (a + b) :: r) h Q) ∧
  (∀ (n d : Nat) (L : List (Option iV)) (r : List iV) (j : Int) (h : iH) (Q : Option iV → iH → Prop), G sp sc [23] d mL_law (n + 1) 238 L (.inl j :: .inr (.inr 1) :: r) h Q = (inA j sc.length = true ∧ G sp sc [23] d mL_law n 239 L (.inl (sc.getD j.toNat 0) :: r) h Q)) ∧
  (∀ (n d : Nat) (L : List (Option iV)) (r : List iV) (j : Int) (m : Nat) (h : iH) (Q : Option iV → iH → Prop), G sp sc [23] d mL_law (n + 1) 238 L (.inl j :: .inr (.inr (m + 2)) :: r) h Q = (match h.1[m]? with | some (.inr (.inl (0, xs))) => inA j xs.length = true ∧ G sp sc [23] d mL_law n 239 L (.inl (xs.getD j.toNat 0) :: r) h Q | _ => False)) ∧
  (∀ (n d : Nat) (L : List (Option iV)) (r : List iV) (m : Nat) (z0 : iV) (h : iH) (Q : Option iV → iH → Prop), G sp sc [23] (d + 1) mL_law (n + 1) 239 L (z0 :: .inr (.inr (m + 2)) :: r) h Q = (match h.1[m]? with | some (.inl (ci, _)) => (match lkC 13 21 ci with | some (y1, n1, kd) => (n1 = 1 ∧ (kd = 2 ∨ kd = 3 ∨ kd = 8) ∧ cs r ≤ 8) ∧ Call sp sc d y1 [.inr (.inr (m + 2)), z0] h (fun q h1 => GC sp sc [23] (d + 1) mL_law n 242 L q r h h1 Q) | none => False) | _ => False)) ∧
  (∀ (n d : Nat) (L : List (Option iV)) (st : List iV) (h : iH) (Q : Option iV → iH → Prop), G sp sc [23] d mL_law (n + 1) 242 L st h Q = (match ld L 2 with | some (.inr (.inr (r + 1))) => G sp sc [23] d mL_law n 243 L (.inr (.inr (r + 1)) :: st) h Q | _ => False)) ∧
  (∀ (n d : Nat) (L : List (Option iV)) (st : List iV) (h : iH) (Q : Option iV → iH → Prop), G sp sc [23] d mL_law (n + 1) 243 L st h Q = (match ld L 0 with | some (.inr (.inr (r + 1))) => G sp sc [23] d mL_law n 244 L (.inr (.inr (r + 1)) :: st) h Q | _ => False)) ∧
  (∀ (n d : Nat) (L : List (Option iV)) (st : List iV) (h : iH) (Q : Option iV → iH → Prop), G sp sc [23] d mL_law (n + 1) 244 L st h Q = (match ld L 4 with | some (.inl x) => G sp sc [23] d mL_law n 246 L (.inl x :: st) h Q | _ => False)) ∧
  (∀ (n d : Nat) (L : List (Option iV)) (st : List iV) (h : iH) (Q : Option iV → iH → Prop), G sp sc [23] d mL_law (n + 1) 246 L st h Q = G sp sc [23] d mL_law n 247 L (.inl 1 :: st) h Q) ∧
  (∀ (n d : Nat) (L : List (Option iV)) (a : Int) (b : Int) (r : List iV) (h : iH) (Q : Option iV → iH → Prop), G sp sc [23] d mL_law (n + 1) 247 L (.inl b :: .inl a :: r) h Q = G sp sc [23] d mL_law n 248 L (.inl (a + b) :: r) h Q) ∧
  (∀ (n d : Nat) (L : List (Option iV)) (r : List iV) (j : Int) (h : iH) (Q : Option iV → iH → Prop), G sp sc [23] d mL_law (n + 1) 248 L (.inl j :: .inr (.inr 1) :: r) h Q = (inA j sc.length = true ∧ G sp sc [23] d mL_law n 249 L (.inl (sc.getD j.toNat 0) :: r) h Q)) ∧
  (∀ (n d : Nat) (L : List (Option iV)) (r : List iV) (j : Int) (m : Nat) (h : iH) (Q : Option iV → iH → Prop), G sp sc [23] d mL_law (n + 1) 248 L (.inl j :: .inr (.inr (m + 2)) :: r) h Q = (match h.1[m]? with | some (.inr (.inl (0, xs))) => inA j xs.length = true ∧ G sp sc [23] d mL_law n 249 L (.inl (xs.getD j.toNat 0) :: r) h Q | _ => False)) ∧
  (∀ (n d : Nat) (L : List (Option iV)) (r : List iV) (m : Nat) (z0 : iV) (h : iH) (Q : Option iV → iH → Prop), G sp sc [23] (d + 1) mL_law (n + 1) 249 L (z0 :: .inr (.inr (m + 2)) :: r) h Q = (match h.1[m]? with | some (.inl (ci, _)) => (match lkC 13 25 ci with | some (y1, n1, kd) => (n1 = 1 ∧ (kd = 2 ∨ kd = 3 ∨ kd = 8) ∧ cs r ≤ 8) ∧ Call sp sc d y1 [.inr (.inr (m + 2)), z0] h (fun q h1 => GC sp sc [23] (d + 1) mL_law n 252 L q r h h1 Q) | none => False) | _ => False)) ∧
  (∀ (n d : Nat) (L : List (Option iV)) (a : Int) (b : Int) (r : List iV) (h : iH) (Q : Option iV → iH → Prop), G sp sc [23] d mL_law (n + 1) 252 L (.inl b :: .inl a :: r) h Q = ((inI a = true ∧ inI b = true) ∧ (a = b → G sp sc [23] d mL_law n 1950 L r h Q) ∧ (¬ (a = b) → G sp sc [23] d mL_law n 255 L r h Q))) ∧
  (∀ (n d : Nat) (L : List (Option iV)) (st : List iV) (h : iH) (Q : Option iV → iH → Prop), G sp sc [23] d mL_law (n + 1) 255 L st h Q = G sp sc [23] d mL_law n 256 L (.inl 0 :: st) h Q) ∧
  (∀ (n d : Nat) (L : List (Option iV)) (a : Int) (h : iH) (Q : Option iV → iH → Prop), G sp sc [23] d mL_law (n + 1) 256 L [.inl a] h Q = ((a = 0 ∨ a = 1) ∧ Q (some (.inl a)) h)) := ⟨by intros; exact G_at (by decide +kernel : fetch mL_law 232 = some (.aload_n 1)),
  by intros; exact G_at (by decide +kernel : fetch mL_law 233 = some (.aload_n 0)),
  by intros; exact G_at (by decide +kernel : fetch mL_law 234 = some (.iload 4)),
  by intros; exact G_at (by decide +kernel : fetch mL_law 236 = some (.iconst 1)),
  by intros; exact G_at (by decide +kernel : fetch mL_law 237 = some (.iadd)),
  by intros; exact G_at (by decide +kernel : fetch mL_law 238 = some (.iaload)),
  by intros; exact G_at (by decide +kernel : fetch mL_law 238 = some (.iaload)),
  by intros; exact G_callV (by decide +kernel : fetch mL_law 239 = some (.invokevirtual 21)) (by decide +kernel) (by decide +kernel) rfl,
  by intros; exact G_at (by decide +kernel : fetch mL_law 242 = some (.aload_n 2)),
  by intros; exact G_at (by decide +kernel : fetch mL_law 243 = some (.aload_n 0)),
  by intros; exact G_at (by decide +kernel : fetch mL_law 244 = some (.iload 4)),
  by intros; exact G_at (by decide +kernel : fetch mL_law 246 = some (.iconst 1)),
  by intros; exact G_at (by decide +kernel : fetch mL_law 247 = some (.iadd)),
  by intros; exact G_at (by decide +kernel : fetch mL_law 248 = some (.iaload)),
  by intros; exact G_at (by decide +kernel : fetch mL_law 248 = some (.iaload)),
  by intros; exact G_callV (by decide +kernel : fetch mL_law 249 = some (.invokevirtual 25)) (by decide +kernel) (by decide +kernel) rfl,
  by intros; exact G_at (by decide +kernel : fetch mL_law 252 = some (.if_icmp .eq 1698)),
  by intros; exact G_at (by decide +kernel : fetch mL_law 255 = some (.iconst 0)),
  by intros; exact G_retz (by decide +kernel : fetch mL_law 256 = some (.ireturn)) (by decide +kernel)⟩
theorem gL_c1 : (∀ (n d : Nat) (L : List (Option iV)) (st : List iV) (h : iH) (Q : Option iV → iH → Prop), G sp sc [23] d mL_law (n + 1) 257 L st h Q = (match ld L 1 with | some (.inr (.inr (r + 1))) => G sp sc [23] d mL_law n 258 L (.inr (.inr (r + 1)) :: st) h Q | _ => False)) ∧
  (∀ (n d : Nat) (L : List (Option iV)) (st : List iV) (h : iH) (Q : Option iV → iH → Prop), G sp sc [23] d mL_law (n + 1) 258 L st h Q = (match ld L 0 with | some (.inr (.inr (r + 1))) => G sp sc [23] d mL_law n 259 L (.inr (.inr (r + 1)) :: st) h Q | _ => False)) ∧
  (∀ (n d : Nat) (L : List (Option iV)) (st : List iV) (h : iH) (Q : Option iV → iH → Prop), G sp sc [23] d mL_law (n + 1) 259 L st h Q = (match ld L 4 with | some (.inl x) => G sp sc [23] d mL_law n 261 L (.inl x :: st) h Q | _ => False)) ∧
  (∀ (n d : Nat) (L : List (Option iV)) (st : List iV) (h : iH) (Q : Option iV → iH → Prop), G sp sc [23] d mL_law (n + 1) 261 L st h Q = G sp sc [23] d mL_law n 262 L (.inl 1 :: st) h Q) ∧
  (∀ (n d : Nat) (L : List (Option iV)) (a : Int) (b : Int) (r : List iV) (h : iH) (Q : Option iV → iH → Prop), G sp sc [23] d mL_law (n + 1) 262 L (.inl b :: .inl a :: r) h Q = G sp sc [23] d mL_law n 263 L (.inl (a + b) :: r) h Q) ∧
  (∀ (n d : Nat) (L : List (Option iV)) (r : List iV) (j : Int) (h : iH) (Q : Option iV → iH → Prop), G sp sc [23] d mL_law (n + 1) 263 L (.inl j :: .inr (.inr 1) :: r) h Q = (inA j sc.length = true ∧ G sp sc [23] d mL_law n 264 L (.inl (sc.getD j.toNat 0) :: r) h Q)) ∧
  (∀ (n d : Nat) (L : List (Option iV)) (r : List iV) (j : Int) (m : Nat) (h : iH) (Q : Option iV → iH → Prop), G sp sc [23] d mL_law (n + 1) 263 L (.inl j :: .inr (.inr (m + 2)) :: r) h Q = (match h.1[m]? with | some (.inr (.inl (0, xs))) => inA j xs.length = true ∧ G sp sc [23] d mL_law n 264 L (.inl (xs.getD j.toNat 0) :: r) h Q | _ => False)) ∧
  (∀ (n d : Nat) (L : List (Option iV)) (st : List iV) (h : iH) (Q : Option iV → iH → Prop), G sp sc [23] d mL_law (n + 1) 264 L st h Q = (match ld L 0 with | some (.inr (.inr (r + 1))) => G sp sc [23] d mL_law n 265 L (.inr (.inr (r + 1)) :: st) h Q | _ => False)) ∧
  (∀ (n d : Nat) (L : List (Option iV)) (st : List iV) (h : iH) (Q : Option iV → iH → Prop), G sp sc [23] d mL_law (n + 1) 265 L st h Q = (match ld L 4 with | some (.inl x) => G sp sc [23] d mL_law n 267 L (.inl x :: st) h Q | _ => False)) ∧
  (∀ (n d : Nat) (L : List (Option iV)) (st : List iV) (h : iH) (Q : Option iV → iH → Prop), G sp sc [23] d mL_law (n + 1) 267 L st h Q = G sp sc [23] d mL_law n 268 L (.inl 2 :: st) h Q) ∧
  (∀ (n d : Nat) (L : List (Option iV)) (a : Int) (b : Int) (r : List iV) (h : iH) (Q : Option iV → iH → Prop), G sp sc [23] d mL_law (n + 1) 268 L (.inl b :: .inl a :: r) h Q = G sp sc [23] d mL_law n 269 L (.inl (a + b) :: r) h Q) ∧
  (∀ (n d : Nat) (L : List (Option iV)) (r : List iV) (j : Int) (h : iH) (Q : Option iV → iH → Prop), G sp sc [23] d mL_law (n + 1) 269 L (.inl j :: .inr (.inr 1) :: r) h Q = (inA j sc.length = true ∧ G sp sc [23] d mL_law n 270 L (.inl (sc.getD j.toNat 0) :: r) h Q)) ∧
  (∀ (n d : Nat) (L : List (Option iV)) (r : List iV) (j : Int) (m : Nat) (h : iH) (Q : Option iV → iH → Prop), G sp sc [23] d mL_law (n + 1) 269 L (.inl j :: .inr (.inr (m + 2)) :: r) h Q = (match h.1[m]? with | some (.inr (.inl (0, xs))) => inA j xs.length = true ∧ G sp sc [23] d mL_law n 270 L (.inl (xs.getD j.toNat 0) :: r) h Q | _ => False)) ∧
  (∀ (n d : Nat) (L : List (Option iV)) (st : List iV) (h : iH) (Q : Option iV → iH → Prop), G sp sc [23] d mL_law (n + 1) 270 L st h Q = (match ld L 0 with | some (.inr (.inr (r + 1))) => G sp sc [23] d mL_law n 271 L (.inr (.inr (r + 1)) :: st) h Q | _ => False)) ∧
  (∀ (n d : Nat) (L : List (Option iV)) (st : List iV) (h : iH) (Q : Option iV → iH → Prop), G sp sc [23] d mL_law (n + 1) 271 L st h Q = (match ld L 4 with | some (.inl x) => G sp sc [23] d mL_law n 273 L (.inl x :: st) h Q | _ => False)) ∧
  (∀ (n d : Nat) (L : List (Option iV)) (st : List iV) (h : iH) (Q : Option iV → iH → Prop), G sp sc [23] d mL_law (n + 1) 273 L st h Q = G sp sc [23] d mL_law n 274 L (.inl 3 :: st) h Q) ∧
  (∀ (n d : Nat) (L : List (Option iV)) (a : Int) (b : Int) (r : List iV) (h : iH) (Q : Option iV → iH → Prop), G sp sc [23] d mL_law (n + 1) 274 L (.inl b :: .inl a :: r) h Q = G sp sc [23] d mL_law n 275 L (.inl (a + b) :: r) h Q) ∧
  (∀ (n d : Nat) (L : List (Option iV)) (r : List iV) (j : Int) (h : iH) (Q : Option iV → iH → Prop), G sp sc [23] d mL_law (n + 1) 275 L (.inl j :: .inr (.inr 1) :: r) h Q = (inA j sc.length = true ∧ G sp sc [23] d mL_law n 276 L (.inl (sc.getD j.toNat 0) :: r) h Q)) ∧
  (∀ (n d : Nat) (L : List (Option iV)) (r : List iV) (j : Int) (m : Nat) (h : iH) (Q : Option iV → iH → Prop), G sp sc [23] d mL_law (n + 1) 275 L (.inl j :: .inr (.inr (m + 2)) :: r) h Q = (match h.1[m]? with | some (.inr (.inl (0, xs))) => inA j xs.length = true ∧ G sp sc [23] d mL_law n 276 L (.inl (xs.getD j.toNat 0) :: r) h Q | _ => False)) ∧
  (∀ (n d : Nat) (L : List (Option iV)) (r : List iV) (m : Nat) (z0 : iV) (z1 : iV) (z2 : iV) (h : iH) (Q : Option iV → iH → Prop), G sp sc [23] (d + 1) mL_law (n + 1) 276 L (z2 :: z1 :: z0 :: .inr (.inr (m + 2)) :: r) h Q = (match h.1[m]? with | some (.inl (ci, _)) => (match lkC 13 26 ci with | some (y1, n1, kd) => (n1 = 3 ∧ (kd = 2 ∨ kd = 3 ∨ kd = 8) ∧ cs r ≤ 8) ∧ Call sp sc d y1 [.inr (.inr (m + 2)), z0, z1, z2] h (fun q h1 => GC sp sc [23] (d + 1) mL_law n 279 L q r h h1 Q) | none => False) | _ => False)) ∧
  (∀ (n d : Nat) (L : List (Option iV)) (st : List iV) (h : iH) (Q : Option iV → iH → Prop), G sp sc [23] d mL_law (n + 1) 279 L st h Q = (match ld L 2 with | some (.inr (.inr (r + 1))) => G sp sc [23] d mL_law n 280 L (.inr (.inr (r + 1)) :: st) h Q | _ => False)) ∧
  (∀ (n d : Nat) (L : List (Option iV)) (st : List iV) (h : iH) (Q : Option iV → iH → Prop), G sp sc [23] d mL_law (n + 1) 280 L st h Q = (match ld L 0 with | some (.inr (.inr (r + 1))) => G sp sc [23] d mL_law n 281 L (.inr (.inr (r + 1)) :: st) h Q | _ => False)) ∧
  (∀ (n d : Nat) (L : List (Option iV)) (st : List iV) (h : iH) (Q : Option iV → iH → Prop), G sp sc [23] d mL_law (n + 1) 281 L st h Q = (match ld L 4 with | some (.inl x) => G sp sc [23] d mL_law n 283 L (.inl x :: st) h Q | _ => False)) ∧
  (∀ (n d : Nat) (L : List (Option iV)) (st : List iV) (h : iH) (Q : Option iV → iH → Prop), G sp sc [23] d mL_law (n + 1) 283 L st h Q = G sp sc [23] d mL_law n 284 L (.inl 1 :: st) h Q) ∧
  (∀ (n d : Nat) (L : List (Option iV)) (a : Int) (b : Int) (r : List iV) (h : iH) (Q : Option iV → iH → Prop), G sp sc [23] d mL_law (n + 1) 284 L (.inl b :: .inl a :: r) h Q = G sp sc [23] d mL_law n 285 L (.inl (a + b) :: r) h Q) ∧
  (∀ (n d : Nat) (L : List (Option iV)) (r : List iV) (j : Int) (h : iH) (Q : Option iV → iH → Prop), G sp sc [23] d mL_law (n + 1) 285 L (.inl j :: .inr (.inr 1) :: r) h Q = (inA j sc.length = true ∧ G sp sc [23] d mL_law n 286 L (.inl (sc.getD j.toNat 0) :: r) h Q)) ∧
  (∀ (n d : Nat) (L : List (Option iV)) (r : List iV) (j : Int) (m : Nat) (h : iH) (Q : Option iV → iH → Prop), G sp sc [23] d mL_law (n + 1) 285 L (.inl j :: .inr (.inr (m + 2)) :: r) h Q = (match h.1[m]? with | some (.inr (.inl (0, xs))) => inA j xs.length = true ∧ G sp sc [23] d mL_law n 286 L (.inl (xs.getD j.toNat 0) :: r) h Q | _ => False)) ∧
  (∀ (n d : Nat) (L : List (Option iV)) (st : List iV) (h : iH) (Q : Option iV → iH → Prop), G sp sc [23] d mL_law (n + 1) 286 L st h Q = (match ld L 0 with | some (.inr (.inr (r + 1))) => G sp sc [23] d mL_law n 287 L (.inr (.inr (r + 1)) :: st) h Q | _ => False)) ∧
  (∀ (n d : Nat) (L : List (Option iV)) (st : List iV) (h : iH) (Q : Option iV → iH → Prop), G sp sc [23] d mL_law (n + 1) 287 L st h Q = (match ld L 4 with | some (.inl x) => G sp sc [23] d mL_law n 289 L (.inl x :: st) h Q | _ => False)) ∧
  (∀ (n d : Nat) (L : List (Option iV)) (st : List iV) (h : iH) (Q : Option iV → iH → Prop), G sp sc [23] d mL_law (n + 1) 289 L st h Q = G sp sc [23] d mL_law n 290 L (.inl 2 :: st) h Q) ∧
  (∀ (n d : Nat) (L : List (Option iV)) (a : Int) (b : Int) (r : List iV) (h : iH) (Q : Option iV → iH → Prop), G sp sc [23] d mL_law (n + 1) 290 L (.inl b :: .inl a :: r) h Q = G sp sc [23] d mL_law n 291 L (.inl (a + b) :: r) h Q) ∧
  (∀ (n d : Nat) (L : List (Option iV)) (r : List iV) (j : Int) (h : iH) (Q : Option iV → iH → Prop), G sp sc [23] d mL_law (n + 1) 291 L (.inl j :: .inr (.inr 1) :: r) h Q = (inA j sc.length = true ∧ G sp sc [23] d mL_law n 292 L (.inl (sc.getD j.toNat 0) :: r) h Q)) ∧
  (∀ (n d : Nat) (L : List (Option iV)) (r : List iV) (j : Int) (m : Nat) (h : iH) (Q : Option iV → iH → Prop), G sp sc [23] d mL_law (n + 1) 291 L (.inl j :: .inr (.inr (m + 2)) :: r) h Q = (match h.1[m]? with | some (.inr (.inl (0, xs))) => inA j xs.length = true ∧ G sp sc [23] d mL_law n 292 L (.inl (xs.getD j.toNat 0) :: r) h Q | _ => False)) ∧
  (∀ (n d : Nat) (L : List (Option iV)) (st : List iV) (h : iH) (Q : Option iV → iH → Prop), G sp sc [23] d mL_law (n + 1) 292 L st h Q = (match ld L 0 with | some (.inr (.inr (r + 1))) => G sp sc [23] d mL_law n 293 L (.inr (.inr (r + 1)) :: st) h Q | _ => False)) ∧
  (∀ (n d : Nat) (L : List (Option iV)) (st : List iV) (h : iH) (Q : Option iV → iH → Prop), G sp sc [23] d mL_law (n + 1) 293 L st h Q = (match ld L 4 with | some (.inl x) => G sp sc [23] d mL_law n 295 L (.inl x :: st) h Q | _ => False)) ∧
  (∀ (n d : Nat) (L : List (Option iV)) (st : List iV) (h : iH) (Q : Option iV → iH → Prop), G sp sc [23] d mL_law (n + 1) 295 L st h Q = G sp sc [23] d mL_law n 296 L (.inl 3 :: st) h Q) ∧
  (∀ (n d : Nat) (L : List (Option iV)) (a : Int) (b : Int) (r : List iV) (h : iH) (Q : Option iV → iH → Prop), G sp sc [23] d mL_law (n + 1) 296 L (.inl b :: .inl a :: r) h Q = G sp sc [23] d mL_law n 297 L (.inl (a + b) :: r) h Q) ∧
  (∀ (n d : Nat) (L : List (Option iV)) (r : List iV) (j : Int) (h : iH) (Q : Option iV → iH → Prop), G sp sc [23] d mL_law (n + 1) 297 L (.inl j :: .inr (.inr 1) :: r) h Q = (inA j sc.length = true ∧ G sp sc [23] d mL_law n 298 L (.inl (sc.getD j.toNat 0) :: r) h Q)) ∧
  (∀ (n d : Nat) (L : List (Option iV)) (r : List iV) (j : Int) (m : Nat) (h : iH) (Q : Option iV → iH → Prop), G sp sc [23] d mL_law (n + 1) 297 L (.inl j :: .inr (.inr (m + 2)) :: r) h Q = (match h.1[m]? with | some (.inr (.inl (0, xs))) => inA j xs.length = true ∧ G sp sc [23] d mL_law n 298 L (.inl (xs.getD j.toNat 0) :: r) h Q | _ => False)) ∧
  (∀ (n d : Nat) (L : List (Option iV)) (r : List iV) (m : Nat) (z0 : iV) (z1 : iV) (z2 : iV) (h : iH) (Q : Option iV → iH → Prop), G sp sc [23] (d + 1) mL_law (n + 1) 298 L (z2 :: z1 :: z0 :: .inr (.inr (m + 2)) :: r) h Q = (match h.1[m]? with | some (.inl (ci, _)) => (match lkC 13 30 ci with | some (y1, n1, kd) => (n1 = 3 ∧ (kd = 2 ∨ kd = 3 ∨ kd = 8) ∧ cs r ≤ 8) ∧ Call sp sc d y1 [.inr (.inr (m + 2)), z0, z1, z2] h (fun q h1 => GC sp sc [23] (d + 1) mL_law n 301 L q r h h1 Q) | none => False) | _ => False)) ∧
  (∀ (n d : Nat) (L : List (Option iV)) (a : Int) (b : Int) (r : List iV) (h : iH) (Q : Option iV → iH → Prop), G sp sc [23] d mL_law (n + 1) 301 L (.inl b :: .inl a :: r) h Q = ((inI a = true ∧ inI b = true) ∧ (a = b → G sp sc [23] d mL_law n 1950 L r h Q) ∧ (¬ (a = b) → G sp sc [23] d mL_law n 304 L r h Q))) ∧
  (∀ (n d : Nat) (L : List (Option iV)) (st : List iV) (h : iH) (Q : Option iV → iH → Prop), G sp sc [23] d mL_law (n + 1) 304 L st h Q = G sp sc [23] d mL_law n 305 L (.inl 0 :: st) h Q) ∧
  (∀ (n d : Nat) (L : List (Option iV)) (a : Int) (h : iH) (Q : Option iV → iH → Prop), G sp sc [23] d mL_law (n + 1) 305 L [.inl a] h Q = ((a = 0 ∨ a = 1) ∧ Q (some (.inl a)) h)) := ⟨by intros; exact G_at (by decide +kernel : fetch mL_law 257 = some (.aload_n 1)),
  by intros; exact G_at (by decide +kernel : fetch mL_law 258 = some (.aload_n 0)),
  by intros; exact G_at (by decide +kernel : fetch mL_law 259 = some (.iload 4)),
  by intros; exact G_at (by decide +kernel : fetch mL_law 261 = some (.iconst 1)),
  by intros; exact G_at (by decide +kernel : fetch mL_law 262 = some (.iadd)),
  by intros; exact G_at (by decide +kernel : fetch mL_law 263 = some (.iaload)),
  by intros; exact G_at (by decide +kernel : fetch mL_law 263 = some (.iaload)),
  by intros; exact G_at (by decide +kernel : fetch mL_law 264 = some (.aload_n 0)),
  by intros; exact G_at (by decide +kernel : fetch mL_law 265 = some (.iload 4)),
  by intros; exact G_at (by decide +kernel : fetch mL_law 267 = some (.iconst 2)),
  by intros; exact G_at (by decide +kernel : fetch mL_law 268 = some (.iadd)),
  by intros; exact G_at (by decide +kernel : fetch mL_law 269 = some (.iaload)),
  by intros; exact G_at (by decide +kernel : fetch mL_law 269 = some (.iaload)),
  by intros; exact G_at (by decide +kernel : fetch mL_law 270 = some (.aload_n 0)),
  by intros; exact G_at (by decide +kernel : fetch mL_law 271 = some (.iload 4)),
  by intros; exact G_at (by decide +kernel : fetch mL_law 273 = some (.iconst 3)),
  by intros; exact G_at (by decide +kernel : fetch mL_law 274 = some (.iadd)),
  by intros; exact G_at (by decide +kernel : fetch mL_law 275 = some (.iaload)),
  by intros; exact G_at (by decide +kernel : fetch mL_law 275 = some (.iaload)),
  by intros; exact G_callV (by decide +kernel : fetch mL_law 276 = some (.invokevirtual 26)) (by decide +kernel) (by decide +kernel) rfl,
  by intros; exact G_at (by decide +kernel : fetch mL_law 279 = some (.aload_n 2)),
  by intros; exact G_at (by decide +kernel : fetch mL_law 280 = some (.aload_n 0)),
  by intros; exact G_at (by decide +kernel : fetch mL_law 281 = some (.iload 4)),
  by intros; exact G_at (by decide +kernel : fetch mL_law 283 = some (.iconst 1)),
  by intros; exact G_at (by decide +kernel : fetch mL_law 284 = some (.iadd)),
  by intros; exact G_at (by decide +kernel : fetch mL_law 285 = some (.iaload)),
  by intros; exact G_at (by decide +kernel : fetch mL_law 285 = some (.iaload)),
  by intros; exact G_at (by decide +kernel : fetch mL_law 286 = some (.aload_n 0)),
  by intros; exact G_at (by decide +kernel : fetch mL_law 287 = some (.iload 4)),
  by intros; exact G_at (by decide +kernel : fetch mL_law 289 = some (.iconst 2)),
  by intros; exact G_at (by decide +kernel : fetch mL_law 290 = some (.iadd)),
  by intros; exact G_at (by decide +kernel : fetch mL_law 291 = some (.iaload)),
  by intros; exact G_at (by decide +kernel : fetch mL_law 291 = some (.iaload)),
  by intros; exact G_at (by decide +kernel : fetch mL_law 292 = some (.aload_n 0)),
  by intros; exact G_at (by decide +kernel : fetch mL_law 293 = some (.iload 4)),
  by intros; exact G_at (by decide +kernel : fetch mL_law 295 = some (.iconst 3)),
  by intros; exact G_at (by decide +kernel : fetch mL_law 296 = some (.iadd)),
  by intros; exact G_at (by decide +kernel : fetch mL_law 297 = some (.iaload)),
  by intros; exact G_at (by decide +kernel : fetch mL_law 297 = some (.iaload)),
  by intros; exact G_callV (by decide +kernel : fetch mL_law 298 = some (.invokevirtual 30)) (by decide +kernel) (by decide +kernel) rfl,
  by intros; exact G_at (by decide +kernel : fetch mL_law 301 = some (.if_icmp .eq 1649)),
  by intros; exact G_at (by decide +kernel : fetch mL_law 304 = some (.iconst 0)),
  by intros; exact G_retz (by decide +kernel : fetch mL_law 305 = some (.ireturn)) (by decide +kernel)⟩
theorem gL_c2 : (∀ (n d : Nat) (L : List (Option iV)) (st : List iV) (h : iH) (Q : Option iV → iH → Prop), G sp sc [23] d mL_law (n + 1) 306 L st h Q = (match ld L 1 with | some (.inr (.inr (r + 1))) => G sp sc [23] d mL_law n 307 L (.inr (.inr (r + 1)) :: st) h Q | _ => False)) ∧
  (∀ (n d : Nat) (L : List (Option iV)) (st : List iV) (h : iH) (Q : Option iV → iH → Prop), G sp sc [23] d mL_law (n + 1) 307 L st h Q = (match ld L 0 with | some (.inr (.inr (r + 1))) => G sp sc [23] d mL_law n 308 L (.inr (.inr (r + 1)) :: st) h Q | _ => False)) ∧
  (∀ (n d : Nat) (L : List (Option iV)) (st : List iV) (h : iH) (Q : Option iV → iH → Prop), G sp sc [23] d mL_law (n + 1) 308 L st h Q = (match ld L 4 with | some (.inl x) => G sp sc [23] d mL_law n 310 L (.inl x :: st) h Q | _ => False)) ∧
  (∀ (n d : Nat) (L : List (Option iV)) (st : List iV) (h : iH) (Q : Option iV → iH → Prop), G sp sc [23] d mL_law (n + 1) 310 L st h Q = G sp sc [23] d mL_law n 311 L (.inl 1 :: st) h Q) ∧
  (∀ (n d : Nat) (L : List (Option iV)) (a : Int) (b : Int) (r : List iV) (h : iH) (Q : Option iV → iH → Prop), G sp sc [23] d mL_law (n + 1) 311 L (.inl b :: .inl a :: r) h Q = G sp sc [23] d mL_law n 312 L (.inl (a + b) :: r) h Q) ∧
  (∀ (n d : Nat) (L : List (Option iV)) (r : List iV) (j : Int) (h : iH) (Q : Option iV → iH → Prop), G sp sc [23] d mL_law (n + 1) 312 L (.inl j :: .inr (.inr 1) :: r) h Q = (inA j sc.length = true ∧ G sp sc [23] d mL_law n 313 L (.inl (sc.getD j.toNat 0) :: r) h Q)) ∧
  (∀ (n d : Nat) (L : List (Option iV)) (r : List iV) (j : Int) (m : Nat) (h : iH) (Q : Option iV → iH → Prop), G sp sc [23] d mL_law (n + 1) 312 L (.inl j :: .inr (.inr (m + 2)) :: r) h Q = (match h.1[m]? with | some (.inr (.inl (0, xs))) => inA j xs.length = true ∧ G sp sc [23] d mL_law n 313 L (.inl (xs.getD j.toNat 0) :: r) h Q | _ => False)) ∧
  (∀ (n d : Nat) (L : List (Option iV)) (st : List iV) (h : iH) (Q : Option iV → iH → Prop), G sp sc [23] d mL_law (n + 1) 313 L st h Q = (match ld L 0 with | some (.inr (.inr (r + 1))) => G sp sc [23] d mL_law n 314 L (.inr (.inr (r + 1)) :: st) h Q | _ => False)) ∧
  (∀ (n d : Nat) (L : List (Option iV)) (st : List iV) (h : iH) (Q : Option iV → iH → Prop), G sp sc [23] d mL_law (n + 1) 314 L st h Q = (match ld L 4 with | some (.inl x) => G sp sc [23] d mL_law n 316 L (.inl x :: st) h Q | _ => False)) ∧
  (∀ (n d : Nat) (L : List (Option iV)) (st : List iV) (h : iH) (Q : Option iV → iH → Prop), G sp sc [23] d mL_law (n + 1) 316 L st h Q = G sp sc [23] d mL_law n 317 L (.inl 2 :: st) h Q) ∧
  (∀ (n d : Nat) (L : List (Option iV)) (a : Int) (b : Int) (r : List iV) (h : iH) (Q : Option iV → iH → Prop), G sp sc [23] d mL_law (n + 1) 317 L (.inl b :: .inl a :: r) h Q = G sp sc [23] d mL_law n 318 L (.inl (a + b) :: r) h Q) ∧
  (∀ (n d : Nat) (L : List (Option iV)) (r : List iV) (j : Int) (h : iH) (Q : Option iV → iH → Prop), G sp sc [23] d mL_law (n + 1) 318 L (.inl j :: .inr (.inr 1) :: r) h Q = (inA j sc.length = true ∧ G sp sc [23] d mL_law n 319 L (.inl (sc.getD j.toNat 0) :: r) h Q)) ∧
  (∀ (n d : Nat) (L : List (Option iV)) (r : List iV) (j : Int) (m : Nat) (h : iH) (Q : Option iV → iH → Prop), G sp sc [23] d mL_law (n + 1) 318 L (.inl j :: .inr (.inr (m + 2)) :: r) h Q = (match h.1[m]? with | some (.inr (.inl (0, xs))) => inA j xs.length = true ∧ G sp sc [23] d mL_law n 319 L (.inl (xs.getD j.toNat 0) :: r) h Q | _ => False)) ∧
  (∀ (n d : Nat) (L : List (Option iV)) (st : List iV) (h : iH) (Q : Option iV → iH → Prop), G sp sc [23] d mL_law (n + 1) 319 L st h Q = (match ld L 0 with | some (.inr (.inr (r + 1))) => G sp sc [23] d mL_law n 320 L (.inr (.inr (r + 1)) :: st) h Q | _ => False)) ∧
  (∀ (n d : Nat) (L : List (Option iV)) (st : List iV) (h : iH) (Q : Option iV → iH → Prop), G sp sc [23] d mL_law (n + 1) 320 L st h Q = (match ld L 4 with | some (.inl x) => G sp sc [23] d mL_law n 322 L (.inl x :: st) h Q | _ => False)) ∧
  (∀ (n d : Nat) (L : List (Option iV)) (st : List iV) (h : iH) (Q : Option iV → iH → Prop), G sp sc [23] d mL_law (n + 1) 322 L st h Q = G sp sc [23] d mL_law n 323 L (.inl 3 :: st) h Q) ∧
  (∀ (n d : Nat) (L : List (Option iV)) (a : Int) (b : Int) (r : List iV) (h : iH) (Q : Option iV → iH → Prop), G sp sc [23] d mL_law (n + 1) 323 L (.inl b :: .inl a :: r) h Q = G sp sc [23] d mL_law n 324 L (.inl (a + b) :: r) h Q) ∧
  (∀ (n d : Nat) (L : List (Option iV)) (r : List iV) (j : Int) (h : iH) (Q : Option iV → iH → Prop), G sp sc [23] d mL_law (n + 1) 324 L (.inl j :: .inr (.inr 1) :: r) h Q = (inA j sc.length = true ∧ G sp sc [23] d mL_law n 325 L (.inl (sc.getD j.toNat 0) :: r) h Q)) ∧
  (∀ (n d : Nat) (L : List (Option iV)) (r : List iV) (j : Int) (m : Nat) (h : iH) (Q : Option iV → iH → Prop), G sp sc [23] d mL_law (n + 1) 324 L (.inl j :: .inr (.inr (m + 2)) :: r) h Q = (match h.1[m]? with | some (.inr (.inl (0, xs))) => inA j xs.length = true ∧ G sp sc [23] d mL_law n 325 L (.inl (xs.getD j.toNat 0) :: r) h Q | _ => False)) ∧
  (∀ (n d : Nat) (L : List (Option iV)) (r : List iV) (m : Nat) (z0 : iV) (z1 : iV) (z2 : iV) (h : iH) (Q : Option iV → iH → Prop), G sp sc [23] (d + 1) mL_law (n + 1) 325 L (z2 :: z1 :: z0 :: .inr (.inr (m + 2)) :: r) h Q = (match h.1[m]? with | some (.inl (ci, _)) => (match lkC 13 31 ci with | some (y1, n1, kd) => (n1 = 3 ∧ (kd = 2 ∨ kd = 3 ∨ kd = 8) ∧ cs r ≤ 8) ∧ Call sp sc d y1 [.inr (.inr (m + 2)), z0, z1, z2] h (fun q h1 => GC sp sc [23] (d + 1) mL_law n 328 L q r h h1 Q) | none => False) | _ => False)) ∧
  (∀ (n d : Nat) (L : List (Option iV)) (st : List iV) (h : iH) (Q : Option iV → iH → Prop), G sp sc [23] d mL_law (n + 1) 328 L st h Q = (match ld L 2 with | some (.inr (.inr (r + 1))) => G sp sc [23] d mL_law n 329 L (.inr (.inr (r + 1)) :: st) h Q | _ => False)) ∧
  (∀ (n d : Nat) (L : List (Option iV)) (st : List iV) (h : iH) (Q : Option iV → iH → Prop), G sp sc [23] d mL_law (n + 1) 329 L st h Q = (match ld L 0 with | some (.inr (.inr (r + 1))) => G sp sc [23] d mL_law n 330 L (.inr (.inr (r + 1)) :: st) h Q | _ => False)) ∧
  (∀ (n d : Nat) (L : List (Option iV)) (st : List iV) (h : iH) (Q : Option iV → iH → Prop), G sp sc [23] d mL_law (n + 1) 330 L st h Q = (match ld L 4 with | some (.inl x) => G sp sc [23] d mL_law n 332 L (.inl x :: st) h Q | _ => False)) ∧
  (∀ (n d : Nat) (L : List (Option iV)) (st : List iV) (h : iH) (Q : Option iV → iH → Prop), G sp sc [23] d mL_law (n + 1) 332 L st h Q = G sp sc [23] d mL_law n 333 L (.inl 1 :: st) h Q) ∧
  (∀ (n d : Nat) (L : List (Option iV)) (a : Int) (b : Int) (r : List iV) (h : iH) (Q : Option iV → iH → Prop), G sp sc [23] d mL_law (n + 1) 333 L (.inl b :: .inl a :: r) h Q = G sp sc [23] d mL_law n 334 L (.inl (a + b) :: r) h Q) ∧
  (∀ (n d : Nat) (L : List (Option iV)) (r : List iV) (j : Int) (h : iH) (Q : Option iV → iH → Prop), G sp sc [23] d mL_law (n + 1) 334 L (.inl j :: .inr (.inr 1) :: r) h Q = (inA j sc.length = true ∧ G sp sc [23] d mL_law n 335 L (.inl (sc.getD j.toNat 0) :: r) h Q)) ∧
  (∀ (n d : Nat) (L : List (Option iV)) (r : List iV) (j : Int) (m : Nat) (h : iH) (Q : Option iV → iH → Prop), G sp sc [23] d mL_law (n + 1) 334 L (.inl j :: .inr (.inr (m + 2)) :: r) h Q = (match h.1[m]? with | some (.inr (.inl (0, xs))) => inA j xs.length = true ∧ G sp sc [23] d mL_law n 335 L (.inl (xs.getD j.toNat 0) :: r) h Q | _ => False)) ∧
  (∀ (n d : Nat) (L : List (Option iV)) (st : List iV) (h : iH) (Q : Option iV → iH → Prop), G sp sc [23] d mL_law (n + 1) 335 L st h Q = (match ld L 0 with | some (.inr (.inr (r + 1))) => G sp sc [23] d mL_law n 336 L (.inr (.inr (r + 1)) :: st) h Q | _ => False)) ∧
  (∀ (n d : Nat) (L : List (Option iV)) (st : List iV) (h : iH) (Q : Option iV → iH → Prop), G sp sc [23] d mL_law (n + 1) 336 L st h Q = (match ld L 4 with | some (.inl x) => G sp sc [23] d mL_law n 338 L (.inl x :: st) h Q | _ => False)) ∧
  (∀ (n d : Nat) (L : List (Option iV)) (st : List iV) (h : iH) (Q : Option iV → iH → Prop), G sp sc [23] d mL_law (n + 1) 338 L st h Q = G sp sc [23] d mL_law n 339 L (.inl 2 :: st) h Q) ∧
  (∀ (n d : Nat) (L : List (Option iV)) (a : Int) (b : Int) (r : List iV) (h : iH) (Q : Option iV → iH → Prop), G sp sc [23] d mL_law (n + 1) 339 L (.inl b :: .inl a :: r) h Q = G sp sc [23] d mL_law n 340 L (.inl (a + b) :: r) h Q) ∧
  (∀ (n d : Nat) (L : List (Option iV)) (r : List iV) (j : Int) (h : iH) (Q : Option iV → iH → Prop), G sp sc [23] d mL_law (n + 1) 340 L (.inl j :: .inr (.inr 1) :: r) h Q = (inA j sc.length = true ∧ G sp sc [23] d mL_law n 341 L (.inl (sc.getD j.toNat 0) :: r) h Q)) ∧
  (∀ (n d : Nat) (L : List (Option iV)) (r : List iV) (j : Int) (m : Nat) (h : iH) (Q : Option iV → iH → Prop), G sp sc [23] d mL_law (n + 1) 340 L (.inl j :: .inr (.inr (m + 2)) :: r) h Q = (match h.1[m]? with | some (.inr (.inl (0, xs))) => inA j xs.length = true ∧ G sp sc [23] d mL_law n 341 L (.inl (xs.getD j.toNat 0) :: r) h Q | _ => False)) ∧
  (∀ (n d : Nat) (L : List (Option iV)) (st : List iV) (h : iH) (Q : Option iV → iH → Prop), G sp sc [23] d mL_law (n + 1) 341 L st h Q = (match ld L 0 with | some (.inr (.inr (r + 1))) => G sp sc [23] d mL_law n 342 L (.inr (.inr (r + 1)) :: st) h Q | _ => False)) ∧
  (∀ (n d : Nat) (L : List (Option iV)) (st : List iV) (h : iH) (Q : Option iV → iH → Prop), G sp sc [23] d mL_law (n + 1) 342 L st h Q = (match ld L 4 with | some (.inl x) => G sp sc [23] d mL_law n 344 L (.inl x :: st) h Q | _ => False)) ∧
  (∀ (n d : Nat) (L : List (Option iV)) (st : List iV) (h : iH) (Q : Option iV → iH → Prop), G sp sc [23] d mL_law (n + 1) 344 L st h Q = G sp sc [23] d mL_law n 345 L (.inl 3 :: st) h Q) ∧
  (∀ (n d : Nat) (L : List (Option iV)) (a : Int) (b : Int) (r : List iV) (h : iH) (Q : Option iV → iH → Prop), G sp sc [23] d mL_law (n + 1) 345 L (.inl b :: .inl a :: r) h Q = G sp sc [23] d mL_law n 346 L (.inl (a + b) :: r) h Q) ∧
  (∀ (n d : Nat) (L : List (Option iV)) (r : List iV) (j : Int) (h : iH) (Q : Option iV → iH → Prop), G sp sc [23] d mL_law (n + 1) 346 L (.inl j :: .inr (.inr 1) :: r) h Q = (inA j sc.length = true ∧ G sp sc [23] d mL_law n 347 L (.inl (sc.getD j.toNat 0) :: r) h Q)) ∧
  (∀ (n d : Nat) (L : List (Option iV)) (r : List iV) (j : Int) (m : Nat) (h : iH) (Q : Option iV → iH → Prop), G sp sc [23] d mL_law (n + 1) 346 L (.inl j :: .inr (.inr (m + 2)) :: r) h Q = (match h.1[m]? with | some (.inr (.inl (0, xs))) => inA j xs.length = true ∧ G sp sc [23] d mL_law n 347 L (.inl (xs.getD j.toNat 0) :: r) h Q | _ => False)) ∧
  (∀ (n d : Nat) (L : List (Option iV)) (r : List iV) (m : Nat) (z0 : iV) (z1 : iV) (z2 : iV) (h : iH) (Q : Option iV → iH → Prop), G sp sc [23] (d + 1) mL_law (n + 1) 347 L (z2 :: z1 :: z0 :: .inr (.inr (m + 2)) :: r) h Q = (match h.1[m]? with | some (.inl (ci, _)) => (match lkC 13 34 ci with | some (y1, n1, kd) => (n1 = 3 ∧ (kd = 2 ∨ kd = 3 ∨ kd = 8) ∧ cs r ≤ 8) ∧ Call sp sc d y1 [.inr (.inr (m + 2)), z0, z1, z2] h (fun q h1 => GC sp sc [23] (d + 1) mL_law n 350 L q r h h1 Q) | none => False) | _ => False)) ∧
  (∀ (n d : Nat) (L : List (Option iV)) (a : Int) (b : Int) (r : List iV) (h : iH) (Q : Option iV → iH → Prop), G sp sc [23] d mL_law (n + 1) 350 L (.inl b :: .inl a :: r) h Q = ((inI a = true ∧ inI b = true) ∧ (a = b → G sp sc [23] d mL_law n 1950 L r h Q) ∧ (¬ (a = b) → G sp sc [23] d mL_law n 353 L r h Q))) ∧
  (∀ (n d : Nat) (L : List (Option iV)) (st : List iV) (h : iH) (Q : Option iV → iH → Prop), G sp sc [23] d mL_law (n + 1) 353 L st h Q = G sp sc [23] d mL_law n 354 L (.inl 0 :: st) h Q) ∧
  (∀ (n d : Nat) (L : List (Option iV)) (a : Int) (h : iH) (Q : Option iV → iH → Prop), G sp sc [23] d mL_law (n + 1) 354 L [.inl a] h Q = ((a = 0 ∨ a = 1) ∧ Q (some (.inl a)) h)) := ⟨by intros; exact G_at (by decide +kernel : fetch mL_law 306 = some (.aload_n 1)),
  by intros; exact G_at (by decide +kernel : fetch mL_law 307 = some (.aload_n 0)),
  by intros; exact G_at (by decide +kernel : fetch mL_law 308 = some (.iload 4)),
  by intros; exact G_at (by decide +kernel : fetch mL_law 310 = some (.iconst 1)),
  by intros; exact G_at (by decide +kernel : fetch mL_law 311 = some (.iadd)),
  by intros; exact G_at (by decide +kernel : fetch mL_law 312 = some (.iaload)),
  by intros; exact G_at (by decide +kernel : fetch mL_law 312 = some (.iaload)),
  by intros; exact G_at (by decide +kernel : fetch mL_law 313 = some (.aload_n 0)),
  by intros; exact G_at (by decide +kernel : fetch mL_law 314 = some (.iload 4)),
  by intros; exact G_at (by decide +kernel : fetch mL_law 316 = some (.iconst 2)),
  by intros; exact G_at (by decide +kernel : fetch mL_law 317 = some (.iadd)),
  by intros; exact G_at (by decide +kernel : fetch mL_law 318 = some (.iaload)),
  by intros; exact G_at (by decide +kernel : fetch mL_law 318 = some (.iaload)),
  by intros; exact G_at (by decide +kernel : fetch mL_law 319 = some (.aload_n 0)),
  by intros; exact G_at (by decide +kernel : fetch mL_law 320 = some (.iload 4)),
  by intros; exact G_at (by decide +kernel : fetch mL_law 322 = some (.iconst 3)),
  by intros; exact G_at (by decide +kernel : fetch mL_law 323 = some (.iadd)),
  by intros; exact G_at (by decide +kernel : fetch mL_law 324 = some (.iaload)),
  by intros; exact G_at (by decide +kernel : fetch mL_law 324 = some (.iaload)),
  by intros; exact G_callV (by decide +kernel : fetch mL_law 325 = some (.invokevirtual 31)) (by decide +kernel) (by decide +kernel) rfl,
  by intros; exact G_at (by decide +kernel : fetch mL_law 328 = some (.aload_n 2)),
  by intros; exact G_at (by decide +kernel : fetch mL_law 329 = some (.aload_n 0)),
  by intros; exact G_at (by decide +kernel : fetch mL_law 330 = some (.iload 4)),
  by intros; exact G_at (by decide +kernel : fetch mL_law 332 = some (.iconst 1)),
  by intros; exact G_at (by decide +kernel : fetch mL_law 333 = some (.iadd)),
  by intros; exact G_at (by decide +kernel : fetch mL_law 334 = some (.iaload)),
  by intros; exact G_at (by decide +kernel : fetch mL_law 334 = some (.iaload)),
  by intros; exact G_at (by decide +kernel : fetch mL_law 335 = some (.aload_n 0)),
  by intros; exact G_at (by decide +kernel : fetch mL_law 336 = some (.iload 4)),
  by intros; exact G_at (by decide +kernel : fetch mL_law 338 = some (.iconst 2)),
  by intros; exact G_at (by decide +kernel : fetch mL_law 339 = some (.iadd)),
  by intros; exact G_at (by decide +kernel : fetch mL_law 340 = some (.iaload)),
  by intros; exact G_at (by decide +kernel : fetch mL_law 340 = some (.iaload)),
  by intros; exact G_at (by decide +kernel : fetch mL_law 341 = some (.aload_n 0)),
  by intros; exact G_at (by decide +kernel : fetch mL_law 342 = some (.iload 4)),
  by intros; exact G_at (by decide +kernel : fetch mL_law 344 = some (.iconst 3)),
  by intros; exact G_at (by decide +kernel : fetch mL_law 345 = some (.iadd)),
  by intros; exact G_at (by decide +kernel : fetch mL_law 346 = some (.iaload)),
  by intros; exact G_at (by decide +kernel : fetch mL_law 346 = some (.iaload)),
  by intros; exact G_callV (by decide +kernel : fetch mL_law 347 = some (.invokevirtual 34)) (by decide +kernel) (by decide +kernel) rfl,
  by intros; exact G_at (by decide +kernel : fetch mL_law 350 = some (.if_icmp .eq 1600)),
  by intros; exact G_at (by decide +kernel : fetch mL_law 353 = some (.iconst 0)),
  by intros; exact G_retz (by decide +kernel : fetch mL_law 354 = some (.ireturn)) (by decide +kernel)⟩
theorem gL_c3 : (∀ (n d : Nat) (L : List (Option iV)) (st : List iV) (h : iH) (Q : Option iV → iH → Prop), G sp sc [23] d mL_law (n + 1) 355 L st h Q = (match ld L 1 with | some (.inr (.inr (r + 1))) => G sp sc [23] d mL_law n 356 L (.inr (.inr (r + 1)) :: st) h Q | _ => False)) ∧
  (∀ (n d : Nat) (L : List (Option iV)) (st : List iV) (h : iH) (Q : Option iV → iH → Prop), G sp sc [23] d mL_law (n + 1) 356 L st h Q = (match ld L 0 with | some (.inr (.inr (r + 1))) => G sp sc [23] d mL_law n 357 L (.inr (.inr (r + 1)) :: st) h Q | _ => False)) ∧
  (∀ (n d : Nat) (L : List (Option iV)) (st : List iV) (h : iH) (Q : Option iV → iH → Prop), G sp sc [23] d mL_law (n + 1) 357 L st h Q = (match ld L 4 with | some (.inl x) => G sp sc [23] d mL_law n 359 L (.inl x :: st) h Q | _ => False)) ∧
  (∀ (n d : Nat) (L : List (Option iV)) (st : List iV) (h : iH) (Q : Option iV → iH → Prop), G sp sc [23] d mL_law (n + 1) 359 L st h Q = G sp sc [23] d mL_law n 360 L (.inl 1 :: st) h Q) ∧
  (∀ (n d : Nat) (L : List (Option iV)) (a : Int) (b : Int) (r : List iV) (h : iH) (Q : Option iV → iH → Prop), G sp sc [23] d mL_law (n + 1) 360 L (.inl b :: .inl a :: r) h Q = G sp sc [23] d mL_law n 361 L (.inl (a + b) :: r) h Q) ∧
  (∀ (n d : Nat) (L : List (Option iV)) (r : List iV) (j : Int) (h : iH) (Q : Option iV → iH → Prop), G sp sc [23] d mL_law (n + 1) 361 L (.inl j :: .inr (.inr 1) :: r) h Q = (inA j sc.length = true ∧ G sp sc [23] d mL_law n 362 L (.inl (sc.getD j.toNat 0) :: r) h Q)) ∧
  (∀ (n d : Nat) (L : List (Option iV)) (r : List iV) (j : Int) (m : Nat) (h : iH) (Q : Option iV → iH → Prop), G sp sc [23] d mL_law (n + 1) 361 L (.inl j :: .inr (.inr (m + 2)) :: r) h Q = (match h.1[m]? with | some (.inr (.inl (0, xs))) => inA j xs.length = true ∧ G sp sc [23] d mL_law n 362 L (.inl (xs.getD j.toNat 0) :: r) h Q | _ => False)) ∧
  (∀ (n d : Nat) (L : List (Option iV)) (st : List iV) (h : iH) (Q : Option iV → iH → Prop), G sp sc [23] d mL_law (n + 1) 362 L st h Q = (match ld L 0 with | some (.inr (.inr (r + 1))) => G sp sc [23] d mL_law n 363 L (.inr (.inr (r + 1)) :: st) h Q | _ => False)) ∧
  (∀ (n d : Nat) (L : List (Option iV)) (st : List iV) (h : iH) (Q : Option iV → iH → Prop), G sp sc [23] d mL_law (n + 1) 363 L st h Q = (match ld L 4 with | some (.inl x) => G sp sc [23] d mL_law n 365 L (.inl x :: st) h Q | _ => False)) ∧
  (∀ (n d : Nat) (L : List (Option iV)) (st : List iV) (h : iH) (Q : Option iV → iH → Prop), G sp sc [23] d mL_law (n + 1) 365 L st h Q = G sp sc [23] d mL_law n 366 L (.inl 2 :: st) h Q) ∧
  (∀ (n d : Nat) (L : List (Option iV)) (a : Int) (b : Int) (r : List iV) (h : iH) (Q : Option iV → iH → Prop), G sp sc [23] d mL_law (n + 1) 366 L (.inl b :: .inl a :: r) h Q = G sp sc [23] d mL_law n 367 L (.inl (a + b) :: r) h Q) ∧
  (∀ (n d : Nat) (L : List (Option iV)) (r : List iV) (j : Int) (h : iH) (Q : Option iV → iH → Prop), G sp sc [23] d mL_law (n + 1) 367 L (.inl j :: .inr (.inr 1) :: r) h Q = (inA j sc.length = true ∧ G sp sc [23] d mL_law n 368 L (.inl (sc.getD j.toNat 0) :: r) h Q)) ∧
  (∀ (n d : Nat) (L : List (Option iV)) (r : List iV) (j : Int) (m : Nat) (h : iH) (Q : Option iV → iH → Prop), G sp sc [23] d mL_law (n + 1) 367 L (.inl j :: .inr (.inr (m + 2)) :: r) h Q = (match h.1[m]? with | some (.inr (.inl (0, xs))) => inA j xs.length = true ∧ G sp sc [23] d mL_law n 368 L (.inl (xs.getD j.toNat 0) :: r) h Q | _ => False)) ∧
  (∀ (n d : Nat) (L : List (Option iV)) (st : List iV) (h : iH) (Q : Option iV → iH → Prop), G sp sc [23] d mL_law (n + 1) 368 L st h Q = (match ld L 0 with | some (.inr (.inr (r + 1))) => G sp sc [23] d mL_law n 369 L (.inr (.inr (r + 1)) :: st) h Q | _ => False)) ∧
  (∀ (n d : Nat) (L : List (Option iV)) (st : List iV) (h : iH) (Q : Option iV → iH → Prop), G sp sc [23] d mL_law (n + 1) 369 L st h Q = (match ld L 4 with | some (.inl x) => G sp sc [23] d mL_law n 371 L (.inl x :: st) h Q | _ => False)) ∧
  (∀ (n d : Nat) (L : List (Option iV)) (st : List iV) (h : iH) (Q : Option iV → iH → Prop), G sp sc [23] d mL_law (n + 1) 371 L st h Q = G sp sc [23] d mL_law n 372 L (.inl 3 :: st) h Q) ∧
  (∀ (n d : Nat) (L : List (Option iV)) (a : Int) (b : Int) (r : List iV) (h : iH) (Q : Option iV → iH → Prop), G sp sc [23] d mL_law (n + 1) 372 L (.inl b :: .inl a :: r) h Q = G sp sc [23] d mL_law n 373 L (.inl (a + b) :: r) h Q) ∧
  (∀ (n d : Nat) (L : List (Option iV)) (r : List iV) (j : Int) (h : iH) (Q : Option iV → iH → Prop), G sp sc [23] d mL_law (n + 1) 373 L (.inl j :: .inr (.inr 1) :: r) h Q = (inA j sc.length = true ∧ G sp sc [23] d mL_law n 374 L (.inl (sc.getD j.toNat 0) :: r) h Q)) ∧
  (∀ (n d : Nat) (L : List (Option iV)) (r : List iV) (j : Int) (m : Nat) (h : iH) (Q : Option iV → iH → Prop), G sp sc [23] d mL_law (n + 1) 373 L (.inl j :: .inr (.inr (m + 2)) :: r) h Q = (match h.1[m]? with | some (.inr (.inl (0, xs))) => inA j xs.length = true ∧ G sp sc [23] d mL_law n 374 L (.inl (xs.getD j.toNat 0) :: r) h Q | _ => False)) ∧
  (∀ (n d : Nat) (L : List (Option iV)) (r : List iV) (m : Nat) (z0 : iV) (z1 : iV) (z2 : iV) (h : iH) (Q : Option iV → iH → Prop), G sp sc [23] (d + 1) mL_law (n + 1) 374 L (z2 :: z1 :: z0 :: .inr (.inr (m + 2)) :: r) h Q = (match h.1[m]? with | some (.inl (ci, _)) => (match lkC 13 35 ci with | some (y1, n1, kd) => (n1 = 3 ∧ (kd = 2 ∨ kd = 3 ∨ kd = 8) ∧ cs r ≤ 8) ∧ Call sp sc d y1 [.inr (.inr (m + 2)), z0, z1, z2] h (fun q h1 => GC sp sc [23] (d + 1) mL_law n 377 L q r h h1 Q) | none => False) | _ => False)) ∧
  (∀ (n d : Nat) (L : List (Option iV)) (st : List iV) (h : iH) (Q : Option iV → iH → Prop), G sp sc [23] d mL_law (n + 1) 377 L st h Q = (match ld L 2 with | some (.inr (.inr (r + 1))) => G sp sc [23] d mL_law n 378 L (.inr (.inr (r + 1)) :: st) h Q | _ => False)) ∧
  (∀ (n d : Nat) (L : List (Option iV)) (st : List iV) (h : iH) (Q : Option iV → iH → Prop), G sp sc [23] d mL_law (n + 1) 378 L st h Q = (match ld L 0 with | some (.inr (.inr (r + 1))) => G sp sc [23] d mL_law n 379 L (.inr (.inr (r + 1)) :: st) h Q | _ => False)) ∧
  (∀ (n d : Nat) (L : List (Option iV)) (st : List iV) (h : iH) (Q : Option iV → iH → Prop), G sp sc [23] d mL_law (n + 1) 379 L st h Q = (match ld L 4 with | some (.inl x) => G sp sc [23] d mL_law n 381 L (.inl x :: st) h Q | _ => False)) ∧
  (∀ (n d : Nat) (L : List (Option iV)) (st : List iV) (h : iH) (Q : Option iV → iH → Prop), G sp sc [23] d mL_law (n + 1) 381 L st h Q = G sp sc [23] d mL_law n 382 L (.inl 1 :: st) h Q) ∧
  (∀ (n d : Nat) (L : List (Option iV)) (a : Int) (b : Int) (r : List iV) (h : iH) (Q : Option iV → iH → Prop), G sp sc [23] d mL_law (n + 1) 382 L (.inl b :: .inl a :: r) h Q = G sp sc [23] d mL_law n 383 L (.inl (a + b) :: r) h Q) ∧
  (∀ (n d : Nat) (L : List (Option iV)) (r : List iV) (j : Int) (h : iH) (Q : Option iV → iH → Prop), G sp sc [23] d mL_law (n + 1) 383 L (.inl j :: .inr (.inr 1) :: r) h Q = (inA j sc.length = true ∧ G sp sc [23] d mL_law n 384 L (.inl (sc.getD j.toNat 0) :: r) h Q)) ∧
  (∀ (n d : Nat) (L : List (Option iV)) (r : List iV) (j : Int) (m : Nat) (h : iH) (Q : Option iV → iH → Prop), G sp sc [23] d mL_law (n + 1) 383 L (.inl j :: .inr (.inr (m + 2)) :: r) h Q = (match h.1[m]? with | some (.inr (.inl (0, xs))) => inA j xs.length = true ∧ G sp sc [23] d mL_law n 384 L (.inl (xs.getD j.toNat 0) :: r) h Q | _ => False)) ∧
  (∀ (n d : Nat) (L : List (Option iV)) (st : List iV) (h : iH) (Q : Option iV → iH → Prop), G sp sc [23] d mL_law (n + 1) 384 L st h Q = (match ld L 0 with | some (.inr (.inr (r + 1))) => G sp sc [23] d mL_law n 385 L (.inr (.inr (r + 1)) :: st) h Q | _ => False)) ∧
  (∀ (n d : Nat) (L : List (Option iV)) (st : List iV) (h : iH) (Q : Option iV → iH → Prop), G sp sc [23] d mL_law (n + 1) 385 L st h Q = (match ld L 4 with | some (.inl x) => G sp sc [23] d mL_law n 387 L (.inl x :: st) h Q | _ => False)) ∧
  (∀ (n d : Nat) (L : List (Option iV)) (st : List iV) (h : iH) (Q : Option iV → iH → Prop), G sp sc [23] d mL_law (n + 1) 387 L st h Q = G sp sc [23] d mL_law n 388 L (.inl 2 :: st) h Q) ∧
  (∀ (n d : Nat) (L : List (Option iV)) (a : Int) (b : Int) (r : List iV) (h : iH) (Q : Option iV → iH → Prop), G sp sc [23] d mL_law (n + 1) 388 L (.inl b :: .inl a :: r) h Q = G sp sc [23] d mL_law n 389 L (.inl (a + b) :: r) h Q) ∧
  (∀ (n d : Nat) (L : List (Option iV)) (r : List iV) (j : Int) (h : iH) (Q : Option iV → iH → Prop), G sp sc [23] d mL_law (n + 1) 389 L (.inl j :: .inr (.inr 1) :: r) h Q = (inA j sc.length = true ∧ G sp sc [23] d mL_law n 390 L (.inl (sc.getD j.toNat 0) :: r) h Q)) ∧
  (∀ (n d : Nat) (L : List (Option iV)) (r : List iV) (j : Int) (m : Nat) (h : iH) (Q : Option iV → iH → Prop), G sp sc [23] d mL_law (n + 1) 389 L (.inl j :: .inr (.inr (m + 2)) :: r) h Q = (match h.1[m]? with | some (.inr (.inl (0, xs))) => inA j xs.length = true ∧ G sp sc [23] d mL_law n 390 L (.inl (xs.getD j.toNat 0) :: r) h Q | _ => False)) ∧
  (∀ (n d : Nat) (L : List (Option iV)) (st : List iV) (h : iH) (Q : Option iV → iH → Prop), G sp sc [23] d mL_law (n + 1) 390 L st h Q = (match ld L 0 with | some (.inr (.inr (r + 1))) => G sp sc [23] d mL_law n 391 L (.inr (.inr (r + 1)) :: st) h Q | _ => False)) ∧
  (∀ (n d : Nat) (L : List (Option iV)) (st : List iV) (h : iH) (Q : Option iV → iH → Prop), G sp sc [23] d mL_law (n + 1) 391 L st h Q = (match ld L 4 with | some (.inl x) => G sp sc [23] d mL_law n 393 L (.inl x :: st) h Q | _ => False)) ∧
  (∀ (n d : Nat) (L : List (Option iV)) (st : List iV) (h : iH) (Q : Option iV → iH → Prop), G sp sc [23] d mL_law (n + 1) 393 L st h Q = G sp sc [23] d mL_law n 394 L (.inl 3 :: st) h Q) ∧
  (∀ (n d : Nat) (L : List (Option iV)) (a : Int) (b : Int) (r : List iV) (h : iH) (Q : Option iV → iH → Prop), G sp sc [23] d mL_law (n + 1) 394 L (.inl b :: .inl a :: r) h Q = G sp sc [23] d mL_law n 395 L (.inl (a + b) :: r) h Q) ∧
  (∀ (n d : Nat) (L : List (Option iV)) (r : List iV) (j : Int) (h : iH) (Q : Option iV → iH → Prop), G sp sc [23] d mL_law (n + 1) 395 L (.inl j :: .inr (.inr 1) :: r) h Q = (inA j sc.length = true ∧ G sp sc [23] d mL_law n 396 L (.inl (sc.getD j.toNat 0) :: r) h Q)) ∧
  (∀ (n d : Nat) (L : List (Option iV)) (r : List iV) (j : Int) (m : Nat) (h : iH) (Q : Option iV → iH → Prop), G sp sc [23] d mL_law (n + 1) 395 L (.inl j :: .inr (.inr (m + 2)) :: r) h Q = (match h.1[m]? with | some (.inr (.inl (0, xs))) => inA j xs.length = true ∧ G sp sc [23] d mL_law n 396 L (.inl (xs.getD j.toNat 0) :: r) h Q | _ => False)) ∧
  (∀ (n d : Nat) (L : List (Option iV)) (r : List iV) (m : Nat) (z0 : iV) (z1 : iV) (z2 : iV) (h : iH) (Q : Option iV → iH → Prop), G sp sc [23] (d + 1) mL_law (n + 1) 396 L (z2 :: z1 :: z0 :: .inr (.inr (m + 2)) :: r) h Q = (match h.1[m]? with | some (.inl (ci, _)) => (match lkC 13 38 ci with | some (y1, n1, kd) => (n1 = 3 ∧ (kd = 2 ∨ kd = 3 ∨ kd = 8) ∧ cs r ≤ 8) ∧ Call sp sc d y1 [.inr (.inr (m + 2)), z0, z1, z2] h (fun q h1 => GC sp sc [23] (d + 1) mL_law n 399 L q r h h1 Q) | none => False) | _ => False)) ∧
  (∀ (n d : Nat) (L : List (Option iV)) (a : Int) (b : Int) (r : List iV) (h : iH) (Q : Option iV → iH → Prop), G sp sc [23] d mL_law (n + 1) 399 L (.inl b :: .inl a :: r) h Q = ((inI a = true ∧ inI b = true) ∧ (a = b → G sp sc [23] d mL_law n 1950 L r h Q) ∧ (¬ (a = b) → G sp sc [23] d mL_law n 402 L r h Q))) ∧
  (∀ (n d : Nat) (L : List (Option iV)) (st : List iV) (h : iH) (Q : Option iV → iH → Prop), G sp sc [23] d mL_law (n + 1) 402 L st h Q = G sp sc [23] d mL_law n 403 L (.inl 0 :: st) h Q) ∧
  (∀ (n d : Nat) (L : List (Option iV)) (a : Int) (h : iH) (Q : Option iV → iH → Prop), G sp sc [23] d mL_law (n + 1) 403 L [.inl a] h Q = ((a = 0 ∨ a = 1) ∧ Q (some (.inl a)) h)) := ⟨by intros; exact G_at (by decide +kernel : fetch mL_law 355 = some (.aload_n 1)),
  by intros; exact G_at (by decide +kernel : fetch mL_law 356 = some (.aload_n 0)),
  by intros; exact G_at (by decide +kernel : fetch mL_law 357 = some (.iload 4)),
  by intros; exact G_at (by decide +kernel : fetch mL_law 359 = some (.iconst 1)),
  by intros; exact G_at (by decide +kernel : fetch mL_law 360 = some (.iadd)),
  by intros; exact G_at (by decide +kernel : fetch mL_law 361 = some (.iaload)),
  by intros; exact G_at (by decide +kernel : fetch mL_law 361 = some (.iaload)),
  by intros; exact G_at (by decide +kernel : fetch mL_law 362 = some (.aload_n 0)),
  by intros; exact G_at (by decide +kernel : fetch mL_law 363 = some (.iload 4)),
  by intros; exact G_at (by decide +kernel : fetch mL_law 365 = some (.iconst 2)),
  by intros; exact G_at (by decide +kernel : fetch mL_law 366 = some (.iadd)),
  by intros; exact G_at (by decide +kernel : fetch mL_law 367 = some (.iaload)),
  by intros; exact G_at (by decide +kernel : fetch mL_law 367 = some (.iaload)),
  by intros; exact G_at (by decide +kernel : fetch mL_law 368 = some (.aload_n 0)),
  by intros; exact G_at (by decide +kernel : fetch mL_law 369 = some (.iload 4)),
  by intros; exact G_at (by decide +kernel : fetch mL_law 371 = some (.iconst 3)),
  by intros; exact G_at (by decide +kernel : fetch mL_law 372 = some (.iadd)),
  by intros; exact G_at (by decide +kernel : fetch mL_law 373 = some (.iaload)),
  by intros; exact G_at (by decide +kernel : fetch mL_law 373 = some (.iaload)),
  by intros; exact G_callV (by decide +kernel : fetch mL_law 374 = some (.invokevirtual 35)) (by decide +kernel) (by decide +kernel) rfl,
  by intros; exact G_at (by decide +kernel : fetch mL_law 377 = some (.aload_n 2)),
  by intros; exact G_at (by decide +kernel : fetch mL_law 378 = some (.aload_n 0)),
  by intros; exact G_at (by decide +kernel : fetch mL_law 379 = some (.iload 4)),
  by intros; exact G_at (by decide +kernel : fetch mL_law 381 = some (.iconst 1)),
  by intros; exact G_at (by decide +kernel : fetch mL_law 382 = some (.iadd)),
  by intros; exact G_at (by decide +kernel : fetch mL_law 383 = some (.iaload)),
  by intros; exact G_at (by decide +kernel : fetch mL_law 383 = some (.iaload)),
  by intros; exact G_at (by decide +kernel : fetch mL_law 384 = some (.aload_n 0)),
  by intros; exact G_at (by decide +kernel : fetch mL_law 385 = some (.iload 4)),
  by intros; exact G_at (by decide +kernel : fetch mL_law 387 = some (.iconst 2)),
  by intros; exact G_at (by decide +kernel : fetch mL_law 388 = some (.iadd)),
  by intros; exact G_at (by decide +kernel : fetch mL_law 389 = some (.iaload)),
  by intros; exact G_at (by decide +kernel : fetch mL_law 389 = some (.iaload)),
  by intros; exact G_at (by decide +kernel : fetch mL_law 390 = some (.aload_n 0)),
  by intros; exact G_at (by decide +kernel : fetch mL_law 391 = some (.iload 4)),
  by intros; exact G_at (by decide +kernel : fetch mL_law 393 = some (.iconst 3)),
  by intros; exact G_at (by decide +kernel : fetch mL_law 394 = some (.iadd)),
  by intros; exact G_at (by decide +kernel : fetch mL_law 395 = some (.iaload)),
  by intros; exact G_at (by decide +kernel : fetch mL_law 395 = some (.iaload)),
  by intros; exact G_callV (by decide +kernel : fetch mL_law 396 = some (.invokevirtual 38)) (by decide +kernel) (by decide +kernel) rfl,
  by intros; exact G_at (by decide +kernel : fetch mL_law 399 = some (.if_icmp .eq 1551)),
  by intros; exact G_at (by decide +kernel : fetch mL_law 402 = some (.iconst 0)),
  by intros; exact G_retz (by decide +kernel : fetch mL_law 403 = some (.ireturn)) (by decide +kernel)⟩
theorem gL_c4 : (∀ (n d : Nat) (L : List (Option iV)) (st : List iV) (h : iH) (Q : Option iV → iH → Prop), G sp sc [23] d mL_law (n + 1) 404 L st h Q = (match ld L 1 with | some (.inr (.inr (r + 1))) => G sp sc [23] d mL_law n 405 L (.inr (.inr (r + 1)) :: st) h Q | _ => False)) ∧
  (∀ (n d : Nat) (L : List (Option iV)) (st : List iV) (h : iH) (Q : Option iV → iH → Prop), G sp sc [23] d mL_law (n + 1) 405 L st h Q = (match ld L 0 with | some (.inr (.inr (r + 1))) => G sp sc [23] d mL_law n 406 L (.inr (.inr (r + 1)) :: st) h Q | _ => False)) ∧
  (∀ (n d : Nat) (L : List (Option iV)) (st : List iV) (h : iH) (Q : Option iV → iH → Prop), G sp sc [23] d mL_law (n + 1) 406 L st h Q = (match ld L 4 with | some (.inl x) => G sp sc [23] d mL_law n 408 L (.inl x :: st) h Q | _ => False)) ∧
  (∀ (n d : Nat) (L : List (Option iV)) (st : List iV) (h : iH) (Q : Option iV → iH → Prop), G sp sc [23] d mL_law (n + 1) 408 L st h Q = G sp sc [23] d mL_law n 409 L (.inl 1 :: st) h Q) ∧
  (∀ (n d : Nat) (L : List (Option iV)) (a : Int) (b : Int) (r : List iV) (h : iH) (Q : Option iV → iH → Prop), G sp sc [23] d mL_law (n + 1) 409 L (.inl b :: .inl a :: r) h Q = G sp sc [23] d mL_law n 410 L (.inl (a + b) :: r) h Q) ∧
  (∀ (n d : Nat) (L : List (Option iV)) (r : List iV) (j : Int) (h : iH) (Q : Option iV → iH → Prop), G sp sc [23] d mL_law (n + 1) 410 L (.inl j :: .inr (.inr 1) :: r) h Q = (inA j sc.length = true ∧ G sp sc [23] d mL_law n 411 L (.inl (sc.getD j.toNat 0) :: r) h Q)) ∧
  (∀ (n d : Nat) (L : List (Option iV)) (r : List iV) (j : Int) (m : Nat) (h : iH) (Q : Option iV → iH → Prop), G sp sc [23] d mL_law (n + 1) 410 L (.inl j :: .inr (.inr (m + 2)) :: r) h Q = (match h.1[m]? with | some (.inr (.inl (0, xs))) => inA j xs.length = true ∧ G sp sc [23] d mL_law n 411 L (.inl (xs.getD j.toNat 0) :: r) h Q | _ => False)) ∧
  (∀ (n d : Nat) (L : List (Option iV)) (st : List iV) (h : iH) (Q : Option iV → iH → Prop), G sp sc [23] d mL_law (n + 1) 411 L st h Q = (match ld L 0 with | some (.inr (.inr (r + 1))) => G sp sc [23] d mL_law n 412 L (.inr (.inr (r + 1)) :: st) h Q | _ => False)) ∧
  (∀ (n d : Nat) (L : List (Option iV)) (st : List iV) (h : iH) (Q : Option iV → iH → Prop), G sp sc [23] d mL_law (n + 1) 412 L st h Q = (match ld L 4 with | some (.inl x) => G sp sc [23] d mL_law n 414 L (.inl x :: st) h Q | _ => False)) ∧
  (∀ (n d : Nat) (L : List (Option iV)) (st : List iV) (h : iH) (Q : Option iV → iH → Prop), G sp sc [23] d mL_law (n + 1) 414 L st h Q = G sp sc [23] d mL_law n 415 L (.inl 2 :: st) h Q) ∧
  (∀ (n d : Nat) (L : List (Option iV)) (a : Int) (b : Int) (r : List iV) (h : iH) (Q : Option iV → iH → Prop), G sp sc [23] d mL_law (n + 1) 415 L (.inl b :: .inl a :: r) h Q = G sp sc [23] d mL_law n 416 L (.inl (a + b) :: r) h Q) ∧
  (∀ (n d : Nat) (L : List (Option iV)) (r : List iV) (j : Int) (h : iH) (Q : Option iV → iH → Prop), G sp sc [23] d mL_law (n + 1) 416 L (.inl j :: .inr (.inr 1) :: r) h Q = (inA j sc.length = true ∧ G sp sc [23] d mL_law n 417 L (.inl (sc.getD j.toNat 0) :: r) h Q)) ∧
  (∀ (n d : Nat) (L : List (Option iV)) (r : List iV) (j : Int) (m : Nat) (h : iH) (Q : Option iV → iH → Prop), G sp sc [23] d mL_law (n + 1) 416 L (.inl j :: .inr (.inr (m + 2)) :: r) h Q = (match h.1[m]? with | some (.inr (.inl (0, xs))) => inA j xs.length = true ∧ G sp sc [23] d mL_law n 417 L (.inl (xs.getD j.toNat 0) :: r) h Q | _ => False)) ∧
  (∀ (n d : Nat) (L : List (Option iV)) (r : List iV) (m : Nat) (z0 : iV) (z1 : iV) (h : iH) (Q : Option iV → iH → Prop), G sp sc [23] (d + 1) mL_law (n + 1) 417 L (z1 :: z0 :: .inr (.inr (m + 2)) :: r) h Q = (match h.1[m]? with | some (.inl (ci, _)) => (match lkC 13 39 ci with | some (y1, n1, kd) => (n1 = 2 ∧ (kd = 2 ∨ kd = 3 ∨ kd = 8) ∧ cs r ≤ 8) ∧ Call sp sc d y1 [.inr (.inr (m + 2)), z0, z1] h (fun q h1 => GC sp sc [23] (d + 1) mL_law n 420 L q r h h1 Q) | none => False) | _ => False)) ∧
  (∀ (n d : Nat) (L : List (Option iV)) (st : List iV) (h : iH) (Q : Option iV → iH → Prop), G sp sc [23] d mL_law (n + 1) 420 L st h Q = (match ld L 2 with | some (.inr (.inr (r + 1))) => G sp sc [23] d mL_law n 421 L (.inr (.inr (r + 1)) :: st) h Q | _ => False)) ∧
  (∀ (n d : Nat) (L : List (Option iV)) (st : List iV) (h : iH) (Q : Option iV → iH → Prop), G sp sc [23] d mL_law (n + 1) 421 L st h Q = (match ld L 0 with | some (.inr (.inr (r + 1))) => G sp sc [23] d mL_law n 422 L (.inr (.inr (r + 1)) :: st) h Q | _ => False)) ∧
  (∀ (n d : Nat) (L : List (Option iV)) (st : List iV) (h : iH) (Q : Option iV → iH → Prop), G sp sc [23] d mL_law (n + 1) 422 L st h Q = (match ld L 4 with | some (.inl x) => G sp sc [23] d mL_law n 424 L (.inl x :: st) h Q | _ => False)) ∧
  (∀ (n d : Nat) (L : List (Option iV)) (st : List iV) (h : iH) (Q : Option iV → iH → Prop), G sp sc [23] d mL_law (n + 1) 424 L st h Q = G sp sc [23] d mL_law n 425 L (.inl 1 :: st) h Q) ∧
  (∀ (n d : Nat) (L : List (Option iV)) (a : Int) (b : Int) (r : List iV) (h : iH) (Q : Option iV → iH → Prop), G sp sc [23] d mL_law (n + 1) 425 L (.inl b :: .inl a :: r) h Q = G sp sc [23] d mL_law n 426 L (.inl (a + b) :: r) h Q) ∧
  (∀ (n d : Nat) (L : List (Option iV)) (r : List iV) (j : Int) (h : iH) (Q : Option iV → iH → Prop), G sp sc [23] d mL_law (n + 1) 426 L (.inl j :: .inr (.inr 1) :: r) h Q = (inA j sc.length = true ∧ G sp sc [23] d mL_law n 427 L (.inl (sc.getD j.toNat 0) :: r) h Q)) ∧
  (∀ (n d : Nat) (L : List (Option iV)) (r : List iV) (j : Int) (m : Nat) (h : iH) (Q : Option iV → iH → Prop), G sp sc [23] d mL_law (n + 1) 426 L (.inl j :: .inr (.inr (m + 2)) :: r) h Q = (match h.1[m]? with | some (.inr (.inl (0, xs))) => inA j xs.length = true ∧ G sp sc [23] d mL_law n 427 L (.inl (xs.getD j.toNat 0) :: r) h Q | _ => False)) ∧
  (∀ (n d : Nat) (L : List (Option iV)) (st : List iV) (h : iH) (Q : Option iV → iH → Prop), G sp sc [23] d mL_law (n + 1) 427 L st h Q = (match ld L 0 with | some (.inr (.inr (r + 1))) => G sp sc [23] d mL_law n 428 L (.inr (.inr (r + 1)) :: st) h Q | _ => False)) ∧
  (∀ (n d : Nat) (L : List (Option iV)) (st : List iV) (h : iH) (Q : Option iV → iH → Prop), G sp sc [23] d mL_law (n + 1) 428 L st h Q = (match ld L 4 with | some (.inl x) => G sp sc [23] d mL_law n 430 L (.inl x :: st) h Q | _ => False)) ∧
  (∀ (n d : Nat) (L : List (Option iV)) (st : List iV) (h : iH) (Q : Option iV → iH → Prop), G sp sc [23] d mL_law (n + 1) 430 L st h Q = G sp sc [23] d mL_law n 431 L (.inl 2 :: st) h Q) ∧
  (∀ (n d : Nat) (L : List (Option iV)) (a : Int) (b : Int) (r : List iV) (h : iH) (Q : Option iV → iH → Prop), G sp sc [23] d mL_law (n + 1) 431 L (.inl b :: .inl a :: r) h Q = G sp sc [23] d mL_law n 432 L (.inl (a + b) :: r) h Q) ∧
  (∀ (n d : Nat) (L : List (Option iV)) (r : List iV) (j : Int) (h : iH) (Q : Option iV → iH → Prop), G sp sc [23] d mL_law (n + 1) 432 L (.inl j :: .inr (.inr 1) :: r) h Q = (inA j sc.length = true ∧ G sp sc [23] d mL_law n 433 L (.inl (sc.getD j.toNat 0) :: r) h Q)) ∧
  (∀ (n d : Nat) (L : List (Option iV)) (r : List iV) (j : Int) (m : Nat) (h : iH) (Q : Option iV → iH → Prop), G sp sc [23] d mL_law (n + 1) 432 L (.inl j :: .inr (.inr (m + 2)) :: r) h Q = (match h.1[m]? with | some (.inr (.inl (0, xs))) => inA j xs.length = true ∧ G sp sc [23] d mL_law n 433 L (.inl (xs.getD j.toNat 0) :: r) h Q | _ => False)) ∧
  (∀ (n d : Nat) (L : List (Option iV)) (r : List iV) (m : Nat) (z0 : iV) (z1 : iV) (h : iH) (Q : Option iV → iH → Prop), G sp sc [23] (d + 1) mL_law (n + 1) 433 L (z1 :: z0 :: .inr (.inr (m + 2)) :: r) h Q = (match h.1[m]? with | some (.inl (ci, _)) => (match lkC 13 43 ci with | some (y1, n1, kd) => (n1 = 2 ∧ (kd = 2 ∨ kd = 3 ∨ kd = 8) ∧ cs r ≤ 8) ∧ Call sp sc d y1 [.inr (.inr (m + 2)), z0, z1] h (fun q h1 => GC sp sc [23] (d + 1) mL_law n 436 L q r h h1 Q) | none => False) | _ => False)) ∧
  (∀ (n d : Nat) (L : List (Option iV)) (a : Int) (b : Int) (r : List iV) (h : iH) (Q : Option iV → iH → Prop), G sp sc [23] d mL_law (n + 1) 436 L (.inl b :: .inl a :: r) h Q = ((inI a = true ∧ inI b = true) ∧ (a = b → G sp sc [23] d mL_law n 1950 L r h Q) ∧ (¬ (a = b) → G sp sc [23] d mL_law n 439 L r h Q))) ∧
  (∀ (n d : Nat) (L : List (Option iV)) (st : List iV) (h : iH) (Q : Option iV → iH → Prop), G sp sc [23] d mL_law (n + 1) 439 L st h Q = G sp sc [23] d mL_law n 440 L (.inl 0 :: st) h Q) ∧
  (∀ (n d : Nat) (L : List (Option iV)) (a : Int) (h : iH) (Q : Option iV → iH → Prop), G sp sc [23] d mL_law (n + 1) 440 L [.inl a] h Q = ((a = 0 ∨ a = 1) ∧ Q (some (.inl a)) h)) := ⟨by intros; exact G_at (by decide +kernel : fetch mL_law 404 = some (.aload_n 1)),
  by intros; exact G_at (by decide +kernel : fetch mL_law 405 = some (.aload_n 0)),
  by intros; exact G_at (by decide +kernel : fetch mL_law 406 = some (.iload 4)),
  by intros; exact G_at (by decide +kernel : fetch mL_law 408 = some (.iconst 1)),
  by intros; exact G_at (by decide +kernel : fetch mL_law 409 = some (.iadd)),
  by intros; exact G_at (by decide +kernel : fetch mL_law 410 = some (.iaload)),
  by intros; exact G_at (by decide +kernel : fetch mL_law 410 = some (.iaload)),
  by intros; exact G_at (by decide +kernel : fetch mL_law 411 = some (.aload_n 0)),
  by intros; exact G_at (by decide +kernel : fetch mL_law 412 = some (.iload 4)),
  by intros; exact G_at (by decide +kernel : fetch mL_law 414 = some (.iconst 2)),
  by intros; exact G_at (by decide +kernel : fetch mL_law 415 = some (.iadd)),
  by intros; exact G_at (by decide +kernel : fetch mL_law 416 = some (.iaload)),
  by intros; exact G_at (by decide +kernel : fetch mL_law 416 = some (.iaload)),
  by intros; exact G_callV (by decide +kernel : fetch mL_law 417 = some (.invokevirtual 39)) (by decide +kernel) (by decide +kernel) rfl,
  by intros; exact G_at (by decide +kernel : fetch mL_law 420 = some (.aload_n 2)),
  by intros; exact G_at (by decide +kernel : fetch mL_law 421 = some (.aload_n 0)),
  by intros; exact G_at (by decide +kernel : fetch mL_law 422 = some (.iload 4)),
  by intros; exact G_at (by decide +kernel : fetch mL_law 424 = some (.iconst 1)),
  by intros; exact G_at (by decide +kernel : fetch mL_law 425 = some (.iadd)),
  by intros; exact G_at (by decide +kernel : fetch mL_law 426 = some (.iaload)),
  by intros; exact G_at (by decide +kernel : fetch mL_law 426 = some (.iaload)),
  by intros; exact G_at (by decide +kernel : fetch mL_law 427 = some (.aload_n 0)),
  by intros; exact G_at (by decide +kernel : fetch mL_law 428 = some (.iload 4)),
  by intros; exact G_at (by decide +kernel : fetch mL_law 430 = some (.iconst 2)),
  by intros; exact G_at (by decide +kernel : fetch mL_law 431 = some (.iadd)),
  by intros; exact G_at (by decide +kernel : fetch mL_law 432 = some (.iaload)),
  by intros; exact G_at (by decide +kernel : fetch mL_law 432 = some (.iaload)),
  by intros; exact G_callV (by decide +kernel : fetch mL_law 433 = some (.invokevirtual 43)) (by decide +kernel) (by decide +kernel) rfl,
  by intros; exact G_at (by decide +kernel : fetch mL_law 436 = some (.if_icmp .eq 1514)),
  by intros; exact G_at (by decide +kernel : fetch mL_law 439 = some (.iconst 0)),
  by intros; exact G_retz (by decide +kernel : fetch mL_law 440 = some (.ireturn)) (by decide +kernel)⟩
theorem gL_c5 : (∀ (n d : Nat) (L : List (Option iV)) (st : List iV) (h : iH) (Q : Option iV → iH → Prop), G sp sc [23] d mL_law (n + 1) 441 L st h Q = (match ld L 1 with | some (.inr (.inr (r + 1))) => G sp sc [23] d mL_law n 442 L (.inr (.inr (r + 1)) :: st) h Q | _ => False)) ∧
  (∀ (n d : Nat) (L : List (Option iV)) (st : List iV) (h : iH) (Q : Option iV → iH → Prop), G sp sc [23] d mL_law (n + 1) 442 L st h Q = (match ld L 0 with | some (.inr (.inr (r + 1))) => G sp sc [23] d mL_law n 443 L (.inr (.inr (r + 1)) :: st) h Q | _ => False)) ∧
  (∀ (n d : Nat) (L : List (Option iV)) (st : List iV) (h : iH) (Q : Option iV → iH → Prop), G sp sc [23] d mL_law (n + 1) 443 L st h Q = (match ld L 4 with | some (.inl x) => G sp sc [23] d mL_law n 445 L (.inl x :: st) h Q | _ => False)) ∧
  (∀ (n d : Nat) (L : List (Option iV)) (st : List iV) (h : iH) (Q : Option iV → iH → Prop), G sp sc [23] d mL_law (n + 1) 445 L st h Q = G sp sc [23] d mL_law n 446 L (.inl 1 :: st) h Q) ∧
  (∀ (n d : Nat) (L : List (Option iV)) (a : Int) (b : Int) (r : List iV) (h : iH) (Q : Option iV → iH → Prop), G sp sc [23] d mL_law (n + 1) 446 L (.inl b :: .inl a :: r) h Q = G sp sc [23] d mL_law n 447 L (.inl (a + b) :: r) h Q) ∧
  (∀ (n d : Nat) (L : List (Option iV)) (r : List iV) (j : Int) (h : iH) (Q : Option iV → iH → Prop), G sp sc [23] d mL_law (n + 1) 447 L (.inl j :: .inr (.inr 1) :: r) h Q = (inA j sc.length = true ∧ G sp sc [23] d mL_law n 448 L (.inl (sc.getD j.toNat 0) :: r) h Q)) ∧
  (∀ (n d : Nat) (L : List (Option iV)) (r : List iV) (j : Int) (m : Nat) (h : iH) (Q : Option iV → iH → Prop), G sp sc [23] d mL_law (n + 1) 447 L (.inl j :: .inr (.inr (m + 2)) :: r) h Q = (match h.1[m]? with | some (.inr (.inl (0, xs))) => inA j xs.length = true ∧ G sp sc [23] d mL_law n 448 L (.inl (xs.getD j.toNat 0) :: r) h Q | _ => False)) ∧
  (∀ (n d : Nat) (L : List (Option iV)) (st : List iV) (h : iH) (Q : Option iV → iH → Prop), G sp sc [23] d mL_law (n + 1) 448 L st h Q = (match ld L 0 with | some (.inr (.inr (r + 1))) => G sp sc [23] d mL_law n 449 L (.inr (.inr (r + 1)) :: st) h Q | _ => False)) ∧
  (∀ (n d : Nat) (L : List (Option iV)) (st : List iV) (h : iH) (Q : Option iV → iH → Prop), G sp sc [23] d mL_law (n + 1) 449 L st h Q = (match ld L 4 with | some (.inl x) => G sp sc [23] d mL_law n 451 L (.inl x :: st) h Q | _ => False)) ∧
  (∀ (n d : Nat) (L : List (Option iV)) (st : List iV) (h : iH) (Q : Option iV → iH → Prop), G sp sc [23] d mL_law (n + 1) 451 L st h Q = G sp sc [23] d mL_law n 452 L (.inl 2 :: st) h Q) ∧
  (∀ (n d : Nat) (L : List (Option iV)) (a : Int) (b : Int) (r : List iV) (h : iH) (Q : Option iV → iH → Prop), G sp sc [23] d mL_law (n + 1) 452 L (.inl b :: .inl a :: r) h Q = G sp sc [23] d mL_law n 453 L (.inl (a + b) :: r) h Q) ∧
  (∀ (n d : Nat) (L : List (Option iV)) (r : List iV) (j : Int) (h : iH) (Q : Option iV → iH → Prop), G sp sc [23] d mL_law (n + 1) 453 L (.inl j :: .inr (.inr 1) :: r) h Q = (inA j sc.length = true ∧ G sp sc [23] d mL_law n 454 L (.inl (sc.getD j.toNat 0) :: r) h Q)) ∧
  (∀ (n d : Nat) (L : List (Option iV)) (r : List iV) (j : Int) (m : Nat) (h : iH) (Q : Option iV → iH → Prop), G sp sc [23] d mL_law (n + 1) 453 L (.inl j :: .inr (.inr (m + 2)) :: r) h Q = (match h.1[m]? with | some (.inr (.inl (0, xs))) => inA j xs.length = true ∧ G sp sc [23] d mL_law n 454 L (.inl (xs.getD j.toNat 0) :: r) h Q | _ => False)) ∧
  (∀ (n d : Nat) (L : List (Option iV)) (st : List iV) (h : iH) (Q : Option iV → iH → Prop), G sp sc [23] d mL_law (n + 1) 454 L st h Q = (match ld L 0 with | some (.inr (.inr (r + 1))) => G sp sc [23] d mL_law n 455 L (.inr (.inr (r + 1)) :: st) h Q | _ => False)) ∧
  (∀ (n d : Nat) (L : List (Option iV)) (st : List iV) (h : iH) (Q : Option iV → iH → Prop), G sp sc [23] d mL_law (n + 1) 455 L st h Q = (match ld L 4 with | some (.inl x) => G sp sc [23] d mL_law n 457 L (.inl x :: st) h Q | _ => False)) ∧
  (∀ (n d : Nat) (L : List (Option iV)) (st : List iV) (h : iH) (Q : Option iV → iH → Prop), G sp sc [23] d mL_law (n + 1) 457 L st h Q = G sp sc [23] d mL_law n 458 L (.inl 3 :: st) h Q) ∧
  (∀ (n d : Nat) (L : List (Option iV)) (a : Int) (b : Int) (r : List iV) (h : iH) (Q : Option iV → iH → Prop), G sp sc [23] d mL_law (n + 1) 458 L (.inl b :: .inl a :: r) h Q = G sp sc [23] d mL_law n 459 L (.inl (a + b) :: r) h Q) ∧
  (∀ (n d : Nat) (L : List (Option iV)) (r : List iV) (j : Int) (h : iH) (Q : Option iV → iH → Prop), G sp sc [23] d mL_law (n + 1) 459 L (.inl j :: .inr (.inr 1) :: r) h Q = (inA j sc.length = true ∧ G sp sc [23] d mL_law n 460 L (.inl (sc.getD j.toNat 0) :: r) h Q)) ∧
  (∀ (n d : Nat) (L : List (Option iV)) (r : List iV) (j : Int) (m : Nat) (h : iH) (Q : Option iV → iH → Prop), G sp sc [23] d mL_law (n + 1) 459 L (.inl j :: .inr (.inr (m + 2)) :: r) h Q = (match h.1[m]? with | some (.inr (.inl (0, xs))) => inA j xs.length = true ∧ G sp sc [23] d mL_law n 460 L (.inl (xs.getD j.toNat 0) :: r) h Q | _ => False)) ∧
  (∀ (n d : Nat) (L : List (Option iV)) (r : List iV) (m : Nat) (z0 : iV) (z1 : iV) (z2 : iV) (h : iH) (Q : Option iV → iH → Prop), G sp sc [23] (d + 1) mL_law (n + 1) 460 L (z2 :: z1 :: z0 :: .inr (.inr (m + 2)) :: r) h Q = (match h.1[m]? with | some (.inl (ci, _)) => (match lkC 13 44 ci with | some (y1, n1, kd) => (n1 = 3 ∧ (kd = 2 ∨ kd = 3 ∨ kd = 8) ∧ cs r ≤ 8) ∧ Call sp sc d y1 [.inr (.inr (m + 2)), z0, z1, z2] h (fun q h1 => GC sp sc [23] (d + 1) mL_law n 463 L q r h h1 Q) | none => False) | _ => False)) ∧
  (∀ (n d : Nat) (L : List (Option iV)) (st : List iV) (h : iH) (Q : Option iV → iH → Prop), G sp sc [23] d mL_law (n + 1) 463 L st h Q = (match ld L 2 with | some (.inr (.inr (r + 1))) => G sp sc [23] d mL_law n 464 L (.inr (.inr (r + 1)) :: st) h Q | _ => False)) ∧
  (∀ (n d : Nat) (L : List (Option iV)) (st : List iV) (h : iH) (Q : Option iV → iH → Prop), G sp sc [23] d mL_law (n + 1) 464 L st h Q = (match ld L 0 with | some (.inr (.inr (r + 1))) => G sp sc [23] d mL_law n 465 L (.inr (.inr (r + 1)) :: st) h Q | _ => False)) ∧
  (∀ (n d : Nat) (L : List (Option iV)) (st : List iV) (h : iH) (Q : Option iV → iH → Prop), G sp sc [23] d mL_law (n + 1) 465 L st h Q = (match ld L 4 with | some (.inl x) => G sp sc [23] d mL_law n 467 L (.inl x :: st) h Q | _ => False)) ∧
  (∀ (n d : Nat) (L : List (Option iV)) (st : List iV) (h : iH) (Q : Option iV → iH → Prop), G sp sc [23] d mL_law (n + 1) 467 L st h Q = G sp sc [23] d mL_law n 468 L (.inl 1 :: st) h Q) ∧
  (∀ (n d : Nat) (L : List (Option iV)) (a : Int) (b : Int) (r : List iV) (h : iH) (Q : Option iV → iH → Prop), G sp sc [23] d mL_law (n + 1) 468 L (.inl b :: .inl a :: r) h Q = G sp sc [23] d mL_law n 469 L (.inl (a + b) :: r) h Q) ∧
  (∀ (n d : Nat) (L : List (Option iV)) (r : List iV) (j : Int) (h : iH) (Q : Option iV → iH → Prop), G sp sc [23] d mL_law (n + 1) 469 L (.inl j :: .inr (.inr 1) :: r) h Q = (inA j sc.length = true ∧ G sp sc [23] d mL_law n 470 L (.inl (sc.getD j.toNat 0) :: r) h Q)) ∧
  (∀ (n d : Nat) (L : List (Option iV)) (r : List iV) (j : Int) (m : Nat) (h : iH) (Q : Option iV → iH → Prop), G sp sc [23] d mL_law (n + 1) 469 L (.inl j :: .inr (.inr (m + 2)) :: r) h Q = (match h.1[m]? with | some (.inr (.inl (0, xs))) => inA j xs.length = true ∧ G sp sc [23] d mL_law n 470 L (.inl (xs.getD j.toNat 0) :: r) h Q | _ => False)) ∧
  (∀ (n d : Nat) (L : List (Option iV)) (st : List iV) (h : iH) (Q : Option iV → iH → Prop), G sp sc [23] d mL_law (n + 1) 470 L st h Q = (match ld L 0 with | some (.inr (.inr (r + 1))) => G sp sc [23] d mL_law n 471 L (.inr (.inr (r + 1)) :: st) h Q | _ => False)) ∧
  (∀ (n d : Nat) (L : List (Option iV)) (st : List iV) (h : iH) (Q : Option iV → iH → Prop), G sp sc [23] d mL_law (n + 1) 471 L st h Q = (match ld L 4 with | some (.inl x) => G sp sc [23] d mL_law n 473 L (.inl x :: st) h Q | _ => False)) ∧
  (∀ (n d : Nat) (L : List (Option iV)) (st : List iV) (h : iH) (Q : Option iV → iH → Prop), G sp sc [23] d mL_law (n + 1) 473 L st h Q = G sp sc [23] d mL_law n 474 L (.inl 2 :: st) h Q) ∧
  (∀ (n d : Nat) (L : List (Option iV)) (a : Int) (b : Int) (r : List iV) (h : iH) (Q : Option iV → iH → Prop), G sp sc [23] d mL_law (n + 1) 474 L (.inl b :: .inl a :: r) h Q = G sp sc [23] d mL_law n 475 L (.inl (a + b) :: r) h Q) ∧
  (∀ (n d : Nat) (L : List (Option iV)) (r : List iV) (j : Int) (h : iH) (Q : Option iV → iH → Prop), G sp sc [23] d mL_law (n + 1) 475 L (.inl j :: .inr (.inr 1) :: r) h Q = (inA j sc.length = true ∧ G sp sc [23] d mL_law n 476 L (.inl (sc.getD j.toNat 0) :: r) h Q)) ∧
  (∀ (n d : Nat) (L : List (Option iV)) (r : List iV) (j : Int) (m : Nat) (h : iH) (Q : Option iV → iH → Prop), G sp sc [23] d mL_law (n + 1) 475 L (.inl j :: .inr (.inr (m + 2)) :: r) h Q = (match h.1[m]? with | some (.inr (.inl (0, xs))) => inA j xs.length = true ∧ G sp sc [23] d mL_law n 476 L (.inl (xs.getD j.toNat 0) :: r) h Q | _ => False)) ∧
  (∀ (n d : Nat) (L : List (Option iV)) (st : List iV) (h : iH) (Q : Option iV → iH → Prop), G sp sc [23] d mL_law (n + 1) 476 L st h Q = (match ld L 0 with | some (.inr (.inr (r + 1))) => G sp sc [23] d mL_law n 477 L (.inr (.inr (r + 1)) :: st) h Q | _ => False)) ∧
  (∀ (n d : Nat) (L : List (Option iV)) (st : List iV) (h : iH) (Q : Option iV → iH → Prop), G sp sc [23] d mL_law (n + 1) 477 L st h Q = (match ld L 4 with | some (.inl x) => G sp sc [23] d mL_law n 479 L (.inl x :: st) h Q | _ => False)) ∧
  (∀ (n d : Nat) (L : List (Option iV)) (st : List iV) (h : iH) (Q : Option iV → iH → Prop), G sp sc [23] d mL_law (n + 1) 479 L st h Q = G sp sc [23] d mL_law n 480 L (.inl 3 :: st) h Q) ∧
  (∀ (n d : Nat) (L : List (Option iV)) (a : Int) (b : Int) (r : List iV) (h : iH) (Q : Option iV → iH → Prop), G sp sc [23] d mL_law (n + 1) 480 L (.inl b :: .inl a :: r) h Q = G sp sc [23] d mL_law n 481 L (.inl (a + b) :: r) h Q) ∧
  (∀ (n d : Nat) (L : List (Option iV)) (r : List iV) (j : Int) (h : iH) (Q : Option iV → iH → Prop), G sp sc [23] d mL_law (n + 1) 481 L (.inl j :: .inr (.inr 1) :: r) h Q = (inA j sc.length = true ∧ G sp sc [23] d mL_law n 482 L (.inl (sc.getD j.toNat 0) :: r) h Q)) ∧
  (∀ (n d : Nat) (L : List (Option iV)) (r : List iV) (j : Int) (m : Nat) (h : iH) (Q : Option iV → iH → Prop), G sp sc [23] d mL_law (n + 1) 481 L (.inl j :: .inr (.inr (m + 2)) :: r) h Q = (match h.1[m]? with | some (.inr (.inl (0, xs))) => inA j xs.length = true ∧ G sp sc [23] d mL_law n 482 L (.inl (xs.getD j.toNat 0) :: r) h Q | _ => False)) ∧
  (∀ (n d : Nat) (L : List (Option iV)) (r : List iV) (m : Nat) (z0 : iV) (z1 : iV) (z2 : iV) (h : iH) (Q : Option iV → iH → Prop), G sp sc [23] (d + 1) mL_law (n + 1) 482 L (z2 :: z1 :: z0 :: .inr (.inr (m + 2)) :: r) h Q = (match h.1[m]? with | some (.inl (ci, _)) => (match lkC 13 47 ci with | some (y1, n1, kd) => (n1 = 3 ∧ (kd = 2 ∨ kd = 3 ∨ kd = 8) ∧ cs r ≤ 8) ∧ Call sp sc d y1 [.inr (.inr (m + 2)), z0, z1, z2] h (fun q h1 => GC sp sc [23] (d + 1) mL_law n 485 L q r h h1 Q) | none => False) | _ => False)) ∧
  (∀ (n d : Nat) (L : List (Option iV)) (a : Int) (b : Int) (r : List iV) (h : iH) (Q : Option iV → iH → Prop), G sp sc [23] d mL_law (n + 1) 485 L (.inl b :: .inl a :: r) h Q = ((inI a = true ∧ inI b = true) ∧ (a = b → G sp sc [23] d mL_law n 1950 L r h Q) ∧ (¬ (a = b) → G sp sc [23] d mL_law n 488 L r h Q))) ∧
  (∀ (n d : Nat) (L : List (Option iV)) (st : List iV) (h : iH) (Q : Option iV → iH → Prop), G sp sc [23] d mL_law (n + 1) 488 L st h Q = G sp sc [23] d mL_law n 489 L (.inl 0 :: st) h Q) ∧
  (∀ (n d : Nat) (L : List (Option iV)) (a : Int) (h : iH) (Q : Option iV → iH → Prop), G sp sc [23] d mL_law (n + 1) 489 L [.inl a] h Q = ((a = 0 ∨ a = 1) ∧ Q (some (.inl a)) h)) := ⟨by intros; exact G_at (by decide +kernel : fetch mL_law 441 = some (.aload_n 1)),
  by intros; exact G_at (by decide +kernel : fetch mL_law 442 = some (.aload_n 0)),
  by intros; exact G_at (by decide +kernel : fetch mL_law 443 = some (.iload 4)),
  by intros; exact G_at (by decide +kernel : fetch mL_law 445 = some (.iconst 1)),
  by intros; exact G_at (by decide +kernel : fetch mL_law 446 = some (.iadd)),
  by intros; exact G_at (by decide +kernel : fetch mL_law 447 = some (.iaload)),
  by intros; exact G_at (by decide +kernel : fetch mL_law 447 = some (.iaload)),
  by intros; exact G_at (by decide +kernel : fetch mL_law 448 = some (.aload_n 0)),
  by intros; exact G_at (by decide +kernel : fetch mL_law 449 = some (.iload 4)),
  by intros; exact G_at (by decide +kernel : fetch mL_law 451 = some (.iconst 2)),
  by intros; exact G_at (by decide +kernel : fetch mL_law 452 = some (.iadd)),
  by intros; exact G_at (by decide +kernel : fetch mL_law 453 = some (.iaload)),
  by intros; exact G_at (by decide +kernel : fetch mL_law 453 = some (.iaload)),
  by intros; exact G_at (by decide +kernel : fetch mL_law 454 = some (.aload_n 0)),
  by intros; exact G_at (by decide +kernel : fetch mL_law 455 = some (.iload 4)),
  by intros; exact G_at (by decide +kernel : fetch mL_law 457 = some (.iconst 3)),
  by intros; exact G_at (by decide +kernel : fetch mL_law 458 = some (.iadd)),
  by intros; exact G_at (by decide +kernel : fetch mL_law 459 = some (.iaload)),
  by intros; exact G_at (by decide +kernel : fetch mL_law 459 = some (.iaload)),
  by intros; exact G_callV (by decide +kernel : fetch mL_law 460 = some (.invokevirtual 44)) (by decide +kernel) (by decide +kernel) rfl,
  by intros; exact G_at (by decide +kernel : fetch mL_law 463 = some (.aload_n 2)),
  by intros; exact G_at (by decide +kernel : fetch mL_law 464 = some (.aload_n 0)),
  by intros; exact G_at (by decide +kernel : fetch mL_law 465 = some (.iload 4)),
  by intros; exact G_at (by decide +kernel : fetch mL_law 467 = some (.iconst 1)),
  by intros; exact G_at (by decide +kernel : fetch mL_law 468 = some (.iadd)),
  by intros; exact G_at (by decide +kernel : fetch mL_law 469 = some (.iaload)),
  by intros; exact G_at (by decide +kernel : fetch mL_law 469 = some (.iaload)),
  by intros; exact G_at (by decide +kernel : fetch mL_law 470 = some (.aload_n 0)),
  by intros; exact G_at (by decide +kernel : fetch mL_law 471 = some (.iload 4)),
  by intros; exact G_at (by decide +kernel : fetch mL_law 473 = some (.iconst 2)),
  by intros; exact G_at (by decide +kernel : fetch mL_law 474 = some (.iadd)),
  by intros; exact G_at (by decide +kernel : fetch mL_law 475 = some (.iaload)),
  by intros; exact G_at (by decide +kernel : fetch mL_law 475 = some (.iaload)),
  by intros; exact G_at (by decide +kernel : fetch mL_law 476 = some (.aload_n 0)),
  by intros; exact G_at (by decide +kernel : fetch mL_law 477 = some (.iload 4)),
  by intros; exact G_at (by decide +kernel : fetch mL_law 479 = some (.iconst 3)),
  by intros; exact G_at (by decide +kernel : fetch mL_law 480 = some (.iadd)),
  by intros; exact G_at (by decide +kernel : fetch mL_law 481 = some (.iaload)),
  by intros; exact G_at (by decide +kernel : fetch mL_law 481 = some (.iaload)),
  by intros; exact G_callV (by decide +kernel : fetch mL_law 482 = some (.invokevirtual 47)) (by decide +kernel) (by decide +kernel) rfl,
  by intros; exact G_at (by decide +kernel : fetch mL_law 485 = some (.if_icmp .eq 1465)),
  by intros; exact G_at (by decide +kernel : fetch mL_law 488 = some (.iconst 0)),
  by intros; exact G_retz (by decide +kernel : fetch mL_law 489 = some (.ireturn)) (by decide +kernel)⟩
theorem gL_c6 : (∀ (n d : Nat) (L : List (Option iV)) (st : List iV) (h : iH) (Q : Option iV → iH → Prop), G sp sc [23] d mL_law (n + 1) 490 L st h Q = (match ld L 1 with | some (.inr (.inr (r + 1))) => G sp sc [23] d mL_law n 491 L (.inr (.inr (r + 1)) :: st) h Q | _ => False)) ∧
  (∀ (n d : Nat) (L : List (Option iV)) (st : List iV) (h : iH) (Q : Option iV → iH → Prop), G sp sc [23] d mL_law (n + 1) 491 L st h Q = (match ld L 0 with | some (.inr (.inr (r + 1))) => G sp sc [23] d mL_law n 492 L (.inr (.inr (r + 1)) :: st) h Q | _ => False)) ∧
  (∀ (n d : Nat) (L : List (Option iV)) (st : List iV) (h : iH) (Q : Option iV → iH → Prop), G sp sc [23] d mL_law (n + 1) 492 L st h Q = (match ld L 4 with | some (.inl x) => G sp sc [23] d mL_law n 494 L (.inl x :: st) h Q | _ => False)) ∧
  (∀ (n d : Nat) (L : List (Option iV)) (st : List iV) (h : iH) (Q : Option iV → iH → Prop), G sp sc [23] d mL_law (n + 1) 494 L st h Q = G sp sc [23] d mL_law n 495 L (.inl 1 :: st) h Q) ∧
  (∀ (n d : Nat) (L : List (Option iV)) (a : Int) (b : Int) (r : List iV) (h : iH) (Q : Option iV → iH → Prop), G sp sc [23] d mL_law (n + 1) 495 L (.inl b :: .inl a :: r) h Q = G sp sc [23] d mL_law n 496 L (.inl (a + b) :: r) h Q) ∧
  (∀ (n d : Nat) (L : List (Option iV)) (r : List iV) (j : Int) (h : iH) (Q : Option iV → iH → Prop), G sp sc [23] d mL_law (n + 1) 496 L (.inl j :: .inr (.inr 1) :: r) h Q = (inA j sc.length = true ∧ G sp sc [23] d mL_law n 497 L (.inl (sc.getD j.toNat 0) :: r) h Q)) ∧
  (∀ (n d : Nat) (L : List (Option iV)) (r : List iV) (j : Int) (m : Nat) (h : iH) (Q : Option iV → iH → Prop), G sp sc [23] d mL_law (n + 1) 496 L (.inl j :: .inr (.inr (m + 2)) :: r) h Q = (match h.1[m]? with | some (.inr (.inl (0, xs))) => inA j xs.length = true ∧ G sp sc [23] d mL_law n 497 L (.inl (xs.getD j.toNat 0) :: r) h Q | _ => False)) ∧
  (∀ (n d : Nat) (L : List (Option iV)) (st : List iV) (h : iH) (Q : Option iV → iH → Prop), G sp sc [23] d mL_law (n + 1) 497 L st h Q = (match ld L 0 with | some (.inr (.inr (r + 1))) => G sp sc [23] d mL_law n 498 L (.inr (.inr (r + 1)) :: st) h Q | _ => False)) ∧
  (∀ (n d : Nat) (L : List (Option iV)) (st : List iV) (h : iH) (Q : Option iV → iH → Prop), G sp sc [23] d mL_law (n + 1) 498 L st h Q = (match ld L 4 with | some (.inl x) => G sp sc [23] d mL_law n 500 L (.inl x :: st) h Q | _ => False)) ∧
  (∀ (n d : Nat) (L : List (Option iV)) (st : List iV) (h : iH) (Q : Option iV → iH → Prop), G sp sc [23] d mL_law (n + 1) 500 L st h Q = G sp sc [23] d mL_law n 501 L (.inl 2 :: st) h Q) ∧
  (∀ (n d : Nat) (L : List (Option iV)) (a : Int) (b : Int) (r : List iV) (h : iH) (Q : Option iV → iH → Prop), G sp sc [23] d mL_law (n + 1) 501 L (.inl b :: .inl a :: r) h Q = G sp sc [23] d mL_law n 502 L (.inl (a + b) :: r) h Q) ∧
  (∀ (n d : Nat) (L : List (Option iV)) (r : List iV) (j : Int) (h : iH) (Q : Option iV → iH → Prop), G sp sc [23] d mL_law (n + 1) 502 L (.inl j :: .inr (.inr 1) :: r) h Q = (inA j sc.length = true ∧ G sp sc [23] d mL_law n 503 L (.inl (sc.getD j.toNat 0) :: r) h Q)) ∧
  (∀ (n d : Nat) (L : List (Option iV)) (r : List iV) (j : Int) (m : Nat) (h : iH) (Q : Option iV → iH → Prop), G sp sc [23] d mL_law (n + 1) 502 L (.inl j :: .inr (.inr (m + 2)) :: r) h Q = (match h.1[m]? with | some (.inr (.inl (0, xs))) => inA j xs.length = true ∧ G sp sc [23] d mL_law n 503 L (.inl (xs.getD j.toNat 0) :: r) h Q | _ => False)) ∧
  (∀ (n d : Nat) (L : List (Option iV)) (st : List iV) (h : iH) (Q : Option iV → iH → Prop), G sp sc [23] d mL_law (n + 1) 503 L st h Q = (match ld L 0 with | some (.inr (.inr (r + 1))) => G sp sc [23] d mL_law n 504 L (.inr (.inr (r + 1)) :: st) h Q | _ => False)) ∧
  (∀ (n d : Nat) (L : List (Option iV)) (st : List iV) (h : iH) (Q : Option iV → iH → Prop), G sp sc [23] d mL_law (n + 1) 504 L st h Q = (match ld L 4 with | some (.inl x) => G sp sc [23] d mL_law n 506 L (.inl x :: st) h Q | _ => False)) ∧
  (∀ (n d : Nat) (L : List (Option iV)) (st : List iV) (h : iH) (Q : Option iV → iH → Prop), G sp sc [23] d mL_law (n + 1) 506 L st h Q = G sp sc [23] d mL_law n 507 L (.inl 3 :: st) h Q) ∧
  (∀ (n d : Nat) (L : List (Option iV)) (a : Int) (b : Int) (r : List iV) (h : iH) (Q : Option iV → iH → Prop), G sp sc [23] d mL_law (n + 1) 507 L (.inl b :: .inl a :: r) h Q = G sp sc [23] d mL_law n 508 L (.inl (a + b) :: r) h Q) ∧
  (∀ (n d : Nat) (L : List (Option iV)) (r : List iV) (j : Int) (h : iH) (Q : Option iV → iH → Prop), G sp sc [23] d mL_law (n + 1) 508 L (.inl j :: .inr (.inr 1) :: r) h Q = (inA j sc.length = true ∧ G sp sc [23] d mL_law n 509 L (.inl (sc.getD j.toNat 0) :: r) h Q)) ∧
  (∀ (n d : Nat) (L : List (Option iV)) (r : List iV) (j : Int) (m : Nat) (h : iH) (Q : Option iV → iH → Prop), G sp sc [23] d mL_law (n + 1) 508 L (.inl j :: .inr (.inr (m + 2)) :: r) h Q = (match h.1[m]? with | some (.inr (.inl (0, xs))) => inA j xs.length = true ∧ G sp sc [23] d mL_law n 509 L (.inl (xs.getD j.toNat 0) :: r) h Q | _ => False)) ∧
  (∀ (n d : Nat) (L : List (Option iV)) (st : List iV) (h : iH) (Q : Option iV → iH → Prop), G sp sc [23] d mL_law (n + 1) 509 L st h Q = (match ld L 0 with | some (.inr (.inr (r + 1))) => G sp sc [23] d mL_law n 510 L (.inr (.inr (r + 1)) :: st) h Q | _ => False)) ∧
  (∀ (n d : Nat) (L : List (Option iV)) (st : List iV) (h : iH) (Q : Option iV → iH → Prop), G sp sc [23] d mL_law (n + 1) 510 L st h Q = (match ld L 4 with | some (.inl x) => G sp sc [23] d mL_law n 512 L (.inl x :: st) h Q | _ => False)) ∧
  (∀ (n d : Nat) (L : List (Option iV)) (st : List iV) (h : iH) (Q : Option iV → iH → Prop), G sp sc [23] d mL_law (n + 1) 512 L st h Q = G sp sc [23] d mL_law n 513 L (.inl 4 :: st) h Q) ∧
  (∀ (n d : Nat) (L : List (Option iV)) (a : Int) (b : Int) (r : List iV) (h : iH) (Q : Option iV → iH → Prop), G sp sc [23] d mL_law (n + 1) 513 L (.inl b :: .inl a :: r) h Q = G sp sc [23] d mL_law n 514 L (.inl (a + b) :: r) h Q) ∧
  (∀ (n d : Nat) (L : List (Option iV)) (r : List iV) (j : Int) (h : iH) (Q : Option iV → iH → Prop), G sp sc [23] d mL_law (n + 1) 514 L (.inl j :: .inr (.inr 1) :: r) h Q = (inA j sc.length = true ∧ G sp sc [23] d mL_law n 515 L (.inl (sc.getD j.toNat 0) :: r) h Q)) ∧
  (∀ (n d : Nat) (L : List (Option iV)) (r : List iV) (j : Int) (m : Nat) (h : iH) (Q : Option iV → iH → Prop), G sp sc [23] d mL_law (n + 1) 514 L (.inl j :: .inr (.inr (m + 2)) :: r) h Q = (match h.1[m]? with | some (.inr (.inl (0, xs))) => inA j xs.length = true ∧ G sp sc [23] d mL_law n 515 L (.inl (xs.getD j.toNat 0) :: r) h Q | _ => False)) ∧
  (∀ (n d : Nat) (L : List (Option iV)) (r : List iV) (m : Nat) (z0 : iV) (z1 : iV) (z2 : iV) (z3 : iV) (h : iH) (Q : Option iV → iH → Prop), G sp sc [23] (d + 1) mL_law (n + 1) 515 L (z3 :: z2 :: z1 :: z0 :: .inr (.inr (m + 2)) :: r) h Q = (match h.1[m]? with | some (.inl (ci, _)) => (match lkC 13 48 ci with | some (y1, n1, kd) => (n1 = 4 ∧ (kd = 2 ∨ kd = 3 ∨ kd = 8) ∧ cs r ≤ 8) ∧ Call sp sc d y1 [.inr (.inr (m + 2)), z0, z1, z2, z3] h (fun q h1 => GC sp sc [23] (d + 1) mL_law n 518 L q r h h1 Q) | none => False) | _ => False)) ∧
  (∀ (n d : Nat) (L : List (Option iV)) (st : List iV) (h : iH) (Q : Option iV → iH → Prop), G sp sc [23] d mL_law (n + 1) 518 L st h Q = (match ld L 2 with | some (.inr (.inr (r + 1))) => G sp sc [23] d mL_law n 519 L (.inr (.inr (r + 1)) :: st) h Q | _ => False)) ∧
  (∀ (n d : Nat) (L : List (Option iV)) (st : List iV) (h : iH) (Q : Option iV → iH → Prop), G sp sc [23] d mL_law (n + 1) 519 L st h Q = (match ld L 0 with | some (.inr (.inr (r + 1))) => G sp sc [23] d mL_law n 520 L (.inr (.inr (r + 1)) :: st) h Q | _ => False)) ∧
  (∀ (n d : Nat) (L : List (Option iV)) (st : List iV) (h : iH) (Q : Option iV → iH → Prop), G sp sc [23] d mL_law (n + 1) 520 L st h Q = (match ld L 4 with | some (.inl x) => G sp sc [23] d mL_law n 522 L (.inl x :: st) h Q | _ => False)) ∧
  (∀ (n d : Nat) (L : List (Option iV)) (st : List iV) (h : iH) (Q : Option iV → iH → Prop), G sp sc [23] d mL_law (n + 1) 522 L st h Q = G sp sc [23] d mL_law n 523 L (.inl 1 :: st) h Q) ∧
  (∀ (n d : Nat) (L : List (Option iV)) (a : Int) (b : Int) (r : List iV) (h : iH) (Q : Option iV → iH → Prop), G sp sc [23] d mL_law (n + 1) 523 L (.inl b :: .inl a :: r) h Q = G sp sc [23] d mL_law n 524 L (.inl (a + b) :: r) h Q) ∧
  (∀ (n d : Nat) (L : List (Option iV)) (r : List iV) (j : Int) (h : iH) (Q : Option iV → iH → Prop), G sp sc [23] d mL_law (n + 1) 524 L (.inl j :: .inr (.inr 1) :: r) h Q = (inA j sc.length = true ∧ G sp sc [23] d mL_law n 525 L (.inl (sc.getD j.toNat 0) :: r) h Q)) ∧
  (∀ (n d : Nat) (L : List (Option iV)) (r : List iV) (j : Int) (m : Nat) (h : iH) (Q : Option iV → iH → Prop), G sp sc [23] d mL_law (n + 1) 524 L (.inl j :: .inr (.inr (m + 2)) :: r) h Q = (match h.1[m]? with | some (.inr (.inl (0, xs))) => inA j xs.length = true ∧ G sp sc [23] d mL_law n 525 L (.inl (xs.getD j.toNat 0) :: r) h Q | _ => False)) ∧
  (∀ (n d : Nat) (L : List (Option iV)) (st : List iV) (h : iH) (Q : Option iV → iH → Prop), G sp sc [23] d mL_law (n + 1) 525 L st h Q = (match ld L 0 with | some (.inr (.inr (r + 1))) => G sp sc [23] d mL_law n 526 L (.inr (.inr (r + 1)) :: st) h Q | _ => False)) ∧
  (∀ (n d : Nat) (L : List (Option iV)) (st : List iV) (h : iH) (Q : Option iV → iH → Prop), G sp sc [23] d mL_law (n + 1) 526 L st h Q = (match ld L 4 with | some (.inl x) => G sp sc [23] d mL_law n 528 L (.inl x :: st) h Q | _ => False)) ∧
  (∀ (n d : Nat) (L : List (Option iV)) (st : List iV) (h : iH) (Q : Option iV → iH → Prop), G sp sc [23] d mL_law (n + 1) 528 L st h Q = G sp sc [23] d mL_law n 529 L (.inl 2 :: st) h Q) ∧
  (∀ (n d : Nat) (L : List (Option iV)) (a : Int) (b : Int) (r : List iV) (h : iH) (Q : Option iV → iH → Prop), G sp sc [23] d mL_law (n + 1) 529 L (.inl b :: .inl a :: r) h Q = G sp sc [23] d mL_law n 530 L (.inl (a + b) :: r) h Q) ∧
  (∀ (n d : Nat) (L : List (Option iV)) (r : List iV) (j : Int) (h : iH) (Q : Option iV → iH → Prop), G sp sc [23] d mL_law (n + 1) 530 L (.inl j :: .inr (.inr 1) :: r) h Q = (inA j sc.length = true ∧ G sp sc [23] d mL_law n 531 L (.inl (sc.getD j.toNat 0) :: r) h Q)) ∧
  (∀ (n d : Nat) (L : List (Option iV)) (r : List iV) (j : Int) (m : Nat) (h : iH) (Q : Option iV → iH → Prop), G sp sc [23] d mL_law (n + 1) 530 L (.inl j :: .inr (.inr (m + 2)) :: r) h Q = (match h.1[m]? with | some (.inr (.inl (0, xs))) => inA j xs.length = true ∧ G sp sc [23] d mL_law n 531 L (.inl (xs.getD j.toNat 0) :: r) h Q | _ => False)) ∧
  (∀ (n d : Nat) (L : List (Option iV)) (st : List iV) (h : iH) (Q : Option iV → iH → Prop), G sp sc [23] d mL_law (n + 1) 531 L st h Q = (match ld L 0 with | some (.inr (.inr (r + 1))) => G sp sc [23] d mL_law n 532 L (.inr (.inr (r + 1)) :: st) h Q | _ => False)) ∧
  (∀ (n d : Nat) (L : List (Option iV)) (st : List iV) (h : iH) (Q : Option iV → iH → Prop), G sp sc [23] d mL_law (n + 1) 532 L st h Q = (match ld L 4 with | some (.inl x) => G sp sc [23] d mL_law n 534 L (.inl x :: st) h Q | _ => False)) ∧
  (∀ (n d : Nat) (L : List (Option iV)) (st : List iV) (h : iH) (Q : Option iV → iH → Prop), G sp sc [23] d mL_law (n + 1) 534 L st h Q = G sp sc [23] d mL_law n 535 L (.inl 3 :: st) h Q) ∧
  (∀ (n d : Nat) (L : List (Option iV)) (a : Int) (b : Int) (r : List iV) (h : iH) (Q : Option iV → iH → Prop), G sp sc [23] d mL_law (n + 1) 535 L (.inl b :: .inl a :: r) h Q = G sp sc [23] d mL_law n 536 L (.inl (a + b) :: r) h Q) ∧
  (∀ (n d : Nat) (L : List (Option iV)) (r : List iV) (j : Int) (h : iH) (Q : Option iV → iH → Prop), G sp sc [23] d mL_law (n + 1) 536 L (.inl j :: .inr (.inr 1) :: r) h Q = (inA j sc.length = true ∧ G sp sc [23] d mL_law n 537 L (.inl (sc.getD j.toNat 0) :: r) h Q)) ∧
  (∀ (n d : Nat) (L : List (Option iV)) (r : List iV) (j : Int) (m : Nat) (h : iH) (Q : Option iV → iH → Prop), G sp sc [23] d mL_law (n + 1) 536 L (.inl j :: .inr (.inr (m + 2)) :: r) h Q = (match h.1[m]? with | some (.inr (.inl (0, xs))) => inA j xs.length = true ∧ G sp sc [23] d mL_law n 537 L (.inl (xs.getD j.toNat 0) :: r) h Q | _ => False)) ∧
  (∀ (n d : Nat) (L : List (Option iV)) (st : List iV) (h : iH) (Q : Option iV → iH → Prop), G sp sc [23] d mL_law (n + 1) 537 L st h Q = (match ld L 0 with | some (.inr (.inr (r + 1))) => G sp sc [23] d mL_law n 538 L (.inr (.inr (r + 1)) :: st) h Q | _ => False)) ∧
  (∀ (n d : Nat) (L : List (Option iV)) (st : List iV) (h : iH) (Q : Option iV → iH → Prop), G sp sc [23] d mL_law (n + 1) 538 L st h Q = (match ld L 4 with | some (.inl x) => G sp sc [23] d mL_law n 540 L (.inl x :: st) h Q | _ => False)) ∧
  (∀ (n d : Nat) (L : List (Option iV)) (st : List iV) (h : iH) (Q : Option iV → iH → Prop), G sp sc [23] d mL_law (n + 1) 540 L st h Q = G sp sc [23] d mL_law n 541 L (.inl 4 :: st) h Q) ∧
  (∀ (n d : Nat) (L : List (Option iV)) (a : Int) (b : Int) (r : List iV) (h : iH) (Q : Option iV → iH → Prop), G sp sc [23] d mL_law (n + 1) 541 L (.inl b :: .inl a :: r) h Q = G sp sc [23] d mL_law n 542 L (.inl (a + b) :: r) h Q) ∧
  (∀ (n d : Nat) (L : List (Option iV)) (r : List iV) (j : Int) (h : iH) (Q : Option iV → iH → Prop), G sp sc [23] d mL_law (n + 1) 542 L (.inl j :: .inr (.inr 1) :: r) h Q = (inA j sc.length = true ∧ G sp sc [23] d mL_law n 543 L (.inl (sc.getD j.toNat 0) :: r) h Q)) ∧
  (∀ (n d : Nat) (L : List (Option iV)) (r : List iV) (j : Int) (m : Nat) (h : iH) (Q : Option iV → iH → Prop), G sp sc [23] d mL_law (n + 1) 542 L (.inl j :: .inr (.inr (m + 2)) :: r) h Q = (match h.1[m]? with | some (.inr (.inl (0, xs))) => inA j xs.length = true ∧ G sp sc [23] d mL_law n 543 L (.inl (xs.getD j.toNat 0) :: r) h Q | _ => False)) ∧
  (∀ (n d : Nat) (L : List (Option iV)) (r : List iV) (m : Nat) (z0 : iV) (z1 : iV) (z2 : iV) (z3 : iV) (h : iH) (Q : Option iV → iH → Prop), G sp sc [23] (d + 1) mL_law (n + 1) 543 L (z3 :: z2 :: z1 :: z0 :: .inr (.inr (m + 2)) :: r) h Q = (match h.1[m]? with | some (.inl (ci, _)) => (match lkC 13 52 ci with | some (y1, n1, kd) => (n1 = 4 ∧ (kd = 2 ∨ kd = 3 ∨ kd = 8) ∧ cs r ≤ 8) ∧ Call sp sc d y1 [.inr (.inr (m + 2)), z0, z1, z2, z3] h (fun q h1 => GC sp sc [23] (d + 1) mL_law n 546 L q r h h1 Q) | none => False) | _ => False)) ∧
  (∀ (n d : Nat) (L : List (Option iV)) (a : Int) (b : Int) (r : List iV) (h : iH) (Q : Option iV → iH → Prop), G sp sc [23] d mL_law (n + 1) 546 L (.inl b :: .inl a :: r) h Q = ((inI a = true ∧ inI b = true) ∧ (a = b → G sp sc [23] d mL_law n 1950 L r h Q) ∧ (¬ (a = b) → G sp sc [23] d mL_law n 549 L r h Q))) ∧
  (∀ (n d : Nat) (L : List (Option iV)) (st : List iV) (h : iH) (Q : Option iV → iH → Prop), G sp sc [23] d mL_law (n + 1) 549 L st h Q = G sp sc [23] d mL_law n 550 L (.inl 0 :: st) h Q) ∧
  (∀ (n d : Nat) (L : List (Option iV)) (a : Int) (h : iH) (Q : Option iV → iH → Prop), G sp sc [23] d mL_law (n + 1) 550 L [.inl a] h Q = ((a = 0 ∨ a = 1) ∧ Q (some (.inl a)) h)) := ⟨by intros; exact G_at (by decide +kernel : fetch mL_law 490 = some (.aload_n 1)),
  by intros; exact G_at (by decide +kernel : fetch mL_law 491 = some (.aload_n 0)),
  by intros; exact G_at (by decide +kernel : fetch mL_law 492 = some (.iload 4)),
  by intros; exact G_at (by decide +kernel : fetch mL_law 494 = some (.iconst 1)),
  by intros; exact G_at (by decide +kernel : fetch mL_law 495 = some (.iadd)),
  by intros; exact G_at (by decide +kernel : fetch mL_law 496 = some (.iaload)),
  by intros; exact G_at (by decide +kernel : fetch mL_law 496 = some (.iaload)),
  by intros; exact G_at (by decide +kernel : fetch mL_law 497 = some (.aload_n 0)),
  by intros; exact G_at (by decide +kernel : fetch mL_law 498 = some (.iload 4)),
  by intros; exact G_at (by decide +kernel : fetch mL_law 500 = some (.iconst 2)),
  by intros; exact G_at (by decide +kernel : fetch mL_law 501 = some (.iadd)),
  by intros; exact G_at (by decide +kernel : fetch mL_law 502 = some (.iaload)),
  by intros; exact G_at (by decide +kernel : fetch mL_law 502 = some (.iaload)),
  by intros; exact G_at (by decide +kernel : fetch mL_law 503 = some (.aload_n 0)),
  by intros; exact G_at (by decide +kernel : fetch mL_law 504 = some (.iload 4)),
  by intros; exact G_at (by decide +kernel : fetch mL_law 506 = some (.iconst 3)),
  by intros; exact G_at (by decide +kernel : fetch mL_law 507 = some (.iadd)),
  by intros; exact G_at (by decide +kernel : fetch mL_law 508 = some (.iaload)),
  by intros; exact G_at (by decide +kernel : fetch mL_law 508 = some (.iaload)),
  by intros; exact G_at (by decide +kernel : fetch mL_law 509 = some (.aload_n 0)),
  by intros; exact G_at (by decide +kernel : fetch mL_law 510 = some (.iload 4)),
  by intros; exact G_at (by decide +kernel : fetch mL_law 512 = some (.iconst 4)),
  by intros; exact G_at (by decide +kernel : fetch mL_law 513 = some (.iadd)),
  by intros; exact G_at (by decide +kernel : fetch mL_law 514 = some (.iaload)),
  by intros; exact G_at (by decide +kernel : fetch mL_law 514 = some (.iaload)),
  by intros; exact G_callV (by decide +kernel : fetch mL_law 515 = some (.invokevirtual 48)) (by decide +kernel) (by decide +kernel) rfl,
  by intros; exact G_at (by decide +kernel : fetch mL_law 518 = some (.aload_n 2)),
  by intros; exact G_at (by decide +kernel : fetch mL_law 519 = some (.aload_n 0)),
  by intros; exact G_at (by decide +kernel : fetch mL_law 520 = some (.iload 4)),
  by intros; exact G_at (by decide +kernel : fetch mL_law 522 = some (.iconst 1)),
  by intros; exact G_at (by decide +kernel : fetch mL_law 523 = some (.iadd)),
  by intros; exact G_at (by decide +kernel : fetch mL_law 524 = some (.iaload)),
  by intros; exact G_at (by decide +kernel : fetch mL_law 524 = some (.iaload)),
  by intros; exact G_at (by decide +kernel : fetch mL_law 525 = some (.aload_n 0)),
  by intros; exact G_at (by decide +kernel : fetch mL_law 526 = some (.iload 4)),
  by intros; exact G_at (by decide +kernel : fetch mL_law 528 = some (.iconst 2)),
  by intros; exact G_at (by decide +kernel : fetch mL_law 529 = some (.iadd)),
  by intros; exact G_at (by decide +kernel : fetch mL_law 530 = some (.iaload)),
  by intros; exact G_at (by decide +kernel : fetch mL_law 530 = some (.iaload)),
  by intros; exact G_at (by decide +kernel : fetch mL_law 531 = some (.aload_n 0)),
  by intros; exact G_at (by decide +kernel : fetch mL_law 532 = some (.iload 4)),
  by intros; exact G_at (by decide +kernel : fetch mL_law 534 = some (.iconst 3)),
  by intros; exact G_at (by decide +kernel : fetch mL_law 535 = some (.iadd)),
  by intros; exact G_at (by decide +kernel : fetch mL_law 536 = some (.iaload)),
  by intros; exact G_at (by decide +kernel : fetch mL_law 536 = some (.iaload)),
  by intros; exact G_at (by decide +kernel : fetch mL_law 537 = some (.aload_n 0)),
  by intros; exact G_at (by decide +kernel : fetch mL_law 538 = some (.iload 4)),
  by intros; exact G_at (by decide +kernel : fetch mL_law 540 = some (.iconst 4)),
  by intros; exact G_at (by decide +kernel : fetch mL_law 541 = some (.iadd)),
  by intros; exact G_at (by decide +kernel : fetch mL_law 542 = some (.iaload)),
  by intros; exact G_at (by decide +kernel : fetch mL_law 542 = some (.iaload)),
  by intros; exact G_callV (by decide +kernel : fetch mL_law 543 = some (.invokevirtual 52)) (by decide +kernel) (by decide +kernel) rfl,
  by intros; exact G_at (by decide +kernel : fetch mL_law 546 = some (.if_icmp .eq 1404)),
  by intros; exact G_at (by decide +kernel : fetch mL_law 549 = some (.iconst 0)),
  by intros; exact G_retz (by decide +kernel : fetch mL_law 550 = some (.ireturn)) (by decide +kernel)⟩
theorem gL_c7 : (∀ (n d : Nat) (L : List (Option iV)) (st : List iV) (h : iH) (Q : Option iV → iH → Prop), G sp sc [23] d mL_law (n + 1) 551 L st h Q = (match ld L 1 with | some (.inr (.inr (r + 1))) => G sp sc [23] d mL_law n 552 L (.inr (.inr (r + 1)) :: st) h Q | _ => False)) ∧
  (∀ (n d : Nat) (L : List (Option iV)) (st : List iV) (h : iH) (Q : Option iV → iH → Prop), G sp sc [23] d mL_law (n + 1) 552 L st h Q = (match ld L 0 with | some (.inr (.inr (r + 1))) => G sp sc [23] d mL_law n 553 L (.inr (.inr (r + 1)) :: st) h Q | _ => False)) ∧
  (∀ (n d : Nat) (L : List (Option iV)) (st : List iV) (h : iH) (Q : Option iV → iH → Prop), G sp sc [23] d mL_law (n + 1) 553 L st h Q = (match ld L 4 with | some (.inl x) => G sp sc [23] d mL_law n 555 L (.inl x :: st) h Q | _ => False)) ∧
  (∀ (n d : Nat) (L : List (Option iV)) (st : List iV) (h : iH) (Q : Option iV → iH → Prop), G sp sc [23] d mL_law (n + 1) 555 L st h Q = G sp sc [23] d mL_law n 556 L (.inl 1 :: st) h Q) ∧
  (∀ (n d : Nat) (L : List (Option iV)) (a : Int) (b : Int) (r : List iV) (h : iH) (Q : Option iV → iH → Prop), G sp sc [23] d mL_law (n + 1) 556 L (.inl b :: .inl a :: r) h Q = G sp sc [23] d mL_law n 557 L (.inl (a + b) :: r) h Q) ∧
  (∀ (n d : Nat) (L : List (Option iV)) (r : List iV) (j : Int) (h : iH) (Q : Option iV → iH → Prop), G sp sc [23] d mL_law (n + 1) 557 L (.inl j :: .inr (.inr 1) :: r) h Q = (inA j sc.length = true ∧ G sp sc [23] d mL_law n 558 L (.inl (sc.getD j.toNat 0) :: r) h Q)) ∧
  (∀ (n d : Nat) (L : List (Option iV)) (r : List iV) (j : Int) (m : Nat) (h : iH) (Q : Option iV → iH → Prop), G sp sc [23] d mL_law (n + 1) 557 L (.inl j :: .inr (.inr (m + 2)) :: r) h Q = (match h.1[m]? with | some (.inr (.inl (0, xs))) => inA j xs.length = true ∧ G sp sc [23] d mL_law n 558 L (.inl (xs.getD j.toNat 0) :: r) h Q | _ => False)) ∧
  (∀ (n d : Nat) (L : List (Option iV)) (st : List iV) (h : iH) (Q : Option iV → iH → Prop), G sp sc [23] d mL_law (n + 1) 558 L st h Q = (match ld L 0 with | some (.inr (.inr (r + 1))) => G sp sc [23] d mL_law n 559 L (.inr (.inr (r + 1)) :: st) h Q | _ => False)) ∧
  (∀ (n d : Nat) (L : List (Option iV)) (st : List iV) (h : iH) (Q : Option iV → iH → Prop), G sp sc [23] d mL_law (n + 1) 559 L st h Q = (match ld L 4 with | some (.inl x) => G sp sc [23] d mL_law n 561 L (.inl x :: st) h Q | _ => False)) ∧
  (∀ (n d : Nat) (L : List (Option iV)) (st : List iV) (h : iH) (Q : Option iV → iH → Prop), G sp sc [23] d mL_law (n + 1) 561 L st h Q = G sp sc [23] d mL_law n 562 L (.inl 2 :: st) h Q) ∧
  (∀ (n d : Nat) (L : List (Option iV)) (a : Int) (b : Int) (r : List iV) (h : iH) (Q : Option iV → iH → Prop), G sp sc [23] d mL_law (n + 1) 562 L (.inl b :: .inl a :: r) h Q = G sp sc [23] d mL_law n 563 L (.inl (a + b) :: r) h Q) ∧
  (∀ (n d : Nat) (L : List (Option iV)) (r : List iV) (j : Int) (h : iH) (Q : Option iV → iH → Prop), G sp sc [23] d mL_law (n + 1) 563 L (.inl j :: .inr (.inr 1) :: r) h Q = (inA j sc.length = true ∧ G sp sc [23] d mL_law n 564 L (.inl (sc.getD j.toNat 0) :: r) h Q)) ∧
  (∀ (n d : Nat) (L : List (Option iV)) (r : List iV) (j : Int) (m : Nat) (h : iH) (Q : Option iV → iH → Prop), G sp sc [23] d mL_law (n + 1) 563 L (.inl j :: .inr (.inr (m + 2)) :: r) h Q = (match h.1[m]? with | some (.inr (.inl (0, xs))) => inA j xs.length = true ∧ G sp sc [23] d mL_law n 564 L (.inl (xs.getD j.toNat 0) :: r) h Q | _ => False)) ∧
  (∀ (n d : Nat) (L : List (Option iV)) (st : List iV) (h : iH) (Q : Option iV → iH → Prop), G sp sc [23] d mL_law (n + 1) 564 L st h Q = (match ld L 0 with | some (.inr (.inr (r + 1))) => G sp sc [23] d mL_law n 565 L (.inr (.inr (r + 1)) :: st) h Q | _ => False)) ∧
  (∀ (n d : Nat) (L : List (Option iV)) (st : List iV) (h : iH) (Q : Option iV → iH → Prop), G sp sc [23] d mL_law (n + 1) 565 L st h Q = (match ld L 4 with | some (.inl x) => G sp sc [23] d mL_law n 567 L (.inl x :: st) h Q | _ => False)) ∧
  (∀ (n d : Nat) (L : List (Option iV)) (st : List iV) (h : iH) (Q : Option iV → iH → Prop), G sp sc [23] d mL_law (n + 1) 567 L st h Q = G sp sc [23] d mL_law n 568 L (.inl 3 :: st) h Q) ∧
  (∀ (n d : Nat) (L : List (Option iV)) (a : Int) (b : Int) (r : List iV) (h : iH) (Q : Option iV → iH → Prop), G sp sc [23] d mL_law (n + 1) 568 L (.inl b :: .inl a :: r) h Q = G sp sc [23] d mL_law n 569 L (.inl (a + b) :: r) h Q) ∧
  (∀ (n d : Nat) (L : List (Option iV)) (r : List iV) (j : Int) (h : iH) (Q : Option iV → iH → Prop), G sp sc [23] d mL_law (n + 1) 569 L (.inl j :: .inr (.inr 1) :: r) h Q = (inA j sc.length = true ∧ G sp sc [23] d mL_law n 570 L (.inl (sc.getD j.toNat 0) :: r) h Q)) ∧
  (∀ (n d : Nat) (L : List (Option iV)) (r : List iV) (j : Int) (m : Nat) (h : iH) (Q : Option iV → iH → Prop), G sp sc [23] d mL_law (n + 1) 569 L (.inl j :: .inr (.inr (m + 2)) :: r) h Q = (match h.1[m]? with | some (.inr (.inl (0, xs))) => inA j xs.length = true ∧ G sp sc [23] d mL_law n 570 L (.inl (xs.getD j.toNat 0) :: r) h Q | _ => False)) ∧
  (∀ (n d : Nat) (L : List (Option iV)) (r : List iV) (m : Nat) (z0 : iV) (z1 : iV) (z2 : iV) (h : iH) (Q : Option iV → iH → Prop), G sp sc [23] (d + 1) mL_law (n + 1) 570 L (z2 :: z1 :: z0 :: .inr (.inr (m + 2)) :: r) h Q = (match h.1[m]? with | some (.inl (ci, _)) => (match lkC 13 53 ci with | some (y1, n1, kd) => (n1 = 3 ∧ (kd = 2 ∨ kd = 3 ∨ kd = 8) ∧ cs r ≤ 8) ∧ Call sp sc d y1 [.inr (.inr (m + 2)), z0, z1, z2] h (fun q h1 => GC sp sc [23] (d + 1) mL_law n 573 L q r h h1 Q) | none => False) | _ => False)) ∧
  (∀ (n d : Nat) (L : List (Option iV)) (st : List iV) (h : iH) (Q : Option iV → iH → Prop), G sp sc [23] d mL_law (n + 1) 573 L st h Q = (match ld L 2 with | some (.inr (.inr (r + 1))) => G sp sc [23] d mL_law n 574 L (.inr (.inr (r + 1)) :: st) h Q | _ => False)) ∧
  (∀ (n d : Nat) (L : List (Option iV)) (st : List iV) (h : iH) (Q : Option iV → iH → Prop), G sp sc [23] d mL_law (n + 1) 574 L st h Q = (match ld L 0 with | some (.inr (.inr (r + 1))) => G sp sc [23] d mL_law n 575 L (.inr (.inr (r + 1)) :: st) h Q | _ => False)) ∧
  (∀ (n d : Nat) (L : List (Option iV)) (st : List iV) (h : iH) (Q : Option iV → iH → Prop), G sp sc [23] d mL_law (n + 1) 575 L st h Q = (match ld L 4 with | some (.inl x) => G sp sc [23] d mL_law n 577 L (.inl x :: st) h Q | _ => False)) ∧
  (∀ (n d : Nat) (L : List (Option iV)) (st : List iV) (h : iH) (Q : Option iV → iH → Prop), G sp sc [23] d mL_law (n + 1) 577 L st h Q = G sp sc [23] d mL_law n 578 L (.inl 1 :: st) h Q) ∧
  (∀ (n d : Nat) (L : List (Option iV)) (a : Int) (b : Int) (r : List iV) (h : iH) (Q : Option iV → iH → Prop), G sp sc [23] d mL_law (n + 1) 578 L (.inl b :: .inl a :: r) h Q = G sp sc [23] d mL_law n 579 L (.inl (a + b) :: r) h Q) ∧
  (∀ (n d : Nat) (L : List (Option iV)) (r : List iV) (j : Int) (h : iH) (Q : Option iV → iH → Prop), G sp sc [23] d mL_law (n + 1) 579 L (.inl j :: .inr (.inr 1) :: r) h Q = (inA j sc.length = true ∧ G sp sc [23] d mL_law n 580 L (.inl (sc.getD j.toNat 0) :: r) h Q)) ∧
  (∀ (n d : Nat) (L : List (Option iV)) (r : List iV) (j : Int) (m : Nat) (h : iH) (Q : Option iV → iH → Prop), G sp sc [23] d mL_law (n + 1) 579 L (.inl j :: .inr (.inr (m + 2)) :: r) h Q = (match h.1[m]? with | some (.inr (.inl (0, xs))) => inA j xs.length = true ∧ G sp sc [23] d mL_law n 580 L (.inl (xs.getD j.toNat 0) :: r) h Q | _ => False)) ∧
  (∀ (n d : Nat) (L : List (Option iV)) (st : List iV) (h : iH) (Q : Option iV → iH → Prop), G sp sc [23] d mL_law (n + 1) 580 L st h Q = (match ld L 0 with | some (.inr (.inr (r + 1))) => G sp sc [23] d mL_law n 581 L (.inr (.inr (r + 1)) :: st) h Q | _ => False)) ∧
  (∀ (n d : Nat) (L : List (Option iV)) (st : List iV) (h : iH) (Q : Option iV → iH → Prop), G sp sc [23] d mL_law (n + 1) 581 L st h Q = (match ld L 4 with | some (.inl x) => G sp sc [23] d mL_law n 583 L (.inl x :: st) h Q | _ => False)) ∧
  (∀ (n d : Nat) (L : List (Option iV)) (st : List iV) (h : iH) (Q : Option iV → iH → Prop), G sp sc [23] d mL_law (n + 1) 583 L st h Q = G sp sc [23] d mL_law n 584 L (.inl 2 :: st) h Q) ∧
  (∀ (n d : Nat) (L : List (Option iV)) (a : Int) (b : Int) (r : List iV) (h : iH) (Q : Option iV → iH → Prop), G sp sc [23] d mL_law (n + 1) 584 L (.inl b :: .inl a :: r) h Q = G sp sc [23] d mL_law n 585 L (.inl (a + b) :: r) h Q) ∧
  (∀ (n d : Nat) (L : List (Option iV)) (r : List iV) (j : Int) (h : iH) (Q : Option iV → iH → Prop), G sp sc [23] d mL_law (n + 1) 585 L (.inl j :: .inr (.inr 1) :: r) h Q = (inA j sc.length = true ∧ G sp sc [23] d mL_law n 586 L (.inl (sc.getD j.toNat 0) :: r) h Q)) ∧
  (∀ (n d : Nat) (L : List (Option iV)) (r : List iV) (j : Int) (m : Nat) (h : iH) (Q : Option iV → iH → Prop), G sp sc [23] d mL_law (n + 1) 585 L (.inl j :: .inr (.inr (m + 2)) :: r) h Q = (match h.1[m]? with | some (.inr (.inl (0, xs))) => inA j xs.length = true ∧ G sp sc [23] d mL_law n 586 L (.inl (xs.getD j.toNat 0) :: r) h Q | _ => False)) ∧
  (∀ (n d : Nat) (L : List (Option iV)) (st : List iV) (h : iH) (Q : Option iV → iH → Prop), G sp sc [23] d mL_law (n + 1) 586 L st h Q = (match ld L 0 with | some (.inr (.inr (r + 1))) => G sp sc [23] d mL_law n 587 L (.inr (.inr (r + 1)) :: st) h Q | _ => False)) ∧
  (∀ (n d : Nat) (L : List (Option iV)) (st : List iV) (h : iH) (Q : Option iV → iH → Prop), G sp sc [23] d mL_law (n + 1) 587 L st h Q = (match ld L 4 with | some (.inl x) => G sp sc [23] d mL_law n 589 L (.inl x :: st) h Q | _ => False)) ∧
  (∀ (n d : Nat) (L : List (Option iV)) (st : List iV) (h : iH) (Q : Option iV → iH → Prop), G sp sc [23] d mL_law (n + 1) 589 L st h Q = G sp sc [23] d mL_law n 590 L (.inl 3 :: st) h Q) ∧
  (∀ (n d : Nat) (L : List (Option iV)) (a : Int) (b : Int) (r : List iV) (h : iH) (Q : Option iV → iH → Prop), G sp sc [23] d mL_law (n + 1) 590 L (.inl b :: .inl a :: r) h Q = G sp sc [23] d mL_law n 591 L (.inl (a + b) :: r) h Q) ∧
  (∀ (n d : Nat) (L : List (Option iV)) (r : List iV) (j : Int) (h : iH) (Q : Option iV → iH → Prop), G sp sc [23] d mL_law (n + 1) 591 L (.inl j :: .inr (.inr 1) :: r) h Q = (inA j sc.length = true ∧ G sp sc [23] d mL_law n 592 L (.inl (sc.getD j.toNat 0) :: r) h Q)) ∧
  (∀ (n d : Nat) (L : List (Option iV)) (r : List iV) (j : Int) (m : Nat) (h : iH) (Q : Option iV → iH → Prop), G sp sc [23] d mL_law (n + 1) 591 L (.inl j :: .inr (.inr (m + 2)) :: r) h Q = (match h.1[m]? with | some (.inr (.inl (0, xs))) => inA j xs.length = true ∧ G sp sc [23] d mL_law n 592 L (.inl (xs.getD j.toNat 0) :: r) h Q | _ => False)) ∧
  (∀ (n d : Nat) (L : List (Option iV)) (r : List iV) (m : Nat) (z0 : iV) (z1 : iV) (z2 : iV) (h : iH) (Q : Option iV → iH → Prop), G sp sc [23] (d + 1) mL_law (n + 1) 592 L (z2 :: z1 :: z0 :: .inr (.inr (m + 2)) :: r) h Q = (match h.1[m]? with | some (.inl (ci, _)) => (match lkC 13 56 ci with | some (y1, n1, kd) => (n1 = 3 ∧ (kd = 2 ∨ kd = 3 ∨ kd = 8) ∧ cs r ≤ 8) ∧ Call sp sc d y1 [.inr (.inr (m + 2)), z0, z1, z2] h (fun q h1 => GC sp sc [23] (d + 1) mL_law n 595 L q r h h1 Q) | none => False) | _ => False)) ∧
  (∀ (n d : Nat) (L : List (Option iV)) (a : Int) (b : Int) (r : List iV) (h : iH) (Q : Option iV → iH → Prop), G sp sc [23] d mL_law (n + 1) 595 L (.inl b :: .inl a :: r) h Q = ((inI a = true ∧ inI b = true) ∧ (a = b → G sp sc [23] d mL_law n 1950 L r h Q) ∧ (¬ (a = b) → G sp sc [23] d mL_law n 598 L r h Q))) ∧
  (∀ (n d : Nat) (L : List (Option iV)) (st : List iV) (h : iH) (Q : Option iV → iH → Prop), G sp sc [23] d mL_law (n + 1) 598 L st h Q = G sp sc [23] d mL_law n 599 L (.inl 0 :: st) h Q) ∧
  (∀ (n d : Nat) (L : List (Option iV)) (a : Int) (h : iH) (Q : Option iV → iH → Prop), G sp sc [23] d mL_law (n + 1) 599 L [.inl a] h Q = ((a = 0 ∨ a = 1) ∧ Q (some (.inl a)) h)) := ⟨by intros; exact G_at (by decide +kernel : fetch mL_law 551 = some (.aload_n 1)),
  by intros; exact G_at (by decide +kernel : fetch mL_law 552 = some (.aload_n 0)),
  by intros; exact G_at (by decide +kernel : fetch mL_law 553 = some (.iload 4)),
  by intros; exact G_at (by decide +kernel : fetch mL_law 555 = some (.iconst 1)),
  by intros; exact G_at (by decide +kernel : fetch mL_law 556 = some (.iadd)),
  by intros; exact G_at (by decide +kernel : fetch mL_law 557 = some (.iaload)),
  by intros; exact G_at (by decide +kernel : fetch mL_law 557 = some (.iaload)),
  by intros; exact G_at (by decide +kernel : fetch mL_law 558 = some (.aload_n 0)),
  by intros; exact G_at (by decide +kernel : fetch mL_law 559 = some (.iload 4)),
  by intros; exact G_at (by decide +kernel : fetch mL_law 561 = some (.iconst 2)),
  by intros; exact G_at (by decide +kernel : fetch mL_law 562 = some (.iadd)),
  by intros; exact G_at (by decide +kernel : fetch mL_law 563 = some (.iaload)),
  by intros; exact G_at (by decide +kernel : fetch mL_law 563 = some (.iaload)),
  by intros; exact G_at (by decide +kernel : fetch mL_law 564 = some (.aload_n 0)),
  by intros; exact G_at (by decide +kernel : fetch mL_law 565 = some (.iload 4)),
  by intros; exact G_at (by decide +kernel : fetch mL_law 567 = some (.iconst 3)),
  by intros; exact G_at (by decide +kernel : fetch mL_law 568 = some (.iadd)),
  by intros; exact G_at (by decide +kernel : fetch mL_law 569 = some (.iaload)),
  by intros; exact G_at (by decide +kernel : fetch mL_law 569 = some (.iaload)),
  by intros; exact G_callV (by decide +kernel : fetch mL_law 570 = some (.invokevirtual 53)) (by decide +kernel) (by decide +kernel) rfl,
  by intros; exact G_at (by decide +kernel : fetch mL_law 573 = some (.aload_n 2)),
  by intros; exact G_at (by decide +kernel : fetch mL_law 574 = some (.aload_n 0)),
  by intros; exact G_at (by decide +kernel : fetch mL_law 575 = some (.iload 4)),
  by intros; exact G_at (by decide +kernel : fetch mL_law 577 = some (.iconst 1)),
  by intros; exact G_at (by decide +kernel : fetch mL_law 578 = some (.iadd)),
  by intros; exact G_at (by decide +kernel : fetch mL_law 579 = some (.iaload)),
  by intros; exact G_at (by decide +kernel : fetch mL_law 579 = some (.iaload)),
  by intros; exact G_at (by decide +kernel : fetch mL_law 580 = some (.aload_n 0)),
  by intros; exact G_at (by decide +kernel : fetch mL_law 581 = some (.iload 4)),
  by intros; exact G_at (by decide +kernel : fetch mL_law 583 = some (.iconst 2)),
  by intros; exact G_at (by decide +kernel : fetch mL_law 584 = some (.iadd)),
  by intros; exact G_at (by decide +kernel : fetch mL_law 585 = some (.iaload)),
  by intros; exact G_at (by decide +kernel : fetch mL_law 585 = some (.iaload)),
  by intros; exact G_at (by decide +kernel : fetch mL_law 586 = some (.aload_n 0)),
  by intros; exact G_at (by decide +kernel : fetch mL_law 587 = some (.iload 4)),
  by intros; exact G_at (by decide +kernel : fetch mL_law 589 = some (.iconst 3)),
  by intros; exact G_at (by decide +kernel : fetch mL_law 590 = some (.iadd)),
  by intros; exact G_at (by decide +kernel : fetch mL_law 591 = some (.iaload)),
  by intros; exact G_at (by decide +kernel : fetch mL_law 591 = some (.iaload)),
  by intros; exact G_callV (by decide +kernel : fetch mL_law 592 = some (.invokevirtual 56)) (by decide +kernel) (by decide +kernel) rfl,
  by intros; exact G_at (by decide +kernel : fetch mL_law 595 = some (.if_icmp .eq 1355)),
  by intros; exact G_at (by decide +kernel : fetch mL_law 598 = some (.iconst 0)),
  by intros; exact G_retz (by decide +kernel : fetch mL_law 599 = some (.ireturn)) (by decide +kernel)⟩
theorem gL_c8 : (∀ (n d : Nat) (L : List (Option iV)) (st : List iV) (h : iH) (Q : Option iV → iH → Prop), G sp sc [23] d mL_law (n + 1) 600 L st h Q = (match ld L 1 with | some (.inr (.inr (r + 1))) => G sp sc [23] d mL_law n 601 L (.inr (.inr (r + 1)) :: st) h Q | _ => False)) ∧
  (∀ (n d : Nat) (L : List (Option iV)) (st : List iV) (h : iH) (Q : Option iV → iH → Prop), G sp sc [23] d mL_law (n + 1) 601 L st h Q = (match ld L 0 with | some (.inr (.inr (r + 1))) => G sp sc [23] d mL_law n 602 L (.inr (.inr (r + 1)) :: st) h Q | _ => False)) ∧
  (∀ (n d : Nat) (L : List (Option iV)) (st : List iV) (h : iH) (Q : Option iV → iH → Prop), G sp sc [23] d mL_law (n + 1) 602 L st h Q = (match ld L 4 with | some (.inl x) => G sp sc [23] d mL_law n 604 L (.inl x :: st) h Q | _ => False)) ∧
  (∀ (n d : Nat) (L : List (Option iV)) (st : List iV) (h : iH) (Q : Option iV → iH → Prop), G sp sc [23] d mL_law (n + 1) 604 L st h Q = G sp sc [23] d mL_law n 605 L (.inl 1 :: st) h Q) ∧
  (∀ (n d : Nat) (L : List (Option iV)) (a : Int) (b : Int) (r : List iV) (h : iH) (Q : Option iV → iH → Prop), G sp sc [23] d mL_law (n + 1) 605 L (.inl b :: .inl a :: r) h Q = G sp sc [23] d mL_law n 606 L (.inl (a + b) :: r) h Q) ∧
  (∀ (n d : Nat) (L : List (Option iV)) (r : List iV) (j : Int) (h : iH) (Q : Option iV → iH → Prop), G sp sc [23] d mL_law (n + 1) 606 L (.inl j :: .inr (.inr 1) :: r) h Q = (inA j sc.length = true ∧ G sp sc [23] d mL_law n 607 L (.inl (sc.getD j.toNat 0) :: r) h Q)) ∧
  (∀ (n d : Nat) (L : List (Option iV)) (r : List iV) (j : Int) (m : Nat) (h : iH) (Q : Option iV → iH → Prop), G sp sc [23] d mL_law (n + 1) 606 L (.inl j :: .inr (.inr (m + 2)) :: r) h Q = (match h.1[m]? with | some (.inr (.inl (0, xs))) => inA j xs.length = true ∧ G sp sc [23] d mL_law n 607 L (.inl (xs.getD j.toNat 0) :: r) h Q | _ => False)) ∧
  (∀ (n d : Nat) (L : List (Option iV)) (st : List iV) (h : iH) (Q : Option iV → iH → Prop), G sp sc [23] d mL_law (n + 1) 607 L st h Q = (match ld L 0 with | some (.inr (.inr (r + 1))) => G sp sc [23] d mL_law n 608 L (.inr (.inr (r + 1)) :: st) h Q | _ => False)) ∧
  (∀ (n d : Nat) (L : List (Option iV)) (st : List iV) (h : iH) (Q : Option iV → iH → Prop), G sp sc [23] d mL_law (n + 1) 608 L st h Q = (match ld L 4 with | some (.inl x) => G sp sc [23] d mL_law n 610 L (.inl x :: st) h Q | _ => False)) ∧
  (∀ (n d : Nat) (L : List (Option iV)) (st : List iV) (h : iH) (Q : Option iV → iH → Prop), G sp sc [23] d mL_law (n + 1) 610 L st h Q = G sp sc [23] d mL_law n 611 L (.inl 2 :: st) h Q) ∧
  (∀ (n d : Nat) (L : List (Option iV)) (a : Int) (b : Int) (r : List iV) (h : iH) (Q : Option iV → iH → Prop), G sp sc [23] d mL_law (n + 1) 611 L (.inl b :: .inl a :: r) h Q = G sp sc [23] d mL_law n 612 L (.inl (a + b) :: r) h Q) ∧
  (∀ (n d : Nat) (L : List (Option iV)) (r : List iV) (j : Int) (h : iH) (Q : Option iV → iH → Prop), G sp sc [23] d mL_law (n + 1) 612 L (.inl j :: .inr (.inr 1) :: r) h Q = (inA j sc.length = true ∧ G sp sc [23] d mL_law n 613 L (.inl (sc.getD j.toNat 0) :: r) h Q)) ∧
  (∀ (n d : Nat) (L : List (Option iV)) (r : List iV) (j : Int) (m : Nat) (h : iH) (Q : Option iV → iH → Prop), G sp sc [23] d mL_law (n + 1) 612 L (.inl j :: .inr (.inr (m + 2)) :: r) h Q = (match h.1[m]? with | some (.inr (.inl (0, xs))) => inA j xs.length = true ∧ G sp sc [23] d mL_law n 613 L (.inl (xs.getD j.toNat 0) :: r) h Q | _ => False)) ∧
  (∀ (n d : Nat) (L : List (Option iV)) (r : List iV) (m : Nat) (z0 : iV) (z1 : iV) (h : iH) (Q : Option iV → iH → Prop), G sp sc [23] (d + 1) mL_law (n + 1) 613 L (z1 :: z0 :: .inr (.inr (m + 2)) :: r) h Q = (match h.1[m]? with | some (.inl (ci, _)) => (match lkC 13 57 ci with | some (y1, n1, kd) => (n1 = 2 ∧ (kd = 2 ∨ kd = 3 ∨ kd = 8) ∧ cs r ≤ 8) ∧ Call sp sc d y1 [.inr (.inr (m + 2)), z0, z1] h (fun q h1 => GC sp sc [23] (d + 1) mL_law n 616 L q r h h1 Q) | none => False) | _ => False)) ∧
  (∀ (n d : Nat) (L : List (Option iV)) (st : List iV) (h : iH) (Q : Option iV → iH → Prop), G sp sc [23] d mL_law (n + 1) 616 L st h Q = (match ld L 2 with | some (.inr (.inr (r + 1))) => G sp sc [23] d mL_law n 617 L (.inr (.inr (r + 1)) :: st) h Q | _ => False)) ∧
  (∀ (n d : Nat) (L : List (Option iV)) (st : List iV) (h : iH) (Q : Option iV → iH → Prop), G sp sc [23] d mL_law (n + 1) 617 L st h Q = (match ld L 0 with | some (.inr (.inr (r + 1))) => G sp sc [23] d mL_law n 618 L (.inr (.inr (r + 1)) :: st) h Q | _ => False)) ∧
  (∀ (n d : Nat) (L : List (Option iV)) (st : List iV) (h : iH) (Q : Option iV → iH → Prop), G sp sc [23] d mL_law (n + 1) 618 L st h Q = (match ld L 4 with | some (.inl x) => G sp sc [23] d mL_law n 620 L (.inl x :: st) h Q | _ => False)) ∧
  (∀ (n d : Nat) (L : List (Option iV)) (st : List iV) (h : iH) (Q : Option iV → iH → Prop), G sp sc [23] d mL_law (n + 1) 620 L st h Q = G sp sc [23] d mL_law n 621 L (.inl 1 :: st) h Q) ∧
  (∀ (n d : Nat) (L : List (Option iV)) (a : Int) (b : Int) (r : List iV) (h : iH) (Q : Option iV → iH → Prop), G sp sc [23] d mL_law (n + 1) 621 L (.inl b :: .inl a :: r) h Q = G sp sc [23] d mL_law n 622 L (.inl (a + b) :: r) h Q) ∧
  (∀ (n d : Nat) (L : List (Option iV)) (r : List iV) (j : Int) (h : iH) (Q : Option iV → iH → Prop), G sp sc [23] d mL_law (n + 1) 622 L (.inl j :: .inr (.inr 1) :: r) h Q = (inA j sc.length = true ∧ G sp sc [23] d mL_law n 623 L (.inl (sc.getD j.toNat 0) :: r) h Q)) ∧
  (∀ (n d : Nat) (L : List (Option iV)) (r : List iV) (j : Int) (m : Nat) (h : iH) (Q : Option iV → iH → Prop), G sp sc [23] d mL_law (n + 1) 622 L (.inl j :: .inr (.inr (m + 2)) :: r) h Q = (match h.1[m]? with | some (.inr (.inl (0, xs))) => inA j xs.length = true ∧ G sp sc [23] d mL_law n 623 L (.inl (xs.getD j.toNat 0) :: r) h Q | _ => False)) ∧
  (∀ (n d : Nat) (L : List (Option iV)) (st : List iV) (h : iH) (Q : Option iV → iH → Prop), G sp sc [23] d mL_law (n + 1) 623 L st h Q = (match ld L 0 with | some (.inr (.inr (r + 1))) => G sp sc [23] d mL_law n 624 L (.inr (.inr (r + 1)) :: st) h Q | _ => False)) ∧
  (∀ (n d : Nat) (L : List (Option iV)) (st : List iV) (h : iH) (Q : Option iV → iH → Prop), G sp sc [23] d mL_law (n + 1) 624 L st h Q = (match ld L 4 with | some (.inl x) => G sp sc [23] d mL_law n 626 L (.inl x :: st) h Q | _ => False)) ∧
  (∀ (n d : Nat) (L : List (Option iV)) (st : List iV) (h : iH) (Q : Option iV → iH → Prop), G sp sc [23] d mL_law (n + 1) 626 L st h Q = G sp sc [23] d mL_law n 627 L (.inl 2 :: st) h Q) ∧
  (∀ (n d : Nat) (L : List (Option iV)) (a : Int) (b : Int) (r : List iV) (h : iH) (Q : Option iV → iH → Prop), G sp sc [23] d mL_law (n + 1) 627 L (.inl b :: .inl a :: r) h Q = G sp sc [23] d mL_law n 628 L (.inl (a + b) :: r) h Q) ∧
  (∀ (n d : Nat) (L : List (Option iV)) (r : List iV) (j : Int) (h : iH) (Q : Option iV → iH → Prop), G sp sc [23] d mL_law (n + 1) 628 L (.inl j :: .inr (.inr 1) :: r) h Q = (inA j sc.length = true ∧ G sp sc [23] d mL_law n 629 L (.inl (sc.getD j.toNat 0) :: r) h Q)) ∧
  (∀ (n d : Nat) (L : List (Option iV)) (r : List iV) (j : Int) (m : Nat) (h : iH) (Q : Option iV → iH → Prop), G sp sc [23] d mL_law (n + 1) 628 L (.inl j :: .inr (.inr (m + 2)) :: r) h Q = (match h.1[m]? with | some (.inr (.inl (0, xs))) => inA j xs.length = true ∧ G sp sc [23] d mL_law n 629 L (.inl (xs.getD j.toNat 0) :: r) h Q | _ => False)) ∧
  (∀ (n d : Nat) (L : List (Option iV)) (r : List iV) (m : Nat) (z0 : iV) (z1 : iV) (h : iH) (Q : Option iV → iH → Prop), G sp sc [23] (d + 1) mL_law (n + 1) 629 L (z1 :: z0 :: .inr (.inr (m + 2)) :: r) h Q = (match h.1[m]? with | some (.inl (ci, _)) => (match lkC 13 60 ci with | some (y1, n1, kd) => (n1 = 2 ∧ (kd = 2 ∨ kd = 3 ∨ kd = 8) ∧ cs r ≤ 8) ∧ Call sp sc d y1 [.inr (.inr (m + 2)), z0, z1] h (fun q h1 => GC sp sc [23] (d + 1) mL_law n 632 L q r h h1 Q) | none => False) | _ => False)) ∧
  (∀ (n d : Nat) (L : List (Option iV)) (a : Int) (b : Int) (r : List iV) (h : iH) (Q : Option iV → iH → Prop), G sp sc [23] d mL_law (n + 1) 632 L (.inl b :: .inl a :: r) h Q = ((inI a = true ∧ inI b = true) ∧ (a = b → G sp sc [23] d mL_law n 1950 L r h Q) ∧ (¬ (a = b) → G sp sc [23] d mL_law n 635 L r h Q))) ∧
  (∀ (n d : Nat) (L : List (Option iV)) (st : List iV) (h : iH) (Q : Option iV → iH → Prop), G sp sc [23] d mL_law (n + 1) 635 L st h Q = G sp sc [23] d mL_law n 636 L (.inl 0 :: st) h Q) ∧
  (∀ (n d : Nat) (L : List (Option iV)) (a : Int) (h : iH) (Q : Option iV → iH → Prop), G sp sc [23] d mL_law (n + 1) 636 L [.inl a] h Q = ((a = 0 ∨ a = 1) ∧ Q (some (.inl a)) h)) := ⟨by intros; exact G_at (by decide +kernel : fetch mL_law 600 = some (.aload_n 1)),
  by intros; exact G_at (by decide +kernel : fetch mL_law 601 = some (.aload_n 0)),
  by intros; exact G_at (by decide +kernel : fetch mL_law 602 = some (.iload 4)),
  by intros; exact G_at (by decide +kernel : fetch mL_law 604 = some (.iconst 1)),
  by intros; exact G_at (by decide +kernel : fetch mL_law 605 = some (.iadd)),
  by intros; exact G_at (by decide +kernel : fetch mL_law 606 = some (.iaload)),
  by intros; exact G_at (by decide +kernel : fetch mL_law 606 = some (.iaload)),
  by intros; exact G_at (by decide +kernel : fetch mL_law 607 = some (.aload_n 0)),
  by intros; exact G_at (by decide +kernel : fetch mL_law 608 = some (.iload 4)),
  by intros; exact G_at (by decide +kernel : fetch mL_law 610 = some (.iconst 2)),
  by intros; exact G_at (by decide +kernel : fetch mL_law 611 = some (.iadd)),
  by intros; exact G_at (by decide +kernel : fetch mL_law 612 = some (.iaload)),
  by intros; exact G_at (by decide +kernel : fetch mL_law 612 = some (.iaload)),
  by intros; exact G_callV (by decide +kernel : fetch mL_law 613 = some (.invokevirtual 57)) (by decide +kernel) (by decide +kernel) rfl,
  by intros; exact G_at (by decide +kernel : fetch mL_law 616 = some (.aload_n 2)),
  by intros; exact G_at (by decide +kernel : fetch mL_law 617 = some (.aload_n 0)),
  by intros; exact G_at (by decide +kernel : fetch mL_law 618 = some (.iload 4)),
  by intros; exact G_at (by decide +kernel : fetch mL_law 620 = some (.iconst 1)),
  by intros; exact G_at (by decide +kernel : fetch mL_law 621 = some (.iadd)),
  by intros; exact G_at (by decide +kernel : fetch mL_law 622 = some (.iaload)),
  by intros; exact G_at (by decide +kernel : fetch mL_law 622 = some (.iaload)),
  by intros; exact G_at (by decide +kernel : fetch mL_law 623 = some (.aload_n 0)),
  by intros; exact G_at (by decide +kernel : fetch mL_law 624 = some (.iload 4)),
  by intros; exact G_at (by decide +kernel : fetch mL_law 626 = some (.iconst 2)),
  by intros; exact G_at (by decide +kernel : fetch mL_law 627 = some (.iadd)),
  by intros; exact G_at (by decide +kernel : fetch mL_law 628 = some (.iaload)),
  by intros; exact G_at (by decide +kernel : fetch mL_law 628 = some (.iaload)),
  by intros; exact G_callV (by decide +kernel : fetch mL_law 629 = some (.invokevirtual 60)) (by decide +kernel) (by decide +kernel) rfl,
  by intros; exact G_at (by decide +kernel : fetch mL_law 632 = some (.if_icmp .eq 1318)),
  by intros; exact G_at (by decide +kernel : fetch mL_law 635 = some (.iconst 0)),
  by intros; exact G_retz (by decide +kernel : fetch mL_law 636 = some (.ireturn)) (by decide +kernel)⟩
theorem gL_c9 : (∀ (n d : Nat) (L : List (Option iV)) (st : List iV) (h : iH) (Q : Option iV → iH → Prop), G sp sc [23] d mL_law (n + 1) 637 L st h Q = (match ld L 1 with | some (.inr (.inr (r + 1))) => G sp sc [23] d mL_law n 638 L (.inr (.inr (r + 1)) :: st) h Q | _ => False)) ∧
  (∀ (n d : Nat) (L : List (Option iV)) (st : List iV) (h : iH) (Q : Option iV → iH → Prop), G sp sc [23] d mL_law (n + 1) 638 L st h Q = (match ld L 0 with | some (.inr (.inr (r + 1))) => G sp sc [23] d mL_law n 639 L (.inr (.inr (r + 1)) :: st) h Q | _ => False)) ∧
  (∀ (n d : Nat) (L : List (Option iV)) (st : List iV) (h : iH) (Q : Option iV → iH → Prop), G sp sc [23] d mL_law (n + 1) 639 L st h Q = (match ld L 4 with | some (.inl x) => G sp sc [23] d mL_law n 641 L (.inl x :: st) h Q | _ => False)) ∧
  (∀ (n d : Nat) (L : List (Option iV)) (st : List iV) (h : iH) (Q : Option iV → iH → Prop), G sp sc [23] d mL_law (n + 1) 641 L st h Q = G sp sc [23] d mL_law n 642 L (.inl 1 :: st) h Q) ∧
  (∀ (n d : Nat) (L : List (Option iV)) (a : Int) (b : Int) (r : List iV) (h : iH) (Q : Option iV → iH → Prop), G sp sc [23] d mL_law (n + 1) 642 L (.inl b :: .inl a :: r) h Q = G sp sc [23] d mL_law n 643 L (.inl (a + b) :: r) h Q) ∧
  (∀ (n d : Nat) (L : List (Option iV)) (r : List iV) (j : Int) (h : iH) (Q : Option iV → iH → Prop), G sp sc [23] d mL_law (n + 1) 643 L (.inl j :: .inr (.inr 1) :: r) h Q = (inA j sc.length = true ∧ G sp sc [23] d mL_law n 644 L (.inl (sc.getD j.toNat 0) :: r) h Q)) ∧
  (∀ (n d : Nat) (L : List (Option iV)) (r : List iV) (j : Int) (m : Nat) (h : iH) (Q : Option iV → iH → Prop), G sp sc [23] d mL_law (n + 1) 643 L (.inl j :: .inr (.inr (m + 2)) :: r) h Q = (match h.1[m]? with | some (.inr (.inl (0, xs))) => inA j xs.length = true ∧ G sp sc [23] d mL_law n 644 L (.inl (xs.getD j.toNat 0) :: r) h Q | _ => False)) ∧
  (∀ (n d : Nat) (L : List (Option iV)) (st : List iV) (h : iH) (Q : Option iV → iH → Prop), G sp sc [23] d mL_law (n + 1) 644 L st h Q = (match ld L 0 with | some (.inr (.inr (r + 1))) => G sp sc [23] d mL_law n 645 L (.inr (.inr (r + 1)) :: st) h Q | _ => False)) ∧
  (∀ (n d : Nat) (L : List (Option iV)) (st : List iV) (h : iH) (Q : Option iV → iH → Prop), G sp sc [23] d mL_law (n + 1) 645 L st h Q = (match ld L 4 with | some (.inl x) => G sp sc [23] d mL_law n 647 L (.inl x :: st) h Q | _ => False)) ∧
  (∀ (n d : Nat) (L : List (Option iV)) (st : List iV) (h : iH) (Q : Option iV → iH → Prop), G sp sc [23] d mL_law (n + 1) 647 L st h Q = G sp sc [23] d mL_law n 648 L (.inl 2 :: st) h Q) ∧
  (∀ (n d : Nat) (L : List (Option iV)) (a : Int) (b : Int) (r : List iV) (h : iH) (Q : Option iV → iH → Prop), G sp sc [23] d mL_law (n + 1) 648 L (.inl b :: .inl a :: r) h Q = G sp sc [23] d mL_law n 649 L (.inl (a + b) :: r) h Q) ∧
  (∀ (n d : Nat) (L : List (Option iV)) (r : List iV) (j : Int) (h : iH) (Q : Option iV → iH → Prop), G sp sc [23] d mL_law (n + 1) 649 L (.inl j :: .inr (.inr 1) :: r) h Q = (inA j sc.length = true ∧ G sp sc [23] d mL_law n 650 L (.inl (sc.getD j.toNat 0) :: r) h Q)) ∧
  (∀ (n d : Nat) (L : List (Option iV)) (r : List iV) (j : Int) (m : Nat) (h : iH) (Q : Option iV → iH → Prop), G sp sc [23] d mL_law (n + 1) 649 L (.inl j :: .inr (.inr (m + 2)) :: r) h Q = (match h.1[m]? with | some (.inr (.inl (0, xs))) => inA j xs.length = true ∧ G sp sc [23] d mL_law n 650 L (.inl (xs.getD j.toNat 0) :: r) h Q | _ => False)) ∧
  (∀ (n d : Nat) (L : List (Option iV)) (r : List iV) (m : Nat) (z0 : iV) (z1 : iV) (h : iH) (Q : Option iV → iH → Prop), G sp sc [23] (d + 1) mL_law (n + 1) 650 L (z1 :: z0 :: .inr (.inr (m + 2)) :: r) h Q = (match h.1[m]? with | some (.inl (ci, _)) => (match lkC 13 61 ci with | some (y1, n1, kd) => (n1 = 2 ∧ (kd = 2 ∨ kd = 3 ∨ kd = 8) ∧ cs r ≤ 8) ∧ Call sp sc d y1 [.inr (.inr (m + 2)), z0, z1] h (fun q h1 => GC sp sc [23] (d + 1) mL_law n 653 L q r h h1 Q) | none => False) | _ => False)) ∧
  (∀ (n d : Nat) (L : List (Option iV)) (st : List iV) (h : iH) (Q : Option iV → iH → Prop), G sp sc [23] d mL_law (n + 1) 653 L st h Q = (match ld L 2 with | some (.inr (.inr (r + 1))) => G sp sc [23] d mL_law n 654 L (.inr (.inr (r + 1)) :: st) h Q | _ => False)) ∧
  (∀ (n d : Nat) (L : List (Option iV)) (st : List iV) (h : iH) (Q : Option iV → iH → Prop), G sp sc [23] d mL_law (n + 1) 654 L st h Q = (match ld L 0 with | some (.inr (.inr (r + 1))) => G sp sc [23] d mL_law n 655 L (.inr (.inr (r + 1)) :: st) h Q | _ => False)) ∧
  (∀ (n d : Nat) (L : List (Option iV)) (st : List iV) (h : iH) (Q : Option iV → iH → Prop), G sp sc [23] d mL_law (n + 1) 655 L st h Q = (match ld L 4 with | some (.inl x) => G sp sc [23] d mL_law n 657 L (.inl x :: st) h Q | _ => False)) ∧
  (∀ (n d : Nat) (L : List (Option iV)) (st : List iV) (h : iH) (Q : Option iV → iH → Prop), G sp sc [23] d mL_law (n + 1) 657 L st h Q = G sp sc [23] d mL_law n 658 L (.inl 1 :: st) h Q) ∧
  (∀ (n d : Nat) (L : List (Option iV)) (a : Int) (b : Int) (r : List iV) (h : iH) (Q : Option iV → iH → Prop), G sp sc [23] d mL_law (n + 1) 658 L (.inl b :: .inl a :: r) h Q = G sp sc [23] d mL_law n 659 L (.inl (a + b) :: r) h Q) ∧
  (∀ (n d : Nat) (L : List (Option iV)) (r : List iV) (j : Int) (h : iH) (Q : Option iV → iH → Prop), G sp sc [23] d mL_law (n + 1) 659 L (.inl j :: .inr (.inr 1) :: r) h Q = (inA j sc.length = true ∧ G sp sc [23] d mL_law n 660 L (.inl (sc.getD j.toNat 0) :: r) h Q)) ∧
  (∀ (n d : Nat) (L : List (Option iV)) (r : List iV) (j : Int) (m : Nat) (h : iH) (Q : Option iV → iH → Prop), G sp sc [23] d mL_law (n + 1) 659 L (.inl j :: .inr (.inr (m + 2)) :: r) h Q = (match h.1[m]? with | some (.inr (.inl (0, xs))) => inA j xs.length = true ∧ G sp sc [23] d mL_law n 660 L (.inl (xs.getD j.toNat 0) :: r) h Q | _ => False)) ∧
  (∀ (n d : Nat) (L : List (Option iV)) (st : List iV) (h : iH) (Q : Option iV → iH → Prop), G sp sc [23] d mL_law (n + 1) 660 L st h Q = (match ld L 0 with | some (.inr (.inr (r + 1))) => G sp sc [23] d mL_law n 661 L (.inr (.inr (r + 1)) :: st) h Q | _ => False)) ∧
  (∀ (n d : Nat) (L : List (Option iV)) (st : List iV) (h : iH) (Q : Option iV → iH → Prop), G sp sc [23] d mL_law (n + 1) 661 L st h Q = (match ld L 4 with | some (.inl x) => G sp sc [23] d mL_law n 663 L (.inl x :: st) h Q | _ => False)) ∧
  (∀ (n d : Nat) (L : List (Option iV)) (st : List iV) (h : iH) (Q : Option iV → iH → Prop), G sp sc [23] d mL_law (n + 1) 663 L st h Q = G sp sc [23] d mL_law n 664 L (.inl 2 :: st) h Q) ∧
  (∀ (n d : Nat) (L : List (Option iV)) (a : Int) (b : Int) (r : List iV) (h : iH) (Q : Option iV → iH → Prop), G sp sc [23] d mL_law (n + 1) 664 L (.inl b :: .inl a :: r) h Q = G sp sc [23] d mL_law n 665 L (.inl (a + b) :: r) h Q) ∧
  (∀ (n d : Nat) (L : List (Option iV)) (r : List iV) (j : Int) (h : iH) (Q : Option iV → iH → Prop), G sp sc [23] d mL_law (n + 1) 665 L (.inl j :: .inr (.inr 1) :: r) h Q = (inA j sc.length = true ∧ G sp sc [23] d mL_law n 666 L (.inl (sc.getD j.toNat 0) :: r) h Q)) ∧
  (∀ (n d : Nat) (L : List (Option iV)) (r : List iV) (j : Int) (m : Nat) (h : iH) (Q : Option iV → iH → Prop), G sp sc [23] d mL_law (n + 1) 665 L (.inl j :: .inr (.inr (m + 2)) :: r) h Q = (match h.1[m]? with | some (.inr (.inl (0, xs))) => inA j xs.length = true ∧ G sp sc [23] d mL_law n 666 L (.inl (xs.getD j.toNat 0) :: r) h Q | _ => False)) ∧
  (∀ (n d : Nat) (L : List (Option iV)) (r : List iV) (m : Nat) (z0 : iV) (z1 : iV) (h : iH) (Q : Option iV → iH → Prop), G sp sc [23] (d + 1) mL_law (n + 1) 666 L (z1 :: z0 :: .inr (.inr (m + 2)) :: r) h Q = (match h.1[m]? with | some (.inl (ci, _)) => (match lkC 13 64 ci with | some (y1, n1, kd) => (n1 = 2 ∧ (kd = 2 ∨ kd = 3 ∨ kd = 8) ∧ cs r ≤ 8) ∧ Call sp sc d y1 [.inr (.inr (m + 2)), z0, z1] h (fun q h1 => GC sp sc [23] (d + 1) mL_law n 669 L q r h h1 Q) | none => False) | _ => False)) ∧
  (∀ (n d : Nat) (L : List (Option iV)) (a : Int) (b : Int) (r : List iV) (h : iH) (Q : Option iV → iH → Prop), G sp sc [23] d mL_law (n + 1) 669 L (.inl b :: .inl a :: r) h Q = ((inI a = true ∧ inI b = true) ∧ (a = b → G sp sc [23] d mL_law n 1950 L r h Q) ∧ (¬ (a = b) → G sp sc [23] d mL_law n 672 L r h Q))) ∧
  (∀ (n d : Nat) (L : List (Option iV)) (st : List iV) (h : iH) (Q : Option iV → iH → Prop), G sp sc [23] d mL_law (n + 1) 672 L st h Q = G sp sc [23] d mL_law n 673 L (.inl 0 :: st) h Q) ∧
  (∀ (n d : Nat) (L : List (Option iV)) (a : Int) (h : iH) (Q : Option iV → iH → Prop), G sp sc [23] d mL_law (n + 1) 673 L [.inl a] h Q = ((a = 0 ∨ a = 1) ∧ Q (some (.inl a)) h)) := ⟨by intros; exact G_at (by decide +kernel : fetch mL_law 637 = some (.aload_n 1)),
  by intros; exact G_at (by decide +kernel : fetch mL_law 638 = some (.aload_n 0)),
  by intros; exact G_at (by decide +kernel : fetch mL_law 639 = some (.iload 4)),
  by intros; exact G_at (by decide +kernel : fetch mL_law 641 = some (.iconst 1)),
  by intros; exact G_at (by decide +kernel : fetch mL_law 642 = some (.iadd)),
  by intros; exact G_at (by decide +kernel : fetch mL_law 643 = some (.iaload)),
  by intros; exact G_at (by decide +kernel : fetch mL_law 643 = some (.iaload)),
  by intros; exact G_at (by decide +kernel : fetch mL_law 644 = some (.aload_n 0)),
  by intros; exact G_at (by decide +kernel : fetch mL_law 645 = some (.iload 4)),
  by intros; exact G_at (by decide +kernel : fetch mL_law 647 = some (.iconst 2)),
  by intros; exact G_at (by decide +kernel : fetch mL_law 648 = some (.iadd)),
  by intros; exact G_at (by decide +kernel : fetch mL_law 649 = some (.iaload)),
  by intros; exact G_at (by decide +kernel : fetch mL_law 649 = some (.iaload)),
  by intros; exact G_callV (by decide +kernel : fetch mL_law 650 = some (.invokevirtual 61)) (by decide +kernel) (by decide +kernel) rfl,
  by intros; exact G_at (by decide +kernel : fetch mL_law 653 = some (.aload_n 2)),
  by intros; exact G_at (by decide +kernel : fetch mL_law 654 = some (.aload_n 0)),
  by intros; exact G_at (by decide +kernel : fetch mL_law 655 = some (.iload 4)),
  by intros; exact G_at (by decide +kernel : fetch mL_law 657 = some (.iconst 1)),
  by intros; exact G_at (by decide +kernel : fetch mL_law 658 = some (.iadd)),
  by intros; exact G_at (by decide +kernel : fetch mL_law 659 = some (.iaload)),
  by intros; exact G_at (by decide +kernel : fetch mL_law 659 = some (.iaload)),
  by intros; exact G_at (by decide +kernel : fetch mL_law 660 = some (.aload_n 0)),
  by intros; exact G_at (by decide +kernel : fetch mL_law 661 = some (.iload 4)),
  by intros; exact G_at (by decide +kernel : fetch mL_law 663 = some (.iconst 2)),
  by intros; exact G_at (by decide +kernel : fetch mL_law 664 = some (.iadd)),
  by intros; exact G_at (by decide +kernel : fetch mL_law 665 = some (.iaload)),
  by intros; exact G_at (by decide +kernel : fetch mL_law 665 = some (.iaload)),
  by intros; exact G_callV (by decide +kernel : fetch mL_law 666 = some (.invokevirtual 64)) (by decide +kernel) (by decide +kernel) rfl,
  by intros; exact G_at (by decide +kernel : fetch mL_law 669 = some (.if_icmp .eq 1281)),
  by intros; exact G_at (by decide +kernel : fetch mL_law 672 = some (.iconst 0)),
  by intros; exact G_retz (by decide +kernel : fetch mL_law 673 = some (.ireturn)) (by decide +kernel)⟩
theorem gL_c10 : (∀ (n d : Nat) (L : List (Option iV)) (st : List iV) (h : iH) (Q : Option iV → iH → Prop), G sp sc [23] d mL_law (n + 1) 674 L st h Q = (match ld L 1 with | some (.inr (.inr (r + 1))) => G sp sc [23] d mL_law n 675 L (.inr (.inr (r + 1)) :: st) h Q | _ => False)) ∧
  (∀ (n d : Nat) (L : List (Option iV)) (st : List iV) (h : iH) (Q : Option iV → iH → Prop), G sp sc [23] d mL_law (n + 1) 675 L st h Q = (match ld L 0 with | some (.inr (.inr (r + 1))) => G sp sc [23] d mL_law n 676 L (.inr (.inr (r + 1)) :: st) h Q | _ => False)) ∧
  (∀ (n d : Nat) (L : List (Option iV)) (st : List iV) (h : iH) (Q : Option iV → iH → Prop), G sp sc [23] d mL_law (n + 1) 676 L st h Q = (match ld L 4 with | some (.inl x) => G sp sc [23] d mL_law n 678 L (.inl x :: st) h Q | _ => False)) ∧
  (∀ (n d : Nat) (L : List (Option iV)) (st : List iV) (h : iH) (Q : Option iV → iH → Prop), G sp sc [23] d mL_law (n + 1) 678 L st h Q = G sp sc [23] d mL_law n 679 L (.inl 1 :: st) h Q) ∧
  (∀ (n d : Nat) (L : List (Option iV)) (a : Int) (b : Int) (r : List iV) (h : iH) (Q : Option iV → iH → Prop), G sp sc [23] d mL_law (n + 1) 679 L (.inl b :: .inl a :: r) h Q = G sp sc [23] d mL_law n 680 L (.inl (a + b) :: r) h Q) ∧
  (∀ (n d : Nat) (L : List (Option iV)) (r : List iV) (j : Int) (h : iH) (Q : Option iV → iH → Prop), G sp sc [23] d mL_law (n + 1) 680 L (.inl j :: .inr (.inr 1) :: r) h Q = (inA j sc.length = true ∧ G sp sc [23] d mL_law n 681 L (.inl (sc.getD j.toNat 0) :: r) h Q)) ∧
  (∀ (n d : Nat) (L : List (Option iV)) (r : List iV) (j : Int) (m : Nat) (h : iH) (Q : Option iV → iH → Prop), G sp sc [23] d mL_law (n + 1) 680 L (.inl j :: .inr (.inr (m + 2)) :: r) h Q = (match h.1[m]? with | some (.inr (.inl (0, xs))) => inA j xs.length = true ∧ G sp sc [23] d mL_law n 681 L (.inl (xs.getD j.toNat 0) :: r) h Q | _ => False)) ∧
  (∀ (n d : Nat) (L : List (Option iV)) (st : List iV) (h : iH) (Q : Option iV → iH → Prop), G sp sc [23] d mL_law (n + 1) 681 L st h Q = (match ld L 0 with | some (.inr (.inr (r + 1))) => G sp sc [23] d mL_law n 682 L (.inr (.inr (r + 1)) :: st) h Q | _ => False)) ∧
  (∀ (n d : Nat) (L : List (Option iV)) (st : List iV) (h : iH) (Q : Option iV → iH → Prop), G sp sc [23] d mL_law (n + 1) 682 L st h Q = (match ld L 4 with | some (.inl x) => G sp sc [23] d mL_law n 684 L (.inl x :: st) h Q | _ => False)) ∧
  (∀ (n d : Nat) (L : List (Option iV)) (st : List iV) (h : iH) (Q : Option iV → iH → Prop), G sp sc [23] d mL_law (n + 1) 684 L st h Q = G sp sc [23] d mL_law n 685 L (.inl 2 :: st) h Q) ∧
  (∀ (n d : Nat) (L : List (Option iV)) (a : Int) (b : Int) (r : List iV) (h : iH) (Q : Option iV → iH → Prop), G sp sc [23] d mL_law (n + 1) 685 L (.inl b :: .inl a :: r) h Q = G sp sc [23] d mL_law n 686 L (.inl (a + b) :: r) h Q) ∧
  (∀ (n d : Nat) (L : List (Option iV)) (r : List iV) (j : Int) (h : iH) (Q : Option iV → iH → Prop), G sp sc [23] d mL_law (n + 1) 686 L (.inl j :: .inr (.inr 1) :: r) h Q = (inA j sc.length = true ∧ G sp sc [23] d mL_law n 687 L (.inl (sc.getD j.toNat 0) :: r) h Q)) ∧
  (∀ (n d : Nat) (L : List (Option iV)) (r : List iV) (j : Int) (m : Nat) (h : iH) (Q : Option iV → iH → Prop), G sp sc [23] d mL_law (n + 1) 686 L (.inl j :: .inr (.inr (m + 2)) :: r) h Q = (match h.1[m]? with | some (.inr (.inl (0, xs))) => inA j xs.length = true ∧ G sp sc [23] d mL_law n 687 L (.inl (xs.getD j.toNat 0) :: r) h Q | _ => False)) ∧
  (∀ (n d : Nat) (L : List (Option iV)) (r : List iV) (m : Nat) (z0 : iV) (z1 : iV) (h : iH) (Q : Option iV → iH → Prop), G sp sc [23] (d + 1) mL_law (n + 1) 687 L (z1 :: z0 :: .inr (.inr (m + 2)) :: r) h Q = (match h.1[m]? with | some (.inl (ci, _)) => (match lkC 13 65 ci with | some (y1, n1, kd) => (n1 = 2 ∧ (kd = 2 ∨ kd = 3 ∨ kd = 8) ∧ cs r ≤ 8) ∧ Call sp sc d y1 [.inr (.inr (m + 2)), z0, z1] h (fun q h1 => GC sp sc [23] (d + 1) mL_law n 690 L q r h h1 Q) | none => False) | _ => False)) ∧
  (∀ (n d : Nat) (L : List (Option iV)) (st : List iV) (h : iH) (Q : Option iV → iH → Prop), G sp sc [23] d mL_law (n + 1) 690 L st h Q = (match ld L 2 with | some (.inr (.inr (r + 1))) => G sp sc [23] d mL_law n 691 L (.inr (.inr (r + 1)) :: st) h Q | _ => False)) ∧
  (∀ (n d : Nat) (L : List (Option iV)) (st : List iV) (h : iH) (Q : Option iV → iH → Prop), G sp sc [23] d mL_law (n + 1) 691 L st h Q = (match ld L 0 with | some (.inr (.inr (r + 1))) => G sp sc [23] d mL_law n 692 L (.inr (.inr (r + 1)) :: st) h Q | _ => False)) ∧
  (∀ (n d : Nat) (L : List (Option iV)) (st : List iV) (h : iH) (Q : Option iV → iH → Prop), G sp sc [23] d mL_law (n + 1) 692 L st h Q = (match ld L 4 with | some (.inl x) => G sp sc [23] d mL_law n 694 L (.inl x :: st) h Q | _ => False)) ∧
  (∀ (n d : Nat) (L : List (Option iV)) (st : List iV) (h : iH) (Q : Option iV → iH → Prop), G sp sc [23] d mL_law (n + 1) 694 L st h Q = G sp sc [23] d mL_law n 695 L (.inl 1 :: st) h Q) ∧
  (∀ (n d : Nat) (L : List (Option iV)) (a : Int) (b : Int) (r : List iV) (h : iH) (Q : Option iV → iH → Prop), G sp sc [23] d mL_law (n + 1) 695 L (.inl b :: .inl a :: r) h Q = G sp sc [23] d mL_law n 696 L (.inl (a + b) :: r) h Q) ∧
  (∀ (n d : Nat) (L : List (Option iV)) (r : List iV) (j : Int) (h : iH) (Q : Option iV → iH → Prop), G sp sc [23] d mL_law (n + 1) 696 L (.inl j :: .inr (.inr 1) :: r) h Q = (inA j sc.length = true ∧ G sp sc [23] d mL_law n 697 L (.inl (sc.getD j.toNat 0) :: r) h Q)) ∧
  (∀ (n d : Nat) (L : List (Option iV)) (r : List iV) (j : Int) (m : Nat) (h : iH) (Q : Option iV → iH → Prop), G sp sc [23] d mL_law (n + 1) 696 L (.inl j :: .inr (.inr (m + 2)) :: r) h Q = (match h.1[m]? with | some (.inr (.inl (0, xs))) => inA j xs.length = true ∧ G sp sc [23] d mL_law n 697 L (.inl (xs.getD j.toNat 0) :: r) h Q | _ => False)) ∧
  (∀ (n d : Nat) (L : List (Option iV)) (st : List iV) (h : iH) (Q : Option iV → iH → Prop), G sp sc [23] d mL_law (n + 1) 697 L st h Q = (match ld L 0 with | some (.inr (.inr (r + 1))) => G sp sc [23] d mL_law n 698 L (.inr (.inr (r + 1)) :: st) h Q | _ => False)) ∧
  (∀ (n d : Nat) (L : List (Option iV)) (st : List iV) (h : iH) (Q : Option iV → iH → Prop), G sp sc [23] d mL_law (n + 1) 698 L st h Q = (match ld L 4 with | some (.inl x) => G sp sc [23] d mL_law n 700 L (.inl x :: st) h Q | _ => False)) ∧
  (∀ (n d : Nat) (L : List (Option iV)) (st : List iV) (h : iH) (Q : Option iV → iH → Prop), G sp sc [23] d mL_law (n + 1) 700 L st h Q = G sp sc [23] d mL_law n 701 L (.inl 2 :: st) h Q) ∧
  (∀ (n d : Nat) (L : List (Option iV)) (a : Int) (b : Int) (r : List iV) (h : iH) (Q : Option iV → iH → Prop), G sp sc [23] d mL_law (n + 1) 701 L (.inl b :: .inl a :: r) h Q = G sp sc [23] d mL_law n 702 L (.inl (a + b) :: r) h Q) ∧
  (∀ (n d : Nat) (L : List (Option iV)) (r : List iV) (j : Int) (h : iH) (Q : Option iV → iH → Prop), G sp sc [23] d mL_law (n + 1) 702 L (.inl j :: .inr (.inr 1) :: r) h Q = (inA j sc.length = true ∧ G sp sc [23] d mL_law n 703 L (.inl (sc.getD j.toNat 0) :: r) h Q)) ∧
  (∀ (n d : Nat) (L : List (Option iV)) (r : List iV) (j : Int) (m : Nat) (h : iH) (Q : Option iV → iH → Prop), G sp sc [23] d mL_law (n + 1) 702 L (.inl j :: .inr (.inr (m + 2)) :: r) h Q = (match h.1[m]? with | some (.inr (.inl (0, xs))) => inA j xs.length = true ∧ G sp sc [23] d mL_law n 703 L (.inl (xs.getD j.toNat 0) :: r) h Q | _ => False)) ∧
  (∀ (n d : Nat) (L : List (Option iV)) (r : List iV) (m : Nat) (z0 : iV) (z1 : iV) (h : iH) (Q : Option iV → iH → Prop), G sp sc [23] (d + 1) mL_law (n + 1) 703 L (z1 :: z0 :: .inr (.inr (m + 2)) :: r) h Q = (match h.1[m]? with | some (.inl (ci, _)) => (match lkC 13 68 ci with | some (y1, n1, kd) => (n1 = 2 ∧ (kd = 2 ∨ kd = 3 ∨ kd = 8) ∧ cs r ≤ 8) ∧ Call sp sc d y1 [.inr (.inr (m + 2)), z0, z1] h (fun q h1 => GC sp sc [23] (d + 1) mL_law n 706 L q r h h1 Q) | none => False) | _ => False)) ∧
  (∀ (n d : Nat) (L : List (Option iV)) (a : Int) (b : Int) (r : List iV) (h : iH) (Q : Option iV → iH → Prop), G sp sc [23] d mL_law (n + 1) 706 L (.inl b :: .inl a :: r) h Q = ((inI a = true ∧ inI b = true) ∧ (a = b → G sp sc [23] d mL_law n 1950 L r h Q) ∧ (¬ (a = b) → G sp sc [23] d mL_law n 709 L r h Q))) ∧
  (∀ (n d : Nat) (L : List (Option iV)) (st : List iV) (h : iH) (Q : Option iV → iH → Prop), G sp sc [23] d mL_law (n + 1) 709 L st h Q = G sp sc [23] d mL_law n 710 L (.inl 0 :: st) h Q) ∧
  (∀ (n d : Nat) (L : List (Option iV)) (a : Int) (h : iH) (Q : Option iV → iH → Prop), G sp sc [23] d mL_law (n + 1) 710 L [.inl a] h Q = ((a = 0 ∨ a = 1) ∧ Q (some (.inl a)) h)) := ⟨by intros; exact G_at (by decide +kernel : fetch mL_law 674 = some (.aload_n 1)),
  by intros; exact G_at (by decide +kernel : fetch mL_law 675 = some (.aload_n 0)),
  by intros; exact G_at (by decide +kernel : fetch mL_law 676 = some (.iload 4)),
  by intros; exact G_at (by decide +kernel : fetch mL_law 678 = some (.iconst 1)),
  by intros; exact G_at (by decide +kernel : fetch mL_law 679 = some (.iadd)),
  by intros; exact G_at (by decide +kernel : fetch mL_law 680 = some (.iaload)),
  by intros; exact G_at (by decide +kernel : fetch mL_law 680 = some (.iaload)),
  by intros; exact G_at (by decide +kernel : fetch mL_law 681 = some (.aload_n 0)),
  by intros; exact G_at (by decide +kernel : fetch mL_law 682 = some (.iload 4)),
  by intros; exact G_at (by decide +kernel : fetch mL_law 684 = some (.iconst 2)),
  by intros; exact G_at (by decide +kernel : fetch mL_law 685 = some (.iadd)),
  by intros; exact G_at (by decide +kernel : fetch mL_law 686 = some (.iaload)),
  by intros; exact G_at (by decide +kernel : fetch mL_law 686 = some (.iaload)),
  by intros; exact G_callV (by decide +kernel : fetch mL_law 687 = some (.invokevirtual 65)) (by decide +kernel) (by decide +kernel) rfl,
  by intros; exact G_at (by decide +kernel : fetch mL_law 690 = some (.aload_n 2)),
  by intros; exact G_at (by decide +kernel : fetch mL_law 691 = some (.aload_n 0)),
  by intros; exact G_at (by decide +kernel : fetch mL_law 692 = some (.iload 4)),
  by intros; exact G_at (by decide +kernel : fetch mL_law 694 = some (.iconst 1)),
  by intros; exact G_at (by decide +kernel : fetch mL_law 695 = some (.iadd)),
  by intros; exact G_at (by decide +kernel : fetch mL_law 696 = some (.iaload)),
  by intros; exact G_at (by decide +kernel : fetch mL_law 696 = some (.iaload)),
  by intros; exact G_at (by decide +kernel : fetch mL_law 697 = some (.aload_n 0)),
  by intros; exact G_at (by decide +kernel : fetch mL_law 698 = some (.iload 4)),
  by intros; exact G_at (by decide +kernel : fetch mL_law 700 = some (.iconst 2)),
  by intros; exact G_at (by decide +kernel : fetch mL_law 701 = some (.iadd)),
  by intros; exact G_at (by decide +kernel : fetch mL_law 702 = some (.iaload)),
  by intros; exact G_at (by decide +kernel : fetch mL_law 702 = some (.iaload)),
  by intros; exact G_callV (by decide +kernel : fetch mL_law 703 = some (.invokevirtual 68)) (by decide +kernel) (by decide +kernel) rfl,
  by intros; exact G_at (by decide +kernel : fetch mL_law 706 = some (.if_icmp .eq 1244)),
  by intros; exact G_at (by decide +kernel : fetch mL_law 709 = some (.iconst 0)),
  by intros; exact G_retz (by decide +kernel : fetch mL_law 710 = some (.ireturn)) (by decide +kernel)⟩
theorem gL_c11 : (∀ (n d : Nat) (L : List (Option iV)) (st : List iV) (h : iH) (Q : Option iV → iH → Prop), G sp sc [23] d mL_law (n + 1) 711 L st h Q = (match ld L 1 with | some (.inr (.inr (r + 1))) => G sp sc [23] d mL_law n 712 L (.inr (.inr (r + 1)) :: st) h Q | _ => False)) ∧
  (∀ (n d : Nat) (L : List (Option iV)) (st : List iV) (h : iH) (Q : Option iV → iH → Prop), G sp sc [23] d mL_law (n + 1) 712 L st h Q = (match ld L 0 with | some (.inr (.inr (r + 1))) => G sp sc [23] d mL_law n 713 L (.inr (.inr (r + 1)) :: st) h Q | _ => False)) ∧
  (∀ (n d : Nat) (L : List (Option iV)) (st : List iV) (h : iH) (Q : Option iV → iH → Prop), G sp sc [23] d mL_law (n + 1) 713 L st h Q = (match ld L 4 with | some (.inl x) => G sp sc [23] d mL_law n 715 L (.inl x :: st) h Q | _ => False)) ∧
  (∀ (n d : Nat) (L : List (Option iV)) (st : List iV) (h : iH) (Q : Option iV → iH → Prop), G sp sc [23] d mL_law (n + 1) 715 L st h Q = G sp sc [23] d mL_law n 716 L (.inl 1 :: st) h Q) ∧
  (∀ (n d : Nat) (L : List (Option iV)) (a : Int) (b : Int) (r : List iV) (h : iH) (Q : Option iV → iH → Prop), G sp sc [23] d mL_law (n + 1) 716 L (.inl b :: .inl a :: r) h Q = G sp sc [23] d mL_law n 717 L (.inl (a + b) :: r) h Q) ∧
  (∀ (n d : Nat) (L : List (Option iV)) (r : List iV) (j : Int) (h : iH) (Q : Option iV → iH → Prop), G sp sc [23] d mL_law (n + 1) 717 L (.inl j :: .inr (.inr 1) :: r) h Q = (inA j sc.length = true ∧ G sp sc [23] d mL_law n 718 L (.inl (sc.getD j.toNat 0) :: r) h Q)) ∧
  (∀ (n d : Nat) (L : List (Option iV)) (r : List iV) (j : Int) (m : Nat) (h : iH) (Q : Option iV → iH → Prop), G sp sc [23] d mL_law (n + 1) 717 L (.inl j :: .inr (.inr (m + 2)) :: r) h Q = (match h.1[m]? with | some (.inr (.inl (0, xs))) => inA j xs.length = true ∧ G sp sc [23] d mL_law n 718 L (.inl (xs.getD j.toNat 0) :: r) h Q | _ => False)) ∧
  (∀ (n d : Nat) (L : List (Option iV)) (r : List iV) (m : Nat) (z0 : iV) (h : iH) (Q : Option iV → iH → Prop), G sp sc [23] (d + 1) mL_law (n + 1) 718 L (z0 :: .inr (.inr (m + 2)) :: r) h Q = (match h.1[m]? with | some (.inl (ci, _)) => (match lkC 13 69 ci with | some (y1, n1, kd) => (n1 = 1 ∧ (kd = 2 ∨ kd = 3 ∨ kd = 8) ∧ cs r ≤ 8) ∧ Call sp sc d y1 [.inr (.inr (m + 2)), z0] h (fun q h1 => GC sp sc [23] (d + 1) mL_law n 721 L q r h h1 Q) | none => False) | _ => False)) ∧
  (∀ (n d : Nat) (L : List (Option iV)) (st : List iV) (h : iH) (Q : Option iV → iH → Prop), G sp sc [23] d mL_law (n + 1) 721 L st h Q = (match ld L 2 with | some (.inr (.inr (r + 1))) => G sp sc [23] d mL_law n 722 L (.inr (.inr (r + 1)) :: st) h Q | _ => False)) ∧
  (∀ (n d : Nat) (L : List (Option iV)) (st : List iV) (h : iH) (Q : Option iV → iH → Prop), G sp sc [23] d mL_law (n + 1) 722 L st h Q = (match ld L 0 with | some (.inr (.inr (r + 1))) => G sp sc [23] d mL_law n 723 L (.inr (.inr (r + 1)) :: st) h Q | _ => False)) ∧
  (∀ (n d : Nat) (L : List (Option iV)) (st : List iV) (h : iH) (Q : Option iV → iH → Prop), G sp sc [23] d mL_law (n + 1) 723 L st h Q = (match ld L 4 with | some (.inl x) => G sp sc [23] d mL_law n 725 L (.inl x :: st) h Q | _ => False)) ∧
  (∀ (n d : Nat) (L : List (Option iV)) (st : List iV) (h : iH) (Q : Option iV → iH → Prop), G sp sc [23] d mL_law (n + 1) 725 L st h Q = G sp sc [23] d mL_law n 726 L (.inl 1 :: st) h Q) ∧
  (∀ (n d : Nat) (L : List (Option iV)) (a : Int) (b : Int) (r : List iV) (h : iH) (Q : Option iV → iH → Prop), G sp sc [23] d mL_law (n + 1) 726 L (.inl b :: .inl a :: r) h Q = G sp sc [23] d mL_law n 727 L (.inl (a + b) :: r) h Q) ∧
  (∀ (n d : Nat) (L : List (Option iV)) (r : List iV) (j : Int) (h : iH) (Q : Option iV → iH → Prop), G sp sc [23] d mL_law (n + 1) 727 L (.inl j :: .inr (.inr 1) :: r) h Q = (inA j sc.length = true ∧ G sp sc [23] d mL_law n 728 L (.inl (sc.getD j.toNat 0) :: r) h Q)) ∧
  (∀ (n d : Nat) (L : List (Option iV)) (r : List iV) (j : Int) (m : Nat) (h : iH) (Q : Option iV → iH → Prop), G sp sc [23] d mL_law (n + 1) 727 L (.inl j :: .inr (.inr (m + 2)) :: r) h Q = (match h.1[m]? with | some (.inr (.inl (0, xs))) => inA j xs.length = true ∧ G sp sc [23] d mL_law n 728 L (.inl (xs.getD j.toNat 0) :: r) h Q | _ => False)) ∧
  (∀ (n d : Nat) (L : List (Option iV)) (r : List iV) (m : Nat) (z0 : iV) (h : iH) (Q : Option iV → iH → Prop), G sp sc [23] (d + 1) mL_law (n + 1) 728 L (z0 :: .inr (.inr (m + 2)) :: r) h Q = (match h.1[m]? with | some (.inl (ci, _)) => (match lkC 13 72 ci with | some (y1, n1, kd) => (n1 = 1 ∧ (kd = 2 ∨ kd = 3 ∨ kd = 8) ∧ cs r ≤ 8) ∧ Call sp sc d y1 [.inr (.inr (m + 2)), z0] h (fun q h1 => GC sp sc [23] (d + 1) mL_law n 731 L q r h h1 Q) | none => False) | _ => False)) ∧
  (∀ (n d : Nat) (L : List (Option iV)) (a : Int) (b : Int) (r : List iV) (h : iH) (Q : Option iV → iH → Prop), G sp sc [23] d mL_law (n + 1) 731 L (.inl b :: .inl a :: r) h Q = ((inI a = true ∧ inI b = true) ∧ (a = b → G sp sc [23] d mL_law n 1950 L r h Q) ∧ (¬ (a = b) → G sp sc [23] d mL_law n 734 L r h Q))) ∧
  (∀ (n d : Nat) (L : List (Option iV)) (st : List iV) (h : iH) (Q : Option iV → iH → Prop), G sp sc [23] d mL_law (n + 1) 734 L st h Q = G sp sc [23] d mL_law n 735 L (.inl 0 :: st) h Q) ∧
  (∀ (n d : Nat) (L : List (Option iV)) (a : Int) (h : iH) (Q : Option iV → iH → Prop), G sp sc [23] d mL_law (n + 1) 735 L [.inl a] h Q = ((a = 0 ∨ a = 1) ∧ Q (some (.inl a)) h)) := ⟨by intros; exact G_at (by decide +kernel : fetch mL_law 711 = some (.aload_n 1)),
  by intros; exact G_at (by decide +kernel : fetch mL_law 712 = some (.aload_n 0)),
  by intros; exact G_at (by decide +kernel : fetch mL_law 713 = some (.iload 4)),
  by intros; exact G_at (by decide +kernel : fetch mL_law 715 = some (.iconst 1)),
  by intros; exact G_at (by decide +kernel : fetch mL_law 716 = some (.iadd)),
  by intros; exact G_at (by decide +kernel : fetch mL_law 717 = some (.iaload)),
  by intros; exact G_at (by decide +kernel : fetch mL_law 717 = some (.iaload)),
  by intros; exact G_callV (by decide +kernel : fetch mL_law 718 = some (.invokevirtual 69)) (by decide +kernel) (by decide +kernel) rfl,
  by intros; exact G_at (by decide +kernel : fetch mL_law 721 = some (.aload_n 2)),
  by intros; exact G_at (by decide +kernel : fetch mL_law 722 = some (.aload_n 0)),
  by intros; exact G_at (by decide +kernel : fetch mL_law 723 = some (.iload 4)),
  by intros; exact G_at (by decide +kernel : fetch mL_law 725 = some (.iconst 1)),
  by intros; exact G_at (by decide +kernel : fetch mL_law 726 = some (.iadd)),
  by intros; exact G_at (by decide +kernel : fetch mL_law 727 = some (.iaload)),
  by intros; exact G_at (by decide +kernel : fetch mL_law 727 = some (.iaload)),
  by intros; exact G_callV (by decide +kernel : fetch mL_law 728 = some (.invokevirtual 72)) (by decide +kernel) (by decide +kernel) rfl,
  by intros; exact G_at (by decide +kernel : fetch mL_law 731 = some (.if_icmp .eq 1219)),
  by intros; exact G_at (by decide +kernel : fetch mL_law 734 = some (.iconst 0)),
  by intros; exact G_retz (by decide +kernel : fetch mL_law 735 = some (.ireturn)) (by decide +kernel)⟩
theorem gL_c12 : (∀ (n d : Nat) (L : List (Option iV)) (st : List iV) (h : iH) (Q : Option iV → iH → Prop), G sp sc [23] d mL_law (n + 1) 736 L st h Q = (match ld L 1 with | some (.inr (.inr (r + 1))) => G sp sc [23] d mL_law n 737 L (.inr (.inr (r + 1)) :: st) h Q | _ => False)) ∧
  (∀ (n d : Nat) (L : List (Option iV)) (st : List iV) (h : iH) (Q : Option iV → iH → Prop), G sp sc [23] d mL_law (n + 1) 737 L st h Q = (match ld L 0 with | some (.inr (.inr (r + 1))) => G sp sc [23] d mL_law n 738 L (.inr (.inr (r + 1)) :: st) h Q | _ => False)) ∧
  (∀ (n d : Nat) (L : List (Option iV)) (st : List iV) (h : iH) (Q : Option iV → iH → Prop), G sp sc [23] d mL_law (n + 1) 738 L st h Q = (match ld L 4 with | some (.inl x) => G sp sc [23] d mL_law n 740 L (.inl x :: st) h Q | _ => False)) ∧
  (∀ (n d : Nat) (L : List (Option iV)) (st : List iV) (h : iH) (Q : Option iV → iH → Prop), G sp sc [23] d mL_law (n + 1) 740 L st h Q = G sp sc [23] d mL_law n 741 L (.inl 1 :: st) h Q) ∧
  (∀ (n d : Nat) (L : List (Option iV)) (a : Int) (b : Int) (r : List iV) (h : iH) (Q : Option iV → iH → Prop), G sp sc [23] d mL_law (n + 1) 741 L (.inl b :: .inl a :: r) h Q = G sp sc [23] d mL_law n 742 L (.inl (a + b) :: r) h Q) ∧
  (∀ (n d : Nat) (L : List (Option iV)) (r : List iV) (j : Int) (h : iH) (Q : Option iV → iH → Prop), G sp sc [23] d mL_law (n + 1) 742 L (.inl j :: .inr (.inr 1) :: r) h Q = (inA j sc.length = true ∧ G sp sc [23] d mL_law n 743 L (.inl (sc.getD j.toNat 0) :: r) h Q)) ∧
  (∀ (n d : Nat) (L : List (Option iV)) (r : List iV) (j : Int) (m : Nat) (h : iH) (Q : Option iV → iH → Prop), G sp sc [23] d mL_law (n + 1) 742 L (.inl j :: .inr (.inr (m + 2)) :: r) h Q = (match h.1[m]? with | some (.inr (.inl (0, xs))) => inA j xs.length = true ∧ G sp sc [23] d mL_law n 743 L (.inl (xs.getD j.toNat 0) :: r) h Q | _ => False)) ∧
  (∀ (n d : Nat) (L : List (Option iV)) (r : List iV) (m : Nat) (z0 : iV) (h : iH) (Q : Option iV → iH → Prop), G sp sc [23] (d + 1) mL_law (n + 1) 743 L (z0 :: .inr (.inr (m + 2)) :: r) h Q = (match h.1[m]? with | some (.inl (ci, _)) => (match lkC 13 73 ci with | some (y1, n1, kd) => (n1 = 1 ∧ (kd = 2 ∨ kd = 3 ∨ kd = 8) ∧ cs r ≤ 8) ∧ Call sp sc d y1 [.inr (.inr (m + 2)), z0] h (fun q h1 => GC sp sc [23] (d + 1) mL_law n 746 L q r h h1 Q) | none => False) | _ => False)) ∧
  (∀ (n d : Nat) (L : List (Option iV)) (st : List iV) (h : iH) (Q : Option iV → iH → Prop), G sp sc [23] d mL_law (n + 1) 746 L st h Q = (match ld L 2 with | some (.inr (.inr (r + 1))) => G sp sc [23] d mL_law n 747 L (.inr (.inr (r + 1)) :: st) h Q | _ => False)) ∧
  (∀ (n d : Nat) (L : List (Option iV)) (st : List iV) (h : iH) (Q : Option iV → iH → Prop), G sp sc [23] d mL_law (n + 1) 747 L st h Q = (match ld L 0 with | some (.inr (.inr (r + 1))) => G sp sc [23] d mL_law n 748 L (.inr (.inr (r + 1)) :: st) h Q | _ => False)) ∧
  (∀ (n d : Nat) (L : List (Option iV)) (st : List iV) (h : iH) (Q : Option iV → iH → Prop), G sp sc [23] d mL_law (n + 1) 748 L st h Q = (match ld L 4 with | some (.inl x) => G sp sc [23] d mL_law n 750 L (.inl x :: st) h Q | _ => False)) ∧
  (∀ (n d : Nat) (L : List (Option iV)) (st : List iV) (h : iH) (Q : Option iV → iH → Prop), G sp sc [23] d mL_law (n + 1) 750 L st h Q = G sp sc [23] d mL_law n 751 L (.inl 1 :: st) h Q) ∧
  (∀ (n d : Nat) (L : List (Option iV)) (a : Int) (b : Int) (r : List iV) (h : iH) (Q : Option iV → iH → Prop), G sp sc [23] d mL_law (n + 1) 751 L (.inl b :: .inl a :: r) h Q = G sp sc [23] d mL_law n 752 L (.inl (a + b) :: r) h Q) ∧
  (∀ (n d : Nat) (L : List (Option iV)) (r : List iV) (j : Int) (h : iH) (Q : Option iV → iH → Prop), G sp sc [23] d mL_law (n + 1) 752 L (.inl j :: .inr (.inr 1) :: r) h Q = (inA j sc.length = true ∧ G sp sc [23] d mL_law n 753 L (.inl (sc.getD j.toNat 0) :: r) h Q)) ∧
  (∀ (n d : Nat) (L : List (Option iV)) (r : List iV) (j : Int) (m : Nat) (h : iH) (Q : Option iV → iH → Prop), G sp sc [23] d mL_law (n + 1) 752 L (.inl j :: .inr (.inr (m + 2)) :: r) h Q = (match h.1[m]? with | some (.inr (.inl (0, xs))) => inA j xs.length = true ∧ G sp sc [23] d mL_law n 753 L (.inl (xs.getD j.toNat 0) :: r) h Q | _ => False)) ∧
  (∀ (n d : Nat) (L : List (Option iV)) (r : List iV) (m : Nat) (z0 : iV) (h : iH) (Q : Option iV → iH → Prop), G sp sc [23] (d + 1) mL_law (n + 1) 753 L (z0 :: .inr (.inr (m + 2)) :: r) h Q = (match h.1[m]? with | some (.inl (ci, _)) => (match lkC 13 76 ci with | some (y1, n1, kd) => (n1 = 1 ∧ (kd = 2 ∨ kd = 3 ∨ kd = 8) ∧ cs r ≤ 8) ∧ Call sp sc d y1 [.inr (.inr (m + 2)), z0] h (fun q h1 => GC sp sc [23] (d + 1) mL_law n 756 L q r h h1 Q) | none => False) | _ => False)) ∧
  (∀ (n d : Nat) (L : List (Option iV)) (a : Int) (b : Int) (r : List iV) (h : iH) (Q : Option iV → iH → Prop), G sp sc [23] d mL_law (n + 1) 756 L (.inl b :: .inl a :: r) h Q = ((inI a = true ∧ inI b = true) ∧ (a = b → G sp sc [23] d mL_law n 1950 L r h Q) ∧ (¬ (a = b) → G sp sc [23] d mL_law n 759 L r h Q))) ∧
  (∀ (n d : Nat) (L : List (Option iV)) (st : List iV) (h : iH) (Q : Option iV → iH → Prop), G sp sc [23] d mL_law (n + 1) 759 L st h Q = G sp sc [23] d mL_law n 760 L (.inl 0 :: st) h Q) ∧
  (∀ (n d : Nat) (L : List (Option iV)) (a : Int) (h : iH) (Q : Option iV → iH → Prop), G sp sc [23] d mL_law (n + 1) 760 L [.inl a] h Q = ((a = 0 ∨ a = 1) ∧ Q (some (.inl a)) h)) := ⟨by intros; exact G_at (by decide +kernel : fetch mL_law 736 = some (.aload_n 1)),
  by intros; exact G_at (by decide +kernel : fetch mL_law 737 = some (.aload_n 0)),
  by intros; exact G_at (by decide +kernel : fetch mL_law 738 = some (.iload 4)),
  by intros; exact G_at (by decide +kernel : fetch mL_law 740 = some (.iconst 1)),
  by intros; exact G_at (by decide +kernel : fetch mL_law 741 = some (.iadd)),
  by intros; exact G_at (by decide +kernel : fetch mL_law 742 = some (.iaload)),
  by intros; exact G_at (by decide +kernel : fetch mL_law 742 = some (.iaload)),
  by intros; exact G_callV (by decide +kernel : fetch mL_law 743 = some (.invokevirtual 73)) (by decide +kernel) (by decide +kernel) rfl,
  by intros; exact G_at (by decide +kernel : fetch mL_law 746 = some (.aload_n 2)),
  by intros; exact G_at (by decide +kernel : fetch mL_law 747 = some (.aload_n 0)),
  by intros; exact G_at (by decide +kernel : fetch mL_law 748 = some (.iload 4)),
  by intros; exact G_at (by decide +kernel : fetch mL_law 750 = some (.iconst 1)),
  by intros; exact G_at (by decide +kernel : fetch mL_law 751 = some (.iadd)),
  by intros; exact G_at (by decide +kernel : fetch mL_law 752 = some (.iaload)),
  by intros; exact G_at (by decide +kernel : fetch mL_law 752 = some (.iaload)),
  by intros; exact G_callV (by decide +kernel : fetch mL_law 753 = some (.invokevirtual 76)) (by decide +kernel) (by decide +kernel) rfl,
  by intros; exact G_at (by decide +kernel : fetch mL_law 756 = some (.if_icmp .eq 1194)),
  by intros; exact G_at (by decide +kernel : fetch mL_law 759 = some (.iconst 0)),
  by intros; exact G_retz (by decide +kernel : fetch mL_law 760 = some (.ireturn)) (by decide +kernel)⟩
theorem gL_c13 : (∀ (n d : Nat) (L : List (Option iV)) (st : List iV) (h : iH) (Q : Option iV → iH → Prop), G sp sc [23] d mL_law (n + 1) 761 L st h Q = (match ld L 1 with | some (.inr (.inr (r + 1))) => G sp sc [23] d mL_law n 762 L (.inr (.inr (r + 1)) :: st) h Q | _ => False)) ∧
  (∀ (n d : Nat) (L : List (Option iV)) (st : List iV) (h : iH) (Q : Option iV → iH → Prop), G sp sc [23] d mL_law (n + 1) 762 L st h Q = (match ld L 0 with | some (.inr (.inr (r + 1))) => G sp sc [23] d mL_law n 763 L (.inr (.inr (r + 1)) :: st) h Q | _ => False)) ∧
  (∀ (n d : Nat) (L : List (Option iV)) (st : List iV) (h : iH) (Q : Option iV → iH → Prop), G sp sc [23] d mL_law (n + 1) 763 L st h Q = (match ld L 4 with | some (.inl x) => G sp sc [23] d mL_law n 765 L (.inl x :: st) h Q | _ => False)) ∧
  (∀ (n d : Nat) (L : List (Option iV)) (st : List iV) (h : iH) (Q : Option iV → iH → Prop), G sp sc [23] d mL_law (n + 1) 765 L st h Q = G sp sc [23] d mL_law n 766 L (.inl 1 :: st) h Q) ∧
  (∀ (n d : Nat) (L : List (Option iV)) (a : Int) (b : Int) (r : List iV) (h : iH) (Q : Option iV → iH → Prop), G sp sc [23] d mL_law (n + 1) 766 L (.inl b :: .inl a :: r) h Q = G sp sc [23] d mL_law n 767 L (.inl (a + b) :: r) h Q) ∧
  (∀ (n d : Nat) (L : List (Option iV)) (r : List iV) (j : Int) (h : iH) (Q : Option iV → iH → Prop), G sp sc [23] d mL_law (n + 1) 767 L (.inl j :: .inr (.inr 1) :: r) h Q = (inA j sc.length = true ∧ G sp sc [23] d mL_law n 768 L (.inl (sc.getD j.toNat 0) :: r) h Q)) ∧
  (∀ (n d : Nat) (L : List (Option iV)) (r : List iV) (j : Int) (m : Nat) (h : iH) (Q : Option iV → iH → Prop), G sp sc [23] d mL_law (n + 1) 767 L (.inl j :: .inr (.inr (m + 2)) :: r) h Q = (match h.1[m]? with | some (.inr (.inl (0, xs))) => inA j xs.length = true ∧ G sp sc [23] d mL_law n 768 L (.inl (xs.getD j.toNat 0) :: r) h Q | _ => False)) ∧
  (∀ (n d : Nat) (L : List (Option iV)) (st : List iV) (h : iH) (Q : Option iV → iH → Prop), G sp sc [23] d mL_law (n + 1) 768 L st h Q = (match ld L 0 with | some (.inr (.inr (r + 1))) => G sp sc [23] d mL_law n 769 L (.inr (.inr (r + 1)) :: st) h Q | _ => False)) ∧
  (∀ (n d : Nat) (L : List (Option iV)) (st : List iV) (h : iH) (Q : Option iV → iH → Prop), G sp sc [23] d mL_law (n + 1) 769 L st h Q = (match ld L 4 with | some (.inl x) => G sp sc [23] d mL_law n 771 L (.inl x :: st) h Q | _ => False)) ∧
  (∀ (n d : Nat) (L : List (Option iV)) (st : List iV) (h : iH) (Q : Option iV → iH → Prop), G sp sc [23] d mL_law (n + 1) 771 L st h Q = G sp sc [23] d mL_law n 772 L (.inl 2 :: st) h Q) ∧
  (∀ (n d : Nat) (L : List (Option iV)) (a : Int) (b : Int) (r : List iV) (h : iH) (Q : Option iV → iH → Prop), G sp sc [23] d mL_law (n + 1) 772 L (.inl b :: .inl a :: r) h Q = G sp sc [23] d mL_law n 773 L (.inl (a + b) :: r) h Q) ∧
  (∀ (n d : Nat) (L : List (Option iV)) (r : List iV) (j : Int) (h : iH) (Q : Option iV → iH → Prop), G sp sc [23] d mL_law (n + 1) 773 L (.inl j :: .inr (.inr 1) :: r) h Q = (inA j sc.length = true ∧ G sp sc [23] d mL_law n 774 L (.inl (sc.getD j.toNat 0) :: r) h Q)) ∧
  (∀ (n d : Nat) (L : List (Option iV)) (r : List iV) (j : Int) (m : Nat) (h : iH) (Q : Option iV → iH → Prop), G sp sc [23] d mL_law (n + 1) 773 L (.inl j :: .inr (.inr (m + 2)) :: r) h Q = (match h.1[m]? with | some (.inr (.inl (0, xs))) => inA j xs.length = true ∧ G sp sc [23] d mL_law n 774 L (.inl (xs.getD j.toNat 0) :: r) h Q | _ => False)) ∧
  (∀ (n d : Nat) (L : List (Option iV)) (st : List iV) (h : iH) (Q : Option iV → iH → Prop), G sp sc [23] d mL_law (n + 1) 774 L st h Q = (match ld L 0 with | some (.inr (.inr (r + 1))) => G sp sc [23] d mL_law n 775 L (.inr (.inr (r + 1)) :: st) h Q | _ => False)) ∧
  (∀ (n d : Nat) (L : List (Option iV)) (st : List iV) (h : iH) (Q : Option iV → iH → Prop), G sp sc [23] d mL_law (n + 1) 775 L st h Q = (match ld L 4 with | some (.inl x) => G sp sc [23] d mL_law n 777 L (.inl x :: st) h Q | _ => False)) ∧
  (∀ (n d : Nat) (L : List (Option iV)) (st : List iV) (h : iH) (Q : Option iV → iH → Prop), G sp sc [23] d mL_law (n + 1) 777 L st h Q = G sp sc [23] d mL_law n 778 L (.inl 3 :: st) h Q) ∧
  (∀ (n d : Nat) (L : List (Option iV)) (a : Int) (b : Int) (r : List iV) (h : iH) (Q : Option iV → iH → Prop), G sp sc [23] d mL_law (n + 1) 778 L (.inl b :: .inl a :: r) h Q = G sp sc [23] d mL_law n 779 L (.inl (a + b) :: r) h Q) ∧
  (∀ (n d : Nat) (L : List (Option iV)) (r : List iV) (j : Int) (h : iH) (Q : Option iV → iH → Prop), G sp sc [23] d mL_law (n + 1) 779 L (.inl j :: .inr (.inr 1) :: r) h Q = (inA j sc.length = true ∧ G sp sc [23] d mL_law n 780 L (.inl (sc.getD j.toNat 0) :: r) h Q)) ∧
  (∀ (n d : Nat) (L : List (Option iV)) (r : List iV) (j : Int) (m : Nat) (h : iH) (Q : Option iV → iH → Prop), G sp sc [23] d mL_law (n + 1) 779 L (.inl j :: .inr (.inr (m + 2)) :: r) h Q = (match h.1[m]? with | some (.inr (.inl (0, xs))) => inA j xs.length = true ∧ G sp sc [23] d mL_law n 780 L (.inl (xs.getD j.toNat 0) :: r) h Q | _ => False)) ∧
  (∀ (n d : Nat) (L : List (Option iV)) (r : List iV) (m : Nat) (z0 : iV) (z1 : iV) (z2 : iV) (h : iH) (Q : Option iV → iH → Prop), G sp sc [23] (d + 1) mL_law (n + 1) 780 L (z2 :: z1 :: z0 :: .inr (.inr (m + 2)) :: r) h Q = (match h.1[m]? with | some (.inl (ci, _)) => (match lkC 13 77 ci with | some (y1, n1, kd) => (n1 = 3 ∧ (kd = 2 ∨ kd = 3 ∨ kd = 8) ∧ cs r ≤ 8) ∧ Call sp sc d y1 [.inr (.inr (m + 2)), z0, z1, z2] h (fun q h1 => GC sp sc [23] (d + 1) mL_law n 783 L q r h h1 Q) | none => False) | _ => False)) ∧
  (∀ (n d : Nat) (L : List (Option iV)) (st : List iV) (h : iH) (Q : Option iV → iH → Prop), G sp sc [23] d mL_law (n + 1) 783 L st h Q = (match ld L 2 with | some (.inr (.inr (r + 1))) => G sp sc [23] d mL_law n 784 L (.inr (.inr (r + 1)) :: st) h Q | _ => False)) ∧
  (∀ (n d : Nat) (L : List (Option iV)) (st : List iV) (h : iH) (Q : Option iV → iH → Prop), G sp sc [23] d mL_law (n + 1) 784 L st h Q = (match ld L 0 with | some (.inr (.inr (r + 1))) => G sp sc [23] d mL_law n 785 L (.inr (.inr (r + 1)) :: st) h Q | _ => False)) ∧
  (∀ (n d : Nat) (L : List (Option iV)) (st : List iV) (h : iH) (Q : Option iV → iH → Prop), G sp sc [23] d mL_law (n + 1) 785 L st h Q = (match ld L 4 with | some (.inl x) => G sp sc [23] d mL_law n 787 L (.inl x :: st) h Q | _ => False)) ∧
  (∀ (n d : Nat) (L : List (Option iV)) (st : List iV) (h : iH) (Q : Option iV → iH → Prop), G sp sc [23] d mL_law (n + 1) 787 L st h Q = G sp sc [23] d mL_law n 788 L (.inl 1 :: st) h Q) ∧
  (∀ (n d : Nat) (L : List (Option iV)) (a : Int) (b : Int) (r : List iV) (h : iH) (Q : Option iV → iH → Prop), G sp sc [23] d mL_law (n + 1) 788 L (.inl b :: .inl a :: r) h Q = G sp sc [23] d mL_law n 789 L (.inl (a + b) :: r) h Q) ∧
  (∀ (n d : Nat) (L : List (Option iV)) (r : List iV) (j : Int) (h : iH) (Q : Option iV → iH → Prop), G sp sc [23] d mL_law (n + 1) 789 L (.inl j :: .inr (.inr 1) :: r) h Q = (inA j sc.length = true ∧ G sp sc [23] d mL_law n 790 L (.inl (sc.getD j.toNat 0) :: r) h Q)) ∧
  (∀ (n d : Nat) (L : List (Option iV)) (r : List iV) (j : Int) (m : Nat) (h : iH) (Q : Option iV → iH → Prop), G sp sc [23] d mL_law (n + 1) 789 L (.inl j :: .inr (.inr (m + 2)) :: r) h Q = (match h.1[m]? with | some (.inr (.inl (0, xs))) => inA j xs.length = true ∧ G sp sc [23] d mL_law n 790 L (.inl (xs.getD j.toNat 0) :: r) h Q | _ => False)) ∧
  (∀ (n d : Nat) (L : List (Option iV)) (st : List iV) (h : iH) (Q : Option iV → iH → Prop), G sp sc [23] d mL_law (n + 1) 790 L st h Q = (match ld L 0 with | some (.inr (.inr (r + 1))) => G sp sc [23] d mL_law n 791 L (.inr (.inr (r + 1)) :: st) h Q | _ => False)) ∧
  (∀ (n d : Nat) (L : List (Option iV)) (st : List iV) (h : iH) (Q : Option iV → iH → Prop), G sp sc [23] d mL_law (n + 1) 791 L st h Q = (match ld L 4 with | some (.inl x) => G sp sc [23] d mL_law n 793 L (.inl x :: st) h Q | _ => False)) ∧
  (∀ (n d : Nat) (L : List (Option iV)) (st : List iV) (h : iH) (Q : Option iV → iH → Prop), G sp sc [23] d mL_law (n + 1) 793 L st h Q = G sp sc [23] d mL_law n 794 L (.inl 2 :: st) h Q) ∧
  (∀ (n d : Nat) (L : List (Option iV)) (a : Int) (b : Int) (r : List iV) (h : iH) (Q : Option iV → iH → Prop), G sp sc [23] d mL_law (n + 1) 794 L (.inl b :: .inl a :: r) h Q = G sp sc [23] d mL_law n 795 L (.inl (a + b) :: r) h Q) ∧
  (∀ (n d : Nat) (L : List (Option iV)) (r : List iV) (j : Int) (h : iH) (Q : Option iV → iH → Prop), G sp sc [23] d mL_law (n + 1) 795 L (.inl j :: .inr (.inr 1) :: r) h Q = (inA j sc.length = true ∧ G sp sc [23] d mL_law n 796 L (.inl (sc.getD j.toNat 0) :: r) h Q)) ∧
  (∀ (n d : Nat) (L : List (Option iV)) (r : List iV) (j : Int) (m : Nat) (h : iH) (Q : Option iV → iH → Prop), G sp sc [23] d mL_law (n + 1) 795 L (.inl j :: .inr (.inr (m + 2)) :: r) h Q = (match h.1[m]? with | some (.inr (.inl (0, xs))) => inA j xs.length = true ∧ G sp sc [23] d mL_law n 796 L (.inl (xs.getD j.toNat 0) :: r) h Q | _ => False)) ∧
  (∀ (n d : Nat) (L : List (Option iV)) (st : List iV) (h : iH) (Q : Option iV → iH → Prop), G sp sc [23] d mL_law (n + 1) 796 L st h Q = (match ld L 0 with | some (.inr (.inr (r + 1))) => G sp sc [23] d mL_law n 797 L (.inr (.inr (r + 1)) :: st) h Q | _ => False)) ∧
  (∀ (n d : Nat) (L : List (Option iV)) (st : List iV) (h : iH) (Q : Option iV → iH → Prop), G sp sc [23] d mL_law (n + 1) 797 L st h Q = (match ld L 4 with | some (.inl x) => G sp sc [23] d mL_law n 799 L (.inl x :: st) h Q | _ => False)) ∧
  (∀ (n d : Nat) (L : List (Option iV)) (st : List iV) (h : iH) (Q : Option iV → iH → Prop), G sp sc [23] d mL_law (n + 1) 799 L st h Q = G sp sc [23] d mL_law n 800 L (.inl 3 :: st) h Q) ∧
  (∀ (n d : Nat) (L : List (Option iV)) (a : Int) (b : Int) (r : List iV) (h : iH) (Q : Option iV → iH → Prop), G sp sc [23] d mL_law (n + 1) 800 L (.inl b :: .inl a :: r) h Q = G sp sc [23] d mL_law n 801 L (.inl (a + b) :: r) h Q) ∧
  (∀ (n d : Nat) (L : List (Option iV)) (r : List iV) (j : Int) (h : iH) (Q : Option iV → iH → Prop), G sp sc [23] d mL_law (n + 1) 801 L (.inl j :: .inr (.inr 1) :: r) h Q = (inA j sc.length = true ∧ G sp sc [23] d mL_law n 802 L (.inl (sc.getD j.toNat 0) :: r) h Q)) ∧
  (∀ (n d : Nat) (L : List (Option iV)) (r : List iV) (j : Int) (m : Nat) (h : iH) (Q : Option iV → iH → Prop), G sp sc [23] d mL_law (n + 1) 801 L (.inl j :: .inr (.inr (m + 2)) :: r) h Q = (match h.1[m]? with | some (.inr (.inl (0, xs))) => inA j xs.length = true ∧ G sp sc [23] d mL_law n 802 L (.inl (xs.getD j.toNat 0) :: r) h Q | _ => False)) ∧
  (∀ (n d : Nat) (L : List (Option iV)) (r : List iV) (m : Nat) (z0 : iV) (z1 : iV) (z2 : iV) (h : iH) (Q : Option iV → iH → Prop), G sp sc [23] (d + 1) mL_law (n + 1) 802 L (z2 :: z1 :: z0 :: .inr (.inr (m + 2)) :: r) h Q = (match h.1[m]? with | some (.inl (ci, _)) => (match lkC 13 80 ci with | some (y1, n1, kd) => (n1 = 3 ∧ (kd = 2 ∨ kd = 3 ∨ kd = 8) ∧ cs r ≤ 8) ∧ Call sp sc d y1 [.inr (.inr (m + 2)), z0, z1, z2] h (fun q h1 => GC sp sc [23] (d + 1) mL_law n 805 L q r h h1 Q) | none => False) | _ => False)) ∧
  (∀ (n d : Nat) (L : List (Option iV)) (a : Int) (b : Int) (r : List iV) (h : iH) (Q : Option iV → iH → Prop), G sp sc [23] d mL_law (n + 1) 805 L (.inl b :: .inl a :: r) h Q = ((inI a = true ∧ inI b = true) ∧ (a = b → G sp sc [23] d mL_law n 1950 L r h Q) ∧ (¬ (a = b) → G sp sc [23] d mL_law n 808 L r h Q))) ∧
  (∀ (n d : Nat) (L : List (Option iV)) (st : List iV) (h : iH) (Q : Option iV → iH → Prop), G sp sc [23] d mL_law (n + 1) 808 L st h Q = G sp sc [23] d mL_law n 809 L (.inl 0 :: st) h Q) ∧
  (∀ (n d : Nat) (L : List (Option iV)) (a : Int) (h : iH) (Q : Option iV → iH → Prop), G sp sc [23] d mL_law (n + 1) 809 L [.inl a] h Q = ((a = 0 ∨ a = 1) ∧ Q (some (.inl a)) h)) := ⟨by intros; exact G_at (by decide +kernel : fetch mL_law 761 = some (.aload_n 1)),
  by intros; exact G_at (by decide +kernel : fetch mL_law 762 = some (.aload_n 0)),
  by intros; exact G_at (by decide +kernel : fetch mL_law 763 = some (.iload 4)),
  by intros; exact G_at (by decide +kernel : fetch mL_law 765 = some (.iconst 1)),
  by intros; exact G_at (by decide +kernel : fetch mL_law 766 = some (.iadd)),
  by intros; exact G_at (by decide +kernel : fetch mL_law 767 = some (.iaload)),
  by intros; exact G_at (by decide +kernel : fetch mL_law 767 = some (.iaload)),
  by intros; exact G_at (by decide +kernel : fetch mL_law 768 = some (.aload_n 0)),
  by intros; exact G_at (by decide +kernel : fetch mL_law 769 = some (.iload 4)),
  by intros; exact G_at (by decide +kernel : fetch mL_law 771 = some (.iconst 2)),
  by intros; exact G_at (by decide +kernel : fetch mL_law 772 = some (.iadd)),
  by intros; exact G_at (by decide +kernel : fetch mL_law 773 = some (.iaload)),
  by intros; exact G_at (by decide +kernel : fetch mL_law 773 = some (.iaload)),
  by intros; exact G_at (by decide +kernel : fetch mL_law 774 = some (.aload_n 0)),
  by intros; exact G_at (by decide +kernel : fetch mL_law 775 = some (.iload 4)),
  by intros; exact G_at (by decide +kernel : fetch mL_law 777 = some (.iconst 3)),
  by intros; exact G_at (by decide +kernel : fetch mL_law 778 = some (.iadd)),
  by intros; exact G_at (by decide +kernel : fetch mL_law 779 = some (.iaload)),
  by intros; exact G_at (by decide +kernel : fetch mL_law 779 = some (.iaload)),
  by intros; exact G_callV (by decide +kernel : fetch mL_law 780 = some (.invokevirtual 77)) (by decide +kernel) (by decide +kernel) rfl,
  by intros; exact G_at (by decide +kernel : fetch mL_law 783 = some (.aload_n 2)),
  by intros; exact G_at (by decide +kernel : fetch mL_law 784 = some (.aload_n 0)),
  by intros; exact G_at (by decide +kernel : fetch mL_law 785 = some (.iload 4)),
  by intros; exact G_at (by decide +kernel : fetch mL_law 787 = some (.iconst 1)),
  by intros; exact G_at (by decide +kernel : fetch mL_law 788 = some (.iadd)),
  by intros; exact G_at (by decide +kernel : fetch mL_law 789 = some (.iaload)),
  by intros; exact G_at (by decide +kernel : fetch mL_law 789 = some (.iaload)),
  by intros; exact G_at (by decide +kernel : fetch mL_law 790 = some (.aload_n 0)),
  by intros; exact G_at (by decide +kernel : fetch mL_law 791 = some (.iload 4)),
  by intros; exact G_at (by decide +kernel : fetch mL_law 793 = some (.iconst 2)),
  by intros; exact G_at (by decide +kernel : fetch mL_law 794 = some (.iadd)),
  by intros; exact G_at (by decide +kernel : fetch mL_law 795 = some (.iaload)),
  by intros; exact G_at (by decide +kernel : fetch mL_law 795 = some (.iaload)),
  by intros; exact G_at (by decide +kernel : fetch mL_law 796 = some (.aload_n 0)),
  by intros; exact G_at (by decide +kernel : fetch mL_law 797 = some (.iload 4)),
  by intros; exact G_at (by decide +kernel : fetch mL_law 799 = some (.iconst 3)),
  by intros; exact G_at (by decide +kernel : fetch mL_law 800 = some (.iadd)),
  by intros; exact G_at (by decide +kernel : fetch mL_law 801 = some (.iaload)),
  by intros; exact G_at (by decide +kernel : fetch mL_law 801 = some (.iaload)),
  by intros; exact G_callV (by decide +kernel : fetch mL_law 802 = some (.invokevirtual 80)) (by decide +kernel) (by decide +kernel) rfl,
  by intros; exact G_at (by decide +kernel : fetch mL_law 805 = some (.if_icmp .eq 1145)),
  by intros; exact G_at (by decide +kernel : fetch mL_law 808 = some (.iconst 0)),
  by intros; exact G_retz (by decide +kernel : fetch mL_law 809 = some (.ireturn)) (by decide +kernel)⟩
theorem gL_c14 : (∀ (n d : Nat) (L : List (Option iV)) (st : List iV) (h : iH) (Q : Option iV → iH → Prop), G sp sc [23] d mL_law (n + 1) 810 L st h Q = (match ld L 1 with | some (.inr (.inr (r + 1))) => G sp sc [23] d mL_law n 811 L (.inr (.inr (r + 1)) :: st) h Q | _ => False)) ∧
  (∀ (n d : Nat) (L : List (Option iV)) (st : List iV) (h : iH) (Q : Option iV → iH → Prop), G sp sc [23] d mL_law (n + 1) 811 L st h Q = (match ld L 0 with | some (.inr (.inr (r + 1))) => G sp sc [23] d mL_law n 812 L (.inr (.inr (r + 1)) :: st) h Q | _ => False)) ∧
  (∀ (n d : Nat) (L : List (Option iV)) (st : List iV) (h : iH) (Q : Option iV → iH → Prop), G sp sc [23] d mL_law (n + 1) 812 L st h Q = (match ld L 4 with | some (.inl x) => G sp sc [23] d mL_law n 814 L (.inl x :: st) h Q | _ => False)) ∧
  (∀ (n d : Nat) (L : List (Option iV)) (st : List iV) (h : iH) (Q : Option iV → iH → Prop), G sp sc [23] d mL_law (n + 1) 814 L st h Q = G sp sc [23] d mL_law n 815 L (.inl 1 :: st) h Q) ∧
  (∀ (n d : Nat) (L : List (Option iV)) (a : Int) (b : Int) (r : List iV) (h : iH) (Q : Option iV → iH → Prop), G sp sc [23] d mL_law (n + 1) 815 L (.inl b :: .inl a :: r) h Q = G sp sc [23] d mL_law n 816 L (.inl (a + b) :: r) h Q) ∧
  (∀ (n d : Nat) (L : List (Option iV)) (r : List iV) (j : Int) (h : iH) (Q : Option iV → iH → Prop), G sp sc [23] d mL_law (n + 1) 816 L (.inl j :: .inr (.inr 1) :: r) h Q = (inA j sc.length = true ∧ G sp sc [23] d mL_law n 817 L (.inl (sc.getD j.toNat 0) :: r) h Q)) ∧
  (∀ (n d : Nat) (L : List (Option iV)) (r : List iV) (j : Int) (m : Nat) (h : iH) (Q : Option iV → iH → Prop), G sp sc [23] d mL_law (n + 1) 816 L (.inl j :: .inr (.inr (m + 2)) :: r) h Q = (match h.1[m]? with | some (.inr (.inl (0, xs))) => inA j xs.length = true ∧ G sp sc [23] d mL_law n 817 L (.inl (xs.getD j.toNat 0) :: r) h Q | _ => False)) ∧
  (∀ (n d : Nat) (L : List (Option iV)) (st : List iV) (h : iH) (Q : Option iV → iH → Prop), G sp sc [23] d mL_law (n + 1) 817 L st h Q = (match ld L 0 with | some (.inr (.inr (r + 1))) => G sp sc [23] d mL_law n 818 L (.inr (.inr (r + 1)) :: st) h Q | _ => False)) ∧
  (∀ (n d : Nat) (L : List (Option iV)) (st : List iV) (h : iH) (Q : Option iV → iH → Prop), G sp sc [23] d mL_law (n + 1) 818 L st h Q = (match ld L 4 with | some (.inl x) => G sp sc [23] d mL_law n 820 L (.inl x :: st) h Q | _ => False)) ∧
  (∀ (n d : Nat) (L : List (Option iV)) (st : List iV) (h : iH) (Q : Option iV → iH → Prop), G sp sc [23] d mL_law (n + 1) 820 L st h Q = G sp sc [23] d mL_law n 821 L (.inl 2 :: st) h Q) ∧
  (∀ (n d : Nat) (L : List (Option iV)) (a : Int) (b : Int) (r : List iV) (h : iH) (Q : Option iV → iH → Prop), G sp sc [23] d mL_law (n + 1) 821 L (.inl b :: .inl a :: r) h Q = G sp sc [23] d mL_law n 822 L (.inl (a + b) :: r) h Q) ∧
  (∀ (n d : Nat) (L : List (Option iV)) (r : List iV) (j : Int) (h : iH) (Q : Option iV → iH → Prop), G sp sc [23] d mL_law (n + 1) 822 L (.inl j :: .inr (.inr 1) :: r) h Q = (inA j sc.length = true ∧ G sp sc [23] d mL_law n 823 L (.inl (sc.getD j.toNat 0) :: r) h Q)) ∧
  (∀ (n d : Nat) (L : List (Option iV)) (r : List iV) (j : Int) (m : Nat) (h : iH) (Q : Option iV → iH → Prop), G sp sc [23] d mL_law (n + 1) 822 L (.inl j :: .inr (.inr (m + 2)) :: r) h Q = (match h.1[m]? with | some (.inr (.inl (0, xs))) => inA j xs.length = true ∧ G sp sc [23] d mL_law n 823 L (.inl (xs.getD j.toNat 0) :: r) h Q | _ => False)) ∧
  (∀ (n d : Nat) (L : List (Option iV)) (st : List iV) (h : iH) (Q : Option iV → iH → Prop), G sp sc [23] d mL_law (n + 1) 823 L st h Q = (match ld L 0 with | some (.inr (.inr (r + 1))) => G sp sc [23] d mL_law n 824 L (.inr (.inr (r + 1)) :: st) h Q | _ => False)) ∧
  (∀ (n d : Nat) (L : List (Option iV)) (st : List iV) (h : iH) (Q : Option iV → iH → Prop), G sp sc [23] d mL_law (n + 1) 824 L st h Q = (match ld L 4 with | some (.inl x) => G sp sc [23] d mL_law n 826 L (.inl x :: st) h Q | _ => False)) ∧
  (∀ (n d : Nat) (L : List (Option iV)) (st : List iV) (h : iH) (Q : Option iV → iH → Prop), G sp sc [23] d mL_law (n + 1) 826 L st h Q = G sp sc [23] d mL_law n 827 L (.inl 3 :: st) h Q) ∧
  (∀ (n d : Nat) (L : List (Option iV)) (a : Int) (b : Int) (r : List iV) (h : iH) (Q : Option iV → iH → Prop), G sp sc [23] d mL_law (n + 1) 827 L (.inl b :: .inl a :: r) h Q = G sp sc [23] d mL_law n 828 L (.inl (a + b) :: r) h Q) ∧
  (∀ (n d : Nat) (L : List (Option iV)) (r : List iV) (j : Int) (h : iH) (Q : Option iV → iH → Prop), G sp sc [23] d mL_law (n + 1) 828 L (.inl j :: .inr (.inr 1) :: r) h Q = (inA j sc.length = true ∧ G sp sc [23] d mL_law n 829 L (.inl (sc.getD j.toNat 0) :: r) h Q)) ∧
  (∀ (n d : Nat) (L : List (Option iV)) (r : List iV) (j : Int) (m : Nat) (h : iH) (Q : Option iV → iH → Prop), G sp sc [23] d mL_law (n + 1) 828 L (.inl j :: .inr (.inr (m + 2)) :: r) h Q = (match h.1[m]? with | some (.inr (.inl (0, xs))) => inA j xs.length = true ∧ G sp sc [23] d mL_law n 829 L (.inl (xs.getD j.toNat 0) :: r) h Q | _ => False)) ∧
  (∀ (n d : Nat) (L : List (Option iV)) (st : List iV) (h : iH) (Q : Option iV → iH → Prop), G sp sc [23] d mL_law (n + 1) 829 L st h Q = (match ld L 0 with | some (.inr (.inr (r + 1))) => G sp sc [23] d mL_law n 830 L (.inr (.inr (r + 1)) :: st) h Q | _ => False)) ∧
  (∀ (n d : Nat) (L : List (Option iV)) (st : List iV) (h : iH) (Q : Option iV → iH → Prop), G sp sc [23] d mL_law (n + 1) 830 L st h Q = (match ld L 4 with | some (.inl x) => G sp sc [23] d mL_law n 832 L (.inl x :: st) h Q | _ => False)) ∧
  (∀ (n d : Nat) (L : List (Option iV)) (st : List iV) (h : iH) (Q : Option iV → iH → Prop), G sp sc [23] d mL_law (n + 1) 832 L st h Q = G sp sc [23] d mL_law n 833 L (.inl 4 :: st) h Q) ∧
  (∀ (n d : Nat) (L : List (Option iV)) (a : Int) (b : Int) (r : List iV) (h : iH) (Q : Option iV → iH → Prop), G sp sc [23] d mL_law (n + 1) 833 L (.inl b :: .inl a :: r) h Q = G sp sc [23] d mL_law n 834 L (.inl (a + b) :: r) h Q) ∧
  (∀ (n d : Nat) (L : List (Option iV)) (r : List iV) (j : Int) (h : iH) (Q : Option iV → iH → Prop), G sp sc [23] d mL_law (n + 1) 834 L (.inl j :: .inr (.inr 1) :: r) h Q = (inA j sc.length = true ∧ G sp sc [23] d mL_law n 835 L (.inl (sc.getD j.toNat 0) :: r) h Q)) ∧
  (∀ (n d : Nat) (L : List (Option iV)) (r : List iV) (j : Int) (m : Nat) (h : iH) (Q : Option iV → iH → Prop), G sp sc [23] d mL_law (n + 1) 834 L (.inl j :: .inr (.inr (m + 2)) :: r) h Q = (match h.1[m]? with | some (.inr (.inl (0, xs))) => inA j xs.length = true ∧ G sp sc [23] d mL_law n 835 L (.inl (xs.getD j.toNat 0) :: r) h Q | _ => False)) ∧
  (∀ (n d : Nat) (L : List (Option iV)) (r : List iV) (m : Nat) (z0 : iV) (z1 : iV) (z2 : iV) (z3 : iV) (h : iH) (Q : Option iV → iH → Prop), G sp sc [23] (d + 1) mL_law (n + 1) 835 L (z3 :: z2 :: z1 :: z0 :: .inr (.inr (m + 2)) :: r) h Q = (match h.1[m]? with | some (.inl (ci, _)) => (match lkC 13 81 ci with | some (y1, n1, kd) => (n1 = 4 ∧ (kd = 2 ∨ kd = 3 ∨ kd = 8) ∧ cs r ≤ 8) ∧ Call sp sc d y1 [.inr (.inr (m + 2)), z0, z1, z2, z3] h (fun q h1 => GC sp sc [23] (d + 1) mL_law n 838 L q r h h1 Q) | none => False) | _ => False)) ∧
  (∀ (n d : Nat) (L : List (Option iV)) (st : List iV) (h : iH) (Q : Option iV → iH → Prop), G sp sc [23] d mL_law (n + 1) 838 L st h Q = (match ld L 2 with | some (.inr (.inr (r + 1))) => G sp sc [23] d mL_law n 839 L (.inr (.inr (r + 1)) :: st) h Q | _ => False)) ∧
  (∀ (n d : Nat) (L : List (Option iV)) (st : List iV) (h : iH) (Q : Option iV → iH → Prop), G sp sc [23] d mL_law (n + 1) 839 L st h Q = (match ld L 0 with | some (.inr (.inr (r + 1))) => G sp sc [23] d mL_law n 840 L (.inr (.inr (r + 1)) :: st) h Q | _ => False)) ∧
  (∀ (n d : Nat) (L : List (Option iV)) (st : List iV) (h : iH) (Q : Option iV → iH → Prop), G sp sc [23] d mL_law (n + 1) 840 L st h Q = (match ld L 4 with | some (.inl x) => G sp sc [23] d mL_law n 842 L (.inl x :: st) h Q | _ => False)) ∧
  (∀ (n d : Nat) (L : List (Option iV)) (st : List iV) (h : iH) (Q : Option iV → iH → Prop), G sp sc [23] d mL_law (n + 1) 842 L st h Q = G sp sc [23] d mL_law n 843 L (.inl 1 :: st) h Q) ∧
  (∀ (n d : Nat) (L : List (Option iV)) (a : Int) (b : Int) (r : List iV) (h : iH) (Q : Option iV → iH → Prop), G sp sc [23] d mL_law (n + 1) 843 L (.inl b :: .inl a :: r) h Q = G sp sc [23] d mL_law n 844 L (.inl (a + b) :: r) h Q) ∧
  (∀ (n d : Nat) (L : List (Option iV)) (r : List iV) (j : Int) (h : iH) (Q : Option iV → iH → Prop), G sp sc [23] d mL_law (n + 1) 844 L (.inl j :: .inr (.inr 1) :: r) h Q = (inA j sc.length = true ∧ G sp sc [23] d mL_law n 845 L (.inl (sc.getD j.toNat 0) :: r) h Q)) ∧
  (∀ (n d : Nat) (L : List (Option iV)) (r : List iV) (j : Int) (m : Nat) (h : iH) (Q : Option iV → iH → Prop), G sp sc [23] d mL_law (n + 1) 844 L (.inl j :: .inr (.inr (m + 2)) :: r) h Q = (match h.1[m]? with | some (.inr (.inl (0, xs))) => inA j xs.length = true ∧ G sp sc [23] d mL_law n 845 L (.inl (xs.getD j.toNat 0) :: r) h Q | _ => False)) ∧
  (∀ (n d : Nat) (L : List (Option iV)) (st : List iV) (h : iH) (Q : Option iV → iH → Prop), G sp sc [23] d mL_law (n + 1) 845 L st h Q = (match ld L 0 with | some (.inr (.inr (r + 1))) => G sp sc [23] d mL_law n 846 L (.inr (.inr (r + 1)) :: st) h Q | _ => False)) ∧
  (∀ (n d : Nat) (L : List (Option iV)) (st : List iV) (h : iH) (Q : Option iV → iH → Prop), G sp sc [23] d mL_law (n + 1) 846 L st h Q = (match ld L 4 with | some (.inl x) => G sp sc [23] d mL_law n 848 L (.inl x :: st) h Q | _ => False)) ∧
  (∀ (n d : Nat) (L : List (Option iV)) (st : List iV) (h : iH) (Q : Option iV → iH → Prop), G sp sc [23] d mL_law (n + 1) 848 L st h Q = G sp sc [23] d mL_law n 849 L (.inl 2 :: st) h Q) ∧
  (∀ (n d : Nat) (L : List (Option iV)) (a : Int) (b : Int) (r : List iV) (h : iH) (Q : Option iV → iH → Prop), G sp sc [23] d mL_law (n + 1) 849 L (.inl b :: .inl a :: r) h Q = G sp sc [23] d mL_law n 850 L (.inl (a + b) :: r) h Q) ∧
  (∀ (n d : Nat) (L : List (Option iV)) (r : List iV) (j : Int) (h : iH) (Q : Option iV → iH → Prop), G sp sc [23] d mL_law (n + 1) 850 L (.inl j :: .inr (.inr 1) :: r) h Q = (inA j sc.length = true ∧ G sp sc [23] d mL_law n 851 L (.inl (sc.getD j.toNat 0) :: r) h Q)) ∧
  (∀ (n d : Nat) (L : List (Option iV)) (r : List iV) (j : Int) (m : Nat) (h : iH) (Q : Option iV → iH → Prop), G sp sc [23] d mL_law (n + 1) 850 L (.inl j :: .inr (.inr (m + 2)) :: r) h Q = (match h.1[m]? with | some (.inr (.inl (0, xs))) => inA j xs.length = true ∧ G sp sc [23] d mL_law n 851 L (.inl (xs.getD j.toNat 0) :: r) h Q | _ => False)) ∧
  (∀ (n d : Nat) (L : List (Option iV)) (st : List iV) (h : iH) (Q : Option iV → iH → Prop), G sp sc [23] d mL_law (n + 1) 851 L st h Q = (match ld L 0 with | some (.inr (.inr (r + 1))) => G sp sc [23] d mL_law n 852 L (.inr (.inr (r + 1)) :: st) h Q | _ => False)) ∧
  (∀ (n d : Nat) (L : List (Option iV)) (st : List iV) (h : iH) (Q : Option iV → iH → Prop), G sp sc [23] d mL_law (n + 1) 852 L st h Q = (match ld L 4 with | some (.inl x) => G sp sc [23] d mL_law n 854 L (.inl x :: st) h Q | _ => False)) ∧
  (∀ (n d : Nat) (L : List (Option iV)) (st : List iV) (h : iH) (Q : Option iV → iH → Prop), G sp sc [23] d mL_law (n + 1) 854 L st h Q = G sp sc [23] d mL_law n 855 L (.inl 3 :: st) h Q) ∧
  (∀ (n d : Nat) (L : List (Option iV)) (a : Int) (b : Int) (r : List iV) (h : iH) (Q : Option iV → iH → Prop), G sp sc [23] d mL_law (n + 1) 855 L (.inl b :: .inl a :: r) h Q = G sp sc [23] d mL_law n 856 L (.inl (a + b) :: r) h Q) ∧
  (∀ (n d : Nat) (L : List (Option iV)) (r : List iV) (j : Int) (h : iH) (Q : Option iV → iH → Prop), G sp sc [23] d mL_law (n + 1) 856 L (.inl j :: .inr (.inr 1) :: r) h Q = (inA j sc.length = true ∧ G sp sc [23] d mL_law n 857 L (.inl (sc.getD j.toNat 0) :: r) h Q)) ∧
  (∀ (n d : Nat) (L : List (Option iV)) (r : List iV) (j : Int) (m : Nat) (h : iH) (Q : Option iV → iH → Prop), G sp sc [23] d mL_law (n + 1) 856 L (.inl j :: .inr (.inr (m + 2)) :: r) h Q = (match h.1[m]? with | some (.inr (.inl (0, xs))) => inA j xs.length = true ∧ G sp sc [23] d mL_law n 857 L (.inl (xs.getD j.toNat 0) :: r) h Q | _ => False)) ∧
  (∀ (n d : Nat) (L : List (Option iV)) (st : List iV) (h : iH) (Q : Option iV → iH → Prop), G sp sc [23] d mL_law (n + 1) 857 L st h Q = (match ld L 0 with | some (.inr (.inr (r + 1))) => G sp sc [23] d mL_law n 858 L (.inr (.inr (r + 1)) :: st) h Q | _ => False)) ∧
  (∀ (n d : Nat) (L : List (Option iV)) (st : List iV) (h : iH) (Q : Option iV → iH → Prop), G sp sc [23] d mL_law (n + 1) 858 L st h Q = (match ld L 4 with | some (.inl x) => G sp sc [23] d mL_law n 860 L (.inl x :: st) h Q | _ => False)) ∧
  (∀ (n d : Nat) (L : List (Option iV)) (st : List iV) (h : iH) (Q : Option iV → iH → Prop), G sp sc [23] d mL_law (n + 1) 860 L st h Q = G sp sc [23] d mL_law n 861 L (.inl 4 :: st) h Q) ∧
  (∀ (n d : Nat) (L : List (Option iV)) (a : Int) (b : Int) (r : List iV) (h : iH) (Q : Option iV → iH → Prop), G sp sc [23] d mL_law (n + 1) 861 L (.inl b :: .inl a :: r) h Q = G sp sc [23] d mL_law n 862 L (.inl (a + b) :: r) h Q) ∧
  (∀ (n d : Nat) (L : List (Option iV)) (r : List iV) (j : Int) (h : iH) (Q : Option iV → iH → Prop), G sp sc [23] d mL_law (n + 1) 862 L (.inl j :: .inr (.inr 1) :: r) h Q = (inA j sc.length = true ∧ G sp sc [23] d mL_law n 863 L (.inl (sc.getD j.toNat 0) :: r) h Q)) ∧
  (∀ (n d : Nat) (L : List (Option iV)) (r : List iV) (j : Int) (m : Nat) (h : iH) (Q : Option iV → iH → Prop), G sp sc [23] d mL_law (n + 1) 862 L (.inl j :: .inr (.inr (m + 2)) :: r) h Q = (match h.1[m]? with | some (.inr (.inl (0, xs))) => inA j xs.length = true ∧ G sp sc [23] d mL_law n 863 L (.inl (xs.getD j.toNat 0) :: r) h Q | _ => False)) ∧
  (∀ (n d : Nat) (L : List (Option iV)) (r : List iV) (m : Nat) (z0 : iV) (z1 : iV) (z2 : iV) (z3 : iV) (h : iH) (Q : Option iV → iH → Prop), G sp sc [23] (d + 1) mL_law (n + 1) 863 L (z3 :: z2 :: z1 :: z0 :: .inr (.inr (m + 2)) :: r) h Q = (match h.1[m]? with | some (.inl (ci, _)) => (match lkC 13 84 ci with | some (y1, n1, kd) => (n1 = 4 ∧ (kd = 2 ∨ kd = 3 ∨ kd = 8) ∧ cs r ≤ 8) ∧ Call sp sc d y1 [.inr (.inr (m + 2)), z0, z1, z2, z3] h (fun q h1 => GC sp sc [23] (d + 1) mL_law n 866 L q r h h1 Q) | none => False) | _ => False)) ∧
  (∀ (n d : Nat) (L : List (Option iV)) (a : Int) (b : Int) (r : List iV) (h : iH) (Q : Option iV → iH → Prop), G sp sc [23] d mL_law (n + 1) 866 L (.inl b :: .inl a :: r) h Q = ((inI a = true ∧ inI b = true) ∧ (a = b → G sp sc [23] d mL_law n 1950 L r h Q) ∧ (¬ (a = b) → G sp sc [23] d mL_law n 869 L r h Q))) ∧
  (∀ (n d : Nat) (L : List (Option iV)) (st : List iV) (h : iH) (Q : Option iV → iH → Prop), G sp sc [23] d mL_law (n + 1) 869 L st h Q = G sp sc [23] d mL_law n 870 L (.inl 0 :: st) h Q) ∧
  (∀ (n d : Nat) (L : List (Option iV)) (a : Int) (h : iH) (Q : Option iV → iH → Prop), G sp sc [23] d mL_law (n + 1) 870 L [.inl a] h Q = ((a = 0 ∨ a = 1) ∧ Q (some (.inl a)) h)) := ⟨by intros; exact G_at (by decide +kernel : fetch mL_law 810 = some (.aload_n 1)),
  by intros; exact G_at (by decide +kernel : fetch mL_law 811 = some (.aload_n 0)),
  by intros; exact G_at (by decide +kernel : fetch mL_law 812 = some (.iload 4)),
  by intros; exact G_at (by decide +kernel : fetch mL_law 814 = some (.iconst 1)),
  by intros; exact G_at (by decide +kernel : fetch mL_law 815 = some (.iadd)),
  by intros; exact G_at (by decide +kernel : fetch mL_law 816 = some (.iaload)),
  by intros; exact G_at (by decide +kernel : fetch mL_law 816 = some (.iaload)),
  by intros; exact G_at (by decide +kernel : fetch mL_law 817 = some (.aload_n 0)),
  by intros; exact G_at (by decide +kernel : fetch mL_law 818 = some (.iload 4)),
  by intros; exact G_at (by decide +kernel : fetch mL_law 820 = some (.iconst 2)),
  by intros; exact G_at (by decide +kernel : fetch mL_law 821 = some (.iadd)),
  by intros; exact G_at (by decide +kernel : fetch mL_law 822 = some (.iaload)),
  by intros; exact G_at (by decide +kernel : fetch mL_law 822 = some (.iaload)),
  by intros; exact G_at (by decide +kernel : fetch mL_law 823 = some (.aload_n 0)),
  by intros; exact G_at (by decide +kernel : fetch mL_law 824 = some (.iload 4)),
  by intros; exact G_at (by decide +kernel : fetch mL_law 826 = some (.iconst 3)),
  by intros; exact G_at (by decide +kernel : fetch mL_law 827 = some (.iadd)),
  by intros; exact G_at (by decide +kernel : fetch mL_law 828 = some (.iaload)),
  by intros; exact G_at (by decide +kernel : fetch mL_law 828 = some (.iaload)),
  by intros; exact G_at (by decide +kernel : fetch mL_law 829 = some (.aload_n 0)),
  by intros; exact G_at (by decide +kernel : fetch mL_law 830 = some (.iload 4)),
  by intros; exact G_at (by decide +kernel : fetch mL_law 832 = some (.iconst 4)),
  by intros; exact G_at (by decide +kernel : fetch mL_law 833 = some (.iadd)),
  by intros; exact G_at (by decide +kernel : fetch mL_law 834 = some (.iaload)),
  by intros; exact G_at (by decide +kernel : fetch mL_law 834 = some (.iaload)),
  by intros; exact G_callV (by decide +kernel : fetch mL_law 835 = some (.invokevirtual 81)) (by decide +kernel) (by decide +kernel) rfl,
  by intros; exact G_at (by decide +kernel : fetch mL_law 838 = some (.aload_n 2)),
  by intros; exact G_at (by decide +kernel : fetch mL_law 839 = some (.aload_n 0)),
  by intros; exact G_at (by decide +kernel : fetch mL_law 840 = some (.iload 4)),
  by intros; exact G_at (by decide +kernel : fetch mL_law 842 = some (.iconst 1)),
  by intros; exact G_at (by decide +kernel : fetch mL_law 843 = some (.iadd)),
  by intros; exact G_at (by decide +kernel : fetch mL_law 844 = some (.iaload)),
  by intros; exact G_at (by decide +kernel : fetch mL_law 844 = some (.iaload)),
  by intros; exact G_at (by decide +kernel : fetch mL_law 845 = some (.aload_n 0)),
  by intros; exact G_at (by decide +kernel : fetch mL_law 846 = some (.iload 4)),
  by intros; exact G_at (by decide +kernel : fetch mL_law 848 = some (.iconst 2)),
  by intros; exact G_at (by decide +kernel : fetch mL_law 849 = some (.iadd)),
  by intros; exact G_at (by decide +kernel : fetch mL_law 850 = some (.iaload)),
  by intros; exact G_at (by decide +kernel : fetch mL_law 850 = some (.iaload)),
  by intros; exact G_at (by decide +kernel : fetch mL_law 851 = some (.aload_n 0)),
  by intros; exact G_at (by decide +kernel : fetch mL_law 852 = some (.iload 4)),
  by intros; exact G_at (by decide +kernel : fetch mL_law 854 = some (.iconst 3)),
  by intros; exact G_at (by decide +kernel : fetch mL_law 855 = some (.iadd)),
  by intros; exact G_at (by decide +kernel : fetch mL_law 856 = some (.iaload)),
  by intros; exact G_at (by decide +kernel : fetch mL_law 856 = some (.iaload)),
  by intros; exact G_at (by decide +kernel : fetch mL_law 857 = some (.aload_n 0)),
  by intros; exact G_at (by decide +kernel : fetch mL_law 858 = some (.iload 4)),
  by intros; exact G_at (by decide +kernel : fetch mL_law 860 = some (.iconst 4)),
  by intros; exact G_at (by decide +kernel : fetch mL_law 861 = some (.iadd)),
  by intros; exact G_at (by decide +kernel : fetch mL_law 862 = some (.iaload)),
  by intros; exact G_at (by decide +kernel : fetch mL_law 862 = some (.iaload)),
  by intros; exact G_callV (by decide +kernel : fetch mL_law 863 = some (.invokevirtual 84)) (by decide +kernel) (by decide +kernel) rfl,
  by intros; exact G_at (by decide +kernel : fetch mL_law 866 = some (.if_icmp .eq 1084)),
  by intros; exact G_at (by decide +kernel : fetch mL_law 869 = some (.iconst 0)),
  by intros; exact G_retz (by decide +kernel : fetch mL_law 870 = some (.ireturn)) (by decide +kernel)⟩
theorem gL_c15 : (∀ (n d : Nat) (L : List (Option iV)) (st : List iV) (h : iH) (Q : Option iV → iH → Prop), G sp sc [23] d mL_law (n + 1) 871 L st h Q = (match ld L 1 with | some (.inr (.inr (r + 1))) => G sp sc [23] d mL_law n 872 L (.inr (.inr (r + 1)) :: st) h Q | _ => False)) ∧
  (∀ (n d : Nat) (L : List (Option iV)) (st : List iV) (h : iH) (Q : Option iV → iH → Prop), G sp sc [23] d mL_law (n + 1) 872 L st h Q = (match ld L 0 with | some (.inr (.inr (r + 1))) => G sp sc [23] d mL_law n 873 L (.inr (.inr (r + 1)) :: st) h Q | _ => False)) ∧
  (∀ (n d : Nat) (L : List (Option iV)) (st : List iV) (h : iH) (Q : Option iV → iH → Prop), G sp sc [23] d mL_law (n + 1) 873 L st h Q = (match ld L 4 with | some (.inl x) => G sp sc [23] d mL_law n 875 L (.inl x :: st) h Q | _ => False)) ∧
  (∀ (n d : Nat) (L : List (Option iV)) (st : List iV) (h : iH) (Q : Option iV → iH → Prop), G sp sc [23] d mL_law (n + 1) 875 L st h Q = G sp sc [23] d mL_law n 876 L (.inl 1 :: st) h Q) ∧
  (∀ (n d : Nat) (L : List (Option iV)) (a : Int) (b : Int) (r : List iV) (h : iH) (Q : Option iV → iH → Prop), G sp sc [23] d mL_law (n + 1) 876 L (.inl b :: .inl a :: r) h Q = G sp sc [23] d mL_law n 877 L (.inl (a + b) :: r) h Q) ∧
  (∀ (n d : Nat) (L : List (Option iV)) (r : List iV) (j : Int) (h : iH) (Q : Option iV → iH → Prop), G sp sc [23] d mL_law (n + 1) 877 L (.inl j :: .inr (.inr 1) :: r) h Q = (inA j sc.length = true ∧ G sp sc [23] d mL_law n 878 L (.inl (sc.getD j.toNat 0) :: r) h Q)) ∧
  (∀ (n d : Nat) (L : List (Option iV)) (r : List iV) (j : Int) (m : Nat) (h : iH) (Q : Option iV → iH → Prop), G sp sc [23] d mL_law (n + 1) 877 L (.inl j :: .inr (.inr (m + 2)) :: r) h Q = (match h.1[m]? with | some (.inr (.inl (0, xs))) => inA j xs.length = true ∧ G sp sc [23] d mL_law n 878 L (.inl (xs.getD j.toNat 0) :: r) h Q | _ => False)) ∧
  (∀ (n d : Nat) (L : List (Option iV)) (st : List iV) (h : iH) (Q : Option iV → iH → Prop), G sp sc [23] d mL_law (n + 1) 878 L st h Q = (match ld L 0 with | some (.inr (.inr (r + 1))) => G sp sc [23] d mL_law n 879 L (.inr (.inr (r + 1)) :: st) h Q | _ => False)) ∧
  (∀ (n d : Nat) (L : List (Option iV)) (st : List iV) (h : iH) (Q : Option iV → iH → Prop), G sp sc [23] d mL_law (n + 1) 879 L st h Q = (match ld L 4 with | some (.inl x) => G sp sc [23] d mL_law n 881 L (.inl x :: st) h Q | _ => False)) ∧
  (∀ (n d : Nat) (L : List (Option iV)) (st : List iV) (h : iH) (Q : Option iV → iH → Prop), G sp sc [23] d mL_law (n + 1) 881 L st h Q = G sp sc [23] d mL_law n 882 L (.inl 2 :: st) h Q) ∧
  (∀ (n d : Nat) (L : List (Option iV)) (a : Int) (b : Int) (r : List iV) (h : iH) (Q : Option iV → iH → Prop), G sp sc [23] d mL_law (n + 1) 882 L (.inl b :: .inl a :: r) h Q = G sp sc [23] d mL_law n 883 L (.inl (a + b) :: r) h Q) ∧
  (∀ (n d : Nat) (L : List (Option iV)) (r : List iV) (j : Int) (h : iH) (Q : Option iV → iH → Prop), G sp sc [23] d mL_law (n + 1) 883 L (.inl j :: .inr (.inr 1) :: r) h Q = (inA j sc.length = true ∧ G sp sc [23] d mL_law n 884 L (.inl (sc.getD j.toNat 0) :: r) h Q)) ∧
  (∀ (n d : Nat) (L : List (Option iV)) (r : List iV) (j : Int) (m : Nat) (h : iH) (Q : Option iV → iH → Prop), G sp sc [23] d mL_law (n + 1) 883 L (.inl j :: .inr (.inr (m + 2)) :: r) h Q = (match h.1[m]? with | some (.inr (.inl (0, xs))) => inA j xs.length = true ∧ G sp sc [23] d mL_law n 884 L (.inl (xs.getD j.toNat 0) :: r) h Q | _ => False)) ∧
  (∀ (n d : Nat) (L : List (Option iV)) (st : List iV) (h : iH) (Q : Option iV → iH → Prop), G sp sc [23] d mL_law (n + 1) 884 L st h Q = (match ld L 0 with | some (.inr (.inr (r + 1))) => G sp sc [23] d mL_law n 885 L (.inr (.inr (r + 1)) :: st) h Q | _ => False)) ∧
  (∀ (n d : Nat) (L : List (Option iV)) (st : List iV) (h : iH) (Q : Option iV → iH → Prop), G sp sc [23] d mL_law (n + 1) 885 L st h Q = (match ld L 4 with | some (.inl x) => G sp sc [23] d mL_law n 887 L (.inl x :: st) h Q | _ => False)) ∧
  (∀ (n d : Nat) (L : List (Option iV)) (st : List iV) (h : iH) (Q : Option iV → iH → Prop), G sp sc [23] d mL_law (n + 1) 887 L st h Q = G sp sc [23] d mL_law n 888 L (.inl 3 :: st) h Q) ∧
  (∀ (n d : Nat) (L : List (Option iV)) (a : Int) (b : Int) (r : List iV) (h : iH) (Q : Option iV → iH → Prop), G sp sc [23] d mL_law (n + 1) 888 L (.inl b :: .inl a :: r) h Q = G sp sc [23] d mL_law n 889 L (.inl (a + b) :: r) h Q) ∧
  (∀ (n d : Nat) (L : List (Option iV)) (r : List iV) (j : Int) (h : iH) (Q : Option iV → iH → Prop), G sp sc [23] d mL_law (n + 1) 889 L (.inl j :: .inr (.inr 1) :: r) h Q = (inA j sc.length = true ∧ G sp sc [23] d mL_law n 890 L (.inl (sc.getD j.toNat 0) :: r) h Q)) ∧
  (∀ (n d : Nat) (L : List (Option iV)) (r : List iV) (j : Int) (m : Nat) (h : iH) (Q : Option iV → iH → Prop), G sp sc [23] d mL_law (n + 1) 889 L (.inl j :: .inr (.inr (m + 2)) :: r) h Q = (match h.1[m]? with | some (.inr (.inl (0, xs))) => inA j xs.length = true ∧ G sp sc [23] d mL_law n 890 L (.inl (xs.getD j.toNat 0) :: r) h Q | _ => False)) ∧
  (∀ (n d : Nat) (L : List (Option iV)) (r : List iV) (m : Nat) (z0 : iV) (z1 : iV) (z2 : iV) (h : iH) (Q : Option iV → iH → Prop), G sp sc [23] (d + 1) mL_law (n + 1) 890 L (z2 :: z1 :: z0 :: .inr (.inr (m + 2)) :: r) h Q = (match h.1[m]? with | some (.inl (ci, _)) => (match lkC 13 85 ci with | some (y1, n1, kd) => (n1 = 3 ∧ (kd = 2 ∨ kd = 3 ∨ kd = 8) ∧ cs r ≤ 8) ∧ Call sp sc d y1 [.inr (.inr (m + 2)), z0, z1, z2] h (fun q h1 => GC sp sc [23] (d + 1) mL_law n 893 L q r h h1 Q) | none => False) | _ => False)) ∧
  (∀ (n d : Nat) (L : List (Option iV)) (st : List iV) (h : iH) (Q : Option iV → iH → Prop), G sp sc [23] d mL_law (n + 1) 893 L st h Q = (match ld L 2 with | some (.inr (.inr (r + 1))) => G sp sc [23] d mL_law n 894 L (.inr (.inr (r + 1)) :: st) h Q | _ => False)) ∧
  (∀ (n d : Nat) (L : List (Option iV)) (st : List iV) (h : iH) (Q : Option iV → iH → Prop), G sp sc [23] d mL_law (n + 1) 894 L st h Q = (match ld L 0 with | some (.inr (.inr (r + 1))) => G sp sc [23] d mL_law n 895 L (.inr (.inr (r + 1)) :: st) h Q | _ => False)) ∧
  (∀ (n d : Nat) (L : List (Option iV)) (st : List iV) (h : iH) (Q : Option iV → iH → Prop), G sp sc [23] d mL_law (n + 1) 895 L st h Q = (match ld L 4 with | some (.inl x) => G sp sc [23] d mL_law n 897 L (.inl x :: st) h Q | _ => False)) ∧
  (∀ (n d : Nat) (L : List (Option iV)) (st : List iV) (h : iH) (Q : Option iV → iH → Prop), G sp sc [23] d mL_law (n + 1) 897 L st h Q = G sp sc [23] d mL_law n 898 L (.inl 1 :: st) h Q) ∧
  (∀ (n d : Nat) (L : List (Option iV)) (a : Int) (b : Int) (r : List iV) (h : iH) (Q : Option iV → iH → Prop), G sp sc [23] d mL_law (n + 1) 898 L (.inl b :: .inl a :: r) h Q = G sp sc [23] d mL_law n 899 L (.inl (a + b) :: r) h Q) ∧
  (∀ (n d : Nat) (L : List (Option iV)) (r : List iV) (j : Int) (h : iH) (Q : Option iV → iH → Prop), G sp sc [23] d mL_law (n + 1) 899 L (.inl j :: .inr (.inr 1) :: r) h Q = (inA j sc.length = true ∧ G sp sc [23] d mL_law n 900 L (.inl (sc.getD j.toNat 0) :: r) h Q)) ∧
  (∀ (n d : Nat) (L : List (Option iV)) (r : List iV) (j : Int) (m : Nat) (h : iH) (Q : Option iV → iH → Prop), G sp sc [23] d mL_law (n + 1) 899 L (.inl j :: .inr (.inr (m + 2)) :: r) h Q = (match h.1[m]? with | some (.inr (.inl (0, xs))) => inA j xs.length = true ∧ G sp sc [23] d mL_law n 900 L (.inl (xs.getD j.toNat 0) :: r) h Q | _ => False)) ∧
  (∀ (n d : Nat) (L : List (Option iV)) (st : List iV) (h : iH) (Q : Option iV → iH → Prop), G sp sc [23] d mL_law (n + 1) 900 L st h Q = (match ld L 0 with | some (.inr (.inr (r + 1))) => G sp sc [23] d mL_law n 901 L (.inr (.inr (r + 1)) :: st) h Q | _ => False)) ∧
  (∀ (n d : Nat) (L : List (Option iV)) (st : List iV) (h : iH) (Q : Option iV → iH → Prop), G sp sc [23] d mL_law (n + 1) 901 L st h Q = (match ld L 4 with | some (.inl x) => G sp sc [23] d mL_law n 903 L (.inl x :: st) h Q | _ => False)) ∧
  (∀ (n d : Nat) (L : List (Option iV)) (st : List iV) (h : iH) (Q : Option iV → iH → Prop), G sp sc [23] d mL_law (n + 1) 903 L st h Q = G sp sc [23] d mL_law n 904 L (.inl 2 :: st) h Q) ∧
  (∀ (n d : Nat) (L : List (Option iV)) (a : Int) (b : Int) (r : List iV) (h : iH) (Q : Option iV → iH → Prop), G sp sc [23] d mL_law (n + 1) 904 L (.inl b :: .inl a :: r) h Q = G sp sc [23] d mL_law n 905 L (.inl (a + b) :: r) h Q) ∧
  (∀ (n d : Nat) (L : List (Option iV)) (r : List iV) (j : Int) (h : iH) (Q : Option iV → iH → Prop), G sp sc [23] d mL_law (n + 1) 905 L (.inl j :: .inr (.inr 1) :: r) h Q = (inA j sc.length = true ∧ G sp sc [23] d mL_law n 906 L (.inl (sc.getD j.toNat 0) :: r) h Q)) ∧
  (∀ (n d : Nat) (L : List (Option iV)) (r : List iV) (j : Int) (m : Nat) (h : iH) (Q : Option iV → iH → Prop), G sp sc [23] d mL_law (n + 1) 905 L (.inl j :: .inr (.inr (m + 2)) :: r) h Q = (match h.1[m]? with | some (.inr (.inl (0, xs))) => inA j xs.length = true ∧ G sp sc [23] d mL_law n 906 L (.inl (xs.getD j.toNat 0) :: r) h Q | _ => False)) ∧
  (∀ (n d : Nat) (L : List (Option iV)) (st : List iV) (h : iH) (Q : Option iV → iH → Prop), G sp sc [23] d mL_law (n + 1) 906 L st h Q = (match ld L 0 with | some (.inr (.inr (r + 1))) => G sp sc [23] d mL_law n 907 L (.inr (.inr (r + 1)) :: st) h Q | _ => False)) ∧
  (∀ (n d : Nat) (L : List (Option iV)) (st : List iV) (h : iH) (Q : Option iV → iH → Prop), G sp sc [23] d mL_law (n + 1) 907 L st h Q = (match ld L 4 with | some (.inl x) => G sp sc [23] d mL_law n 909 L (.inl x :: st) h Q | _ => False)) ∧
  (∀ (n d : Nat) (L : List (Option iV)) (st : List iV) (h : iH) (Q : Option iV → iH → Prop), G sp sc [23] d mL_law (n + 1) 909 L st h Q = G sp sc [23] d mL_law n 910 L (.inl 3 :: st) h Q) ∧
  (∀ (n d : Nat) (L : List (Option iV)) (a : Int) (b : Int) (r : List iV) (h : iH) (Q : Option iV → iH → Prop), G sp sc [23] d mL_law (n + 1) 910 L (.inl b :: .inl a :: r) h Q = G sp sc [23] d mL_law n 911 L (.inl (a + b) :: r) h Q) ∧
  (∀ (n d : Nat) (L : List (Option iV)) (r : List iV) (j : Int) (h : iH) (Q : Option iV → iH → Prop), G sp sc [23] d mL_law (n + 1) 911 L (.inl j :: .inr (.inr 1) :: r) h Q = (inA j sc.length = true ∧ G sp sc [23] d mL_law n 912 L (.inl (sc.getD j.toNat 0) :: r) h Q)) ∧
  (∀ (n d : Nat) (L : List (Option iV)) (r : List iV) (j : Int) (m : Nat) (h : iH) (Q : Option iV → iH → Prop), G sp sc [23] d mL_law (n + 1) 911 L (.inl j :: .inr (.inr (m + 2)) :: r) h Q = (match h.1[m]? with | some (.inr (.inl (0, xs))) => inA j xs.length = true ∧ G sp sc [23] d mL_law n 912 L (.inl (xs.getD j.toNat 0) :: r) h Q | _ => False)) ∧
  (∀ (n d : Nat) (L : List (Option iV)) (r : List iV) (m : Nat) (z0 : iV) (z1 : iV) (z2 : iV) (h : iH) (Q : Option iV → iH → Prop), G sp sc [23] (d + 1) mL_law (n + 1) 912 L (z2 :: z1 :: z0 :: .inr (.inr (m + 2)) :: r) h Q = (match h.1[m]? with | some (.inl (ci, _)) => (match lkC 13 88 ci with | some (y1, n1, kd) => (n1 = 3 ∧ (kd = 2 ∨ kd = 3 ∨ kd = 8) ∧ cs r ≤ 8) ∧ Call sp sc d y1 [.inr (.inr (m + 2)), z0, z1, z2] h (fun q h1 => GC sp sc [23] (d + 1) mL_law n 915 L q r h h1 Q) | none => False) | _ => False)) ∧
  (∀ (n d : Nat) (L : List (Option iV)) (a : Int) (b : Int) (r : List iV) (h : iH) (Q : Option iV → iH → Prop), G sp sc [23] d mL_law (n + 1) 915 L (.inl b :: .inl a :: r) h Q = ((inI a = true ∧ inI b = true) ∧ (a = b → G sp sc [23] d mL_law n 1950 L r h Q) ∧ (¬ (a = b) → G sp sc [23] d mL_law n 918 L r h Q))) ∧
  (∀ (n d : Nat) (L : List (Option iV)) (st : List iV) (h : iH) (Q : Option iV → iH → Prop), G sp sc [23] d mL_law (n + 1) 918 L st h Q = G sp sc [23] d mL_law n 919 L (.inl 0 :: st) h Q) ∧
  (∀ (n d : Nat) (L : List (Option iV)) (a : Int) (h : iH) (Q : Option iV → iH → Prop), G sp sc [23] d mL_law (n + 1) 919 L [.inl a] h Q = ((a = 0 ∨ a = 1) ∧ Q (some (.inl a)) h)) := ⟨by intros; exact G_at (by decide +kernel : fetch mL_law 871 = some (.aload_n 1)),
  by intros; exact G_at (by decide +kernel : fetch mL_law 872 = some (.aload_n 0)),
  by intros; exact G_at (by decide +kernel : fetch mL_law 873 = some (.iload 4)),
  by intros; exact G_at (by decide +kernel : fetch mL_law 875 = some (.iconst 1)),
  by intros; exact G_at (by decide +kernel : fetch mL_law 876 = some (.iadd)),
  by intros; exact G_at (by decide +kernel : fetch mL_law 877 = some (.iaload)),
  by intros; exact G_at (by decide +kernel : fetch mL_law 877 = some (.iaload)),
  by intros; exact G_at (by decide +kernel : fetch mL_law 878 = some (.aload_n 0)),
  by intros; exact G_at (by decide +kernel : fetch mL_law 879 = some (.iload 4)),
  by intros; exact G_at (by decide +kernel : fetch mL_law 881 = some (.iconst 2)),
  by intros; exact G_at (by decide +kernel : fetch mL_law 882 = some (.iadd)),
  by intros; exact G_at (by decide +kernel : fetch mL_law 883 = some (.iaload)),
  by intros; exact G_at (by decide +kernel : fetch mL_law 883 = some (.iaload)),
  by intros; exact G_at (by decide +kernel : fetch mL_law 884 = some (.aload_n 0)),
  by intros; exact G_at (by decide +kernel : fetch mL_law 885 = some (.iload 4)),
  by intros; exact G_at (by decide +kernel : fetch mL_law 887 = some (.iconst 3)),
  by intros; exact G_at (by decide +kernel : fetch mL_law 888 = some (.iadd)),
  by intros; exact G_at (by decide +kernel : fetch mL_law 889 = some (.iaload)),
  by intros; exact G_at (by decide +kernel : fetch mL_law 889 = some (.iaload)),
  by intros; exact G_callV (by decide +kernel : fetch mL_law 890 = some (.invokevirtual 85)) (by decide +kernel) (by decide +kernel) rfl,
  by intros; exact G_at (by decide +kernel : fetch mL_law 893 = some (.aload_n 2)),
  by intros; exact G_at (by decide +kernel : fetch mL_law 894 = some (.aload_n 0)),
  by intros; exact G_at (by decide +kernel : fetch mL_law 895 = some (.iload 4)),
  by intros; exact G_at (by decide +kernel : fetch mL_law 897 = some (.iconst 1)),
  by intros; exact G_at (by decide +kernel : fetch mL_law 898 = some (.iadd)),
  by intros; exact G_at (by decide +kernel : fetch mL_law 899 = some (.iaload)),
  by intros; exact G_at (by decide +kernel : fetch mL_law 899 = some (.iaload)),
  by intros; exact G_at (by decide +kernel : fetch mL_law 900 = some (.aload_n 0)),
  by intros; exact G_at (by decide +kernel : fetch mL_law 901 = some (.iload 4)),
  by intros; exact G_at (by decide +kernel : fetch mL_law 903 = some (.iconst 2)),
  by intros; exact G_at (by decide +kernel : fetch mL_law 904 = some (.iadd)),
  by intros; exact G_at (by decide +kernel : fetch mL_law 905 = some (.iaload)),
  by intros; exact G_at (by decide +kernel : fetch mL_law 905 = some (.iaload)),
  by intros; exact G_at (by decide +kernel : fetch mL_law 906 = some (.aload_n 0)),
  by intros; exact G_at (by decide +kernel : fetch mL_law 907 = some (.iload 4)),
  by intros; exact G_at (by decide +kernel : fetch mL_law 909 = some (.iconst 3)),
  by intros; exact G_at (by decide +kernel : fetch mL_law 910 = some (.iadd)),
  by intros; exact G_at (by decide +kernel : fetch mL_law 911 = some (.iaload)),
  by intros; exact G_at (by decide +kernel : fetch mL_law 911 = some (.iaload)),
  by intros; exact G_callV (by decide +kernel : fetch mL_law 912 = some (.invokevirtual 88)) (by decide +kernel) (by decide +kernel) rfl,
  by intros; exact G_at (by decide +kernel : fetch mL_law 915 = some (.if_icmp .eq 1035)),
  by intros; exact G_at (by decide +kernel : fetch mL_law 918 = some (.iconst 0)),
  by intros; exact G_retz (by decide +kernel : fetch mL_law 919 = some (.ireturn)) (by decide +kernel)⟩
theorem gL_c16 : (∀ (n d : Nat) (L : List (Option iV)) (st : List iV) (h : iH) (Q : Option iV → iH → Prop), G sp sc [23] d mL_law (n + 1) 920 L st h Q = (match ld L 1 with | some (.inr (.inr (r + 1))) => G sp sc [23] d mL_law n 921 L (.inr (.inr (r + 1)) :: st) h Q | _ => False)) ∧
  (∀ (n d : Nat) (L : List (Option iV)) (st : List iV) (h : iH) (Q : Option iV → iH → Prop), G sp sc [23] d mL_law (n + 1) 921 L st h Q = (match ld L 0 with | some (.inr (.inr (r + 1))) => G sp sc [23] d mL_law n 922 L (.inr (.inr (r + 1)) :: st) h Q | _ => False)) ∧
  (∀ (n d : Nat) (L : List (Option iV)) (st : List iV) (h : iH) (Q : Option iV → iH → Prop), G sp sc [23] d mL_law (n + 1) 922 L st h Q = (match ld L 4 with | some (.inl x) => G sp sc [23] d mL_law n 924 L (.inl x :: st) h Q | _ => False)) ∧
  (∀ (n d : Nat) (L : List (Option iV)) (st : List iV) (h : iH) (Q : Option iV → iH → Prop), G sp sc [23] d mL_law (n + 1) 924 L st h Q = G sp sc [23] d mL_law n 925 L (.inl 1 :: st) h Q) ∧
  (∀ (n d : Nat) (L : List (Option iV)) (a : Int) (b : Int) (r : List iV) (h : iH) (Q : Option iV → iH → Prop), G sp sc [23] d mL_law (n + 1) 925 L (.inl b :: .inl a :: r) h Q = G sp sc [23] d mL_law n 926 L (.inl (a + b) :: r) h Q) ∧
  (∀ (n d : Nat) (L : List (Option iV)) (r : List iV) (j : Int) (h : iH) (Q : Option iV → iH → Prop), G sp sc [23] d mL_law (n + 1) 926 L (.inl j :: .inr (.inr 1) :: r) h Q = (inA j sc.length = true ∧ G sp sc [23] d mL_law n 927 L (.inl (sc.getD j.toNat 0) :: r) h Q)) ∧
  (∀ (n d : Nat) (L : List (Option iV)) (r : List iV) (j : Int) (m : Nat) (h : iH) (Q : Option iV → iH → Prop), G sp sc [23] d mL_law (n + 1) 926 L (.inl j :: .inr (.inr (m + 2)) :: r) h Q = (match h.1[m]? with | some (.inr (.inl (0, xs))) => inA j xs.length = true ∧ G sp sc [23] d mL_law n 927 L (.inl (xs.getD j.toNat 0) :: r) h Q | _ => False)) ∧
  (∀ (n d : Nat) (L : List (Option iV)) (st : List iV) (h : iH) (Q : Option iV → iH → Prop), G sp sc [23] d mL_law (n + 1) 927 L st h Q = (match ld L 0 with | some (.inr (.inr (r + 1))) => G sp sc [23] d mL_law n 928 L (.inr (.inr (r + 1)) :: st) h Q | _ => False)) ∧
  (∀ (n d : Nat) (L : List (Option iV)) (st : List iV) (h : iH) (Q : Option iV → iH → Prop), G sp sc [23] d mL_law (n + 1) 928 L st h Q = (match ld L 4 with | some (.inl x) => G sp sc [23] d mL_law n 930 L (.inl x :: st) h Q | _ => False)) ∧
  (∀ (n d : Nat) (L : List (Option iV)) (st : List iV) (h : iH) (Q : Option iV → iH → Prop), G sp sc [23] d mL_law (n + 1) 930 L st h Q = G sp sc [23] d mL_law n 931 L (.inl 2 :: st) h Q) ∧
  (∀ (n d : Nat) (L : List (Option iV)) (a : Int) (b : Int) (r : List iV) (h : iH) (Q : Option iV → iH → Prop), G sp sc [23] d mL_law (n + 1) 931 L (.inl b :: .inl a :: r) h Q = G sp sc [23] d mL_law n 932 L (.inl (a + b) :: r) h Q) ∧
  (∀ (n d : Nat) (L : List (Option iV)) (r : List iV) (j : Int) (h : iH) (Q : Option iV → iH → Prop), G sp sc [23] d mL_law (n + 1) 932 L (.inl j :: .inr (.inr 1) :: r) h Q = (inA j sc.length = true ∧ G sp sc [23] d mL_law n 933 L (.inl (sc.getD j.toNat 0) :: r) h Q)) ∧
  (∀ (n d : Nat) (L : List (Option iV)) (r : List iV) (j : Int) (m : Nat) (h : iH) (Q : Option iV → iH → Prop), G sp sc [23] d mL_law (n + 1) 932 L (.inl j :: .inr (.inr (m + 2)) :: r) h Q = (match h.1[m]? with | some (.inr (.inl (0, xs))) => inA j xs.length = true ∧ G sp sc [23] d mL_law n 933 L (.inl (xs.getD j.toNat 0) :: r) h Q | _ => False)) ∧
  (∀ (n d : Nat) (L : List (Option iV)) (r : List iV) (m : Nat) (z0 : iV) (z1 : iV) (h : iH) (Q : Option iV → iH → Prop), G sp sc [23] (d + 1) mL_law (n + 1) 933 L (z1 :: z0 :: .inr (.inr (m + 2)) :: r) h Q = (match h.1[m]? with | some (.inl (ci, _)) => (match lkC 13 89 ci with | some (y1, n1, kd) => (n1 = 2 ∧ (kd = 2 ∨ kd = 3 ∨ kd = 8) ∧ cs r ≤ 8) ∧ Call sp sc d y1 [.inr (.inr (m + 2)), z0, z1] h (fun q h1 => GC sp sc [23] (d + 1) mL_law n 936 L q r h h1 Q) | none => False) | _ => False)) ∧
  (∀ (n d : Nat) (L : List (Option iV)) (st : List iV) (h : iH) (Q : Option iV → iH → Prop), G sp sc [23] d mL_law (n + 1) 936 L st h Q = (match ld L 2 with | some (.inr (.inr (r + 1))) => G sp sc [23] d mL_law n 937 L (.inr (.inr (r + 1)) :: st) h Q | _ => False)) ∧
  (∀ (n d : Nat) (L : List (Option iV)) (st : List iV) (h : iH) (Q : Option iV → iH → Prop), G sp sc [23] d mL_law (n + 1) 937 L st h Q = (match ld L 0 with | some (.inr (.inr (r + 1))) => G sp sc [23] d mL_law n 938 L (.inr (.inr (r + 1)) :: st) h Q | _ => False)) ∧
  (∀ (n d : Nat) (L : List (Option iV)) (st : List iV) (h : iH) (Q : Option iV → iH → Prop), G sp sc [23] d mL_law (n + 1) 938 L st h Q = (match ld L 4 with | some (.inl x) => G sp sc [23] d mL_law n 940 L (.inl x :: st) h Q | _ => False)) ∧
  (∀ (n d : Nat) (L : List (Option iV)) (st : List iV) (h : iH) (Q : Option iV → iH → Prop), G sp sc [23] d mL_law (n + 1) 940 L st h Q = G sp sc [23] d mL_law n 941 L (.inl 1 :: st) h Q) ∧
  (∀ (n d : Nat) (L : List (Option iV)) (a : Int) (b : Int) (r : List iV) (h : iH) (Q : Option iV → iH → Prop), G sp sc [23] d mL_law (n + 1) 941 L (.inl b :: .inl a :: r) h Q = G sp sc [23] d mL_law n 942 L (.inl (a + b) :: r) h Q) ∧
  (∀ (n d : Nat) (L : List (Option iV)) (r : List iV) (j : Int) (h : iH) (Q : Option iV → iH → Prop), G sp sc [23] d mL_law (n + 1) 942 L (.inl j :: .inr (.inr 1) :: r) h Q = (inA j sc.length = true ∧ G sp sc [23] d mL_law n 943 L (.inl (sc.getD j.toNat 0) :: r) h Q)) ∧
  (∀ (n d : Nat) (L : List (Option iV)) (r : List iV) (j : Int) (m : Nat) (h : iH) (Q : Option iV → iH → Prop), G sp sc [23] d mL_law (n + 1) 942 L (.inl j :: .inr (.inr (m + 2)) :: r) h Q = (match h.1[m]? with | some (.inr (.inl (0, xs))) => inA j xs.length = true ∧ G sp sc [23] d mL_law n 943 L (.inl (xs.getD j.toNat 0) :: r) h Q | _ => False)) ∧
  (∀ (n d : Nat) (L : List (Option iV)) (st : List iV) (h : iH) (Q : Option iV → iH → Prop), G sp sc [23] d mL_law (n + 1) 943 L st h Q = (match ld L 0 with | some (.inr (.inr (r + 1))) => G sp sc [23] d mL_law n 944 L (.inr (.inr (r + 1)) :: st) h Q | _ => False)) ∧
  (∀ (n d : Nat) (L : List (Option iV)) (st : List iV) (h : iH) (Q : Option iV → iH → Prop), G sp sc [23] d mL_law (n + 1) 944 L st h Q = (match ld L 4 with | some (.inl x) => G sp sc [23] d mL_law n 946 L (.inl x :: st) h Q | _ => False)) ∧
  (∀ (n d : Nat) (L : List (Option iV)) (st : List iV) (h : iH) (Q : Option iV → iH → Prop), G sp sc [23] d mL_law (n + 1) 946 L st h Q = G sp sc [23] d mL_law n 947 L (.inl 2 :: st) h Q) ∧
  (∀ (n d : Nat) (L : List (Option iV)) (a : Int) (b : Int) (r : List iV) (h : iH) (Q : Option iV → iH → Prop), G sp sc [23] d mL_law (n + 1) 947 L (.inl b :: .inl a :: r) h Q = G sp sc [23] d mL_law n 948 L (.inl (a + b) :: r) h Q) ∧
  (∀ (n d : Nat) (L : List (Option iV)) (r : List iV) (j : Int) (h : iH) (Q : Option iV → iH → Prop), G sp sc [23] d mL_law (n + 1) 948 L (.inl j :: .inr (.inr 1) :: r) h Q = (inA j sc.length = true ∧ G sp sc [23] d mL_law n 949 L (.inl (sc.getD j.toNat 0) :: r) h Q)) ∧
  (∀ (n d : Nat) (L : List (Option iV)) (r : List iV) (j : Int) (m : Nat) (h : iH) (Q : Option iV → iH → Prop), G sp sc [23] d mL_law (n + 1) 948 L (.inl j :: .inr (.inr (m + 2)) :: r) h Q = (match h.1[m]? with | some (.inr (.inl (0, xs))) => inA j xs.length = true ∧ G sp sc [23] d mL_law n 949 L (.inl (xs.getD j.toNat 0) :: r) h Q | _ => False)) ∧
  (∀ (n d : Nat) (L : List (Option iV)) (r : List iV) (m : Nat) (z0 : iV) (z1 : iV) (h : iH) (Q : Option iV → iH → Prop), G sp sc [23] (d + 1) mL_law (n + 1) 949 L (z1 :: z0 :: .inr (.inr (m + 2)) :: r) h Q = (match h.1[m]? with | some (.inl (ci, _)) => (match lkC 13 92 ci with | some (y1, n1, kd) => (n1 = 2 ∧ (kd = 2 ∨ kd = 3 ∨ kd = 8) ∧ cs r ≤ 8) ∧ Call sp sc d y1 [.inr (.inr (m + 2)), z0, z1] h (fun q h1 => GC sp sc [23] (d + 1) mL_law n 952 L q r h h1 Q) | none => False) | _ => False)) ∧
  (∀ (n d : Nat) (L : List (Option iV)) (a : Int) (b : Int) (r : List iV) (h : iH) (Q : Option iV → iH → Prop), G sp sc [23] d mL_law (n + 1) 952 L (.inl b :: .inl a :: r) h Q = ((inI a = true ∧ inI b = true) ∧ (a = b → G sp sc [23] d mL_law n 1950 L r h Q) ∧ (¬ (a = b) → G sp sc [23] d mL_law n 955 L r h Q))) ∧
  (∀ (n d : Nat) (L : List (Option iV)) (st : List iV) (h : iH) (Q : Option iV → iH → Prop), G sp sc [23] d mL_law (n + 1) 955 L st h Q = G sp sc [23] d mL_law n 956 L (.inl 0 :: st) h Q) ∧
  (∀ (n d : Nat) (L : List (Option iV)) (a : Int) (h : iH) (Q : Option iV → iH → Prop), G sp sc [23] d mL_law (n + 1) 956 L [.inl a] h Q = ((a = 0 ∨ a = 1) ∧ Q (some (.inl a)) h)) := ⟨by intros; exact G_at (by decide +kernel : fetch mL_law 920 = some (.aload_n 1)),
  by intros; exact G_at (by decide +kernel : fetch mL_law 921 = some (.aload_n 0)),
  by intros; exact G_at (by decide +kernel : fetch mL_law 922 = some (.iload 4)),
  by intros; exact G_at (by decide +kernel : fetch mL_law 924 = some (.iconst 1)),
  by intros; exact G_at (by decide +kernel : fetch mL_law 925 = some (.iadd)),
  by intros; exact G_at (by decide +kernel : fetch mL_law 926 = some (.iaload)),
  by intros; exact G_at (by decide +kernel : fetch mL_law 926 = some (.iaload)),
  by intros; exact G_at (by decide +kernel : fetch mL_law 927 = some (.aload_n 0)),
  by intros; exact G_at (by decide +kernel : fetch mL_law 928 = some (.iload 4)),
  by intros; exact G_at (by decide +kernel : fetch mL_law 930 = some (.iconst 2)),
  by intros; exact G_at (by decide +kernel : fetch mL_law 931 = some (.iadd)),
  by intros; exact G_at (by decide +kernel : fetch mL_law 932 = some (.iaload)),
  by intros; exact G_at (by decide +kernel : fetch mL_law 932 = some (.iaload)),
  by intros; exact G_callV (by decide +kernel : fetch mL_law 933 = some (.invokevirtual 89)) (by decide +kernel) (by decide +kernel) rfl,
  by intros; exact G_at (by decide +kernel : fetch mL_law 936 = some (.aload_n 2)),
  by intros; exact G_at (by decide +kernel : fetch mL_law 937 = some (.aload_n 0)),
  by intros; exact G_at (by decide +kernel : fetch mL_law 938 = some (.iload 4)),
  by intros; exact G_at (by decide +kernel : fetch mL_law 940 = some (.iconst 1)),
  by intros; exact G_at (by decide +kernel : fetch mL_law 941 = some (.iadd)),
  by intros; exact G_at (by decide +kernel : fetch mL_law 942 = some (.iaload)),
  by intros; exact G_at (by decide +kernel : fetch mL_law 942 = some (.iaload)),
  by intros; exact G_at (by decide +kernel : fetch mL_law 943 = some (.aload_n 0)),
  by intros; exact G_at (by decide +kernel : fetch mL_law 944 = some (.iload 4)),
  by intros; exact G_at (by decide +kernel : fetch mL_law 946 = some (.iconst 2)),
  by intros; exact G_at (by decide +kernel : fetch mL_law 947 = some (.iadd)),
  by intros; exact G_at (by decide +kernel : fetch mL_law 948 = some (.iaload)),
  by intros; exact G_at (by decide +kernel : fetch mL_law 948 = some (.iaload)),
  by intros; exact G_callV (by decide +kernel : fetch mL_law 949 = some (.invokevirtual 92)) (by decide +kernel) (by decide +kernel) rfl,
  by intros; exact G_at (by decide +kernel : fetch mL_law 952 = some (.if_icmp .eq 998)),
  by intros; exact G_at (by decide +kernel : fetch mL_law 955 = some (.iconst 0)),
  by intros; exact G_retz (by decide +kernel : fetch mL_law 956 = some (.ireturn)) (by decide +kernel)⟩
theorem gL_c17 : (∀ (n d : Nat) (L : List (Option iV)) (st : List iV) (h : iH) (Q : Option iV → iH → Prop), G sp sc [23] d mL_law (n + 1) 957 L st h Q = (match ld L 1 with | some (.inr (.inr (r + 1))) => G sp sc [23] d mL_law n 958 L (.inr (.inr (r + 1)) :: st) h Q | _ => False)) ∧
  (∀ (n d : Nat) (L : List (Option iV)) (r : List iV) (m : Nat) (h : iH) (Q : Option iV → iH → Prop), G sp sc [23] (d + 1) mL_law (n + 1) 958 L (.inr (.inr (m + 2)) :: r) h Q = (match h.1[m]? with | some (.inl (ci, _)) => (match lkC 13 93 ci with | some (y1, n1, kd) => (n1 = 0 ∧ (kd = 2 ∨ kd = 3 ∨ kd = 8) ∧ cs r ≤ 8) ∧ Call sp sc d y1 [.inr (.inr (m + 2))] h (fun q h1 => GC sp sc [23] (d + 1) mL_law n 961 L q r h h1 Q) | none => False) | _ => False)) ∧
  (∀ (n d : Nat) (L : List (Option iV)) (st : List iV) (h : iH) (Q : Option iV → iH → Prop), G sp sc [23] d mL_law (n + 1) 961 L st h Q = (match ld L 2 with | some (.inr (.inr (r + 1))) => G sp sc [23] d mL_law n 962 L (.inr (.inr (r + 1)) :: st) h Q | _ => False)) ∧
  (∀ (n d : Nat) (L : List (Option iV)) (r : List iV) (m : Nat) (h : iH) (Q : Option iV → iH → Prop), G sp sc [23] (d + 1) mL_law (n + 1) 962 L (.inr (.inr (m + 2)) :: r) h Q = (match h.1[m]? with | some (.inl (ci, _)) => (match lkC 13 97 ci with | some (y1, n1, kd) => (n1 = 0 ∧ (kd = 2 ∨ kd = 3 ∨ kd = 8) ∧ cs r ≤ 8) ∧ Call sp sc d y1 [.inr (.inr (m + 2))] h (fun q h1 => GC sp sc [23] (d + 1) mL_law n 965 L q r h h1 Q) | none => False) | _ => False)) ∧
  (∀ (n d : Nat) (L : List (Option iV)) (a : Int) (b : Int) (r : List iV) (h : iH) (Q : Option iV → iH → Prop), G sp sc [23] d mL_law (n + 1) 965 L (.inl b :: .inl a :: r) h Q = ((inI a = true ∧ inI b = true) ∧ (a = b → G sp sc [23] d mL_law n 1950 L r h Q) ∧ (¬ (a = b) → G sp sc [23] d mL_law n 968 L r h Q))) ∧
  (∀ (n d : Nat) (L : List (Option iV)) (st : List iV) (h : iH) (Q : Option iV → iH → Prop), G sp sc [23] d mL_law (n + 1) 968 L st h Q = G sp sc [23] d mL_law n 969 L (.inl 0 :: st) h Q) ∧
  (∀ (n d : Nat) (L : List (Option iV)) (a : Int) (h : iH) (Q : Option iV → iH → Prop), G sp sc [23] d mL_law (n + 1) 969 L [.inl a] h Q = ((a = 0 ∨ a = 1) ∧ Q (some (.inl a)) h)) := ⟨by intros; exact G_at (by decide +kernel : fetch mL_law 957 = some (.aload_n 1)),
  by intros; exact G_callV (by decide +kernel : fetch mL_law 958 = some (.invokevirtual 93)) (by decide +kernel) (by decide +kernel) rfl,
  by intros; exact G_at (by decide +kernel : fetch mL_law 961 = some (.aload_n 2)),
  by intros; exact G_callV (by decide +kernel : fetch mL_law 962 = some (.invokevirtual 97)) (by decide +kernel) (by decide +kernel) rfl,
  by intros; exact G_at (by decide +kernel : fetch mL_law 965 = some (.if_icmp .eq 985)),
  by intros; exact G_at (by decide +kernel : fetch mL_law 968 = some (.iconst 0)),
  by intros; exact G_retz (by decide +kernel : fetch mL_law 969 = some (.ireturn)) (by decide +kernel)⟩
theorem gL_c18 : (∀ (n d : Nat) (L : List (Option iV)) (st : List iV) (h : iH) (Q : Option iV → iH → Prop), G sp sc [23] d mL_law (n + 1) 970 L st h Q = (match ld L 1 with | some (.inr (.inr (r + 1))) => G sp sc [23] d mL_law n 971 L (.inr (.inr (r + 1)) :: st) h Q | _ => False)) ∧
  (∀ (n d : Nat) (L : List (Option iV)) (st : List iV) (h : iH) (Q : Option iV → iH → Prop), G sp sc [23] d mL_law (n + 1) 971 L st h Q = (match ld L 0 with | some (.inr (.inr (r + 1))) => G sp sc [23] d mL_law n 972 L (.inr (.inr (r + 1)) :: st) h Q | _ => False)) ∧
  (∀ (n d : Nat) (L : List (Option iV)) (st : List iV) (h : iH) (Q : Option iV → iH → Prop), G sp sc [23] d mL_law (n + 1) 972 L st h Q = (match ld L 4 with | some (.inl x) => G sp sc [23] d mL_law n 974 L (.inl x :: st) h Q | _ => False)) ∧
  (∀ (n d : Nat) (L : List (Option iV)) (st : List iV) (h : iH) (Q : Option iV → iH → Prop), G sp sc [23] d mL_law (n + 1) 974 L st h Q = G sp sc [23] d mL_law n 975 L (.inl 1 :: st) h Q) ∧
  (∀ (n d : Nat) (L : List (Option iV)) (a : Int) (b : Int) (r : List iV) (h : iH) (Q : Option iV → iH → Prop), G sp sc [23] d mL_law (n + 1) 975 L (.inl b :: .inl a :: r) h Q = G sp sc [23] d mL_law n 976 L (.inl (a + b) :: r) h Q) ∧
  (∀ (n d : Nat) (L : List (Option iV)) (r : List iV) (j : Int) (h : iH) (Q : Option iV → iH → Prop), G sp sc [23] d mL_law (n + 1) 976 L (.inl j :: .inr (.inr 1) :: r) h Q = (inA j sc.length = true ∧ G sp sc [23] d mL_law n 977 L (.inl (sc.getD j.toNat 0) :: r) h Q)) ∧
  (∀ (n d : Nat) (L : List (Option iV)) (r : List iV) (j : Int) (m : Nat) (h : iH) (Q : Option iV → iH → Prop), G sp sc [23] d mL_law (n + 1) 976 L (.inl j :: .inr (.inr (m + 2)) :: r) h Q = (match h.1[m]? with | some (.inr (.inl (0, xs))) => inA j xs.length = true ∧ G sp sc [23] d mL_law n 977 L (.inl (xs.getD j.toNat 0) :: r) h Q | _ => False)) ∧
  (∀ (n d : Nat) (L : List (Option iV)) (r : List iV) (m : Nat) (z0 : iV) (h : iH) (Q : Option iV → iH → Prop), G sp sc [23] (d + 1) mL_law (n + 1) 977 L (z0 :: .inr (.inr (m + 2)) :: r) h Q = (match h.1[m]? with | some (.inl (ci, _)) => (match lkC 13 98 ci with | some (y1, n1, kd) => (n1 = 1 ∧ (kd = 2 ∨ kd = 3 ∨ kd = 8) ∧ cs r ≤ 8) ∧ Call sp sc d y1 [.inr (.inr (m + 2)), z0] h (fun q h1 => GC sp sc [23] (d + 1) mL_law n 980 L q r h h1 Q) | none => False) | _ => False)) ∧
  (∀ (n d : Nat) (L : List (Option iV)) (st : List iV) (h : iH) (Q : Option iV → iH → Prop), G sp sc [23] d mL_law (n + 1) 980 L st h Q = (match ld L 2 with | some (.inr (.inr (r + 1))) => G sp sc [23] d mL_law n 981 L (.inr (.inr (r + 1)) :: st) h Q | _ => False)) ∧
  (∀ (n d : Nat) (L : List (Option iV)) (st : List iV) (h : iH) (Q : Option iV → iH → Prop), G sp sc [23] d mL_law (n + 1) 981 L st h Q = (match ld L 0 with | some (.inr (.inr (r + 1))) => G sp sc [23] d mL_law n 982 L (.inr (.inr (r + 1)) :: st) h Q | _ => False)) ∧
  (∀ (n d : Nat) (L : List (Option iV)) (st : List iV) (h : iH) (Q : Option iV → iH → Prop), G sp sc [23] d mL_law (n + 1) 982 L st h Q = (match ld L 4 with | some (.inl x) => G sp sc [23] d mL_law n 984 L (.inl x :: st) h Q | _ => False)) ∧
  (∀ (n d : Nat) (L : List (Option iV)) (st : List iV) (h : iH) (Q : Option iV → iH → Prop), G sp sc [23] d mL_law (n + 1) 984 L st h Q = G sp sc [23] d mL_law n 985 L (.inl 1 :: st) h Q) ∧
  (∀ (n d : Nat) (L : List (Option iV)) (a : Int) (b : Int) (r : List iV) (h : iH) (Q : Option iV → iH → Prop), G sp sc [23] d mL_law (n + 1) 985 L (.inl b :: .inl a :: r) h Q = G sp sc [23] d mL_law n 986 L (.inl (a + b) :: r) h Q) ∧
  (∀ (n d : Nat) (L : List (Option iV)) (r : List iV) (j : Int) (h : iH) (Q : Option iV → iH → Prop), G sp sc [23] d mL_law (n + 1) 986 L (.inl j :: .inr (.inr 1) :: r) h Q = (inA j sc.length = true ∧ G sp sc [23] d mL_law n 987 L (.inl (sc.getD j.toNat 0) :: r) h Q)) ∧
  (∀ (n d : Nat) (L : List (Option iV)) (r : List iV) (j : Int) (m : Nat) (h : iH) (Q : Option iV → iH → Prop), G sp sc [23] d mL_law (n + 1) 986 L (.inl j :: .inr (.inr (m + 2)) :: r) h Q = (match h.1[m]? with | some (.inr (.inl (0, xs))) => inA j xs.length = true ∧ G sp sc [23] d mL_law n 987 L (.inl (xs.getD j.toNat 0) :: r) h Q | _ => False)) ∧
  (∀ (n d : Nat) (L : List (Option iV)) (r : List iV) (m : Nat) (z0 : iV) (h : iH) (Q : Option iV → iH → Prop), G sp sc [23] (d + 1) mL_law (n + 1) 987 L (z0 :: .inr (.inr (m + 2)) :: r) h Q = (match h.1[m]? with | some (.inl (ci, _)) => (match lkC 13 101 ci with | some (y1, n1, kd) => (n1 = 1 ∧ (kd = 2 ∨ kd = 3 ∨ kd = 8) ∧ cs r ≤ 8) ∧ Call sp sc d y1 [.inr (.inr (m + 2)), z0] h (fun q h1 => GC sp sc [23] (d + 1) mL_law n 990 L q r h h1 Q) | none => False) | _ => False)) ∧
  (∀ (n d : Nat) (L : List (Option iV)) (a : Int) (b : Int) (r : List iV) (h : iH) (Q : Option iV → iH → Prop), G sp sc [23] d mL_law (n + 1) 990 L (.inl b :: .inl a :: r) h Q = ((inI a = true ∧ inI b = true) ∧ (a = b → G sp sc [23] d mL_law n 1950 L r h Q) ∧ (¬ (a = b) → G sp sc [23] d mL_law n 993 L r h Q))) ∧
  (∀ (n d : Nat) (L : List (Option iV)) (st : List iV) (h : iH) (Q : Option iV → iH → Prop), G sp sc [23] d mL_law (n + 1) 993 L st h Q = G sp sc [23] d mL_law n 994 L (.inl 0 :: st) h Q) ∧
  (∀ (n d : Nat) (L : List (Option iV)) (a : Int) (h : iH) (Q : Option iV → iH → Prop), G sp sc [23] d mL_law (n + 1) 994 L [.inl a] h Q = ((a = 0 ∨ a = 1) ∧ Q (some (.inl a)) h)) := ⟨by intros; exact G_at (by decide +kernel : fetch mL_law 970 = some (.aload_n 1)),
  by intros; exact G_at (by decide +kernel : fetch mL_law 971 = some (.aload_n 0)),
  by intros; exact G_at (by decide +kernel : fetch mL_law 972 = some (.iload 4)),
  by intros; exact G_at (by decide +kernel : fetch mL_law 974 = some (.iconst 1)),
  by intros; exact G_at (by decide +kernel : fetch mL_law 975 = some (.iadd)),
  by intros; exact G_at (by decide +kernel : fetch mL_law 976 = some (.iaload)),
  by intros; exact G_at (by decide +kernel : fetch mL_law 976 = some (.iaload)),
  by intros; exact G_callV (by decide +kernel : fetch mL_law 977 = some (.invokevirtual 98)) (by decide +kernel) (by decide +kernel) rfl,
  by intros; exact G_at (by decide +kernel : fetch mL_law 980 = some (.aload_n 2)),
  by intros; exact G_at (by decide +kernel : fetch mL_law 981 = some (.aload_n 0)),
  by intros; exact G_at (by decide +kernel : fetch mL_law 982 = some (.iload 4)),
  by intros; exact G_at (by decide +kernel : fetch mL_law 984 = some (.iconst 1)),
  by intros; exact G_at (by decide +kernel : fetch mL_law 985 = some (.iadd)),
  by intros; exact G_at (by decide +kernel : fetch mL_law 986 = some (.iaload)),
  by intros; exact G_at (by decide +kernel : fetch mL_law 986 = some (.iaload)),
  by intros; exact G_callV (by decide +kernel : fetch mL_law 987 = some (.invokevirtual 101)) (by decide +kernel) (by decide +kernel) rfl,
  by intros; exact G_at (by decide +kernel : fetch mL_law 990 = some (.if_icmp .eq 960)),
  by intros; exact G_at (by decide +kernel : fetch mL_law 993 = some (.iconst 0)),
  by intros; exact G_retz (by decide +kernel : fetch mL_law 994 = some (.ireturn)) (by decide +kernel)⟩
theorem gL_c19 : (∀ (n d : Nat) (L : List (Option iV)) (st : List iV) (h : iH) (Q : Option iV → iH → Prop), G sp sc [23] d mL_law (n + 1) 995 L st h Q = (match ld L 1 with | some (.inr (.inr (r + 1))) => G sp sc [23] d mL_law n 996 L (.inr (.inr (r + 1)) :: st) h Q | _ => False)) ∧
  (∀ (n d : Nat) (L : List (Option iV)) (st : List iV) (h : iH) (Q : Option iV → iH → Prop), G sp sc [23] d mL_law (n + 1) 996 L st h Q = (match ld L 0 with | some (.inr (.inr (r + 1))) => G sp sc [23] d mL_law n 997 L (.inr (.inr (r + 1)) :: st) h Q | _ => False)) ∧
  (∀ (n d : Nat) (L : List (Option iV)) (st : List iV) (h : iH) (Q : Option iV → iH → Prop), G sp sc [23] d mL_law (n + 1) 997 L st h Q = (match ld L 4 with | some (.inl x) => G sp sc [23] d mL_law n 999 L (.inl x :: st) h Q | _ => False)) ∧
  (∀ (n d : Nat) (L : List (Option iV)) (st : List iV) (h : iH) (Q : Option iV → iH → Prop), G sp sc [23] d mL_law (n + 1) 999 L st h Q = G sp sc [23] d mL_law n 1000 L (.inl 1 :: st) h Q) ∧
  (∀ (n d : Nat) (L : List (Option iV)) (a : Int) (b : Int) (r : List iV) (h : iH) (Q : Option iV → iH → Prop), G sp sc [23] d mL_law (n + 1) 1000 L (.inl b :: .inl a :: r) h Q = G sp sc [23] d mL_law n 1001 L (.inl (a + b) :: r) h Q) ∧
  (∀ (n d : Nat) (L : List (Option iV)) (r : List iV) (j : Int) (h : iH) (Q : Option iV → iH → Prop), G sp sc [23] d mL_law (n + 1) 1001 L (.inl j :: .inr (.inr 1) :: r) h Q = (inA j sc.length = true ∧ G sp sc [23] d mL_law n 1002 L (.inl (sc.getD j.toNat 0) :: r) h Q)) ∧
  (∀ (n d : Nat) (L : List (Option iV)) (r : List iV) (j : Int) (m : Nat) (h : iH) (Q : Option iV → iH → Prop), G sp sc [23] d mL_law (n + 1) 1001 L (.inl j :: .inr (.inr (m + 2)) :: r) h Q = (match h.1[m]? with | some (.inr (.inl (0, xs))) => inA j xs.length = true ∧ G sp sc [23] d mL_law n 1002 L (.inl (xs.getD j.toNat 0) :: r) h Q | _ => False)) ∧
  (∀ (n d : Nat) (L : List (Option iV)) (st : List iV) (h : iH) (Q : Option iV → iH → Prop), G sp sc [23] d mL_law (n + 1) 1002 L st h Q = (match ld L 0 with | some (.inr (.inr (r + 1))) => G sp sc [23] d mL_law n 1003 L (.inr (.inr (r + 1)) :: st) h Q | _ => False)) ∧
  (∀ (n d : Nat) (L : List (Option iV)) (st : List iV) (h : iH) (Q : Option iV → iH → Prop), G sp sc [23] d mL_law (n + 1) 1003 L st h Q = (match ld L 4 with | some (.inl x) => G sp sc [23] d mL_law n 1005 L (.inl x :: st) h Q | _ => False)) ∧
  (∀ (n d : Nat) (L : List (Option iV)) (st : List iV) (h : iH) (Q : Option iV → iH → Prop), G sp sc [23] d mL_law (n + 1) 1005 L st h Q = G sp sc [23] d mL_law n 1006 L (.inl 2 :: st) h Q) ∧
  (∀ (n d : Nat) (L : List (Option iV)) (a : Int) (b : Int) (r : List iV) (h : iH) (Q : Option iV → iH → Prop), G sp sc [23] d mL_law (n + 1) 1006 L (.inl b :: .inl a :: r) h Q = G sp sc [23] d mL_law n 1007 L (.inl (a + b) :: r) h Q) ∧
  (∀ (n d : Nat) (L : List (Option iV)) (r : List iV) (j : Int) (h : iH) (Q : Option iV → iH → Prop), G sp sc [23] d mL_law (n + 1) 1007 L (.inl j :: .inr (.inr 1) :: r) h Q = (inA j sc.length = true ∧ G sp sc [23] d mL_law n 1008 L (.inl (sc.getD j.toNat 0) :: r) h Q)) ∧
  (∀ (n d : Nat) (L : List (Option iV)) (r : List iV) (j : Int) (m : Nat) (h : iH) (Q : Option iV → iH → Prop), G sp sc [23] d mL_law (n + 1) 1007 L (.inl j :: .inr (.inr (m + 2)) :: r) h Q = (match h.1[m]? with | some (.inr (.inl (0, xs))) => inA j xs.length = true ∧ G sp sc [23] d mL_law n 1008 L (.inl (xs.getD j.toNat 0) :: r) h Q | _ => False)) ∧
  (∀ (n d : Nat) (L : List (Option iV)) (r : List iV) (m : Nat) (z0 : iV) (z1 : iV) (h : iH) (Q : Option iV → iH → Prop), G sp sc [23] (d + 1) mL_law (n + 1) 1008 L (z1 :: z0 :: .inr (.inr (m + 2)) :: r) h Q = (match h.1[m]? with | some (.inl (ci, _)) => (match lkC 13 102 ci with | some (y1, n1, kd) => (n1 = 2 ∧ (kd = 2 ∨ kd = 3 ∨ kd = 8) ∧ cs r ≤ 8) ∧ Call sp sc d y1 [.inr (.inr (m + 2)), z0, z1] h (fun q h1 => GC sp sc [23] (d + 1) mL_law n 1011 L q r h h1 Q) | none => False) | _ => False)) ∧
  (∀ (n d : Nat) (L : List (Option iV)) (st : List iV) (h : iH) (Q : Option iV → iH → Prop), G sp sc [23] d mL_law (n + 1) 1011 L st h Q = (match ld L 2 with | some (.inr (.inr (r + 1))) => G sp sc [23] d mL_law n 1012 L (.inr (.inr (r + 1)) :: st) h Q | _ => False)) ∧
  (∀ (n d : Nat) (L : List (Option iV)) (st : List iV) (h : iH) (Q : Option iV → iH → Prop), G sp sc [23] d mL_law (n + 1) 1012 L st h Q = (match ld L 0 with | some (.inr (.inr (r + 1))) => G sp sc [23] d mL_law n 1013 L (.inr (.inr (r + 1)) :: st) h Q | _ => False)) ∧
  (∀ (n d : Nat) (L : List (Option iV)) (st : List iV) (h : iH) (Q : Option iV → iH → Prop), G sp sc [23] d mL_law (n + 1) 1013 L st h Q = (match ld L 4 with | some (.inl x) => G sp sc [23] d mL_law n 1015 L (.inl x :: st) h Q | _ => False)) ∧
  (∀ (n d : Nat) (L : List (Option iV)) (st : List iV) (h : iH) (Q : Option iV → iH → Prop), G sp sc [23] d mL_law (n + 1) 1015 L st h Q = G sp sc [23] d mL_law n 1016 L (.inl 1 :: st) h Q) ∧
  (∀ (n d : Nat) (L : List (Option iV)) (a : Int) (b : Int) (r : List iV) (h : iH) (Q : Option iV → iH → Prop), G sp sc [23] d mL_law (n + 1) 1016 L (.inl b :: .inl a :: r) h Q = G sp sc [23] d mL_law n 1017 L (.inl (a + b) :: r) h Q) ∧
  (∀ (n d : Nat) (L : List (Option iV)) (r : List iV) (j : Int) (h : iH) (Q : Option iV → iH → Prop), G sp sc [23] d mL_law (n + 1) 1017 L (.inl j :: .inr (.inr 1) :: r) h Q = (inA j sc.length = true ∧ G sp sc [23] d mL_law n 1018 L (.inl (sc.getD j.toNat 0) :: r) h Q)) ∧
  (∀ (n d : Nat) (L : List (Option iV)) (r : List iV) (j : Int) (m : Nat) (h : iH) (Q : Option iV → iH → Prop), G sp sc [23] d mL_law (n + 1) 1017 L (.inl j :: .inr (.inr (m + 2)) :: r) h Q = (match h.1[m]? with | some (.inr (.inl (0, xs))) => inA j xs.length = true ∧ G sp sc [23] d mL_law n 1018 L (.inl (xs.getD j.toNat 0) :: r) h Q | _ => False)) ∧
  (∀ (n d : Nat) (L : List (Option iV)) (st : List iV) (h : iH) (Q : Option iV → iH → Prop), G sp sc [23] d mL_law (n + 1) 1018 L st h Q = (match ld L 0 with | some (.inr (.inr (r + 1))) => G sp sc [23] d mL_law n 1019 L (.inr (.inr (r + 1)) :: st) h Q | _ => False)) ∧
  (∀ (n d : Nat) (L : List (Option iV)) (st : List iV) (h : iH) (Q : Option iV → iH → Prop), G sp sc [23] d mL_law (n + 1) 1019 L st h Q = (match ld L 4 with | some (.inl x) => G sp sc [23] d mL_law n 1021 L (.inl x :: st) h Q | _ => False)) ∧
  (∀ (n d : Nat) (L : List (Option iV)) (st : List iV) (h : iH) (Q : Option iV → iH → Prop), G sp sc [23] d mL_law (n + 1) 1021 L st h Q = G sp sc [23] d mL_law n 1022 L (.inl 2 :: st) h Q) ∧
  (∀ (n d : Nat) (L : List (Option iV)) (a : Int) (b : Int) (r : List iV) (h : iH) (Q : Option iV → iH → Prop), G sp sc [23] d mL_law (n + 1) 1022 L (.inl b :: .inl a :: r) h Q = G sp sc [23] d mL_law n 1023 L (.inl (a + b) :: r) h Q) ∧
  (∀ (n d : Nat) (L : List (Option iV)) (r : List iV) (j : Int) (h : iH) (Q : Option iV → iH → Prop), G sp sc [23] d mL_law (n + 1) 1023 L (.inl j :: .inr (.inr 1) :: r) h Q = (inA j sc.length = true ∧ G sp sc [23] d mL_law n 1024 L (.inl (sc.getD j.toNat 0) :: r) h Q)) ∧
  (∀ (n d : Nat) (L : List (Option iV)) (r : List iV) (j : Int) (m : Nat) (h : iH) (Q : Option iV → iH → Prop), G sp sc [23] d mL_law (n + 1) 1023 L (.inl j :: .inr (.inr (m + 2)) :: r) h Q = (match h.1[m]? with | some (.inr (.inl (0, xs))) => inA j xs.length = true ∧ G sp sc [23] d mL_law n 1024 L (.inl (xs.getD j.toNat 0) :: r) h Q | _ => False)) ∧
  (∀ (n d : Nat) (L : List (Option iV)) (r : List iV) (m : Nat) (z0 : iV) (z1 : iV) (h : iH) (Q : Option iV → iH → Prop), G sp sc [23] (d + 1) mL_law (n + 1) 1024 L (z1 :: z0 :: .inr (.inr (m + 2)) :: r) h Q = (match h.1[m]? with | some (.inl (ci, _)) => (match lkC 13 105 ci with | some (y1, n1, kd) => (n1 = 2 ∧ (kd = 2 ∨ kd = 3 ∨ kd = 8) ∧ cs r ≤ 8) ∧ Call sp sc d y1 [.inr (.inr (m + 2)), z0, z1] h (fun q h1 => GC sp sc [23] (d + 1) mL_law n 1027 L q r h h1 Q) | none => False) | _ => False)) ∧
  (∀ (n d : Nat) (L : List (Option iV)) (a : Int) (b : Int) (r : List iV) (h : iH) (Q : Option iV → iH → Prop), G sp sc [23] d mL_law (n + 1) 1027 L (.inl b :: .inl a :: r) h Q = ((inI a = true ∧ inI b = true) ∧ (a = b → G sp sc [23] d mL_law n 1950 L r h Q) ∧ (¬ (a = b) → G sp sc [23] d mL_law n 1030 L r h Q))) ∧
  (∀ (n d : Nat) (L : List (Option iV)) (st : List iV) (h : iH) (Q : Option iV → iH → Prop), G sp sc [23] d mL_law (n + 1) 1030 L st h Q = G sp sc [23] d mL_law n 1031 L (.inl 0 :: st) h Q) ∧
  (∀ (n d : Nat) (L : List (Option iV)) (a : Int) (h : iH) (Q : Option iV → iH → Prop), G sp sc [23] d mL_law (n + 1) 1031 L [.inl a] h Q = ((a = 0 ∨ a = 1) ∧ Q (some (.inl a)) h)) := ⟨by intros; exact G_at (by decide +kernel : fetch mL_law 995 = some (.aload_n 1)),
  by intros; exact G_at (by decide +kernel : fetch mL_law 996 = some (.aload_n 0)),
  by intros; exact G_at (by decide +kernel : fetch mL_law 997 = some (.iload 4)),
  by intros; exact G_at (by decide +kernel : fetch mL_law 999 = some (.iconst 1)),
  by intros; exact G_at (by decide +kernel : fetch mL_law 1000 = some (.iadd)),
  by intros; exact G_at (by decide +kernel : fetch mL_law 1001 = some (.iaload)),
  by intros; exact G_at (by decide +kernel : fetch mL_law 1001 = some (.iaload)),
  by intros; exact G_at (by decide +kernel : fetch mL_law 1002 = some (.aload_n 0)),
  by intros; exact G_at (by decide +kernel : fetch mL_law 1003 = some (.iload 4)),
  by intros; exact G_at (by decide +kernel : fetch mL_law 1005 = some (.iconst 2)),
  by intros; exact G_at (by decide +kernel : fetch mL_law 1006 = some (.iadd)),
  by intros; exact G_at (by decide +kernel : fetch mL_law 1007 = some (.iaload)),
  by intros; exact G_at (by decide +kernel : fetch mL_law 1007 = some (.iaload)),
  by intros; exact G_callV (by decide +kernel : fetch mL_law 1008 = some (.invokevirtual 102)) (by decide +kernel) (by decide +kernel) rfl,
  by intros; exact G_at (by decide +kernel : fetch mL_law 1011 = some (.aload_n 2)),
  by intros; exact G_at (by decide +kernel : fetch mL_law 1012 = some (.aload_n 0)),
  by intros; exact G_at (by decide +kernel : fetch mL_law 1013 = some (.iload 4)),
  by intros; exact G_at (by decide +kernel : fetch mL_law 1015 = some (.iconst 1)),
  by intros; exact G_at (by decide +kernel : fetch mL_law 1016 = some (.iadd)),
  by intros; exact G_at (by decide +kernel : fetch mL_law 1017 = some (.iaload)),
  by intros; exact G_at (by decide +kernel : fetch mL_law 1017 = some (.iaload)),
  by intros; exact G_at (by decide +kernel : fetch mL_law 1018 = some (.aload_n 0)),
  by intros; exact G_at (by decide +kernel : fetch mL_law 1019 = some (.iload 4)),
  by intros; exact G_at (by decide +kernel : fetch mL_law 1021 = some (.iconst 2)),
  by intros; exact G_at (by decide +kernel : fetch mL_law 1022 = some (.iadd)),
  by intros; exact G_at (by decide +kernel : fetch mL_law 1023 = some (.iaload)),
  by intros; exact G_at (by decide +kernel : fetch mL_law 1023 = some (.iaload)),
  by intros; exact G_callV (by decide +kernel : fetch mL_law 1024 = some (.invokevirtual 105)) (by decide +kernel) (by decide +kernel) rfl,
  by intros; exact G_at (by decide +kernel : fetch mL_law 1027 = some (.if_icmp .eq 923)),
  by intros; exact G_at (by decide +kernel : fetch mL_law 1030 = some (.iconst 0)),
  by intros; exact G_retz (by decide +kernel : fetch mL_law 1031 = some (.ireturn)) (by decide +kernel)⟩
theorem gL_c20 : (∀ (n d : Nat) (L : List (Option iV)) (st : List iV) (h : iH) (Q : Option iV → iH → Prop), G sp sc [23] d mL_law (n + 1) 1032 L st h Q = (match ld L 1 with | some (.inr (.inr (r + 1))) => G sp sc [23] d mL_law n 1033 L (.inr (.inr (r + 1)) :: st) h Q | _ => False)) ∧
  (∀ (n d : Nat) (L : List (Option iV)) (st : List iV) (h : iH) (Q : Option iV → iH → Prop), G sp sc [23] d mL_law (n + 1) 1033 L st h Q = (match ld L 0 with | some (.inr (.inr (r + 1))) => G sp sc [23] d mL_law n 1034 L (.inr (.inr (r + 1)) :: st) h Q | _ => False)) ∧
  (∀ (n d : Nat) (L : List (Option iV)) (st : List iV) (h : iH) (Q : Option iV → iH → Prop), G sp sc [23] d mL_law (n + 1) 1034 L st h Q = (match ld L 4 with | some (.inl x) => G sp sc [23] d mL_law n 1036 L (.inl x :: st) h Q | _ => False)) ∧
  (∀ (n d : Nat) (L : List (Option iV)) (st : List iV) (h : iH) (Q : Option iV → iH → Prop), G sp sc [23] d mL_law (n + 1) 1036 L st h Q = G sp sc [23] d mL_law n 1037 L (.inl 1 :: st) h Q) ∧
  (∀ (n d : Nat) (L : List (Option iV)) (a : Int) (b : Int) (r : List iV) (h : iH) (Q : Option iV → iH → Prop), G sp sc [23] d mL_law (n + 1) 1037 L (.inl b :: .inl a :: r) h Q = G sp sc [23] d mL_law n 1038 L (.inl (a + b) :: r) h Q) ∧
  (∀ (n d : Nat) (L : List (Option iV)) (r : List iV) (j : Int) (h : iH) (Q : Option iV → iH → Prop), G sp sc [23] d mL_law (n + 1) 1038 L (.inl j :: .inr (.inr 1) :: r) h Q = (inA j sc.length = true ∧ G sp sc [23] d mL_law n 1039 L (.inl (sc.getD j.toNat 0) :: r) h Q)) ∧
  (∀ (n d : Nat) (L : List (Option iV)) (r : List iV) (j : Int) (m : Nat) (h : iH) (Q : Option iV → iH → Prop), G sp sc [23] d mL_law (n + 1) 1038 L (.inl j :: .inr (.inr (m + 2)) :: r) h Q = (match h.1[m]? with | some (.inr (.inl (0, xs))) => inA j xs.length = true ∧ G sp sc [23] d mL_law n 1039 L (.inl (xs.getD j.toNat 0) :: r) h Q | _ => False)) ∧
  (∀ (n d : Nat) (L : List (Option iV)) (r : List iV) (m : Nat) (z0 : iV) (h : iH) (Q : Option iV → iH → Prop), G sp sc [23] (d + 1) mL_law (n + 1) 1039 L (z0 :: .inr (.inr (m + 2)) :: r) h Q = (match h.1[m]? with | some (.inl (ci, _)) => (match lkC 13 106 ci with | some (y1, n1, kd) => (n1 = 1 ∧ (kd = 2 ∨ kd = 3 ∨ kd = 8) ∧ cs r ≤ 8) ∧ Call sp sc d y1 [.inr (.inr (m + 2)), z0] h (fun q h1 => GC sp sc [23] (d + 1) mL_law n 1042 L q r h h1 Q) | none => False) | _ => False)) ∧
  (∀ (n d : Nat) (L : List (Option iV)) (st : List iV) (h : iH) (Q : Option iV → iH → Prop), G sp sc [23] d mL_law (n + 1) 1042 L st h Q = (match ld L 2 with | some (.inr (.inr (r + 1))) => G sp sc [23] d mL_law n 1043 L (.inr (.inr (r + 1)) :: st) h Q | _ => False)) ∧
  (∀ (n d : Nat) (L : List (Option iV)) (st : List iV) (h : iH) (Q : Option iV → iH → Prop), G sp sc [23] d mL_law (n + 1) 1043 L st h Q = (match ld L 0 with | some (.inr (.inr (r + 1))) => G sp sc [23] d mL_law n 1044 L (.inr (.inr (r + 1)) :: st) h Q | _ => False)) ∧
  (∀ (n d : Nat) (L : List (Option iV)) (st : List iV) (h : iH) (Q : Option iV → iH → Prop), G sp sc [23] d mL_law (n + 1) 1044 L st h Q = (match ld L 4 with | some (.inl x) => G sp sc [23] d mL_law n 1046 L (.inl x :: st) h Q | _ => False)) ∧
  (∀ (n d : Nat) (L : List (Option iV)) (st : List iV) (h : iH) (Q : Option iV → iH → Prop), G sp sc [23] d mL_law (n + 1) 1046 L st h Q = G sp sc [23] d mL_law n 1047 L (.inl 1 :: st) h Q) ∧
  (∀ (n d : Nat) (L : List (Option iV)) (a : Int) (b : Int) (r : List iV) (h : iH) (Q : Option iV → iH → Prop), G sp sc [23] d mL_law (n + 1) 1047 L (.inl b :: .inl a :: r) h Q = G sp sc [23] d mL_law n 1048 L (.inl (a + b) :: r) h Q) ∧
  (∀ (n d : Nat) (L : List (Option iV)) (r : List iV) (j : Int) (h : iH) (Q : Option iV → iH → Prop), G sp sc [23] d mL_law (n + 1) 1048 L (.inl j :: .inr (.inr 1) :: r) h Q = (inA j sc.length = true ∧ G sp sc [23] d mL_law n 1049 L (.inl (sc.getD j.toNat 0) :: r) h Q)) ∧
  (∀ (n d : Nat) (L : List (Option iV)) (r : List iV) (j : Int) (m : Nat) (h : iH) (Q : Option iV → iH → Prop), G sp sc [23] d mL_law (n + 1) 1048 L (.inl j :: .inr (.inr (m + 2)) :: r) h Q = (match h.1[m]? with | some (.inr (.inl (0, xs))) => inA j xs.length = true ∧ G sp sc [23] d mL_law n 1049 L (.inl (xs.getD j.toNat 0) :: r) h Q | _ => False)) ∧
  (∀ (n d : Nat) (L : List (Option iV)) (r : List iV) (m : Nat) (z0 : iV) (h : iH) (Q : Option iV → iH → Prop), G sp sc [23] (d + 1) mL_law (n + 1) 1049 L (z0 :: .inr (.inr (m + 2)) :: r) h Q = (match h.1[m]? with | some (.inl (ci, _)) => (match lkC 13 109 ci with | some (y1, n1, kd) => (n1 = 1 ∧ (kd = 2 ∨ kd = 3 ∨ kd = 8) ∧ cs r ≤ 8) ∧ Call sp sc d y1 [.inr (.inr (m + 2)), z0] h (fun q h1 => GC sp sc [23] (d + 1) mL_law n 1052 L q r h h1 Q) | none => False) | _ => False)) ∧
  (∀ (n d : Nat) (L : List (Option iV)) (a : Int) (b : Int) (r : List iV) (h : iH) (Q : Option iV → iH → Prop), G sp sc [23] d mL_law (n + 1) 1052 L (.inl b :: .inl a :: r) h Q = ((inI a = true ∧ inI b = true) ∧ (a = b → G sp sc [23] d mL_law n 1950 L r h Q) ∧ (¬ (a = b) → G sp sc [23] d mL_law n 1055 L r h Q))) ∧
  (∀ (n d : Nat) (L : List (Option iV)) (st : List iV) (h : iH) (Q : Option iV → iH → Prop), G sp sc [23] d mL_law (n + 1) 1055 L st h Q = G sp sc [23] d mL_law n 1056 L (.inl 0 :: st) h Q) ∧
  (∀ (n d : Nat) (L : List (Option iV)) (a : Int) (h : iH) (Q : Option iV → iH → Prop), G sp sc [23] d mL_law (n + 1) 1056 L [.inl a] h Q = ((a = 0 ∨ a = 1) ∧ Q (some (.inl a)) h)) := ⟨by intros; exact G_at (by decide +kernel : fetch mL_law 1032 = some (.aload_n 1)),
  by intros; exact G_at (by decide +kernel : fetch mL_law 1033 = some (.aload_n 0)),
  by intros; exact G_at (by decide +kernel : fetch mL_law 1034 = some (.iload 4)),
  by intros; exact G_at (by decide +kernel : fetch mL_law 1036 = some (.iconst 1)),
  by intros; exact G_at (by decide +kernel : fetch mL_law 1037 = some (.iadd)),
  by intros; exact G_at (by decide +kernel : fetch mL_law 1038 = some (.iaload)),
  by intros; exact G_at (by decide +kernel : fetch mL_law 1038 = some (.iaload)),
  by intros; exact G_callV (by decide +kernel : fetch mL_law 1039 = some (.invokevirtual 106)) (by decide +kernel) (by decide +kernel) rfl,
  by intros; exact G_at (by decide +kernel : fetch mL_law 1042 = some (.aload_n 2)),
  by intros; exact G_at (by decide +kernel : fetch mL_law 1043 = some (.aload_n 0)),
  by intros; exact G_at (by decide +kernel : fetch mL_law 1044 = some (.iload 4)),
  by intros; exact G_at (by decide +kernel : fetch mL_law 1046 = some (.iconst 1)),
  by intros; exact G_at (by decide +kernel : fetch mL_law 1047 = some (.iadd)),
  by intros; exact G_at (by decide +kernel : fetch mL_law 1048 = some (.iaload)),
  by intros; exact G_at (by decide +kernel : fetch mL_law 1048 = some (.iaload)),
  by intros; exact G_callV (by decide +kernel : fetch mL_law 1049 = some (.invokevirtual 109)) (by decide +kernel) (by decide +kernel) rfl,
  by intros; exact G_at (by decide +kernel : fetch mL_law 1052 = some (.if_icmp .eq 898)),
  by intros; exact G_at (by decide +kernel : fetch mL_law 1055 = some (.iconst 0)),
  by intros; exact G_retz (by decide +kernel : fetch mL_law 1056 = some (.ireturn)) (by decide +kernel)⟩
theorem gL_c21 : (∀ (n d : Nat) (L : List (Option iV)) (st : List iV) (h : iH) (Q : Option iV → iH → Prop), G sp sc [23] d mL_law (n + 1) 1057 L st h Q = (match ld L 1 with | some (.inr (.inr (r + 1))) => G sp sc [23] d mL_law n 1058 L (.inr (.inr (r + 1)) :: st) h Q | _ => False)) ∧
  (∀ (n d : Nat) (L : List (Option iV)) (st : List iV) (h : iH) (Q : Option iV → iH → Prop), G sp sc [23] d mL_law (n + 1) 1058 L st h Q = (match ld L 0 with | some (.inr (.inr (r + 1))) => G sp sc [23] d mL_law n 1059 L (.inr (.inr (r + 1)) :: st) h Q | _ => False)) ∧
  (∀ (n d : Nat) (L : List (Option iV)) (st : List iV) (h : iH) (Q : Option iV → iH → Prop), G sp sc [23] d mL_law (n + 1) 1059 L st h Q = (match ld L 4 with | some (.inl x) => G sp sc [23] d mL_law n 1061 L (.inl x :: st) h Q | _ => False)) ∧
  (∀ (n d : Nat) (L : List (Option iV)) (st : List iV) (h : iH) (Q : Option iV → iH → Prop), G sp sc [23] d mL_law (n + 1) 1061 L st h Q = G sp sc [23] d mL_law n 1062 L (.inl 1 :: st) h Q) ∧
  (∀ (n d : Nat) (L : List (Option iV)) (a : Int) (b : Int) (r : List iV) (h : iH) (Q : Option iV → iH → Prop), G sp sc [23] d mL_law (n + 1) 1062 L (.inl b :: .inl a :: r) h Q = G sp sc [23] d mL_law n 1063 L (.inl (a + b) :: r) h Q) ∧
  (∀ (n d : Nat) (L : List (Option iV)) (r : List iV) (j : Int) (h : iH) (Q : Option iV → iH → Prop), G sp sc [23] d mL_law (n + 1) 1063 L (.inl j :: .inr (.inr 1) :: r) h Q = (inA j sc.length = true ∧ G sp sc [23] d mL_law n 1064 L (.inl (sc.getD j.toNat 0) :: r) h Q)) ∧
  (∀ (n d : Nat) (L : List (Option iV)) (r : List iV) (j : Int) (m : Nat) (h : iH) (Q : Option iV → iH → Prop), G sp sc [23] d mL_law (n + 1) 1063 L (.inl j :: .inr (.inr (m + 2)) :: r) h Q = (match h.1[m]? with | some (.inr (.inl (0, xs))) => inA j xs.length = true ∧ G sp sc [23] d mL_law n 1064 L (.inl (xs.getD j.toNat 0) :: r) h Q | _ => False)) ∧
  (∀ (n d : Nat) (L : List (Option iV)) (r : List iV) (m : Nat) (z0 : iV) (h : iH) (Q : Option iV → iH → Prop), G sp sc [23] (d + 1) mL_law (n + 1) 1064 L (z0 :: .inr (.inr (m + 2)) :: r) h Q = (match h.1[m]? with | some (.inl (ci, _)) => (match lkC 13 110 ci with | some (y1, n1, kd) => (n1 = 1 ∧ (kd = 2 ∨ kd = 3 ∨ kd = 8) ∧ cs r ≤ 8) ∧ Call sp sc d y1 [.inr (.inr (m + 2)), z0] h (fun q h1 => GC sp sc [23] (d + 1) mL_law n 1067 L q r h h1 Q) | none => False) | _ => False)) ∧
  (∀ (n d : Nat) (L : List (Option iV)) (st : List iV) (h : iH) (Q : Option iV → iH → Prop), G sp sc [23] d mL_law (n + 1) 1067 L st h Q = (match ld L 2 with | some (.inr (.inr (r + 1))) => G sp sc [23] d mL_law n 1068 L (.inr (.inr (r + 1)) :: st) h Q | _ => False)) ∧
  (∀ (n d : Nat) (L : List (Option iV)) (st : List iV) (h : iH) (Q : Option iV → iH → Prop), G sp sc [23] d mL_law (n + 1) 1068 L st h Q = (match ld L 0 with | some (.inr (.inr (r + 1))) => G sp sc [23] d mL_law n 1069 L (.inr (.inr (r + 1)) :: st) h Q | _ => False)) ∧
  (∀ (n d : Nat) (L : List (Option iV)) (st : List iV) (h : iH) (Q : Option iV → iH → Prop), G sp sc [23] d mL_law (n + 1) 1069 L st h Q = (match ld L 4 with | some (.inl x) => G sp sc [23] d mL_law n 1071 L (.inl x :: st) h Q | _ => False)) ∧
  (∀ (n d : Nat) (L : List (Option iV)) (st : List iV) (h : iH) (Q : Option iV → iH → Prop), G sp sc [23] d mL_law (n + 1) 1071 L st h Q = G sp sc [23] d mL_law n 1072 L (.inl 1 :: st) h Q) ∧
  (∀ (n d : Nat) (L : List (Option iV)) (a : Int) (b : Int) (r : List iV) (h : iH) (Q : Option iV → iH → Prop), G sp sc [23] d mL_law (n + 1) 1072 L (.inl b :: .inl a :: r) h Q = G sp sc [23] d mL_law n 1073 L (.inl (a + b) :: r) h Q) ∧
  (∀ (n d : Nat) (L : List (Option iV)) (r : List iV) (j : Int) (h : iH) (Q : Option iV → iH → Prop), G sp sc [23] d mL_law (n + 1) 1073 L (.inl j :: .inr (.inr 1) :: r) h Q = (inA j sc.length = true ∧ G sp sc [23] d mL_law n 1074 L (.inl (sc.getD j.toNat 0) :: r) h Q)) ∧
  (∀ (n d : Nat) (L : List (Option iV)) (r : List iV) (j : Int) (m : Nat) (h : iH) (Q : Option iV → iH → Prop), G sp sc [23] d mL_law (n + 1) 1073 L (.inl j :: .inr (.inr (m + 2)) :: r) h Q = (match h.1[m]? with | some (.inr (.inl (0, xs))) => inA j xs.length = true ∧ G sp sc [23] d mL_law n 1074 L (.inl (xs.getD j.toNat 0) :: r) h Q | _ => False)) ∧
  (∀ (n d : Nat) (L : List (Option iV)) (r : List iV) (m : Nat) (z0 : iV) (h : iH) (Q : Option iV → iH → Prop), G sp sc [23] (d + 1) mL_law (n + 1) 1074 L (z0 :: .inr (.inr (m + 2)) :: r) h Q = (match h.1[m]? with | some (.inl (ci, _)) => (match lkC 13 113 ci with | some (y1, n1, kd) => (n1 = 1 ∧ (kd = 2 ∨ kd = 3 ∨ kd = 8) ∧ cs r ≤ 8) ∧ Call sp sc d y1 [.inr (.inr (m + 2)), z0] h (fun q h1 => GC sp sc [23] (d + 1) mL_law n 1077 L q r h h1 Q) | none => False) | _ => False)) ∧
  (∀ (n d : Nat) (L : List (Option iV)) (a : Int) (b : Int) (r : List iV) (h : iH) (Q : Option iV → iH → Prop), G sp sc [23] d mL_law (n + 1) 1077 L (.inl b :: .inl a :: r) h Q = ((inI a = true ∧ inI b = true) ∧ (a = b → G sp sc [23] d mL_law n 1950 L r h Q) ∧ (¬ (a = b) → G sp sc [23] d mL_law n 1080 L r h Q))) ∧
  (∀ (n d : Nat) (L : List (Option iV)) (st : List iV) (h : iH) (Q : Option iV → iH → Prop), G sp sc [23] d mL_law (n + 1) 1080 L st h Q = G sp sc [23] d mL_law n 1081 L (.inl 0 :: st) h Q) ∧
  (∀ (n d : Nat) (L : List (Option iV)) (a : Int) (h : iH) (Q : Option iV → iH → Prop), G sp sc [23] d mL_law (n + 1) 1081 L [.inl a] h Q = ((a = 0 ∨ a = 1) ∧ Q (some (.inl a)) h)) := ⟨by intros; exact G_at (by decide +kernel : fetch mL_law 1057 = some (.aload_n 1)),
  by intros; exact G_at (by decide +kernel : fetch mL_law 1058 = some (.aload_n 0)),
  by intros; exact G_at (by decide +kernel : fetch mL_law 1059 = some (.iload 4)),
  by intros; exact G_at (by decide +kernel : fetch mL_law 1061 = some (.iconst 1)),
  by intros; exact G_at (by decide +kernel : fetch mL_law 1062 = some (.iadd)),
  by intros; exact G_at (by decide +kernel : fetch mL_law 1063 = some (.iaload)),
  by intros; exact G_at (by decide +kernel : fetch mL_law 1063 = some (.iaload)),
  by intros; exact G_callV (by decide +kernel : fetch mL_law 1064 = some (.invokevirtual 110)) (by decide +kernel) (by decide +kernel) rfl,
  by intros; exact G_at (by decide +kernel : fetch mL_law 1067 = some (.aload_n 2)),
  by intros; exact G_at (by decide +kernel : fetch mL_law 1068 = some (.aload_n 0)),
  by intros; exact G_at (by decide +kernel : fetch mL_law 1069 = some (.iload 4)),
  by intros; exact G_at (by decide +kernel : fetch mL_law 1071 = some (.iconst 1)),
  by intros; exact G_at (by decide +kernel : fetch mL_law 1072 = some (.iadd)),
  by intros; exact G_at (by decide +kernel : fetch mL_law 1073 = some (.iaload)),
  by intros; exact G_at (by decide +kernel : fetch mL_law 1073 = some (.iaload)),
  by intros; exact G_callV (by decide +kernel : fetch mL_law 1074 = some (.invokevirtual 113)) (by decide +kernel) (by decide +kernel) rfl,
  by intros; exact G_at (by decide +kernel : fetch mL_law 1077 = some (.if_icmp .eq 873)),
  by intros; exact G_at (by decide +kernel : fetch mL_law 1080 = some (.iconst 0)),
  by intros; exact G_retz (by decide +kernel : fetch mL_law 1081 = some (.ireturn)) (by decide +kernel)⟩
theorem gL_c22 : (∀ (n d : Nat) (L : List (Option iV)) (st : List iV) (h : iH) (Q : Option iV → iH → Prop), G sp sc [23] d mL_law (n + 1) 1082 L st h Q = (match ld L 1 with | some (.inr (.inr (r + 1))) => G sp sc [23] d mL_law n 1083 L (.inr (.inr (r + 1)) :: st) h Q | _ => False)) ∧
  (∀ (n d : Nat) (L : List (Option iV)) (st : List iV) (h : iH) (Q : Option iV → iH → Prop), G sp sc [23] d mL_law (n + 1) 1083 L st h Q = (match ld L 0 with | some (.inr (.inr (r + 1))) => G sp sc [23] d mL_law n 1084 L (.inr (.inr (r + 1)) :: st) h Q | _ => False)) ∧
  (∀ (n d : Nat) (L : List (Option iV)) (st : List iV) (h : iH) (Q : Option iV → iH → Prop), G sp sc [23] d mL_law (n + 1) 1084 L st h Q = (match ld L 4 with | some (.inl x) => G sp sc [23] d mL_law n 1086 L (.inl x :: st) h Q | _ => False)) ∧
  (∀ (n d : Nat) (L : List (Option iV)) (st : List iV) (h : iH) (Q : Option iV → iH → Prop), G sp sc [23] d mL_law (n + 1) 1086 L st h Q = G sp sc [23] d mL_law n 1087 L (.inl 1 :: st) h Q) ∧
  (∀ (n d : Nat) (L : List (Option iV)) (a : Int) (b : Int) (r : List iV) (h : iH) (Q : Option iV → iH → Prop), G sp sc [23] d mL_law (n + 1) 1087 L (.inl b :: .inl a :: r) h Q = G sp sc [23] d mL_law n 1088 L (.inl (a + b) :: r) h Q) ∧
  (∀ (n d : Nat) (L : List (Option iV)) (r : List iV) (j : Int) (h : iH) (Q : Option iV → iH → Prop), G sp sc [23] d mL_law (n + 1) 1088 L (.inl j :: .inr (.inr 1) :: r) h Q = (inA j sc.length = true ∧ G sp sc [23] d mL_law n 1089 L (.inl (sc.getD j.toNat 0) :: r) h Q)) ∧
  (∀ (n d : Nat) (L : List (Option iV)) (r : List iV) (j : Int) (m : Nat) (h : iH) (Q : Option iV → iH → Prop), G sp sc [23] d mL_law (n + 1) 1088 L (.inl j :: .inr (.inr (m + 2)) :: r) h Q = (match h.1[m]? with | some (.inr (.inl (0, xs))) => inA j xs.length = true ∧ G sp sc [23] d mL_law n 1089 L (.inl (xs.getD j.toNat 0) :: r) h Q | _ => False)) ∧
  (∀ (n d : Nat) (L : List (Option iV)) (r : List iV) (m : Nat) (z0 : iV) (h : iH) (Q : Option iV → iH → Prop), G sp sc [23] (d + 1) mL_law (n + 1) 1089 L (z0 :: .inr (.inr (m + 2)) :: r) h Q = (match h.1[m]? with | some (.inl (ci, _)) => (match lkC 13 114 ci with | some (y1, n1, kd) => (n1 = 1 ∧ (kd = 2 ∨ kd = 3 ∨ kd = 8) ∧ cs r ≤ 8) ∧ Call sp sc d y1 [.inr (.inr (m + 2)), z0] h (fun q h1 => GC sp sc [23] (d + 1) mL_law n 1092 L q r h h1 Q) | none => False) | _ => False)) ∧
  (∀ (n d : Nat) (L : List (Option iV)) (st : List iV) (h : iH) (Q : Option iV → iH → Prop), G sp sc [23] d mL_law (n + 1) 1092 L st h Q = (match ld L 2 with | some (.inr (.inr (r + 1))) => G sp sc [23] d mL_law n 1093 L (.inr (.inr (r + 1)) :: st) h Q | _ => False)) ∧
  (∀ (n d : Nat) (L : List (Option iV)) (st : List iV) (h : iH) (Q : Option iV → iH → Prop), G sp sc [23] d mL_law (n + 1) 1093 L st h Q = (match ld L 0 with | some (.inr (.inr (r + 1))) => G sp sc [23] d mL_law n 1094 L (.inr (.inr (r + 1)) :: st) h Q | _ => False)) ∧
  (∀ (n d : Nat) (L : List (Option iV)) (st : List iV) (h : iH) (Q : Option iV → iH → Prop), G sp sc [23] d mL_law (n + 1) 1094 L st h Q = (match ld L 4 with | some (.inl x) => G sp sc [23] d mL_law n 1096 L (.inl x :: st) h Q | _ => False)) ∧
  (∀ (n d : Nat) (L : List (Option iV)) (st : List iV) (h : iH) (Q : Option iV → iH → Prop), G sp sc [23] d mL_law (n + 1) 1096 L st h Q = G sp sc [23] d mL_law n 1097 L (.inl 1 :: st) h Q) ∧
  (∀ (n d : Nat) (L : List (Option iV)) (a : Int) (b : Int) (r : List iV) (h : iH) (Q : Option iV → iH → Prop), G sp sc [23] d mL_law (n + 1) 1097 L (.inl b :: .inl a :: r) h Q = G sp sc [23] d mL_law n 1098 L (.inl (a + b) :: r) h Q) ∧
  (∀ (n d : Nat) (L : List (Option iV)) (r : List iV) (j : Int) (h : iH) (Q : Option iV → iH → Prop), G sp sc [23] d mL_law (n + 1) 1098 L (.inl j :: .inr (.inr 1) :: r) h Q = (inA j sc.length = true ∧ G sp sc [23] d mL_law n 1099 L (.inl (sc.getD j.toNat 0) :: r) h Q)) ∧
  (∀ (n d : Nat) (L : List (Option iV)) (r : List iV) (j : Int) (m : Nat) (h : iH) (Q : Option iV → iH → Prop), G sp sc [23] d mL_law (n + 1) 1098 L (.inl j :: .inr (.inr (m + 2)) :: r) h Q = (match h.1[m]? with | some (.inr (.inl (0, xs))) => inA j xs.length = true ∧ G sp sc [23] d mL_law n 1099 L (.inl (xs.getD j.toNat 0) :: r) h Q | _ => False)) ∧
  (∀ (n d : Nat) (L : List (Option iV)) (r : List iV) (m : Nat) (z0 : iV) (h : iH) (Q : Option iV → iH → Prop), G sp sc [23] (d + 1) mL_law (n + 1) 1099 L (z0 :: .inr (.inr (m + 2)) :: r) h Q = (match h.1[m]? with | some (.inl (ci, _)) => (match lkC 13 117 ci with | some (y1, n1, kd) => (n1 = 1 ∧ (kd = 2 ∨ kd = 3 ∨ kd = 8) ∧ cs r ≤ 8) ∧ Call sp sc d y1 [.inr (.inr (m + 2)), z0] h (fun q h1 => GC sp sc [23] (d + 1) mL_law n 1102 L q r h h1 Q) | none => False) | _ => False)) ∧
  (∀ (n d : Nat) (L : List (Option iV)) (a : Int) (b : Int) (r : List iV) (h : iH) (Q : Option iV → iH → Prop), G sp sc [23] d mL_law (n + 1) 1102 L (.inl b :: .inl a :: r) h Q = ((inI a = true ∧ inI b = true) ∧ (a = b → G sp sc [23] d mL_law n 1950 L r h Q) ∧ (¬ (a = b) → G sp sc [23] d mL_law n 1105 L r h Q))) ∧
  (∀ (n d : Nat) (L : List (Option iV)) (st : List iV) (h : iH) (Q : Option iV → iH → Prop), G sp sc [23] d mL_law (n + 1) 1105 L st h Q = G sp sc [23] d mL_law n 1106 L (.inl 0 :: st) h Q) ∧
  (∀ (n d : Nat) (L : List (Option iV)) (a : Int) (h : iH) (Q : Option iV → iH → Prop), G sp sc [23] d mL_law (n + 1) 1106 L [.inl a] h Q = ((a = 0 ∨ a = 1) ∧ Q (some (.inl a)) h)) := ⟨by intros; exact G_at (by decide +kernel : fetch mL_law 1082 = some (.aload_n 1)),
  by intros; exact G_at (by decide +kernel : fetch mL_law 1083 = some (.aload_n 0)),
  by intros; exact G_at (by decide +kernel : fetch mL_law 1084 = some (.iload 4)),
  by intros; exact G_at (by decide +kernel : fetch mL_law 1086 = some (.iconst 1)),
  by intros; exact G_at (by decide +kernel : fetch mL_law 1087 = some (.iadd)),
  by intros; exact G_at (by decide +kernel : fetch mL_law 1088 = some (.iaload)),
  by intros; exact G_at (by decide +kernel : fetch mL_law 1088 = some (.iaload)),
  by intros; exact G_callV (by decide +kernel : fetch mL_law 1089 = some (.invokevirtual 114)) (by decide +kernel) (by decide +kernel) rfl,
  by intros; exact G_at (by decide +kernel : fetch mL_law 1092 = some (.aload_n 2)),
  by intros; exact G_at (by decide +kernel : fetch mL_law 1093 = some (.aload_n 0)),
  by intros; exact G_at (by decide +kernel : fetch mL_law 1094 = some (.iload 4)),
  by intros; exact G_at (by decide +kernel : fetch mL_law 1096 = some (.iconst 1)),
  by intros; exact G_at (by decide +kernel : fetch mL_law 1097 = some (.iadd)),
  by intros; exact G_at (by decide +kernel : fetch mL_law 1098 = some (.iaload)),
  by intros; exact G_at (by decide +kernel : fetch mL_law 1098 = some (.iaload)),
  by intros; exact G_callV (by decide +kernel : fetch mL_law 1099 = some (.invokevirtual 117)) (by decide +kernel) (by decide +kernel) rfl,
  by intros; exact G_at (by decide +kernel : fetch mL_law 1102 = some (.if_icmp .eq 848)),
  by intros; exact G_at (by decide +kernel : fetch mL_law 1105 = some (.iconst 0)),
  by intros; exact G_retz (by decide +kernel : fetch mL_law 1106 = some (.ireturn)) (by decide +kernel)⟩
theorem gL_c23 : (∀ (n d : Nat) (L : List (Option iV)) (st : List iV) (h : iH) (Q : Option iV → iH → Prop), G sp sc [23] d mL_law (n + 1) 1107 L st h Q = (match ld L 1 with | some (.inr (.inr (r + 1))) => G sp sc [23] d mL_law n 1108 L (.inr (.inr (r + 1)) :: st) h Q | _ => False)) ∧
  (∀ (n d : Nat) (L : List (Option iV)) (r : List iV) (m : Nat) (h : iH) (Q : Option iV → iH → Prop), G sp sc [23] (d + 1) mL_law (n + 1) 1108 L (.inr (.inr (m + 2)) :: r) h Q = (match h.1[m]? with | some (.inl (ci, _)) => (match lkC 13 118 ci with | some (y1, n1, kd) => (n1 = 0 ∧ (kd = 2 ∨ kd = 3 ∨ kd = 8) ∧ cs r ≤ 8) ∧ Call sp sc d y1 [.inr (.inr (m + 2))] h (fun q h1 => GC sp sc [23] (d + 1) mL_law n 1111 L q r h h1 Q) | none => False) | _ => False)) ∧
  (∀ (n d : Nat) (L : List (Option iV)) (st : List iV) (h : iH) (Q : Option iV → iH → Prop), G sp sc [23] d mL_law (n + 1) 1111 L st h Q = (match ld L 2 with | some (.inr (.inr (r + 1))) => G sp sc [23] d mL_law n 1112 L (.inr (.inr (r + 1)) :: st) h Q | _ => False)) ∧
  (∀ (n d : Nat) (L : List (Option iV)) (r : List iV) (m : Nat) (h : iH) (Q : Option iV → iH → Prop), G sp sc [23] (d + 1) mL_law (n + 1) 1112 L (.inr (.inr (m + 2)) :: r) h Q = (match h.1[m]? with | some (.inl (ci, _)) => (match lkC 13 121 ci with | some (y1, n1, kd) => (n1 = 0 ∧ (kd = 2 ∨ kd = 3 ∨ kd = 8) ∧ cs r ≤ 8) ∧ Call sp sc d y1 [.inr (.inr (m + 2))] h (fun q h1 => GC sp sc [23] (d + 1) mL_law n 1115 L q r h h1 Q) | none => False) | _ => False)) ∧
  (∀ (n d : Nat) (L : List (Option iV)) (a : Int) (b : Int) (r : List iV) (h : iH) (Q : Option iV → iH → Prop), G sp sc [23] d mL_law (n + 1) 1115 L (.inl b :: .inl a :: r) h Q = ((inI a = true ∧ inI b = true) ∧ (a = b → G sp sc [23] d mL_law n 1950 L r h Q) ∧ (¬ (a = b) → G sp sc [23] d mL_law n 1118 L r h Q))) ∧
  (∀ (n d : Nat) (L : List (Option iV)) (st : List iV) (h : iH) (Q : Option iV → iH → Prop), G sp sc [23] d mL_law (n + 1) 1118 L st h Q = G sp sc [23] d mL_law n 1119 L (.inl 0 :: st) h Q) ∧
  (∀ (n d : Nat) (L : List (Option iV)) (a : Int) (h : iH) (Q : Option iV → iH → Prop), G sp sc [23] d mL_law (n + 1) 1119 L [.inl a] h Q = ((a = 0 ∨ a = 1) ∧ Q (some (.inl a)) h)) := ⟨by intros; exact G_at (by decide +kernel : fetch mL_law 1107 = some (.aload_n 1)),
  by intros; exact G_callV (by decide +kernel : fetch mL_law 1108 = some (.invokevirtual 118)) (by decide +kernel) (by decide +kernel) rfl,
  by intros; exact G_at (by decide +kernel : fetch mL_law 1111 = some (.aload_n 2)),
  by intros; exact G_callV (by decide +kernel : fetch mL_law 1112 = some (.invokevirtual 121)) (by decide +kernel) (by decide +kernel) rfl,
  by intros; exact G_at (by decide +kernel : fetch mL_law 1115 = some (.if_icmp .eq 835)),
  by intros; exact G_at (by decide +kernel : fetch mL_law 1118 = some (.iconst 0)),
  by intros; exact G_retz (by decide +kernel : fetch mL_law 1119 = some (.ireturn)) (by decide +kernel)⟩
theorem gL_c24 : (∀ (n d : Nat) (L : List (Option iV)) (st : List iV) (h : iH) (Q : Option iV → iH → Prop), G sp sc [23] d mL_law (n + 1) 1120 L st h Q = (match ld L 1 with | some (.inr (.inr (r + 1))) => G sp sc [23] d mL_law n 1121 L (.inr (.inr (r + 1)) :: st) h Q | _ => False)) ∧
  (∀ (n d : Nat) (L : List (Option iV)) (r : List iV) (m : Nat) (h : iH) (Q : Option iV → iH → Prop), G sp sc [23] (d + 1) mL_law (n + 1) 1121 L (.inr (.inr (m + 2)) :: r) h Q = (match h.1[m]? with | some (.inl (ci, _)) => (match lkC 13 122 ci with | some (y1, n1, kd) => (n1 = 0 ∧ (kd = 2 ∨ kd = 3 ∨ kd = 8) ∧ cs r ≤ 8) ∧ Call sp sc d y1 [.inr (.inr (m + 2))] h (fun q h1 => GC sp sc [23] (d + 1) mL_law n 1124 L q r h h1 Q) | none => False) | _ => False)) ∧
  (∀ (n d : Nat) (L : List (Option iV)) (st : List iV) (h : iH) (Q : Option iV → iH → Prop), G sp sc [23] d mL_law (n + 1) 1124 L st h Q = (match ld L 2 with | some (.inr (.inr (r + 1))) => G sp sc [23] d mL_law n 1125 L (.inr (.inr (r + 1)) :: st) h Q | _ => False)) ∧
  (∀ (n d : Nat) (L : List (Option iV)) (r : List iV) (m : Nat) (h : iH) (Q : Option iV → iH → Prop), G sp sc [23] (d + 1) mL_law (n + 1) 1125 L (.inr (.inr (m + 2)) :: r) h Q = (match h.1[m]? with | some (.inl (ci, _)) => (match lkC 13 125 ci with | some (y1, n1, kd) => (n1 = 0 ∧ (kd = 2 ∨ kd = 3 ∨ kd = 8) ∧ cs r ≤ 8) ∧ Call sp sc d y1 [.inr (.inr (m + 2))] h (fun q h1 => GC sp sc [23] (d + 1) mL_law n 1128 L q r h h1 Q) | none => False) | _ => False)) ∧
  (∀ (n d : Nat) (L : List (Option iV)) (a : Int) (b : Int) (r : List iV) (h : iH) (Q : Option iV → iH → Prop), G sp sc [23] d mL_law (n + 1) 1128 L (.inl b :: .inl a :: r) h Q = ((inI a = true ∧ inI b = true) ∧ (a = b → G sp sc [23] d mL_law n 1950 L r h Q) ∧ (¬ (a = b) → G sp sc [23] d mL_law n 1131 L r h Q))) ∧
  (∀ (n d : Nat) (L : List (Option iV)) (st : List iV) (h : iH) (Q : Option iV → iH → Prop), G sp sc [23] d mL_law (n + 1) 1131 L st h Q = G sp sc [23] d mL_law n 1132 L (.inl 0 :: st) h Q) ∧
  (∀ (n d : Nat) (L : List (Option iV)) (a : Int) (h : iH) (Q : Option iV → iH → Prop), G sp sc [23] d mL_law (n + 1) 1132 L [.inl a] h Q = ((a = 0 ∨ a = 1) ∧ Q (some (.inl a)) h)) := ⟨by intros; exact G_at (by decide +kernel : fetch mL_law 1120 = some (.aload_n 1)),
  by intros; exact G_callV (by decide +kernel : fetch mL_law 1121 = some (.invokevirtual 122)) (by decide +kernel) (by decide +kernel) rfl,
  by intros; exact G_at (by decide +kernel : fetch mL_law 1124 = some (.aload_n 2)),
  by intros; exact G_callV (by decide +kernel : fetch mL_law 1125 = some (.invokevirtual 125)) (by decide +kernel) (by decide +kernel) rfl,
  by intros; exact G_at (by decide +kernel : fetch mL_law 1128 = some (.if_icmp .eq 822)),
  by intros; exact G_at (by decide +kernel : fetch mL_law 1131 = some (.iconst 0)),
  by intros; exact G_retz (by decide +kernel : fetch mL_law 1132 = some (.ireturn)) (by decide +kernel)⟩
theorem gL_c25 : (∀ (n d : Nat) (L : List (Option iV)) (st : List iV) (h : iH) (Q : Option iV → iH → Prop), G sp sc [23] d mL_law (n + 1) 1133 L st h Q = (match ld L 1 with | some (.inr (.inr (r + 1))) => G sp sc [23] d mL_law n 1134 L (.inr (.inr (r + 1)) :: st) h Q | _ => False)) ∧
  (∀ (n d : Nat) (L : List (Option iV)) (st : List iV) (h : iH) (Q : Option iV → iH → Prop), G sp sc [23] d mL_law (n + 1) 1134 L st h Q = (match ld L 0 with | some (.inr (.inr (r + 1))) => G sp sc [23] d mL_law n 1135 L (.inr (.inr (r + 1)) :: st) h Q | _ => False)) ∧
  (∀ (n d : Nat) (L : List (Option iV)) (st : List iV) (h : iH) (Q : Option iV → iH → Prop), G sp sc [23] d mL_law (n + 1) 1135 L st h Q = (match ld L 4 with | some (.inl x) => G sp sc [23] d mL_law n 1137 L (.inl x :: st) h Q | _ => False)) ∧
  (∀ (n d : Nat) (L : List (Option iV)) (st : List iV) (h : iH) (Q : Option iV → iH → Prop), G sp sc [23] d mL_law (n + 1) 1137 L st h Q = G sp sc [23] d mL_law n 1138 L (.inl 1 :: st) h Q) ∧
  (∀ (n d : Nat) (L : List (Option iV)) (a : Int) (b : Int) (r : List iV) (h : iH) (Q : Option iV → iH → Prop), G sp sc [23] d mL_law (n + 1) 1138 L (.inl b :: .inl a :: r) h Q = G sp sc [23] d mL_law n 1139 L (.inl (a + b) :: r) h Q) ∧
  (∀ (n d : Nat) (L : List (Option iV)) (r : List iV) (j : Int) (h : iH) (Q : Option iV → iH → Prop), G sp sc [23] d mL_law (n + 1) 1139 L (.inl j :: .inr (.inr 1) :: r) h Q = (inA j sc.length = true ∧ G sp sc [23] d mL_law n 1140 L (.inl (sc.getD j.toNat 0) :: r) h Q)) ∧
  (∀ (n d : Nat) (L : List (Option iV)) (r : List iV) (j : Int) (m : Nat) (h : iH) (Q : Option iV → iH → Prop), G sp sc [23] d mL_law (n + 1) 1139 L (.inl j :: .inr (.inr (m + 2)) :: r) h Q = (match h.1[m]? with | some (.inr (.inl (0, xs))) => inA j xs.length = true ∧ G sp sc [23] d mL_law n 1140 L (.inl (xs.getD j.toNat 0) :: r) h Q | _ => False)) ∧
  (∀ (n d : Nat) (L : List (Option iV)) (r : List iV) (m : Nat) (z0 : iV) (h : iH) (Q : Option iV → iH → Prop), G sp sc [23] (d + 1) mL_law (n + 1) 1140 L (z0 :: .inr (.inr (m + 2)) :: r) h Q = (match h.1[m]? with | some (.inl (ci, _)) => (match lkC 13 126 ci with | some (y1, n1, kd) => (n1 = 1 ∧ (kd = 2 ∨ kd = 3 ∨ kd = 8) ∧ cs r ≤ 8) ∧ Call sp sc d y1 [.inr (.inr (m + 2)), z0] h (fun q h1 => GC sp sc [23] (d + 1) mL_law n 1143 L q r h h1 Q) | none => False) | _ => False)) ∧
  (∀ (n d : Nat) (L : List (Option iV)) (st : List iV) (h : iH) (Q : Option iV → iH → Prop), G sp sc [23] d mL_law (n + 1) 1143 L st h Q = (match ld L 2 with | some (.inr (.inr (r + 1))) => G sp sc [23] d mL_law n 1144 L (.inr (.inr (r + 1)) :: st) h Q | _ => False)) ∧
  (∀ (n d : Nat) (L : List (Option iV)) (st : List iV) (h : iH) (Q : Option iV → iH → Prop), G sp sc [23] d mL_law (n + 1) 1144 L st h Q = (match ld L 0 with | some (.inr (.inr (r + 1))) => G sp sc [23] d mL_law n 1145 L (.inr (.inr (r + 1)) :: st) h Q | _ => False)) ∧
  (∀ (n d : Nat) (L : List (Option iV)) (st : List iV) (h : iH) (Q : Option iV → iH → Prop), G sp sc [23] d mL_law (n + 1) 1145 L st h Q = (match ld L 4 with | some (.inl x) => G sp sc [23] d mL_law n 1147 L (.inl x :: st) h Q | _ => False)) ∧
  (∀ (n d : Nat) (L : List (Option iV)) (st : List iV) (h : iH) (Q : Option iV → iH → Prop), G sp sc [23] d mL_law (n + 1) 1147 L st h Q = G sp sc [23] d mL_law n 1148 L (.inl 1 :: st) h Q) ∧
  (∀ (n d : Nat) (L : List (Option iV)) (a : Int) (b : Int) (r : List iV) (h : iH) (Q : Option iV → iH → Prop), G sp sc [23] d mL_law (n + 1) 1148 L (.inl b :: .inl a :: r) h Q = G sp sc [23] d mL_law n 1149 L (.inl (a + b) :: r) h Q) ∧
  (∀ (n d : Nat) (L : List (Option iV)) (r : List iV) (j : Int) (h : iH) (Q : Option iV → iH → Prop), G sp sc [23] d mL_law (n + 1) 1149 L (.inl j :: .inr (.inr 1) :: r) h Q = (inA j sc.length = true ∧ G sp sc [23] d mL_law n 1150 L (.inl (sc.getD j.toNat 0) :: r) h Q)) ∧
  (∀ (n d : Nat) (L : List (Option iV)) (r : List iV) (j : Int) (m : Nat) (h : iH) (Q : Option iV → iH → Prop), G sp sc [23] d mL_law (n + 1) 1149 L (.inl j :: .inr (.inr (m + 2)) :: r) h Q = (match h.1[m]? with | some (.inr (.inl (0, xs))) => inA j xs.length = true ∧ G sp sc [23] d mL_law n 1150 L (.inl (xs.getD j.toNat 0) :: r) h Q | _ => False)) ∧
  (∀ (n d : Nat) (L : List (Option iV)) (r : List iV) (m : Nat) (z0 : iV) (h : iH) (Q : Option iV → iH → Prop), G sp sc [23] (d + 1) mL_law (n + 1) 1150 L (z0 :: .inr (.inr (m + 2)) :: r) h Q = (match h.1[m]? with | some (.inl (ci, _)) => (match lkC 13 129 ci with | some (y1, n1, kd) => (n1 = 1 ∧ (kd = 2 ∨ kd = 3 ∨ kd = 8) ∧ cs r ≤ 8) ∧ Call sp sc d y1 [.inr (.inr (m + 2)), z0] h (fun q h1 => GC sp sc [23] (d + 1) mL_law n 1153 L q r h h1 Q) | none => False) | _ => False)) ∧
  (∀ (n d : Nat) (L : List (Option iV)) (a : Int) (b : Int) (r : List iV) (h : iH) (Q : Option iV → iH → Prop), G sp sc [23] d mL_law (n + 1) 1153 L (.inl b :: .inl a :: r) h Q = ((inI a = true ∧ inI b = true) ∧ (a = b → G sp sc [23] d mL_law n 1950 L r h Q) ∧ (¬ (a = b) → G sp sc [23] d mL_law n 1156 L r h Q))) ∧
  (∀ (n d : Nat) (L : List (Option iV)) (st : List iV) (h : iH) (Q : Option iV → iH → Prop), G sp sc [23] d mL_law (n + 1) 1156 L st h Q = G sp sc [23] d mL_law n 1157 L (.inl 0 :: st) h Q) ∧
  (∀ (n d : Nat) (L : List (Option iV)) (a : Int) (h : iH) (Q : Option iV → iH → Prop), G sp sc [23] d mL_law (n + 1) 1157 L [.inl a] h Q = ((a = 0 ∨ a = 1) ∧ Q (some (.inl a)) h)) := ⟨by intros; exact G_at (by decide +kernel : fetch mL_law 1133 = some (.aload_n 1)),
  by intros; exact G_at (by decide +kernel : fetch mL_law 1134 = some (.aload_n 0)),
  by intros; exact G_at (by decide +kernel : fetch mL_law 1135 = some (.iload 4)),
  by intros; exact G_at (by decide +kernel : fetch mL_law 1137 = some (.iconst 1)),
  by intros; exact G_at (by decide +kernel : fetch mL_law 1138 = some (.iadd)),
  by intros; exact G_at (by decide +kernel : fetch mL_law 1139 = some (.iaload)),
  by intros; exact G_at (by decide +kernel : fetch mL_law 1139 = some (.iaload)),
  by intros; exact G_callV (by decide +kernel : fetch mL_law 1140 = some (.invokevirtual 126)) (by decide +kernel) (by decide +kernel) rfl,
  by intros; exact G_at (by decide +kernel : fetch mL_law 1143 = some (.aload_n 2)),
  by intros; exact G_at (by decide +kernel : fetch mL_law 1144 = some (.aload_n 0)),
  by intros; exact G_at (by decide +kernel : fetch mL_law 1145 = some (.iload 4)),
  by intros; exact G_at (by decide +kernel : fetch mL_law 1147 = some (.iconst 1)),
  by intros; exact G_at (by decide +kernel : fetch mL_law 1148 = some (.iadd)),
  by intros; exact G_at (by decide +kernel : fetch mL_law 1149 = some (.iaload)),
  by intros; exact G_at (by decide +kernel : fetch mL_law 1149 = some (.iaload)),
  by intros; exact G_callV (by decide +kernel : fetch mL_law 1150 = some (.invokevirtual 129)) (by decide +kernel) (by decide +kernel) rfl,
  by intros; exact G_at (by decide +kernel : fetch mL_law 1153 = some (.if_icmp .eq 797)),
  by intros; exact G_at (by decide +kernel : fetch mL_law 1156 = some (.iconst 0)),
  by intros; exact G_retz (by decide +kernel : fetch mL_law 1157 = some (.ireturn)) (by decide +kernel)⟩
theorem gL_c26 : (∀ (n d : Nat) (L : List (Option iV)) (st : List iV) (h : iH) (Q : Option iV → iH → Prop), G sp sc [23] d mL_law (n + 1) 1158 L st h Q = (match ld L 1 with | some (.inr (.inr (r + 1))) => G sp sc [23] d mL_law n 1159 L (.inr (.inr (r + 1)) :: st) h Q | _ => False)) ∧
  (∀ (n d : Nat) (L : List (Option iV)) (st : List iV) (h : iH) (Q : Option iV → iH → Prop), G sp sc [23] d mL_law (n + 1) 1159 L st h Q = (match ld L 0 with | some (.inr (.inr (r + 1))) => G sp sc [23] d mL_law n 1160 L (.inr (.inr (r + 1)) :: st) h Q | _ => False)) ∧
  (∀ (n d : Nat) (L : List (Option iV)) (st : List iV) (h : iH) (Q : Option iV → iH → Prop), G sp sc [23] d mL_law (n + 1) 1160 L st h Q = (match ld L 4 with | some (.inl x) => G sp sc [23] d mL_law n 1162 L (.inl x :: st) h Q | _ => False)) ∧
  (∀ (n d : Nat) (L : List (Option iV)) (st : List iV) (h : iH) (Q : Option iV → iH → Prop), G sp sc [23] d mL_law (n + 1) 1162 L st h Q = G sp sc [23] d mL_law n 1163 L (.inl 1 :: st) h Q) ∧
  (∀ (n d : Nat) (L : List (Option iV)) (a : Int) (b : Int) (r : List iV) (h : iH) (Q : Option iV → iH → Prop), G sp sc [23] d mL_law (n + 1) 1163 L (.inl b :: .inl a :: r) h Q = G sp sc [23] d mL_law n 1164 L (.inl (a + b) :: r) h Q) ∧
  (∀ (n d : Nat) (L : List (Option iV)) (r : List iV) (j : Int) (h : iH) (Q : Option iV → iH → Prop), G sp sc [23] d mL_law (n + 1) 1164 L (.inl j :: .inr (.inr 1) :: r) h Q = (inA j sc.length = true ∧ G sp sc [23] d mL_law n 1165 L (.inl (sc.getD j.toNat 0) :: r) h Q)) ∧
  (∀ (n d : Nat) (L : List (Option iV)) (r : List iV) (j : Int) (m : Nat) (h : iH) (Q : Option iV → iH → Prop), G sp sc [23] d mL_law (n + 1) 1164 L (.inl j :: .inr (.inr (m + 2)) :: r) h Q = (match h.1[m]? with | some (.inr (.inl (0, xs))) => inA j xs.length = true ∧ G sp sc [23] d mL_law n 1165 L (.inl (xs.getD j.toNat 0) :: r) h Q | _ => False)) ∧
  (∀ (n d : Nat) (L : List (Option iV)) (st : List iV) (h : iH) (Q : Option iV → iH → Prop), G sp sc [23] d mL_law (n + 1) 1165 L st h Q = (match ld L 0 with | some (.inr (.inr (r + 1))) => G sp sc [23] d mL_law n 1166 L (.inr (.inr (r + 1)) :: st) h Q | _ => False)) ∧
  (∀ (n d : Nat) (L : List (Option iV)) (st : List iV) (h : iH) (Q : Option iV → iH → Prop), G sp sc [23] d mL_law (n + 1) 1166 L st h Q = (match ld L 4 with | some (.inl x) => G sp sc [23] d mL_law n 1168 L (.inl x :: st) h Q | _ => False)) ∧
  (∀ (n d : Nat) (L : List (Option iV)) (st : List iV) (h : iH) (Q : Option iV → iH → Prop), G sp sc [23] d mL_law (n + 1) 1168 L st h Q = G sp sc [23] d mL_law n 1169 L (.inl 2 :: st) h Q) ∧
  (∀ (n d : Nat) (L : List (Option iV)) (a : Int) (b : Int) (r : List iV) (h : iH) (Q : Option iV → iH → Prop), G sp sc [23] d mL_law (n + 1) 1169 L (.inl b :: .inl a :: r) h Q = G sp sc [23] d mL_law n 1170 L (.inl (a + b) :: r) h Q) ∧
  (∀ (n d : Nat) (L : List (Option iV)) (r : List iV) (j : Int) (h : iH) (Q : Option iV → iH → Prop), G sp sc [23] d mL_law (n + 1) 1170 L (.inl j :: .inr (.inr 1) :: r) h Q = (inA j sc.length = true ∧ G sp sc [23] d mL_law n 1171 L (.inl (sc.getD j.toNat 0) :: r) h Q)) ∧
  (∀ (n d : Nat) (L : List (Option iV)) (r : List iV) (j : Int) (m : Nat) (h : iH) (Q : Option iV → iH → Prop), G sp sc [23] d mL_law (n + 1) 1170 L (.inl j :: .inr (.inr (m + 2)) :: r) h Q = (match h.1[m]? with | some (.inr (.inl (0, xs))) => inA j xs.length = true ∧ G sp sc [23] d mL_law n 1171 L (.inl (xs.getD j.toNat 0) :: r) h Q | _ => False)) ∧
  (∀ (n d : Nat) (L : List (Option iV)) (st : List iV) (h : iH) (Q : Option iV → iH → Prop), G sp sc [23] d mL_law (n + 1) 1171 L st h Q = (match ld L 0 with | some (.inr (.inr (r + 1))) => G sp sc [23] d mL_law n 1172 L (.inr (.inr (r + 1)) :: st) h Q | _ => False)) ∧
  (∀ (n d : Nat) (L : List (Option iV)) (st : List iV) (h : iH) (Q : Option iV → iH → Prop), G sp sc [23] d mL_law (n + 1) 1172 L st h Q = (match ld L 4 with | some (.inl x) => G sp sc [23] d mL_law n 1174 L (.inl x :: st) h Q | _ => False)) ∧
  (∀ (n d : Nat) (L : List (Option iV)) (st : List iV) (h : iH) (Q : Option iV → iH → Prop), G sp sc [23] d mL_law (n + 1) 1174 L st h Q = G sp sc [23] d mL_law n 1175 L (.inl 3 :: st) h Q) ∧
  (∀ (n d : Nat) (L : List (Option iV)) (a : Int) (b : Int) (r : List iV) (h : iH) (Q : Option iV → iH → Prop), G sp sc [23] d mL_law (n + 1) 1175 L (.inl b :: .inl a :: r) h Q = G sp sc [23] d mL_law n 1176 L (.inl (a + b) :: r) h Q) ∧
  (∀ (n d : Nat) (L : List (Option iV)) (r : List iV) (j : Int) (h : iH) (Q : Option iV → iH → Prop), G sp sc [23] d mL_law (n + 1) 1176 L (.inl j :: .inr (.inr 1) :: r) h Q = (inA j sc.length = true ∧ G sp sc [23] d mL_law n 1177 L (.inl (sc.getD j.toNat 0) :: r) h Q)) ∧
  (∀ (n d : Nat) (L : List (Option iV)) (r : List iV) (j : Int) (m : Nat) (h : iH) (Q : Option iV → iH → Prop), G sp sc [23] d mL_law (n + 1) 1176 L (.inl j :: .inr (.inr (m + 2)) :: r) h Q = (match h.1[m]? with | some (.inr (.inl (0, xs))) => inA j xs.length = true ∧ G sp sc [23] d mL_law n 1177 L (.inl (xs.getD j.toNat 0) :: r) h Q | _ => False)) ∧
  (∀ (n d : Nat) (L : List (Option iV)) (r : List iV) (m : Nat) (z0 : iV) (z1 : iV) (z2 : iV) (h : iH) (Q : Option iV → iH → Prop), G sp sc [23] (d + 1) mL_law (n + 1) 1177 L (z2 :: z1 :: z0 :: .inr (.inr (m + 2)) :: r) h Q = (match h.1[m]? with | some (.inl (ci, _)) => (match lkC 13 130 ci with | some (y1, n1, kd) => (n1 = 3 ∧ (kd = 2 ∨ kd = 3 ∨ kd = 8) ∧ cs r ≤ 8) ∧ Call sp sc d y1 [.inr (.inr (m + 2)), z0, z1, z2] h (fun q h1 => GC sp sc [23] (d + 1) mL_law n 1180 L q r h h1 Q) | none => False) | _ => False)) ∧
  (∀ (n d : Nat) (L : List (Option iV)) (st : List iV) (h : iH) (Q : Option iV → iH → Prop), G sp sc [23] d mL_law (n + 1) 1180 L st h Q = (match ld L 2 with | some (.inr (.inr (r + 1))) => G sp sc [23] d mL_law n 1181 L (.inr (.inr (r + 1)) :: st) h Q | _ => False)) ∧
  (∀ (n d : Nat) (L : List (Option iV)) (st : List iV) (h : iH) (Q : Option iV → iH → Prop), G sp sc [23] d mL_law (n + 1) 1181 L st h Q = (match ld L 0 with | some (.inr (.inr (r + 1))) => G sp sc [23] d mL_law n 1182 L (.inr (.inr (r + 1)) :: st) h Q | _ => False)) ∧
  (∀ (n d : Nat) (L : List (Option iV)) (st : List iV) (h : iH) (Q : Option iV → iH → Prop), G sp sc [23] d mL_law (n + 1) 1182 L st h Q = (match ld L 4 with | some (.inl x) => G sp sc [23] d mL_law n 1184 L (.inl x :: st) h Q | _ => False)) ∧
  (∀ (n d : Nat) (L : List (Option iV)) (st : List iV) (h : iH) (Q : Option iV → iH → Prop), G sp sc [23] d mL_law (n + 1) 1184 L st h Q = G sp sc [23] d mL_law n 1185 L (.inl 1 :: st) h Q) ∧
  (∀ (n d : Nat) (L : List (Option iV)) (a : Int) (b : Int) (r : List iV) (h : iH) (Q : Option iV → iH → Prop), G sp sc [23] d mL_law (n + 1) 1185 L (.inl b :: .inl a :: r) h Q = G sp sc [23] d mL_law n 1186 L (.inl (a + b) :: r) h Q) ∧
  (∀ (n d : Nat) (L : List (Option iV)) (r : List iV) (j : Int) (h : iH) (Q : Option iV → iH → Prop), G sp sc [23] d mL_law (n + 1) 1186 L (.inl j :: .inr (.inr 1) :: r) h Q = (inA j sc.length = true ∧ G sp sc [23] d mL_law n 1187 L (.inl (sc.getD j.toNat 0) :: r) h Q)) ∧
  (∀ (n d : Nat) (L : List (Option iV)) (r : List iV) (j : Int) (m : Nat) (h : iH) (Q : Option iV → iH → Prop), G sp sc [23] d mL_law (n + 1) 1186 L (.inl j :: .inr (.inr (m + 2)) :: r) h Q = (match h.1[m]? with | some (.inr (.inl (0, xs))) => inA j xs.length = true ∧ G sp sc [23] d mL_law n 1187 L (.inl (xs.getD j.toNat 0) :: r) h Q | _ => False)) ∧
  (∀ (n d : Nat) (L : List (Option iV)) (st : List iV) (h : iH) (Q : Option iV → iH → Prop), G sp sc [23] d mL_law (n + 1) 1187 L st h Q = (match ld L 0 with | some (.inr (.inr (r + 1))) => G sp sc [23] d mL_law n 1188 L (.inr (.inr (r + 1)) :: st) h Q | _ => False)) ∧
  (∀ (n d : Nat) (L : List (Option iV)) (st : List iV) (h : iH) (Q : Option iV → iH → Prop), G sp sc [23] d mL_law (n + 1) 1188 L st h Q = (match ld L 4 with | some (.inl x) => G sp sc [23] d mL_law n 1190 L (.inl x :: st) h Q | _ => False)) ∧
  (∀ (n d : Nat) (L : List (Option iV)) (st : List iV) (h : iH) (Q : Option iV → iH → Prop), G sp sc [23] d mL_law (n + 1) 1190 L st h Q = G sp sc [23] d mL_law n 1191 L (.inl 2 :: st) h Q) ∧
  (∀ (n d : Nat) (L : List (Option iV)) (a : Int) (b : Int) (r : List iV) (h : iH) (Q : Option iV → iH → Prop), G sp sc [23] d mL_law (n + 1) 1191 L (.inl b :: .inl a :: r) h Q = G sp sc [23] d mL_law n 1192 L (.inl (a + b) :: r) h Q) ∧
  (∀ (n d : Nat) (L : List (Option iV)) (r : List iV) (j : Int) (h : iH) (Q : Option iV → iH → Prop), G sp sc [23] d mL_law (n + 1) 1192 L (.inl j :: .inr (.inr 1) :: r) h Q = (inA j sc.length = true ∧ G sp sc [23] d mL_law n 1193 L (.inl (sc.getD j.toNat 0) :: r) h Q)) ∧
  (∀ (n d : Nat) (L : List (Option iV)) (r : List iV) (j : Int) (m : Nat) (h : iH) (Q : Option iV → iH → Prop), G sp sc [23] d mL_law (n + 1) 1192 L (.inl j :: .inr (.inr (m + 2)) :: r) h Q = (match h.1[m]? with | some (.inr (.inl (0, xs))) => inA j xs.length = true ∧ G sp sc [23] d mL_law n 1193 L (.inl (xs.getD j.toNat 0) :: r) h Q | _ => False)) ∧
  (∀ (n d : Nat) (L : List (Option iV)) (st : List iV) (h : iH) (Q : Option iV → iH → Prop), G sp sc [23] d mL_law (n + 1) 1193 L st h Q = (match ld L 0 with | some (.inr (.inr (r + 1))) => G sp sc [23] d mL_law n 1194 L (.inr (.inr (r + 1)) :: st) h Q | _ => False)) ∧
  (∀ (n d : Nat) (L : List (Option iV)) (st : List iV) (h : iH) (Q : Option iV → iH → Prop), G sp sc [23] d mL_law (n + 1) 1194 L st h Q = (match ld L 4 with | some (.inl x) => G sp sc [23] d mL_law n 1196 L (.inl x :: st) h Q | _ => False)) ∧
  (∀ (n d : Nat) (L : List (Option iV)) (st : List iV) (h : iH) (Q : Option iV → iH → Prop), G sp sc [23] d mL_law (n + 1) 1196 L st h Q = G sp sc [23] d mL_law n 1197 L (.inl 3 :: st) h Q) ∧
  (∀ (n d : Nat) (L : List (Option iV)) (a : Int) (b : Int) (r : List iV) (h : iH) (Q : Option iV → iH → Prop), G sp sc [23] d mL_law (n + 1) 1197 L (.inl b :: .inl a :: r) h Q = G sp sc [23] d mL_law n 1198 L (.inl (a + b) :: r) h Q) ∧
  (∀ (n d : Nat) (L : List (Option iV)) (r : List iV) (j : Int) (h : iH) (Q : Option iV → iH → Prop), G sp sc [23] d mL_law (n + 1) 1198 L (.inl j :: .inr (.inr 1) :: r) h Q = (inA j sc.length = true ∧ G sp sc [23] d mL_law n 1199 L (.inl (sc.getD j.toNat 0) :: r) h Q)) ∧
  (∀ (n d : Nat) (L : List (Option iV)) (r : List iV) (j : Int) (m : Nat) (h : iH) (Q : Option iV → iH → Prop), G sp sc [23] d mL_law (n + 1) 1198 L (.inl j :: .inr (.inr (m + 2)) :: r) h Q = (match h.1[m]? with | some (.inr (.inl (0, xs))) => inA j xs.length = true ∧ G sp sc [23] d mL_law n 1199 L (.inl (xs.getD j.toNat 0) :: r) h Q | _ => False)) ∧
  (∀ (n d : Nat) (L : List (Option iV)) (r : List iV) (m : Nat) (z0 : iV) (z1 : iV) (z2 : iV) (h : iH) (Q : Option iV → iH → Prop), G sp sc [23] (d + 1) mL_law (n + 1) 1199 L (z2 :: z1 :: z0 :: .inr (.inr (m + 2)) :: r) h Q = (match h.1[m]? with | some (.inl (ci, _)) => (match lkC 13 133 ci with | some (y1, n1, kd) => (n1 = 3 ∧ (kd = 2 ∨ kd = 3 ∨ kd = 8) ∧ cs r ≤ 8) ∧ Call sp sc d y1 [.inr (.inr (m + 2)), z0, z1, z2] h (fun q h1 => GC sp sc [23] (d + 1) mL_law n 1202 L q r h h1 Q) | none => False) | _ => False)) ∧
  (∀ (n d : Nat) (L : List (Option iV)) (a : Int) (b : Int) (r : List iV) (h : iH) (Q : Option iV → iH → Prop), G sp sc [23] d mL_law (n + 1) 1202 L (.inl b :: .inl a :: r) h Q = ((inI a = true ∧ inI b = true) ∧ (a = b → G sp sc [23] d mL_law n 1950 L r h Q) ∧ (¬ (a = b) → G sp sc [23] d mL_law n 1205 L r h Q))) ∧
  (∀ (n d : Nat) (L : List (Option iV)) (st : List iV) (h : iH) (Q : Option iV → iH → Prop), G sp sc [23] d mL_law (n + 1) 1205 L st h Q = G sp sc [23] d mL_law n 1206 L (.inl 0 :: st) h Q) ∧
  (∀ (n d : Nat) (L : List (Option iV)) (a : Int) (h : iH) (Q : Option iV → iH → Prop), G sp sc [23] d mL_law (n + 1) 1206 L [.inl a] h Q = ((a = 0 ∨ a = 1) ∧ Q (some (.inl a)) h)) := ⟨by intros; exact G_at (by decide +kernel : fetch mL_law 1158 = some (.aload_n 1)),
  by intros; exact G_at (by decide +kernel : fetch mL_law 1159 = some (.aload_n 0)),
  by intros; exact G_at (by decide +kernel : fetch mL_law 1160 = some (.iload 4)),
  by intros; exact G_at (by decide +kernel : fetch mL_law 1162 = some (.iconst 1)),
  by intros; exact G_at (by decide +kernel : fetch mL_law 1163 = some (.iadd)),
  by intros; exact G_at (by decide +kernel : fetch mL_law 1164 = some (.iaload)),
  by intros; exact G_at (by decide +kernel : fetch mL_law 1164 = some (.iaload)),
  by intros; exact G_at (by decide +kernel : fetch mL_law 1165 = some (.aload_n 0)),
  by intros; exact G_at (by decide +kernel : fetch mL_law 1166 = some (.iload 4)),
  by intros; exact G_at (by decide +kernel : fetch mL_law 1168 = some (.iconst 2)),
  by intros; exact G_at (by decide +kernel : fetch mL_law 1169 = some (.iadd)),
  by intros; exact G_at (by decide +kernel : fetch mL_law 1170 = some (.iaload)),
  by intros; exact G_at (by decide +kernel : fetch mL_law 1170 = some (.iaload)),
  by intros; exact G_at (by decide +kernel : fetch mL_law 1171 = some (.aload_n 0)),
  by intros; exact G_at (by decide +kernel : fetch mL_law 1172 = some (.iload 4)),
  by intros; exact G_at (by decide +kernel : fetch mL_law 1174 = some (.iconst 3)),
  by intros; exact G_at (by decide +kernel : fetch mL_law 1175 = some (.iadd)),
  by intros; exact G_at (by decide +kernel : fetch mL_law 1176 = some (.iaload)),
  by intros; exact G_at (by decide +kernel : fetch mL_law 1176 = some (.iaload)),
  by intros; exact G_callV (by decide +kernel : fetch mL_law 1177 = some (.invokevirtual 130)) (by decide +kernel) (by decide +kernel) rfl,
  by intros; exact G_at (by decide +kernel : fetch mL_law 1180 = some (.aload_n 2)),
  by intros; exact G_at (by decide +kernel : fetch mL_law 1181 = some (.aload_n 0)),
  by intros; exact G_at (by decide +kernel : fetch mL_law 1182 = some (.iload 4)),
  by intros; exact G_at (by decide +kernel : fetch mL_law 1184 = some (.iconst 1)),
  by intros; exact G_at (by decide +kernel : fetch mL_law 1185 = some (.iadd)),
  by intros; exact G_at (by decide +kernel : fetch mL_law 1186 = some (.iaload)),
  by intros; exact G_at (by decide +kernel : fetch mL_law 1186 = some (.iaload)),
  by intros; exact G_at (by decide +kernel : fetch mL_law 1187 = some (.aload_n 0)),
  by intros; exact G_at (by decide +kernel : fetch mL_law 1188 = some (.iload 4)),
  by intros; exact G_at (by decide +kernel : fetch mL_law 1190 = some (.iconst 2)),
  by intros; exact G_at (by decide +kernel : fetch mL_law 1191 = some (.iadd)),
  by intros; exact G_at (by decide +kernel : fetch mL_law 1192 = some (.iaload)),
  by intros; exact G_at (by decide +kernel : fetch mL_law 1192 = some (.iaload)),
  by intros; exact G_at (by decide +kernel : fetch mL_law 1193 = some (.aload_n 0)),
  by intros; exact G_at (by decide +kernel : fetch mL_law 1194 = some (.iload 4)),
  by intros; exact G_at (by decide +kernel : fetch mL_law 1196 = some (.iconst 3)),
  by intros; exact G_at (by decide +kernel : fetch mL_law 1197 = some (.iadd)),
  by intros; exact G_at (by decide +kernel : fetch mL_law 1198 = some (.iaload)),
  by intros; exact G_at (by decide +kernel : fetch mL_law 1198 = some (.iaload)),
  by intros; exact G_callV (by decide +kernel : fetch mL_law 1199 = some (.invokevirtual 133)) (by decide +kernel) (by decide +kernel) rfl,
  by intros; exact G_at (by decide +kernel : fetch mL_law 1202 = some (.if_icmp .eq 748)),
  by intros; exact G_at (by decide +kernel : fetch mL_law 1205 = some (.iconst 0)),
  by intros; exact G_retz (by decide +kernel : fetch mL_law 1206 = some (.ireturn)) (by decide +kernel)⟩
theorem gL_c27 : (∀ (n d : Nat) (L : List (Option iV)) (st : List iV) (h : iH) (Q : Option iV → iH → Prop), G sp sc [23] d mL_law (n + 1) 1207 L st h Q = (match ld L 1 with | some (.inr (.inr (r + 1))) => G sp sc [23] d mL_law n 1208 L (.inr (.inr (r + 1)) :: st) h Q | _ => False)) ∧
  (∀ (n d : Nat) (L : List (Option iV)) (st : List iV) (h : iH) (Q : Option iV → iH → Prop), G sp sc [23] d mL_law (n + 1) 1208 L st h Q = (match ld L 0 with | some (.inr (.inr (r + 1))) => G sp sc [23] d mL_law n 1209 L (.inr (.inr (r + 1)) :: st) h Q | _ => False)) ∧
  (∀ (n d : Nat) (L : List (Option iV)) (st : List iV) (h : iH) (Q : Option iV → iH → Prop), G sp sc [23] d mL_law (n + 1) 1209 L st h Q = (match ld L 4 with | some (.inl x) => G sp sc [23] d mL_law n 1211 L (.inl x :: st) h Q | _ => False)) ∧
  (∀ (n d : Nat) (L : List (Option iV)) (st : List iV) (h : iH) (Q : Option iV → iH → Prop), G sp sc [23] d mL_law (n + 1) 1211 L st h Q = G sp sc [23] d mL_law n 1212 L (.inl 1 :: st) h Q) ∧
  (∀ (n d : Nat) (L : List (Option iV)) (a : Int) (b : Int) (r : List iV) (h : iH) (Q : Option iV → iH → Prop), G sp sc [23] d mL_law (n + 1) 1212 L (.inl b :: .inl a :: r) h Q = G sp sc [23] d mL_law n 1213 L (.inl (a + b) :: r) h Q) ∧
  (∀ (n d : Nat) (L : List (Option iV)) (r : List iV) (j : Int) (h : iH) (Q : Option iV → iH → Prop), G sp sc [23] d mL_law (n + 1) 1213 L (.inl j :: .inr (.inr 1) :: r) h Q = (inA j sc.length = true ∧ G sp sc [23] d mL_law n 1214 L (.inl (sc.getD j.toNat 0) :: r) h Q)) ∧
  (∀ (n d : Nat) (L : List (Option iV)) (r : List iV) (j : Int) (m : Nat) (h : iH) (Q : Option iV → iH → Prop), G sp sc [23] d mL_law (n + 1) 1213 L (.inl j :: .inr (.inr (m + 2)) :: r) h Q = (match h.1[m]? with | some (.inr (.inl (0, xs))) => inA j xs.length = true ∧ G sp sc [23] d mL_law n 1214 L (.inl (xs.getD j.toNat 0) :: r) h Q | _ => False)) ∧
  (∀ (n d : Nat) (L : List (Option iV)) (st : List iV) (h : iH) (Q : Option iV → iH → Prop), G sp sc [23] d mL_law (n + 1) 1214 L st h Q = (match ld L 0 with | some (.inr (.inr (r + 1))) => G sp sc [23] d mL_law n 1215 L (.inr (.inr (r + 1)) :: st) h Q | _ => False)) ∧
  (∀ (n d : Nat) (L : List (Option iV)) (st : List iV) (h : iH) (Q : Option iV → iH → Prop), G sp sc [23] d mL_law (n + 1) 1215 L st h Q = (match ld L 4 with | some (.inl x) => G sp sc [23] d mL_law n 1217 L (.inl x :: st) h Q | _ => False)) ∧
  (∀ (n d : Nat) (L : List (Option iV)) (st : List iV) (h : iH) (Q : Option iV → iH → Prop), G sp sc [23] d mL_law (n + 1) 1217 L st h Q = G sp sc [23] d mL_law n 1218 L (.inl 2 :: st) h Q) ∧
  (∀ (n d : Nat) (L : List (Option iV)) (a : Int) (b : Int) (r : List iV) (h : iH) (Q : Option iV → iH → Prop), G sp sc [23] d mL_law (n + 1) 1218 L (.inl b :: .inl a :: r) h Q = G sp sc [23] d mL_law n 1219 L (.inl (a + b) :: r) h Q) ∧
  (∀ (n d : Nat) (L : List (Option iV)) (r : List iV) (j : Int) (h : iH) (Q : Option iV → iH → Prop), G sp sc [23] d mL_law (n + 1) 1219 L (.inl j :: .inr (.inr 1) :: r) h Q = (inA j sc.length = true ∧ G sp sc [23] d mL_law n 1220 L (.inl (sc.getD j.toNat 0) :: r) h Q)) ∧
  (∀ (n d : Nat) (L : List (Option iV)) (r : List iV) (j : Int) (m : Nat) (h : iH) (Q : Option iV → iH → Prop), G sp sc [23] d mL_law (n + 1) 1219 L (.inl j :: .inr (.inr (m + 2)) :: r) h Q = (match h.1[m]? with | some (.inr (.inl (0, xs))) => inA j xs.length = true ∧ G sp sc [23] d mL_law n 1220 L (.inl (xs.getD j.toNat 0) :: r) h Q | _ => False)) ∧
  (∀ (n d : Nat) (L : List (Option iV)) (st : List iV) (h : iH) (Q : Option iV → iH → Prop), G sp sc [23] d mL_law (n + 1) 1220 L st h Q = (match ld L 0 with | some (.inr (.inr (r + 1))) => G sp sc [23] d mL_law n 1221 L (.inr (.inr (r + 1)) :: st) h Q | _ => False)) ∧
  (∀ (n d : Nat) (L : List (Option iV)) (st : List iV) (h : iH) (Q : Option iV → iH → Prop), G sp sc [23] d mL_law (n + 1) 1221 L st h Q = (match ld L 4 with | some (.inl x) => G sp sc [23] d mL_law n 1223 L (.inl x :: st) h Q | _ => False)) ∧
  (∀ (n d : Nat) (L : List (Option iV)) (st : List iV) (h : iH) (Q : Option iV → iH → Prop), G sp sc [23] d mL_law (n + 1) 1223 L st h Q = G sp sc [23] d mL_law n 1224 L (.inl 3 :: st) h Q) ∧
  (∀ (n d : Nat) (L : List (Option iV)) (a : Int) (b : Int) (r : List iV) (h : iH) (Q : Option iV → iH → Prop), G sp sc [23] d mL_law (n + 1) 1224 L (.inl b :: .inl a :: r) h Q = G sp sc [23] d mL_law n 1225 L (.inl (a + b) :: r) h Q) ∧
  (∀ (n d : Nat) (L : List (Option iV)) (r : List iV) (j : Int) (h : iH) (Q : Option iV → iH → Prop), G sp sc [23] d mL_law (n + 1) 1225 L (.inl j :: .inr (.inr 1) :: r) h Q = (inA j sc.length = true ∧ G sp sc [23] d mL_law n 1226 L (.inl (sc.getD j.toNat 0) :: r) h Q)) ∧
  (∀ (n d : Nat) (L : List (Option iV)) (r : List iV) (j : Int) (m : Nat) (h : iH) (Q : Option iV → iH → Prop), G sp sc [23] d mL_law (n + 1) 1225 L (.inl j :: .inr (.inr (m + 2)) :: r) h Q = (match h.1[m]? with | some (.inr (.inl (0, xs))) => inA j xs.length = true ∧ G sp sc [23] d mL_law n 1226 L (.inl (xs.getD j.toNat 0) :: r) h Q | _ => False)) ∧
  (∀ (n d : Nat) (L : List (Option iV)) (st : List iV) (h : iH) (Q : Option iV → iH → Prop), G sp sc [23] d mL_law (n + 1) 1226 L st h Q = (match ld L 0 with | some (.inr (.inr (r + 1))) => G sp sc [23] d mL_law n 1227 L (.inr (.inr (r + 1)) :: st) h Q | _ => False)) ∧
  (∀ (n d : Nat) (L : List (Option iV)) (st : List iV) (h : iH) (Q : Option iV → iH → Prop), G sp sc [23] d mL_law (n + 1) 1227 L st h Q = (match ld L 4 with | some (.inl x) => G sp sc [23] d mL_law n 1229 L (.inl x :: st) h Q | _ => False)) ∧
  (∀ (n d : Nat) (L : List (Option iV)) (st : List iV) (h : iH) (Q : Option iV → iH → Prop), G sp sc [23] d mL_law (n + 1) 1229 L st h Q = G sp sc [23] d mL_law n 1230 L (.inl 4 :: st) h Q) ∧
  (∀ (n d : Nat) (L : List (Option iV)) (a : Int) (b : Int) (r : List iV) (h : iH) (Q : Option iV → iH → Prop), G sp sc [23] d mL_law (n + 1) 1230 L (.inl b :: .inl a :: r) h Q = G sp sc [23] d mL_law n 1231 L (.inl (a + b) :: r) h Q) ∧
  (∀ (n d : Nat) (L : List (Option iV)) (r : List iV) (j : Int) (h : iH) (Q : Option iV → iH → Prop), G sp sc [23] d mL_law (n + 1) 1231 L (.inl j :: .inr (.inr 1) :: r) h Q = (inA j sc.length = true ∧ G sp sc [23] d mL_law n 1232 L (.inl (sc.getD j.toNat 0) :: r) h Q)) ∧
  (∀ (n d : Nat) (L : List (Option iV)) (r : List iV) (j : Int) (m : Nat) (h : iH) (Q : Option iV → iH → Prop), G sp sc [23] d mL_law (n + 1) 1231 L (.inl j :: .inr (.inr (m + 2)) :: r) h Q = (match h.1[m]? with | some (.inr (.inl (0, xs))) => inA j xs.length = true ∧ G sp sc [23] d mL_law n 1232 L (.inl (xs.getD j.toNat 0) :: r) h Q | _ => False)) ∧
  (∀ (n d : Nat) (L : List (Option iV)) (r : List iV) (m : Nat) (z0 : iV) (z1 : iV) (z2 : iV) (z3 : iV) (h : iH) (Q : Option iV → iH → Prop), G sp sc [23] (d + 1) mL_law (n + 1) 1232 L (z3 :: z2 :: z1 :: z0 :: .inr (.inr (m + 2)) :: r) h Q = (match h.1[m]? with | some (.inl (ci, _)) => (match lkC 13 134 ci with | some (y1, n1, kd) => (n1 = 4 ∧ (kd = 2 ∨ kd = 3 ∨ kd = 8) ∧ cs r ≤ 8) ∧ Call sp sc d y1 [.inr (.inr (m + 2)), z0, z1, z2, z3] h (fun q h1 => GC sp sc [23] (d + 1) mL_law n 1235 L q r h h1 Q) | none => False) | _ => False)) ∧
  (∀ (n d : Nat) (L : List (Option iV)) (st : List iV) (h : iH) (Q : Option iV → iH → Prop), G sp sc [23] d mL_law (n + 1) 1235 L st h Q = (match ld L 2 with | some (.inr (.inr (r + 1))) => G sp sc [23] d mL_law n 1236 L (.inr (.inr (r + 1)) :: st) h Q | _ => False)) ∧
  (∀ (n d : Nat) (L : List (Option iV)) (st : List iV) (h : iH) (Q : Option iV → iH → Prop), G sp sc [23] d mL_law (n + 1) 1236 L st h Q = (match ld L 0 with | some (.inr (.inr (r + 1))) => G sp sc [23] d mL_law n 1237 L (.inr (.inr (r + 1)) :: st) h Q | _ => False)) ∧
  (∀ (n d : Nat) (L : List (Option iV)) (st : List iV) (h : iH) (Q : Option iV → iH → Prop), G sp sc [23] d mL_law (n + 1) 1237 L st h Q = (match ld L 4 with | some (.inl x) => G sp sc [23] d mL_law n 1239 L (.inl x :: st) h Q | _ => False)) ∧
  (∀ (n d : Nat) (L : List (Option iV)) (st : List iV) (h : iH) (Q : Option iV → iH → Prop), G sp sc [23] d mL_law (n + 1) 1239 L st h Q = G sp sc [23] d mL_law n 1240 L (.inl 1 :: st) h Q) ∧
  (∀ (n d : Nat) (L : List (Option iV)) (a : Int) (b : Int) (r : List iV) (h : iH) (Q : Option iV → iH → Prop), G sp sc [23] d mL_law (n + 1) 1240 L (.inl b :: .inl a :: r) h Q = G sp sc [23] d mL_law n 1241 L (.inl (a + b) :: r) h Q) ∧
  (∀ (n d : Nat) (L : List (Option iV)) (r : List iV) (j : Int) (h : iH) (Q : Option iV → iH → Prop), G sp sc [23] d mL_law (n + 1) 1241 L (.inl j :: .inr (.inr 1) :: r) h Q = (inA j sc.length = true ∧ G sp sc [23] d mL_law n 1242 L (.inl (sc.getD j.toNat 0) :: r) h Q)) ∧
  (∀ (n d : Nat) (L : List (Option iV)) (r : List iV) (j : Int) (m : Nat) (h : iH) (Q : Option iV → iH → Prop), G sp sc [23] d mL_law (n + 1) 1241 L (.inl j :: .inr (.inr (m + 2)) :: r) h Q = (match h.1[m]? with | some (.inr (.inl (0, xs))) => inA j xs.length = true ∧ G sp sc [23] d mL_law n 1242 L (.inl (xs.getD j.toNat 0) :: r) h Q | _ => False)) ∧
  (∀ (n d : Nat) (L : List (Option iV)) (st : List iV) (h : iH) (Q : Option iV → iH → Prop), G sp sc [23] d mL_law (n + 1) 1242 L st h Q = (match ld L 0 with | some (.inr (.inr (r + 1))) => G sp sc [23] d mL_law n 1243 L (.inr (.inr (r + 1)) :: st) h Q | _ => False)) ∧
  (∀ (n d : Nat) (L : List (Option iV)) (st : List iV) (h : iH) (Q : Option iV → iH → Prop), G sp sc [23] d mL_law (n + 1) 1243 L st h Q = (match ld L 4 with | some (.inl x) => G sp sc [23] d mL_law n 1245 L (.inl x :: st) h Q | _ => False)) ∧
  (∀ (n d : Nat) (L : List (Option iV)) (st : List iV) (h : iH) (Q : Option iV → iH → Prop), G sp sc [23] d mL_law (n + 1) 1245 L st h Q = G sp sc [23] d mL_law n 1246 L (.inl 2 :: st) h Q) ∧
  (∀ (n d : Nat) (L : List (Option iV)) (a : Int) (b : Int) (r : List iV) (h : iH) (Q : Option iV → iH → Prop), G sp sc [23] d mL_law (n + 1) 1246 L (.inl b :: .inl a :: r) h Q = G sp sc [23] d mL_law n 1247 L (.inl (a + b) :: r) h Q) ∧
  (∀ (n d : Nat) (L : List (Option iV)) (r : List iV) (j : Int) (h : iH) (Q : Option iV → iH → Prop), G sp sc [23] d mL_law (n + 1) 1247 L (.inl j :: .inr (.inr 1) :: r) h Q = (inA j sc.length = true ∧ G sp sc [23] d mL_law n 1248 L (.inl (sc.getD j.toNat 0) :: r) h Q)) ∧
  (∀ (n d : Nat) (L : List (Option iV)) (r : List iV) (j : Int) (m : Nat) (h : iH) (Q : Option iV → iH → Prop), G sp sc [23] d mL_law (n + 1) 1247 L (.inl j :: .inr (.inr (m + 2)) :: r) h Q = (match h.1[m]? with | some (.inr (.inl (0, xs))) => inA j xs.length = true ∧ G sp sc [23] d mL_law n 1248 L (.inl (xs.getD j.toNat 0) :: r) h Q | _ => False)) ∧
  (∀ (n d : Nat) (L : List (Option iV)) (st : List iV) (h : iH) (Q : Option iV → iH → Prop), G sp sc [23] d mL_law (n + 1) 1248 L st h Q = (match ld L 0 with | some (.inr (.inr (r + 1))) => G sp sc [23] d mL_law n 1249 L (.inr (.inr (r + 1)) :: st) h Q | _ => False)) ∧
  (∀ (n d : Nat) (L : List (Option iV)) (st : List iV) (h : iH) (Q : Option iV → iH → Prop), G sp sc [23] d mL_law (n + 1) 1249 L st h Q = (match ld L 4 with | some (.inl x) => G sp sc [23] d mL_law n 1251 L (.inl x :: st) h Q | _ => False)) ∧
  (∀ (n d : Nat) (L : List (Option iV)) (st : List iV) (h : iH) (Q : Option iV → iH → Prop), G sp sc [23] d mL_law (n + 1) 1251 L st h Q = G sp sc [23] d mL_law n 1252 L (.inl 3 :: st) h Q) ∧
  (∀ (n d : Nat) (L : List (Option iV)) (a : Int) (b : Int) (r : List iV) (h : iH) (Q : Option iV → iH → Prop), G sp sc [23] d mL_law (n + 1) 1252 L (.inl b :: .inl a :: r) h Q = G sp sc [23] d mL_law n 1253 L (.inl (a + b) :: r) h Q) ∧
  (∀ (n d : Nat) (L : List (Option iV)) (r : List iV) (j : Int) (h : iH) (Q : Option iV → iH → Prop), G sp sc [23] d mL_law (n + 1) 1253 L (.inl j :: .inr (.inr 1) :: r) h Q = (inA j sc.length = true ∧ G sp sc [23] d mL_law n 1254 L (.inl (sc.getD j.toNat 0) :: r) h Q)) ∧
  (∀ (n d : Nat) (L : List (Option iV)) (r : List iV) (j : Int) (m : Nat) (h : iH) (Q : Option iV → iH → Prop), G sp sc [23] d mL_law (n + 1) 1253 L (.inl j :: .inr (.inr (m + 2)) :: r) h Q = (match h.1[m]? with | some (.inr (.inl (0, xs))) => inA j xs.length = true ∧ G sp sc [23] d mL_law n 1254 L (.inl (xs.getD j.toNat 0) :: r) h Q | _ => False)) ∧
  (∀ (n d : Nat) (L : List (Option iV)) (st : List iV) (h : iH) (Q : Option iV → iH → Prop), G sp sc [23] d mL_law (n + 1) 1254 L st h Q = (match ld L 0 with | some (.inr (.inr (r + 1))) => G sp sc [23] d mL_law n 1255 L (.inr (.inr (r + 1)) :: st) h Q | _ => False)) ∧
  (∀ (n d : Nat) (L : List (Option iV)) (st : List iV) (h : iH) (Q : Option iV → iH → Prop), G sp sc [23] d mL_law (n + 1) 1255 L st h Q = (match ld L 4 with | some (.inl x) => G sp sc [23] d mL_law n 1257 L (.inl x :: st) h Q | _ => False)) ∧
  (∀ (n d : Nat) (L : List (Option iV)) (st : List iV) (h : iH) (Q : Option iV → iH → Prop), G sp sc [23] d mL_law (n + 1) 1257 L st h Q = G sp sc [23] d mL_law n 1258 L (.inl 4 :: st) h Q) ∧
  (∀ (n d : Nat) (L : List (Option iV)) (a : Int) (b : Int) (r : List iV) (h : iH) (Q : Option iV → iH → Prop), G sp sc [23] d mL_law (n + 1) 1258 L (.inl b :: .inl a :: r) h Q = G sp sc [23] d mL_law n 1259 L (.inl (a + b) :: r) h Q) ∧
  (∀ (n d : Nat) (L : List (Option iV)) (r : List iV) (j : Int) (h : iH) (Q : Option iV → iH → Prop), G sp sc [23] d mL_law (n + 1) 1259 L (.inl j :: .inr (.inr 1) :: r) h Q = (inA j sc.length = true ∧ G sp sc [23] d mL_law n 1260 L (.inl (sc.getD j.toNat 0) :: r) h Q)) ∧
  (∀ (n d : Nat) (L : List (Option iV)) (r : List iV) (j : Int) (m : Nat) (h : iH) (Q : Option iV → iH → Prop), G sp sc [23] d mL_law (n + 1) 1259 L (.inl j :: .inr (.inr (m + 2)) :: r) h Q = (match h.1[m]? with | some (.inr (.inl (0, xs))) => inA j xs.length = true ∧ G sp sc [23] d mL_law n 1260 L (.inl (xs.getD j.toNat 0) :: r) h Q | _ => False)) ∧
  (∀ (n d : Nat) (L : List (Option iV)) (r : List iV) (m : Nat) (z0 : iV) (z1 : iV) (z2 : iV) (z3 : iV) (h : iH) (Q : Option iV → iH → Prop), G sp sc [23] (d + 1) mL_law (n + 1) 1260 L (z3 :: z2 :: z1 :: z0 :: .inr (.inr (m + 2)) :: r) h Q = (match h.1[m]? with | some (.inl (ci, _)) => (match lkC 13 137 ci with | some (y1, n1, kd) => (n1 = 4 ∧ (kd = 2 ∨ kd = 3 ∨ kd = 8) ∧ cs r ≤ 8) ∧ Call sp sc d y1 [.inr (.inr (m + 2)), z0, z1, z2, z3] h (fun q h1 => GC sp sc [23] (d + 1) mL_law n 1263 L q r h h1 Q) | none => False) | _ => False)) ∧
  (∀ (n d : Nat) (L : List (Option iV)) (a : Int) (b : Int) (r : List iV) (h : iH) (Q : Option iV → iH → Prop), G sp sc [23] d mL_law (n + 1) 1263 L (.inl b :: .inl a :: r) h Q = ((inI a = true ∧ inI b = true) ∧ (a = b → G sp sc [23] d mL_law n 1950 L r h Q) ∧ (¬ (a = b) → G sp sc [23] d mL_law n 1266 L r h Q))) ∧
  (∀ (n d : Nat) (L : List (Option iV)) (st : List iV) (h : iH) (Q : Option iV → iH → Prop), G sp sc [23] d mL_law (n + 1) 1266 L st h Q = G sp sc [23] d mL_law n 1267 L (.inl 0 :: st) h Q) ∧
  (∀ (n d : Nat) (L : List (Option iV)) (a : Int) (h : iH) (Q : Option iV → iH → Prop), G sp sc [23] d mL_law (n + 1) 1267 L [.inl a] h Q = ((a = 0 ∨ a = 1) ∧ Q (some (.inl a)) h)) := ⟨by intros; exact G_at (by decide +kernel : fetch mL_law 1207 = some (.aload_n 1)),
  by intros; exact G_at (by decide +kernel : fetch mL_law 1208 = some (.aload_n 0)),
  by intros; exact G_at (by decide +kernel : fetch mL_law 1209 = some (.iload 4)),
  by intros; exact G_at (by decide +kernel : fetch mL_law 1211 = some (.iconst 1)),
  by intros; exact G_at (by decide +kernel : fetch mL_law 1212 = some (.iadd)),
  by intros; exact G_at (by decide +kernel : fetch mL_law 1213 = some (.iaload)),
  by intros; exact G_at (by decide +kernel : fetch mL_law 1213 = some (.iaload)),
  by intros; exact G_at (by decide +kernel : fetch mL_law 1214 = some (.aload_n 0)),
  by intros; exact G_at (by decide +kernel : fetch mL_law 1215 = some (.iload 4)),
  by intros; exact G_at (by decide +kernel : fetch mL_law 1217 = some (.iconst 2)),
  by intros; exact G_at (by decide +kernel : fetch mL_law 1218 = some (.iadd)),
  by intros; exact G_at (by decide +kernel : fetch mL_law 1219 = some (.iaload)),
  by intros; exact G_at (by decide +kernel : fetch mL_law 1219 = some (.iaload)),
  by intros; exact G_at (by decide +kernel : fetch mL_law 1220 = some (.aload_n 0)),
  by intros; exact G_at (by decide +kernel : fetch mL_law 1221 = some (.iload 4)),
  by intros; exact G_at (by decide +kernel : fetch mL_law 1223 = some (.iconst 3)),
  by intros; exact G_at (by decide +kernel : fetch mL_law 1224 = some (.iadd)),
  by intros; exact G_at (by decide +kernel : fetch mL_law 1225 = some (.iaload)),
  by intros; exact G_at (by decide +kernel : fetch mL_law 1225 = some (.iaload)),
  by intros; exact G_at (by decide +kernel : fetch mL_law 1226 = some (.aload_n 0)),
  by intros; exact G_at (by decide +kernel : fetch mL_law 1227 = some (.iload 4)),
  by intros; exact G_at (by decide +kernel : fetch mL_law 1229 = some (.iconst 4)),
  by intros; exact G_at (by decide +kernel : fetch mL_law 1230 = some (.iadd)),
  by intros; exact G_at (by decide +kernel : fetch mL_law 1231 = some (.iaload)),
  by intros; exact G_at (by decide +kernel : fetch mL_law 1231 = some (.iaload)),
  by intros; exact G_callV (by decide +kernel : fetch mL_law 1232 = some (.invokevirtual 134)) (by decide +kernel) (by decide +kernel) rfl,
  by intros; exact G_at (by decide +kernel : fetch mL_law 1235 = some (.aload_n 2)),
  by intros; exact G_at (by decide +kernel : fetch mL_law 1236 = some (.aload_n 0)),
  by intros; exact G_at (by decide +kernel : fetch mL_law 1237 = some (.iload 4)),
  by intros; exact G_at (by decide +kernel : fetch mL_law 1239 = some (.iconst 1)),
  by intros; exact G_at (by decide +kernel : fetch mL_law 1240 = some (.iadd)),
  by intros; exact G_at (by decide +kernel : fetch mL_law 1241 = some (.iaload)),
  by intros; exact G_at (by decide +kernel : fetch mL_law 1241 = some (.iaload)),
  by intros; exact G_at (by decide +kernel : fetch mL_law 1242 = some (.aload_n 0)),
  by intros; exact G_at (by decide +kernel : fetch mL_law 1243 = some (.iload 4)),
  by intros; exact G_at (by decide +kernel : fetch mL_law 1245 = some (.iconst 2)),
  by intros; exact G_at (by decide +kernel : fetch mL_law 1246 = some (.iadd)),
  by intros; exact G_at (by decide +kernel : fetch mL_law 1247 = some (.iaload)),
  by intros; exact G_at (by decide +kernel : fetch mL_law 1247 = some (.iaload)),
  by intros; exact G_at (by decide +kernel : fetch mL_law 1248 = some (.aload_n 0)),
  by intros; exact G_at (by decide +kernel : fetch mL_law 1249 = some (.iload 4)),
  by intros; exact G_at (by decide +kernel : fetch mL_law 1251 = some (.iconst 3)),
  by intros; exact G_at (by decide +kernel : fetch mL_law 1252 = some (.iadd)),
  by intros; exact G_at (by decide +kernel : fetch mL_law 1253 = some (.iaload)),
  by intros; exact G_at (by decide +kernel : fetch mL_law 1253 = some (.iaload)),
  by intros; exact G_at (by decide +kernel : fetch mL_law 1254 = some (.aload_n 0)),
  by intros; exact G_at (by decide +kernel : fetch mL_law 1255 = some (.iload 4)),
  by intros; exact G_at (by decide +kernel : fetch mL_law 1257 = some (.iconst 4)),
  by intros; exact G_at (by decide +kernel : fetch mL_law 1258 = some (.iadd)),
  by intros; exact G_at (by decide +kernel : fetch mL_law 1259 = some (.iaload)),
  by intros; exact G_at (by decide +kernel : fetch mL_law 1259 = some (.iaload)),
  by intros; exact G_callV (by decide +kernel : fetch mL_law 1260 = some (.invokevirtual 137)) (by decide +kernel) (by decide +kernel) rfl,
  by intros; exact G_at (by decide +kernel : fetch mL_law 1263 = some (.if_icmp .eq 687)),
  by intros; exact G_at (by decide +kernel : fetch mL_law 1266 = some (.iconst 0)),
  by intros; exact G_retz (by decide +kernel : fetch mL_law 1267 = some (.ireturn)) (by decide +kernel)⟩
theorem gL_c28 : (∀ (n d : Nat) (L : List (Option iV)) (st : List iV) (h : iH) (Q : Option iV → iH → Prop), G sp sc [23] d mL_law (n + 1) 1268 L st h Q = (match ld L 1 with | some (.inr (.inr (r + 1))) => G sp sc [23] d mL_law n 1269 L (.inr (.inr (r + 1)) :: st) h Q | _ => False)) ∧
  (∀ (n d : Nat) (L : List (Option iV)) (st : List iV) (h : iH) (Q : Option iV → iH → Prop), G sp sc [23] d mL_law (n + 1) 1269 L st h Q = (match ld L 0 with | some (.inr (.inr (r + 1))) => G sp sc [23] d mL_law n 1270 L (.inr (.inr (r + 1)) :: st) h Q | _ => False)) ∧
  (∀ (n d : Nat) (L : List (Option iV)) (st : List iV) (h : iH) (Q : Option iV → iH → Prop), G sp sc [23] d mL_law (n + 1) 1270 L st h Q = (match ld L 4 with | some (.inl x) => G sp sc [23] d mL_law n 1272 L (.inl x :: st) h Q | _ => False)) ∧
  (∀ (n d : Nat) (L : List (Option iV)) (st : List iV) (h : iH) (Q : Option iV → iH → Prop), G sp sc [23] d mL_law (n + 1) 1272 L st h Q = G sp sc [23] d mL_law n 1273 L (.inl 1 :: st) h Q) ∧
  (∀ (n d : Nat) (L : List (Option iV)) (a : Int) (b : Int) (r : List iV) (h : iH) (Q : Option iV → iH → Prop), G sp sc [23] d mL_law (n + 1) 1273 L (.inl b :: .inl a :: r) h Q = G sp sc [23] d mL_law n 1274 L (.inl (a + b) :: r) h Q) ∧
  (∀ (n d : Nat) (L : List (Option iV)) (r : List iV) (j : Int) (h : iH) (Q : Option iV → iH → Prop), G sp sc [23] d mL_law (n + 1) 1274 L (.inl j :: .inr (.inr 1) :: r) h Q = (inA j sc.length = true ∧ G sp sc [23] d mL_law n 1275 L (.inl (sc.getD j.toNat 0) :: r) h Q)) ∧
  (∀ (n d : Nat) (L : List (Option iV)) (r : List iV) (j : Int) (m : Nat) (h : iH) (Q : Option iV → iH → Prop), G sp sc [23] d mL_law (n + 1) 1274 L (.inl j :: .inr (.inr (m + 2)) :: r) h Q = (match h.1[m]? with | some (.inr (.inl (0, xs))) => inA j xs.length = true ∧ G sp sc [23] d mL_law n 1275 L (.inl (xs.getD j.toNat 0) :: r) h Q | _ => False)) ∧
  (∀ (n d : Nat) (L : List (Option iV)) (st : List iV) (h : iH) (Q : Option iV → iH → Prop), G sp sc [23] d mL_law (n + 1) 1275 L st h Q = (match ld L 0 with | some (.inr (.inr (r + 1))) => G sp sc [23] d mL_law n 1276 L (.inr (.inr (r + 1)) :: st) h Q | _ => False)) ∧
  (∀ (n d : Nat) (L : List (Option iV)) (st : List iV) (h : iH) (Q : Option iV → iH → Prop), G sp sc [23] d mL_law (n + 1) 1276 L st h Q = (match ld L 4 with | some (.inl x) => G sp sc [23] d mL_law n 1278 L (.inl x :: st) h Q | _ => False)) ∧
  (∀ (n d : Nat) (L : List (Option iV)) (st : List iV) (h : iH) (Q : Option iV → iH → Prop), G sp sc [23] d mL_law (n + 1) 1278 L st h Q = G sp sc [23] d mL_law n 1279 L (.inl 2 :: st) h Q) ∧
  (∀ (n d : Nat) (L : List (Option iV)) (a : Int) (b : Int) (r : List iV) (h : iH) (Q : Option iV → iH → Prop), G sp sc [23] d mL_law (n + 1) 1279 L (.inl b :: .inl a :: r) h Q = G sp sc [23] d mL_law n 1280 L (.inl (a + b) :: r) h Q) ∧
  (∀ (n d : Nat) (L : List (Option iV)) (r : List iV) (j : Int) (h : iH) (Q : Option iV → iH → Prop), G sp sc [23] d mL_law (n + 1) 1280 L (.inl j :: .inr (.inr 1) :: r) h Q = (inA j sc.length = true ∧ G sp sc [23] d mL_law n 1281 L (.inl (sc.getD j.toNat 0) :: r) h Q)) ∧
  (∀ (n d : Nat) (L : List (Option iV)) (r : List iV) (j : Int) (m : Nat) (h : iH) (Q : Option iV → iH → Prop), G sp sc [23] d mL_law (n + 1) 1280 L (.inl j :: .inr (.inr (m + 2)) :: r) h Q = (match h.1[m]? with | some (.inr (.inl (0, xs))) => inA j xs.length = true ∧ G sp sc [23] d mL_law n 1281 L (.inl (xs.getD j.toNat 0) :: r) h Q | _ => False)) ∧
  (∀ (n d : Nat) (L : List (Option iV)) (r : List iV) (m : Nat) (z0 : iV) (z1 : iV) (h : iH) (Q : Option iV → iH → Prop), G sp sc [23] (d + 1) mL_law (n + 1) 1281 L (z1 :: z0 :: .inr (.inr (m + 2)) :: r) h Q = (match h.1[m]? with | some (.inl (ci, _)) => (match lkC 13 138 ci with | some (y1, n1, kd) => (n1 = 2 ∧ (kd = 2 ∨ kd = 3 ∨ kd = 8) ∧ cs r ≤ 8) ∧ Call sp sc d y1 [.inr (.inr (m + 2)), z0, z1] h (fun q h1 => GC sp sc [23] (d + 1) mL_law n 1284 L q r h h1 Q) | none => False) | _ => False)) ∧
  (∀ (n d : Nat) (L : List (Option iV)) (st : List iV) (h : iH) (Q : Option iV → iH → Prop), G sp sc [23] d mL_law (n + 1) 1284 L st h Q = (match ld L 2 with | some (.inr (.inr (r + 1))) => G sp sc [23] d mL_law n 1285 L (.inr (.inr (r + 1)) :: st) h Q | _ => False)) ∧
  (∀ (n d : Nat) (L : List (Option iV)) (st : List iV) (h : iH) (Q : Option iV → iH → Prop), G sp sc [23] d mL_law (n + 1) 1285 L st h Q = (match ld L 0 with | some (.inr (.inr (r + 1))) => G sp sc [23] d mL_law n 1286 L (.inr (.inr (r + 1)) :: st) h Q | _ => False)) ∧
  (∀ (n d : Nat) (L : List (Option iV)) (st : List iV) (h : iH) (Q : Option iV → iH → Prop), G sp sc [23] d mL_law (n + 1) 1286 L st h Q = (match ld L 4 with | some (.inl x) => G sp sc [23] d mL_law n 1288 L (.inl x :: st) h Q | _ => False)) ∧
  (∀ (n d : Nat) (L : List (Option iV)) (st : List iV) (h : iH) (Q : Option iV → iH → Prop), G sp sc [23] d mL_law (n + 1) 1288 L st h Q = G sp sc [23] d mL_law n 1289 L (.inl 1 :: st) h Q) ∧
  (∀ (n d : Nat) (L : List (Option iV)) (a : Int) (b : Int) (r : List iV) (h : iH) (Q : Option iV → iH → Prop), G sp sc [23] d mL_law (n + 1) 1289 L (.inl b :: .inl a :: r) h Q = G sp sc [23] d mL_law n 1290 L (.inl (a + b) :: r) h Q) ∧
  (∀ (n d : Nat) (L : List (Option iV)) (r : List iV) (j : Int) (h : iH) (Q : Option iV → iH → Prop), G sp sc [23] d mL_law (n + 1) 1290 L (.inl j :: .inr (.inr 1) :: r) h Q = (inA j sc.length = true ∧ G sp sc [23] d mL_law n 1291 L (.inl (sc.getD j.toNat 0) :: r) h Q)) ∧
  (∀ (n d : Nat) (L : List (Option iV)) (r : List iV) (j : Int) (m : Nat) (h : iH) (Q : Option iV → iH → Prop), G sp sc [23] d mL_law (n + 1) 1290 L (.inl j :: .inr (.inr (m + 2)) :: r) h Q = (match h.1[m]? with | some (.inr (.inl (0, xs))) => inA j xs.length = true ∧ G sp sc [23] d mL_law n 1291 L (.inl (xs.getD j.toNat 0) :: r) h Q | _ => False)) ∧
  (∀ (n d : Nat) (L : List (Option iV)) (st : List iV) (h : iH) (Q : Option iV → iH → Prop), G sp sc [23] d mL_law (n + 1) 1291 L st h Q = (match ld L 0 with | some (.inr (.inr (r + 1))) => G sp sc [23] d mL_law n 1292 L (.inr (.inr (r + 1)) :: st) h Q | _ => False)) ∧
  (∀ (n d : Nat) (L : List (Option iV)) (st : List iV) (h : iH) (Q : Option iV → iH → Prop), G sp sc [23] d mL_law (n + 1) 1292 L st h Q = (match ld L 4 with | some (.inl x) => G sp sc [23] d mL_law n 1294 L (.inl x :: st) h Q | _ => False)) ∧
  (∀ (n d : Nat) (L : List (Option iV)) (st : List iV) (h : iH) (Q : Option iV → iH → Prop), G sp sc [23] d mL_law (n + 1) 1294 L st h Q = G sp sc [23] d mL_law n 1295 L (.inl 2 :: st) h Q) ∧
  (∀ (n d : Nat) (L : List (Option iV)) (a : Int) (b : Int) (r : List iV) (h : iH) (Q : Option iV → iH → Prop), G sp sc [23] d mL_law (n + 1) 1295 L (.inl b :: .inl a :: r) h Q = G sp sc [23] d mL_law n 1296 L (.inl (a + b) :: r) h Q) ∧
  (∀ (n d : Nat) (L : List (Option iV)) (r : List iV) (j : Int) (h : iH) (Q : Option iV → iH → Prop), G sp sc [23] d mL_law (n + 1) 1296 L (.inl j :: .inr (.inr 1) :: r) h Q = (inA j sc.length = true ∧ G sp sc [23] d mL_law n 1297 L (.inl (sc.getD j.toNat 0) :: r) h Q)) ∧
  (∀ (n d : Nat) (L : List (Option iV)) (r : List iV) (j : Int) (m : Nat) (h : iH) (Q : Option iV → iH → Prop), G sp sc [23] d mL_law (n + 1) 1296 L (.inl j :: .inr (.inr (m + 2)) :: r) h Q = (match h.1[m]? with | some (.inr (.inl (0, xs))) => inA j xs.length = true ∧ G sp sc [23] d mL_law n 1297 L (.inl (xs.getD j.toNat 0) :: r) h Q | _ => False)) ∧
  (∀ (n d : Nat) (L : List (Option iV)) (r : List iV) (m : Nat) (z0 : iV) (z1 : iV) (h : iH) (Q : Option iV → iH → Prop), G sp sc [23] (d + 1) mL_law (n + 1) 1297 L (z1 :: z0 :: .inr (.inr (m + 2)) :: r) h Q = (match h.1[m]? with | some (.inl (ci, _)) => (match lkC 13 141 ci with | some (y1, n1, kd) => (n1 = 2 ∧ (kd = 2 ∨ kd = 3 ∨ kd = 8) ∧ cs r ≤ 8) ∧ Call sp sc d y1 [.inr (.inr (m + 2)), z0, z1] h (fun q h1 => GC sp sc [23] (d + 1) mL_law n 1300 L q r h h1 Q) | none => False) | _ => False)) ∧
  (∀ (n d : Nat) (L : List (Option iV)) (a : Int) (b : Int) (r : List iV) (h : iH) (Q : Option iV → iH → Prop), G sp sc [23] d mL_law (n + 1) 1300 L (.inl b :: .inl a :: r) h Q = ((inI a = true ∧ inI b = true) ∧ (a = b → G sp sc [23] d mL_law n 1950 L r h Q) ∧ (¬ (a = b) → G sp sc [23] d mL_law n 1303 L r h Q))) ∧
  (∀ (n d : Nat) (L : List (Option iV)) (st : List iV) (h : iH) (Q : Option iV → iH → Prop), G sp sc [23] d mL_law (n + 1) 1303 L st h Q = G sp sc [23] d mL_law n 1304 L (.inl 0 :: st) h Q) ∧
  (∀ (n d : Nat) (L : List (Option iV)) (a : Int) (h : iH) (Q : Option iV → iH → Prop), G sp sc [23] d mL_law (n + 1) 1304 L [.inl a] h Q = ((a = 0 ∨ a = 1) ∧ Q (some (.inl a)) h)) := ⟨by intros; exact G_at (by decide +kernel : fetch mL_law 1268 = some (.aload_n 1)),
  by intros; exact G_at (by decide +kernel : fetch mL_law 1269 = some (.aload_n 0)),
  by intros; exact G_at (by decide +kernel : fetch mL_law 1270 = some (.iload 4)),
  by intros; exact G_at (by decide +kernel : fetch mL_law 1272 = some (.iconst 1)),
  by intros; exact G_at (by decide +kernel : fetch mL_law 1273 = some (.iadd)),
  by intros; exact G_at (by decide +kernel : fetch mL_law 1274 = some (.iaload)),
  by intros; exact G_at (by decide +kernel : fetch mL_law 1274 = some (.iaload)),
  by intros; exact G_at (by decide +kernel : fetch mL_law 1275 = some (.aload_n 0)),
  by intros; exact G_at (by decide +kernel : fetch mL_law 1276 = some (.iload 4)),
  by intros; exact G_at (by decide +kernel : fetch mL_law 1278 = some (.iconst 2)),
  by intros; exact G_at (by decide +kernel : fetch mL_law 1279 = some (.iadd)),
  by intros; exact G_at (by decide +kernel : fetch mL_law 1280 = some (.iaload)),
  by intros; exact G_at (by decide +kernel : fetch mL_law 1280 = some (.iaload)),
  by intros; exact G_callV (by decide +kernel : fetch mL_law 1281 = some (.invokevirtual 138)) (by decide +kernel) (by decide +kernel) rfl,
  by intros; exact G_at (by decide +kernel : fetch mL_law 1284 = some (.aload_n 2)),
  by intros; exact G_at (by decide +kernel : fetch mL_law 1285 = some (.aload_n 0)),
  by intros; exact G_at (by decide +kernel : fetch mL_law 1286 = some (.iload 4)),
  by intros; exact G_at (by decide +kernel : fetch mL_law 1288 = some (.iconst 1)),
  by intros; exact G_at (by decide +kernel : fetch mL_law 1289 = some (.iadd)),
  by intros; exact G_at (by decide +kernel : fetch mL_law 1290 = some (.iaload)),
  by intros; exact G_at (by decide +kernel : fetch mL_law 1290 = some (.iaload)),
  by intros; exact G_at (by decide +kernel : fetch mL_law 1291 = some (.aload_n 0)),
  by intros; exact G_at (by decide +kernel : fetch mL_law 1292 = some (.iload 4)),
  by intros; exact G_at (by decide +kernel : fetch mL_law 1294 = some (.iconst 2)),
  by intros; exact G_at (by decide +kernel : fetch mL_law 1295 = some (.iadd)),
  by intros; exact G_at (by decide +kernel : fetch mL_law 1296 = some (.iaload)),
  by intros; exact G_at (by decide +kernel : fetch mL_law 1296 = some (.iaload)),
  by intros; exact G_callV (by decide +kernel : fetch mL_law 1297 = some (.invokevirtual 141)) (by decide +kernel) (by decide +kernel) rfl,
  by intros; exact G_at (by decide +kernel : fetch mL_law 1300 = some (.if_icmp .eq 650)),
  by intros; exact G_at (by decide +kernel : fetch mL_law 1303 = some (.iconst 0)),
  by intros; exact G_retz (by decide +kernel : fetch mL_law 1304 = some (.ireturn)) (by decide +kernel)⟩
theorem gL_c29 : (∀ (n d : Nat) (L : List (Option iV)) (st : List iV) (h : iH) (Q : Option iV → iH → Prop), G sp sc [23] d mL_law (n + 1) 1305 L st h Q = (match ld L 1 with | some (.inr (.inr (r + 1))) => G sp sc [23] d mL_law n 1306 L (.inr (.inr (r + 1)) :: st) h Q | _ => False)) ∧
  (∀ (n d : Nat) (L : List (Option iV)) (st : List iV) (h : iH) (Q : Option iV → iH → Prop), G sp sc [23] d mL_law (n + 1) 1306 L st h Q = (match ld L 0 with | some (.inr (.inr (r + 1))) => G sp sc [23] d mL_law n 1307 L (.inr (.inr (r + 1)) :: st) h Q | _ => False)) ∧
  (∀ (n d : Nat) (L : List (Option iV)) (st : List iV) (h : iH) (Q : Option iV → iH → Prop), G sp sc [23] d mL_law (n + 1) 1307 L st h Q = (match ld L 4 with | some (.inl x) => G sp sc [23] d mL_law n 1309 L (.inl x :: st) h Q | _ => False)) ∧
  (∀ (n d : Nat) (L : List (Option iV)) (st : List iV) (h : iH) (Q : Option iV → iH → Prop), G sp sc [23] d mL_law (n + 1) 1309 L st h Q = G sp sc [23] d mL_law n 1310 L (.inl 1 :: st) h Q) ∧
  (∀ (n d : Nat) (L : List (Option iV)) (a : Int) (b : Int) (r : List iV) (h : iH) (Q : Option iV → iH → Prop), G sp sc [23] d mL_law (n + 1) 1310 L (.inl b :: .inl a :: r) h Q = G sp sc [23] d mL_law n 1311 L (.inl (a + b) :: r) h Q) ∧
  (∀ (n d : Nat) (L : List (Option iV)) (r : List iV) (j : Int) (h : iH) (Q : Option iV → iH → Prop), G sp sc [23] d mL_law (n + 1) 1311 L (.inl j :: .inr (.inr 1) :: r) h Q = (inA j sc.length = true ∧ G sp sc [23] d mL_law n 1312 L (.inl (sc.getD j.toNat 0) :: r) h Q)) ∧
  (∀ (n d : Nat) (L : List (Option iV)) (r : List iV) (j : Int) (m : Nat) (h : iH) (Q : Option iV → iH → Prop), G sp sc [23] d mL_law (n + 1) 1311 L (.inl j :: .inr (.inr (m + 2)) :: r) h Q = (match h.1[m]? with | some (.inr (.inl (0, xs))) => inA j xs.length = true ∧ G sp sc [23] d mL_law n 1312 L (.inl (xs.getD j.toNat 0) :: r) h Q | _ => False)) ∧
  (∀ (n d : Nat) (L : List (Option iV)) (st : List iV) (h : iH) (Q : Option iV → iH → Prop), G sp sc [23] d mL_law (n + 1) 1312 L st h Q = (match ld L 0 with | some (.inr (.inr (r + 1))) => G sp sc [23] d mL_law n 1313 L (.inr (.inr (r + 1)) :: st) h Q | _ => False)) ∧
  (∀ (n d : Nat) (L : List (Option iV)) (st : List iV) (h : iH) (Q : Option iV → iH → Prop), G sp sc [23] d mL_law (n + 1) 1313 L st h Q = (match ld L 4 with | some (.inl x) => G sp sc [23] d mL_law n 1315 L (.inl x :: st) h Q | _ => False)) ∧
  (∀ (n d : Nat) (L : List (Option iV)) (st : List iV) (h : iH) (Q : Option iV → iH → Prop), G sp sc [23] d mL_law (n + 1) 1315 L st h Q = G sp sc [23] d mL_law n 1316 L (.inl 2 :: st) h Q) ∧
  (∀ (n d : Nat) (L : List (Option iV)) (a : Int) (b : Int) (r : List iV) (h : iH) (Q : Option iV → iH → Prop), G sp sc [23] d mL_law (n + 1) 1316 L (.inl b :: .inl a :: r) h Q = G sp sc [23] d mL_law n 1317 L (.inl (a + b) :: r) h Q) ∧
  (∀ (n d : Nat) (L : List (Option iV)) (r : List iV) (j : Int) (h : iH) (Q : Option iV → iH → Prop), G sp sc [23] d mL_law (n + 1) 1317 L (.inl j :: .inr (.inr 1) :: r) h Q = (inA j sc.length = true ∧ G sp sc [23] d mL_law n 1318 L (.inl (sc.getD j.toNat 0) :: r) h Q)) ∧
  (∀ (n d : Nat) (L : List (Option iV)) (r : List iV) (j : Int) (m : Nat) (h : iH) (Q : Option iV → iH → Prop), G sp sc [23] d mL_law (n + 1) 1317 L (.inl j :: .inr (.inr (m + 2)) :: r) h Q = (match h.1[m]? with | some (.inr (.inl (0, xs))) => inA j xs.length = true ∧ G sp sc [23] d mL_law n 1318 L (.inl (xs.getD j.toNat 0) :: r) h Q | _ => False)) ∧
  (∀ (n d : Nat) (L : List (Option iV)) (st : List iV) (h : iH) (Q : Option iV → iH → Prop), G sp sc [23] d mL_law (n + 1) 1318 L st h Q = (match ld L 0 with | some (.inr (.inr (r + 1))) => G sp sc [23] d mL_law n 1319 L (.inr (.inr (r + 1)) :: st) h Q | _ => False)) ∧
  (∀ (n d : Nat) (L : List (Option iV)) (st : List iV) (h : iH) (Q : Option iV → iH → Prop), G sp sc [23] d mL_law (n + 1) 1319 L st h Q = (match ld L 4 with | some (.inl x) => G sp sc [23] d mL_law n 1321 L (.inl x :: st) h Q | _ => False)) ∧
  (∀ (n d : Nat) (L : List (Option iV)) (st : List iV) (h : iH) (Q : Option iV → iH → Prop), G sp sc [23] d mL_law (n + 1) 1321 L st h Q = G sp sc [23] d mL_law n 1322 L (.inl 3 :: st) h Q) ∧
  (∀ (n d : Nat) (L : List (Option iV)) (a : Int) (b : Int) (r : List iV) (h : iH) (Q : Option iV → iH → Prop), G sp sc [23] d mL_law (n + 1) 1322 L (.inl b :: .inl a :: r) h Q = G sp sc [23] d mL_law n 1323 L (.inl (a + b) :: r) h Q) ∧
  (∀ (n d : Nat) (L : List (Option iV)) (r : List iV) (j : Int) (h : iH) (Q : Option iV → iH → Prop), G sp sc [23] d mL_law (n + 1) 1323 L (.inl j :: .inr (.inr 1) :: r) h Q = (inA j sc.length = true ∧ G sp sc [23] d mL_law n 1324 L (.inl (sc.getD j.toNat 0) :: r) h Q)) ∧
  (∀ (n d : Nat) (L : List (Option iV)) (r : List iV) (j : Int) (m : Nat) (h : iH) (Q : Option iV → iH → Prop), G sp sc [23] d mL_law (n + 1) 1323 L (.inl j :: .inr (.inr (m + 2)) :: r) h Q = (match h.1[m]? with | some (.inr (.inl (0, xs))) => inA j xs.length = true ∧ G sp sc [23] d mL_law n 1324 L (.inl (xs.getD j.toNat 0) :: r) h Q | _ => False)) ∧
  (∀ (n d : Nat) (L : List (Option iV)) (r : List iV) (m : Nat) (z0 : iV) (z1 : iV) (z2 : iV) (h : iH) (Q : Option iV → iH → Prop), G sp sc [23] (d + 1) mL_law (n + 1) 1324 L (z2 :: z1 :: z0 :: .inr (.inr (m + 2)) :: r) h Q = (match h.1[m]? with | some (.inl (ci, _)) => (match lkC 13 142 ci with | some (y1, n1, kd) => (n1 = 3 ∧ (kd = 2 ∨ kd = 3 ∨ kd = 8) ∧ cs r ≤ 8) ∧ Call sp sc d y1 [.inr (.inr (m + 2)), z0, z1, z2] h (fun q h1 => GC sp sc [23] (d + 1) mL_law n 1327 L q r h h1 Q) | none => False) | _ => False)) ∧
  (∀ (n d : Nat) (L : List (Option iV)) (st : List iV) (h : iH) (Q : Option iV → iH → Prop), G sp sc [23] d mL_law (n + 1) 1327 L st h Q = (match ld L 2 with | some (.inr (.inr (r + 1))) => G sp sc [23] d mL_law n 1328 L (.inr (.inr (r + 1)) :: st) h Q | _ => False)) ∧
  (∀ (n d : Nat) (L : List (Option iV)) (st : List iV) (h : iH) (Q : Option iV → iH → Prop), G sp sc [23] d mL_law (n + 1) 1328 L st h Q = (match ld L 0 with | some (.inr (.inr (r + 1))) => G sp sc [23] d mL_law n 1329 L (.inr (.inr (r + 1)) :: st) h Q | _ => False)) ∧
  (∀ (n d : Nat) (L : List (Option iV)) (st : List iV) (h : iH) (Q : Option iV → iH → Prop), G sp sc [23] d mL_law (n + 1) 1329 L st h Q = (match ld L 4 with | some (.inl x) => G sp sc [23] d mL_law n 1331 L (.inl x :: st) h Q | _ => False)) ∧
  (∀ (n d : Nat) (L : List (Option iV)) (st : List iV) (h : iH) (Q : Option iV → iH → Prop), G sp sc [23] d mL_law (n + 1) 1331 L st h Q = G sp sc [23] d mL_law n 1332 L (.inl 1 :: st) h Q) ∧
  (∀ (n d : Nat) (L : List (Option iV)) (a : Int) (b : Int) (r : List iV) (h : iH) (Q : Option iV → iH → Prop), G sp sc [23] d mL_law (n + 1) 1332 L (.inl b :: .inl a :: r) h Q = G sp sc [23] d mL_law n 1333 L (.inl (a + b) :: r) h Q) ∧
  (∀ (n d : Nat) (L : List (Option iV)) (r : List iV) (j : Int) (h : iH) (Q : Option iV → iH → Prop), G sp sc [23] d mL_law (n + 1) 1333 L (.inl j :: .inr (.inr 1) :: r) h Q = (inA j sc.length = true ∧ G sp sc [23] d mL_law n 1334 L (.inl (sc.getD j.toNat 0) :: r) h Q)) ∧
  (∀ (n d : Nat) (L : List (Option iV)) (r : List iV) (j : Int) (m : Nat) (h : iH) (Q : Option iV → iH → Prop), G sp sc [23] d mL_law (n + 1) 1333 L (.inl j :: .inr (.inr (m + 2)) :: r) h Q = (match h.1[m]? with | some (.inr (.inl (0, xs))) => inA j xs.length = true ∧ G sp sc [23] d mL_law n 1334 L (.inl (xs.getD j.toNat 0) :: r) h Q | _ => False)) ∧
  (∀ (n d : Nat) (L : List (Option iV)) (st : List iV) (h : iH) (Q : Option iV → iH → Prop), G sp sc [23] d mL_law (n + 1) 1334 L st h Q = (match ld L 0 with | some (.inr (.inr (r + 1))) => G sp sc [23] d mL_law n 1335 L (.inr (.inr (r + 1)) :: st) h Q | _ => False)) ∧
  (∀ (n d : Nat) (L : List (Option iV)) (st : List iV) (h : iH) (Q : Option iV → iH → Prop), G sp sc [23] d mL_law (n + 1) 1335 L st h Q = (match ld L 4 with | some (.inl x) => G sp sc [23] d mL_law n 1337 L (.inl x :: st) h Q | _ => False)) ∧
  (∀ (n d : Nat) (L : List (Option iV)) (st : List iV) (h : iH) (Q : Option iV → iH → Prop), G sp sc [23] d mL_law (n + 1) 1337 L st h Q = G sp sc [23] d mL_law n 1338 L (.inl 2 :: st) h Q) ∧
  (∀ (n d : Nat) (L : List (Option iV)) (a : Int) (b : Int) (r : List iV) (h : iH) (Q : Option iV → iH → Prop), G sp sc [23] d mL_law (n + 1) 1338 L (.inl b :: .inl a :: r) h Q = G sp sc [23] d mL_law n 1339 L (.inl (a + b) :: r) h Q) ∧
  (∀ (n d : Nat) (L : List (Option iV)) (r : List iV) (j : Int) (h : iH) (Q : Option iV → iH → Prop), G sp sc [23] d mL_law (n + 1) 1339 L (.inl j :: .inr (.inr 1) :: r) h Q = (inA j sc.length = true ∧ G sp sc [23] d mL_law n 1340 L (.inl (sc.getD j.toNat 0) :: r) h Q)) ∧
  (∀ (n d : Nat) (L : List (Option iV)) (r : List iV) (j : Int) (m : Nat) (h : iH) (Q : Option iV → iH → Prop), G sp sc [23] d mL_law (n + 1) 1339 L (.inl j :: .inr (.inr (m + 2)) :: r) h Q = (match h.1[m]? with | some (.inr (.inl (0, xs))) => inA j xs.length = true ∧ G sp sc [23] d mL_law n 1340 L (.inl (xs.getD j.toNat 0) :: r) h Q | _ => False)) ∧
  (∀ (n d : Nat) (L : List (Option iV)) (st : List iV) (h : iH) (Q : Option iV → iH → Prop), G sp sc [23] d mL_law (n + 1) 1340 L st h Q = (match ld L 0 with | some (.inr (.inr (r + 1))) => G sp sc [23] d mL_law n 1341 L (.inr (.inr (r + 1)) :: st) h Q | _ => False)) ∧
  (∀ (n d : Nat) (L : List (Option iV)) (st : List iV) (h : iH) (Q : Option iV → iH → Prop), G sp sc [23] d mL_law (n + 1) 1341 L st h Q = (match ld L 4 with | some (.inl x) => G sp sc [23] d mL_law n 1343 L (.inl x :: st) h Q | _ => False)) ∧
  (∀ (n d : Nat) (L : List (Option iV)) (st : List iV) (h : iH) (Q : Option iV → iH → Prop), G sp sc [23] d mL_law (n + 1) 1343 L st h Q = G sp sc [23] d mL_law n 1344 L (.inl 3 :: st) h Q) ∧
  (∀ (n d : Nat) (L : List (Option iV)) (a : Int) (b : Int) (r : List iV) (h : iH) (Q : Option iV → iH → Prop), G sp sc [23] d mL_law (n + 1) 1344 L (.inl b :: .inl a :: r) h Q = G sp sc [23] d mL_law n 1345 L (.inl (a + b) :: r) h Q) ∧
  (∀ (n d : Nat) (L : List (Option iV)) (r : List iV) (j : Int) (h : iH) (Q : Option iV → iH → Prop), G sp sc [23] d mL_law (n + 1) 1345 L (.inl j :: .inr (.inr 1) :: r) h Q = (inA j sc.length = true ∧ G sp sc [23] d mL_law n 1346 L (.inl (sc.getD j.toNat 0) :: r) h Q)) ∧
  (∀ (n d : Nat) (L : List (Option iV)) (r : List iV) (j : Int) (m : Nat) (h : iH) (Q : Option iV → iH → Prop), G sp sc [23] d mL_law (n + 1) 1345 L (.inl j :: .inr (.inr (m + 2)) :: r) h Q = (match h.1[m]? with | some (.inr (.inl (0, xs))) => inA j xs.length = true ∧ G sp sc [23] d mL_law n 1346 L (.inl (xs.getD j.toNat 0) :: r) h Q | _ => False)) ∧
  (∀ (n d : Nat) (L : List (Option iV)) (r : List iV) (m : Nat) (z0 : iV) (z1 : iV) (z2 : iV) (h : iH) (Q : Option iV → iH → Prop), G sp sc [23] (d + 1) mL_law (n + 1) 1346 L (z2 :: z1 :: z0 :: .inr (.inr (m + 2)) :: r) h Q = (match h.1[m]? with | some (.inl (ci, _)) => (match lkC 13 145 ci with | some (y1, n1, kd) => (n1 = 3 ∧ (kd = 2 ∨ kd = 3 ∨ kd = 8) ∧ cs r ≤ 8) ∧ Call sp sc d y1 [.inr (.inr (m + 2)), z0, z1, z2] h (fun q h1 => GC sp sc [23] (d + 1) mL_law n 1349 L q r h h1 Q) | none => False) | _ => False)) ∧
  (∀ (n d : Nat) (L : List (Option iV)) (a : Int) (b : Int) (r : List iV) (h : iH) (Q : Option iV → iH → Prop), G sp sc [23] d mL_law (n + 1) 1349 L (.inl b :: .inl a :: r) h Q = ((inI a = true ∧ inI b = true) ∧ (a = b → G sp sc [23] d mL_law n 1950 L r h Q) ∧ (¬ (a = b) → G sp sc [23] d mL_law n 1352 L r h Q))) ∧
  (∀ (n d : Nat) (L : List (Option iV)) (st : List iV) (h : iH) (Q : Option iV → iH → Prop), G sp sc [23] d mL_law (n + 1) 1352 L st h Q = G sp sc [23] d mL_law n 1353 L (.inl 0 :: st) h Q) ∧
  (∀ (n d : Nat) (L : List (Option iV)) (a : Int) (h : iH) (Q : Option iV → iH → Prop), G sp sc [23] d mL_law (n + 1) 1353 L [.inl a] h Q = ((a = 0 ∨ a = 1) ∧ Q (some (.inl a)) h)) := ⟨by intros; exact G_at (by decide +kernel : fetch mL_law 1305 = some (.aload_n 1)),
  by intros; exact G_at (by decide +kernel : fetch mL_law 1306 = some (.aload_n 0)),
  by intros; exact G_at (by decide +kernel : fetch mL_law 1307 = some (.iload 4)),
  by intros; exact G_at (by decide +kernel : fetch mL_law 1309 = some (.iconst 1)),
  by intros; exact G_at (by decide +kernel : fetch mL_law 1310 = some (.iadd)),
  by intros; exact G_at (by decide +kernel : fetch mL_law 1311 = some (.iaload)),
  by intros; exact G_at (by decide +kernel : fetch mL_law 1311 = some (.iaload)),
  by intros; exact G_at (by decide +kernel : fetch mL_law 1312 = some (.aload_n 0)),
  by intros; exact G_at (by decide +kernel : fetch mL_law 1313 = some (.iload 4)),
  by intros; exact G_at (by decide +kernel : fetch mL_law 1315 = some (.iconst 2)),
  by intros; exact G_at (by decide +kernel : fetch mL_law 1316 = some (.iadd)),
  by intros; exact G_at (by decide +kernel : fetch mL_law 1317 = some (.iaload)),
  by intros; exact G_at (by decide +kernel : fetch mL_law 1317 = some (.iaload)),
  by intros; exact G_at (by decide +kernel : fetch mL_law 1318 = some (.aload_n 0)),
  by intros; exact G_at (by decide +kernel : fetch mL_law 1319 = some (.iload 4)),
  by intros; exact G_at (by decide +kernel : fetch mL_law 1321 = some (.iconst 3)),
  by intros; exact G_at (by decide +kernel : fetch mL_law 1322 = some (.iadd)),
  by intros; exact G_at (by decide +kernel : fetch mL_law 1323 = some (.iaload)),
  by intros; exact G_at (by decide +kernel : fetch mL_law 1323 = some (.iaload)),
  by intros; exact G_callV (by decide +kernel : fetch mL_law 1324 = some (.invokevirtual 142)) (by decide +kernel) (by decide +kernel) rfl,
  by intros; exact G_at (by decide +kernel : fetch mL_law 1327 = some (.aload_n 2)),
  by intros; exact G_at (by decide +kernel : fetch mL_law 1328 = some (.aload_n 0)),
  by intros; exact G_at (by decide +kernel : fetch mL_law 1329 = some (.iload 4)),
  by intros; exact G_at (by decide +kernel : fetch mL_law 1331 = some (.iconst 1)),
  by intros; exact G_at (by decide +kernel : fetch mL_law 1332 = some (.iadd)),
  by intros; exact G_at (by decide +kernel : fetch mL_law 1333 = some (.iaload)),
  by intros; exact G_at (by decide +kernel : fetch mL_law 1333 = some (.iaload)),
  by intros; exact G_at (by decide +kernel : fetch mL_law 1334 = some (.aload_n 0)),
  by intros; exact G_at (by decide +kernel : fetch mL_law 1335 = some (.iload 4)),
  by intros; exact G_at (by decide +kernel : fetch mL_law 1337 = some (.iconst 2)),
  by intros; exact G_at (by decide +kernel : fetch mL_law 1338 = some (.iadd)),
  by intros; exact G_at (by decide +kernel : fetch mL_law 1339 = some (.iaload)),
  by intros; exact G_at (by decide +kernel : fetch mL_law 1339 = some (.iaload)),
  by intros; exact G_at (by decide +kernel : fetch mL_law 1340 = some (.aload_n 0)),
  by intros; exact G_at (by decide +kernel : fetch mL_law 1341 = some (.iload 4)),
  by intros; exact G_at (by decide +kernel : fetch mL_law 1343 = some (.iconst 3)),
  by intros; exact G_at (by decide +kernel : fetch mL_law 1344 = some (.iadd)),
  by intros; exact G_at (by decide +kernel : fetch mL_law 1345 = some (.iaload)),
  by intros; exact G_at (by decide +kernel : fetch mL_law 1345 = some (.iaload)),
  by intros; exact G_callV (by decide +kernel : fetch mL_law 1346 = some (.invokevirtual 145)) (by decide +kernel) (by decide +kernel) rfl,
  by intros; exact G_at (by decide +kernel : fetch mL_law 1349 = some (.if_icmp .eq 601)),
  by intros; exact G_at (by decide +kernel : fetch mL_law 1352 = some (.iconst 0)),
  by intros; exact G_retz (by decide +kernel : fetch mL_law 1353 = some (.ireturn)) (by decide +kernel)⟩
theorem gL_c30 : (∀ (n d : Nat) (L : List (Option iV)) (st : List iV) (h : iH) (Q : Option iV → iH → Prop), G sp sc [23] d mL_law (n + 1) 1354 L st h Q = (match ld L 1 with | some (.inr (.inr (r + 1))) => G sp sc [23] d mL_law n 1355 L (.inr (.inr (r + 1)) :: st) h Q | _ => False)) ∧
  (∀ (n d : Nat) (L : List (Option iV)) (st : List iV) (h : iH) (Q : Option iV → iH → Prop), G sp sc [23] d mL_law (n + 1) 1355 L st h Q = (match ld L 0 with | some (.inr (.inr (r + 1))) => G sp sc [23] d mL_law n 1356 L (.inr (.inr (r + 1)) :: st) h Q | _ => False)) ∧
  (∀ (n d : Nat) (L : List (Option iV)) (st : List iV) (h : iH) (Q : Option iV → iH → Prop), G sp sc [23] d mL_law (n + 1) 1356 L st h Q = (match ld L 4 with | some (.inl x) => G sp sc [23] d mL_law n 1358 L (.inl x :: st) h Q | _ => False)) ∧
  (∀ (n d : Nat) (L : List (Option iV)) (st : List iV) (h : iH) (Q : Option iV → iH → Prop), G sp sc [23] d mL_law (n + 1) 1358 L st h Q = G sp sc [23] d mL_law n 1359 L (.inl 1 :: st) h Q) ∧
  (∀ (n d : Nat) (L : List (Option iV)) (a : Int) (b : Int) (r : List iV) (h : iH) (Q : Option iV → iH → Prop), G sp sc [23] d mL_law (n + 1) 1359 L (.inl b :: .inl a :: r) h Q = G sp sc [23] d mL_law n 1360 L (.inl (a + b) :: r) h Q) ∧
  (∀ (n d : Nat) (L : List (Option iV)) (r : List iV) (j : Int) (h : iH) (Q : Option iV → iH → Prop), G sp sc [23] d mL_law (n + 1) 1360 L (.inl j :: .inr (.inr 1) :: r) h Q = (inA j sc.length = true ∧ G sp sc [23] d mL_law n 1361 L (.inl (sc.getD j.toNat 0) :: r) h Q)) ∧
  (∀ (n d : Nat) (L : List (Option iV)) (r : List iV) (j : Int) (m : Nat) (h : iH) (Q : Option iV → iH → Prop), G sp sc [23] d mL_law (n + 1) 1360 L (.inl j :: .inr (.inr (m + 2)) :: r) h Q = (match h.1[m]? with | some (.inr (.inl (0, xs))) => inA j xs.length = true ∧ G sp sc [23] d mL_law n 1361 L (.inl (xs.getD j.toNat 0) :: r) h Q | _ => False)) ∧
  (∀ (n d : Nat) (L : List (Option iV)) (r : List iV) (m : Nat) (z0 : iV) (h : iH) (Q : Option iV → iH → Prop), G sp sc [23] (d + 1) mL_law (n + 1) 1361 L (z0 :: .inr (.inr (m + 2)) :: r) h Q = (match h.1[m]? with | some (.inl (ci, _)) => (match lkC 13 146 ci with | some (y1, n1, kd) => (n1 = 1 ∧ (kd = 2 ∨ kd = 3 ∨ kd = 8) ∧ cs r ≤ 8) ∧ Call sp sc d y1 [.inr (.inr (m + 2)), z0] h (fun q h1 => GC sp sc [23] (d + 1) mL_law n 1364 L q r h h1 Q) | none => False) | _ => False)) ∧
  (∀ (n d : Nat) (L : List (Option iV)) (st : List iV) (h : iH) (Q : Option iV → iH → Prop), G sp sc [23] d mL_law (n + 1) 1364 L st h Q = (match ld L 2 with | some (.inr (.inr (r + 1))) => G sp sc [23] d mL_law n 1365 L (.inr (.inr (r + 1)) :: st) h Q | _ => False)) ∧
  (∀ (n d : Nat) (L : List (Option iV)) (st : List iV) (h : iH) (Q : Option iV → iH → Prop), G sp sc [23] d mL_law (n + 1) 1365 L st h Q = (match ld L 0 with | some (.inr (.inr (r + 1))) => G sp sc [23] d mL_law n 1366 L (.inr (.inr (r + 1)) :: st) h Q | _ => False)) ∧
  (∀ (n d : Nat) (L : List (Option iV)) (st : List iV) (h : iH) (Q : Option iV → iH → Prop), G sp sc [23] d mL_law (n + 1) 1366 L st h Q = (match ld L 4 with | some (.inl x) => G sp sc [23] d mL_law n 1368 L (.inl x :: st) h Q | _ => False)) ∧
  (∀ (n d : Nat) (L : List (Option iV)) (st : List iV) (h : iH) (Q : Option iV → iH → Prop), G sp sc [23] d mL_law (n + 1) 1368 L st h Q = G sp sc [23] d mL_law n 1369 L (.inl 1 :: st) h Q) ∧
  (∀ (n d : Nat) (L : List (Option iV)) (a : Int) (b : Int) (r : List iV) (h : iH) (Q : Option iV → iH → Prop), G sp sc [23] d mL_law (n + 1) 1369 L (.inl b :: .inl a :: r) h Q = G sp sc [23] d mL_law n 1370 L (.inl (a + b) :: r) h Q) ∧
  (∀ (n d : Nat) (L : List (Option iV)) (r : List iV) (j : Int) (h : iH) (Q : Option iV → iH → Prop), G sp sc [23] d mL_law (n + 1) 1370 L (.inl j :: .inr (.inr 1) :: r) h Q = (inA j sc.length = true ∧ G sp sc [23] d mL_law n 1371 L (.inl (sc.getD j.toNat 0) :: r) h Q)) ∧
  (∀ (n d : Nat) (L : List (Option iV)) (r : List iV) (j : Int) (m : Nat) (h : iH) (Q : Option iV → iH → Prop), G sp sc [23] d mL_law (n + 1) 1370 L (.inl j :: .inr (.inr (m + 2)) :: r) h Q = (match h.1[m]? with | some (.inr (.inl (0, xs))) => inA j xs.length = true ∧ G sp sc [23] d mL_law n 1371 L (.inl (xs.getD j.toNat 0) :: r) h Q | _ => False)) ∧
  (∀ (n d : Nat) (L : List (Option iV)) (r : List iV) (m : Nat) (z0 : iV) (h : iH) (Q : Option iV → iH → Prop), G sp sc [23] (d + 1) mL_law (n + 1) 1371 L (z0 :: .inr (.inr (m + 2)) :: r) h Q = (match h.1[m]? with | some (.inl (ci, _)) => (match lkC 13 149 ci with | some (y1, n1, kd) => (n1 = 1 ∧ (kd = 2 ∨ kd = 3 ∨ kd = 8) ∧ cs r ≤ 8) ∧ Call sp sc d y1 [.inr (.inr (m + 2)), z0] h (fun q h1 => GC sp sc [23] (d + 1) mL_law n 1374 L q r h h1 Q) | none => False) | _ => False)) ∧
  (∀ (n d : Nat) (L : List (Option iV)) (a : Int) (b : Int) (r : List iV) (h : iH) (Q : Option iV → iH → Prop), G sp sc [23] d mL_law (n + 1) 1374 L (.inl b :: .inl a :: r) h Q = ((inI a = true ∧ inI b = true) ∧ (a = b → G sp sc [23] d mL_law n 1950 L r h Q) ∧ (¬ (a = b) → G sp sc [23] d mL_law n 1377 L r h Q))) ∧
  (∀ (n d : Nat) (L : List (Option iV)) (st : List iV) (h : iH) (Q : Option iV → iH → Prop), G sp sc [23] d mL_law (n + 1) 1377 L st h Q = G sp sc [23] d mL_law n 1378 L (.inl 0 :: st) h Q) ∧
  (∀ (n d : Nat) (L : List (Option iV)) (a : Int) (h : iH) (Q : Option iV → iH → Prop), G sp sc [23] d mL_law (n + 1) 1378 L [.inl a] h Q = ((a = 0 ∨ a = 1) ∧ Q (some (.inl a)) h)) := ⟨by intros; exact G_at (by decide +kernel : fetch mL_law 1354 = some (.aload_n 1)),
  by intros; exact G_at (by decide +kernel : fetch mL_law 1355 = some (.aload_n 0)),
  by intros; exact G_at (by decide +kernel : fetch mL_law 1356 = some (.iload 4)),
  by intros; exact G_at (by decide +kernel : fetch mL_law 1358 = some (.iconst 1)),
  by intros; exact G_at (by decide +kernel : fetch mL_law 1359 = some (.iadd)),
  by intros; exact G_at (by decide +kernel : fetch mL_law 1360 = some (.iaload)),
  by intros; exact G_at (by decide +kernel : fetch mL_law 1360 = some (.iaload)),
  by intros; exact G_callV (by decide +kernel : fetch mL_law 1361 = some (.invokevirtual 146)) (by decide +kernel) (by decide +kernel) rfl,
  by intros; exact G_at (by decide +kernel : fetch mL_law 1364 = some (.aload_n 2)),
  by intros; exact G_at (by decide +kernel : fetch mL_law 1365 = some (.aload_n 0)),
  by intros; exact G_at (by decide +kernel : fetch mL_law 1366 = some (.iload 4)),
  by intros; exact G_at (by decide +kernel : fetch mL_law 1368 = some (.iconst 1)),
  by intros; exact G_at (by decide +kernel : fetch mL_law 1369 = some (.iadd)),
  by intros; exact G_at (by decide +kernel : fetch mL_law 1370 = some (.iaload)),
  by intros; exact G_at (by decide +kernel : fetch mL_law 1370 = some (.iaload)),
  by intros; exact G_callV (by decide +kernel : fetch mL_law 1371 = some (.invokevirtual 149)) (by decide +kernel) (by decide +kernel) rfl,
  by intros; exact G_at (by decide +kernel : fetch mL_law 1374 = some (.if_icmp .eq 576)),
  by intros; exact G_at (by decide +kernel : fetch mL_law 1377 = some (.iconst 0)),
  by intros; exact G_retz (by decide +kernel : fetch mL_law 1378 = some (.ireturn)) (by decide +kernel)⟩
theorem gL_c31 : (∀ (n d : Nat) (L : List (Option iV)) (st : List iV) (h : iH) (Q : Option iV → iH → Prop), G sp sc [23] d mL_law (n + 1) 1379 L st h Q = (match ld L 1 with | some (.inr (.inr (r + 1))) => G sp sc [23] d mL_law n 1380 L (.inr (.inr (r + 1)) :: st) h Q | _ => False)) ∧
  (∀ (n d : Nat) (L : List (Option iV)) (st : List iV) (h : iH) (Q : Option iV → iH → Prop), G sp sc [23] d mL_law (n + 1) 1380 L st h Q = (match ld L 0 with | some (.inr (.inr (r + 1))) => G sp sc [23] d mL_law n 1381 L (.inr (.inr (r + 1)) :: st) h Q | _ => False)) ∧
  (∀ (n d : Nat) (L : List (Option iV)) (st : List iV) (h : iH) (Q : Option iV → iH → Prop), G sp sc [23] d mL_law (n + 1) 1381 L st h Q = (match ld L 4 with | some (.inl x) => G sp sc [23] d mL_law n 1383 L (.inl x :: st) h Q | _ => False)) ∧
  (∀ (n d : Nat) (L : List (Option iV)) (st : List iV) (h : iH) (Q : Option iV → iH → Prop), G sp sc [23] d mL_law (n + 1) 1383 L st h Q = G sp sc [23] d mL_law n 1384 L (.inl 1 :: st) h Q) ∧
  (∀ (n d : Nat) (L : List (Option iV)) (a : Int) (b : Int) (r : List iV) (h : iH) (Q : Option iV → iH → Prop), G sp sc [23] d mL_law (n + 1) 1384 L (.inl b :: .inl a :: r) h Q = G sp sc [23] d mL_law n 1385 L (.inl (a + b) :: r) h Q) ∧
  (∀ (n d : Nat) (L : List (Option iV)) (r : List iV) (j : Int) (h : iH) (Q : Option iV → iH → Prop), G sp sc [23] d mL_law (n + 1) 1385 L (.inl j :: .inr (.inr 1) :: r) h Q = (inA j sc.length = true ∧ G sp sc [23] d mL_law n 1386 L (.inl (sc.getD j.toNat 0) :: r) h Q)) ∧
  (∀ (n d : Nat) (L : List (Option iV)) (r : List iV) (j : Int) (m : Nat) (h : iH) (Q : Option iV → iH → Prop), G sp sc [23] d mL_law (n + 1) 1385 L (.inl j :: .inr (.inr (m + 2)) :: r) h Q = (match h.1[m]? with | some (.inr (.inl (0, xs))) => inA j xs.length = true ∧ G sp sc [23] d mL_law n 1386 L (.inl (xs.getD j.toNat 0) :: r) h Q | _ => False)) ∧
  (∀ (n d : Nat) (L : List (Option iV)) (st : List iV) (h : iH) (Q : Option iV → iH → Prop), G sp sc [23] d mL_law (n + 1) 1386 L st h Q = (match ld L 0 with | some (.inr (.inr (r + 1))) => G sp sc [23] d mL_law n 1387 L (.inr (.inr (r + 1)) :: st) h Q | _ => False)) ∧
  (∀ (n d : Nat) (L : List (Option iV)) (st : List iV) (h : iH) (Q : Option iV → iH → Prop), G sp sc [23] d mL_law (n + 1) 1387 L st h Q = (match ld L 4 with | some (.inl x) => G sp sc [23] d mL_law n 1389 L (.inl x :: st) h Q | _ => False)) ∧
  (∀ (n d : Nat) (L : List (Option iV)) (st : List iV) (h : iH) (Q : Option iV → iH → Prop), G sp sc [23] d mL_law (n + 1) 1389 L st h Q = G sp sc [23] d mL_law n 1390 L (.inl 2 :: st) h Q) ∧
  (∀ (n d : Nat) (L : List (Option iV)) (a : Int) (b : Int) (r : List iV) (h : iH) (Q : Option iV → iH → Prop), G sp sc [23] d mL_law (n + 1) 1390 L (.inl b :: .inl a :: r) h Q = G sp sc [23] d mL_law n 1391 L (.inl (a + b) :: r) h Q) ∧
  (∀ (n d : Nat) (L : List (Option iV)) (r : List iV) (j : Int) (h : iH) (Q : Option iV → iH → Prop), G sp sc [23] d mL_law (n + 1) 1391 L (.inl j :: .inr (.inr 1) :: r) h Q = (inA j sc.length = true ∧ G sp sc [23] d mL_law n 1392 L (.inl (sc.getD j.toNat 0) :: r) h Q)) ∧
  (∀ (n d : Nat) (L : List (Option iV)) (r : List iV) (j : Int) (m : Nat) (h : iH) (Q : Option iV → iH → Prop), G sp sc [23] d mL_law (n + 1) 1391 L (.inl j :: .inr (.inr (m + 2)) :: r) h Q = (match h.1[m]? with | some (.inr (.inl (0, xs))) => inA j xs.length = true ∧ G sp sc [23] d mL_law n 1392 L (.inl (xs.getD j.toNat 0) :: r) h Q | _ => False)) ∧
  (∀ (n d : Nat) (L : List (Option iV)) (st : List iV) (h : iH) (Q : Option iV → iH → Prop), G sp sc [23] d mL_law (n + 1) 1392 L st h Q = (match ld L 0 with | some (.inr (.inr (r + 1))) => G sp sc [23] d mL_law n 1393 L (.inr (.inr (r + 1)) :: st) h Q | _ => False)) ∧
  (∀ (n d : Nat) (L : List (Option iV)) (st : List iV) (h : iH) (Q : Option iV → iH → Prop), G sp sc [23] d mL_law (n + 1) 1393 L st h Q = (match ld L 4 with | some (.inl x) => G sp sc [23] d mL_law n 1395 L (.inl x :: st) h Q | _ => False)) ∧
  (∀ (n d : Nat) (L : List (Option iV)) (st : List iV) (h : iH) (Q : Option iV → iH → Prop), G sp sc [23] d mL_law (n + 1) 1395 L st h Q = G sp sc [23] d mL_law n 1396 L (.inl 3 :: st) h Q) ∧
  (∀ (n d : Nat) (L : List (Option iV)) (a : Int) (b : Int) (r : List iV) (h : iH) (Q : Option iV → iH → Prop), G sp sc [23] d mL_law (n + 1) 1396 L (.inl b :: .inl a :: r) h Q = G sp sc [23] d mL_law n 1397 L (.inl (a + b) :: r) h Q) ∧
  (∀ (n d : Nat) (L : List (Option iV)) (r : List iV) (j : Int) (h : iH) (Q : Option iV → iH → Prop), G sp sc [23] d mL_law (n + 1) 1397 L (.inl j :: .inr (.inr 1) :: r) h Q = (inA j sc.length = true ∧ G sp sc [23] d mL_law n 1398 L (.inl (sc.getD j.toNat 0) :: r) h Q)) ∧
  (∀ (n d : Nat) (L : List (Option iV)) (r : List iV) (j : Int) (m : Nat) (h : iH) (Q : Option iV → iH → Prop), G sp sc [23] d mL_law (n + 1) 1397 L (.inl j :: .inr (.inr (m + 2)) :: r) h Q = (match h.1[m]? with | some (.inr (.inl (0, xs))) => inA j xs.length = true ∧ G sp sc [23] d mL_law n 1398 L (.inl (xs.getD j.toNat 0) :: r) h Q | _ => False)) ∧
  (∀ (n d : Nat) (L : List (Option iV)) (st : List iV) (h : iH) (Q : Option iV → iH → Prop), G sp sc [23] d mL_law (n + 1) 1398 L st h Q = (match ld L 0 with | some (.inr (.inr (r + 1))) => G sp sc [23] d mL_law n 1399 L (.inr (.inr (r + 1)) :: st) h Q | _ => False)) ∧
  (∀ (n d : Nat) (L : List (Option iV)) (st : List iV) (h : iH) (Q : Option iV → iH → Prop), G sp sc [23] d mL_law (n + 1) 1399 L st h Q = (match ld L 4 with | some (.inl x) => G sp sc [23] d mL_law n 1401 L (.inl x :: st) h Q | _ => False)) ∧
  (∀ (n d : Nat) (L : List (Option iV)) (st : List iV) (h : iH) (Q : Option iV → iH → Prop), G sp sc [23] d mL_law (n + 1) 1401 L st h Q = G sp sc [23] d mL_law n 1402 L (.inl 4 :: st) h Q) ∧
  (∀ (n d : Nat) (L : List (Option iV)) (a : Int) (b : Int) (r : List iV) (h : iH) (Q : Option iV → iH → Prop), G sp sc [23] d mL_law (n + 1) 1402 L (.inl b :: .inl a :: r) h Q = G sp sc [23] d mL_law n 1403 L (.inl (a + b) :: r) h Q) ∧
  (∀ (n d : Nat) (L : List (Option iV)) (r : List iV) (j : Int) (h : iH) (Q : Option iV → iH → Prop), G sp sc [23] d mL_law (n + 1) 1403 L (.inl j :: .inr (.inr 1) :: r) h Q = (inA j sc.length = true ∧ G sp sc [23] d mL_law n 1404 L (.inl (sc.getD j.toNat 0) :: r) h Q)) ∧
  (∀ (n d : Nat) (L : List (Option iV)) (r : List iV) (j : Int) (m : Nat) (h : iH) (Q : Option iV → iH → Prop), G sp sc [23] d mL_law (n + 1) 1403 L (.inl j :: .inr (.inr (m + 2)) :: r) h Q = (match h.1[m]? with | some (.inr (.inl (0, xs))) => inA j xs.length = true ∧ G sp sc [23] d mL_law n 1404 L (.inl (xs.getD j.toNat 0) :: r) h Q | _ => False)) ∧
  (∀ (n d : Nat) (L : List (Option iV)) (r : List iV) (m : Nat) (z0 : iV) (z1 : iV) (z2 : iV) (z3 : iV) (h : iH) (Q : Option iV → iH → Prop), G sp sc [23] (d + 1) mL_law (n + 1) 1404 L (z3 :: z2 :: z1 :: z0 :: .inr (.inr (m + 2)) :: r) h Q = (match h.1[m]? with | some (.inl (ci, _)) => (match lkC 13 150 ci with | some (y1, n1, kd) => (n1 = 4 ∧ (kd = 2 ∨ kd = 3 ∨ kd = 8) ∧ cs r ≤ 8) ∧ Call sp sc d y1 [.inr (.inr (m + 2)), z0, z1, z2, z3] h (fun q h1 => GC sp sc [23] (d + 1) mL_law n 1407 L q r h h1 Q) | none => False) | _ => False)) ∧
  (∀ (n d : Nat) (L : List (Option iV)) (st : List iV) (h : iH) (Q : Option iV → iH → Prop), G sp sc [23] d mL_law (n + 1) 1407 L st h Q = (match ld L 2 with | some (.inr (.inr (r + 1))) => G sp sc [23] d mL_law n 1408 L (.inr (.inr (r + 1)) :: st) h Q | _ => False)) ∧
  (∀ (n d : Nat) (L : List (Option iV)) (st : List iV) (h : iH) (Q : Option iV → iH → Prop), G sp sc [23] d mL_law (n + 1) 1408 L st h Q = (match ld L 0 with | some (.inr (.inr (r + 1))) => G sp sc [23] d mL_law n 1409 L (.inr (.inr (r + 1)) :: st) h Q | _ => False)) ∧
  (∀ (n d : Nat) (L : List (Option iV)) (st : List iV) (h : iH) (Q : Option iV → iH → Prop), G sp sc [23] d mL_law (n + 1) 1409 L st h Q = (match ld L 4 with | some (.inl x) => G sp sc [23] d mL_law n 1411 L (.inl x :: st) h Q | _ => False)) ∧
  (∀ (n d : Nat) (L : List (Option iV)) (st : List iV) (h : iH) (Q : Option iV → iH → Prop), G sp sc [23] d mL_law (n + 1) 1411 L st h Q = G sp sc [23] d mL_law n 1412 L (.inl 1 :: st) h Q) ∧
  (∀ (n d : Nat) (L : List (Option iV)) (a : Int) (b : Int) (r : List iV) (h : iH) (Q : Option iV → iH → Prop), G sp sc [23] d mL_law (n + 1) 1412 L (.inl b :: .inl a :: r) h Q = G sp sc [23] d mL_law n 1413 L (.inl (a + b) :: r) h Q) ∧
  (∀ (n d : Nat) (L : List (Option iV)) (r : List iV) (j : Int) (h : iH) (Q : Option iV → iH → Prop), G sp sc [23] d mL_law (n + 1) 1413 L (.inl j :: .inr (.inr 1) :: r) h Q = (inA j sc.length = true ∧ G sp sc [23] d mL_law n 1414 L (.inl (sc.getD j.toNat 0) :: r) h Q)) ∧
  (∀ (n d : Nat) (L : List (Option iV)) (r : List iV) (j : Int) (m : Nat) (h : iH) (Q : Option iV → iH → Prop), G sp sc [23] d mL_law (n + 1) 1413 L (.inl j :: .inr (.inr (m + 2)) :: r) h Q = (match h.1[m]? with | some (.inr (.inl (0, xs))) => inA j xs.length = true ∧ G sp sc [23] d mL_law n 1414 L (.inl (xs.getD j.toNat 0) :: r) h Q | _ => False)) ∧
  (∀ (n d : Nat) (L : List (Option iV)) (st : List iV) (h : iH) (Q : Option iV → iH → Prop), G sp sc [23] d mL_law (n + 1) 1414 L st h Q = (match ld L 0 with | some (.inr (.inr (r + 1))) => G sp sc [23] d mL_law n 1415 L (.inr (.inr (r + 1)) :: st) h Q | _ => False)) ∧
  (∀ (n d : Nat) (L : List (Option iV)) (st : List iV) (h : iH) (Q : Option iV → iH → Prop), G sp sc [23] d mL_law (n + 1) 1415 L st h Q = (match ld L 4 with | some (.inl x) => G sp sc [23] d mL_law n 1417 L (.inl x :: st) h Q | _ => False)) ∧
  (∀ (n d : Nat) (L : List (Option iV)) (st : List iV) (h : iH) (Q : Option iV → iH → Prop), G sp sc [23] d mL_law (n + 1) 1417 L st h Q = G sp sc [23] d mL_law n 1418 L (.inl 2 :: st) h Q) ∧
  (∀ (n d : Nat) (L : List (Option iV)) (a : Int) (b : Int) (r : List iV) (h : iH) (Q : Option iV → iH → Prop), G sp sc [23] d mL_law (n + 1) 1418 L (.inl b :: .inl a :: r) h Q = G sp sc [23] d mL_law n 1419 L (.inl (a + b) :: r) h Q) ∧
  (∀ (n d : Nat) (L : List (Option iV)) (r : List iV) (j : Int) (h : iH) (Q : Option iV → iH → Prop), G sp sc [23] d mL_law (n + 1) 1419 L (.inl j :: .inr (.inr 1) :: r) h Q = (inA j sc.length = true ∧ G sp sc [23] d mL_law n 1420 L (.inl (sc.getD j.toNat 0) :: r) h Q)) ∧
  (∀ (n d : Nat) (L : List (Option iV)) (r : List iV) (j : Int) (m : Nat) (h : iH) (Q : Option iV → iH → Prop), G sp sc [23] d mL_law (n + 1) 1419 L (.inl j :: .inr (.inr (m + 2)) :: r) h Q = (match h.1[m]? with | some (.inr (.inl (0, xs))) => inA j xs.length = true ∧ G sp sc [23] d mL_law n 1420 L (.inl (xs.getD j.toNat 0) :: r) h Q | _ => False)) ∧
  (∀ (n d : Nat) (L : List (Option iV)) (st : List iV) (h : iH) (Q : Option iV → iH → Prop), G sp sc [23] d mL_law (n + 1) 1420 L st h Q = (match ld L 0 with | some (.inr (.inr (r + 1))) => G sp sc [23] d mL_law n 1421 L (.inr (.inr (r + 1)) :: st) h Q | _ => False)) ∧
  (∀ (n d : Nat) (L : List (Option iV)) (st : List iV) (h : iH) (Q : Option iV → iH → Prop), G sp sc [23] d mL_law (n + 1) 1421 L st h Q = (match ld L 4 with | some (.inl x) => G sp sc [23] d mL_law n 1423 L (.inl x :: st) h Q | _ => False)) ∧
  (∀ (n d : Nat) (L : List (Option iV)) (st : List iV) (h : iH) (Q : Option iV → iH → Prop), G sp sc [23] d mL_law (n + 1) 1423 L st h Q = G sp sc [23] d mL_law n 1424 L (.inl 3 :: st) h Q) ∧
  (∀ (n d : Nat) (L : List (Option iV)) (a : Int) (b : Int) (r : List iV) (h : iH) (Q : Option iV → iH → Prop), G sp sc [23] d mL_law (n + 1) 1424 L (.inl b :: .inl a :: r) h Q = G sp sc [23] d mL_law n 1425 L (.inl (a + b) :: r) h Q) ∧
  (∀ (n d : Nat) (L : List (Option iV)) (r : List iV) (j : Int) (h : iH) (Q : Option iV → iH → Prop), G sp sc [23] d mL_law (n + 1) 1425 L (.inl j :: .inr (.inr 1) :: r) h Q = (inA j sc.length = true ∧ G sp sc [23] d mL_law n 1426 L (.inl (sc.getD j.toNat 0) :: r) h Q)) ∧
  (∀ (n d : Nat) (L : List (Option iV)) (r : List iV) (j : Int) (m : Nat) (h : iH) (Q : Option iV → iH → Prop), G sp sc [23] d mL_law (n + 1) 1425 L (.inl j :: .inr (.inr (m + 2)) :: r) h Q = (match h.1[m]? with | some (.inr (.inl (0, xs))) => inA j xs.length = true ∧ G sp sc [23] d mL_law n 1426 L (.inl (xs.getD j.toNat 0) :: r) h Q | _ => False)) ∧
  (∀ (n d : Nat) (L : List (Option iV)) (st : List iV) (h : iH) (Q : Option iV → iH → Prop), G sp sc [23] d mL_law (n + 1) 1426 L st h Q = (match ld L 0 with | some (.inr (.inr (r + 1))) => G sp sc [23] d mL_law n 1427 L (.inr (.inr (r + 1)) :: st) h Q | _ => False)) ∧
  (∀ (n d : Nat) (L : List (Option iV)) (st : List iV) (h : iH) (Q : Option iV → iH → Prop), G sp sc [23] d mL_law (n + 1) 1427 L st h Q = (match ld L 4 with | some (.inl x) => G sp sc [23] d mL_law n 1429 L (.inl x :: st) h Q | _ => False)) ∧
  (∀ (n d : Nat) (L : List (Option iV)) (st : List iV) (h : iH) (Q : Option iV → iH → Prop), G sp sc [23] d mL_law (n + 1) 1429 L st h Q = G sp sc [23] d mL_law n 1430 L (.inl 4 :: st) h Q) ∧
  (∀ (n d : Nat) (L : List (Option iV)) (a : Int) (b : Int) (r : List iV) (h : iH) (Q : Option iV → iH → Prop), G sp sc [23] d mL_law (n + 1) 1430 L (.inl b :: .inl a :: r) h Q = G sp sc [23] d mL_law n 1431 L (.inl (a + b) :: r) h Q) ∧
  (∀ (n d : Nat) (L : List (Option iV)) (r : List iV) (j : Int) (h : iH) (Q : Option iV → iH → Prop), G sp sc [23] d mL_law (n + 1) 1431 L (.inl j :: .inr (.inr 1) :: r) h Q = (inA j sc.length = true ∧ G sp sc [23] d mL_law n 1432 L (.inl (sc.getD j.toNat 0) :: r) h Q)) ∧
  (∀ (n d : Nat) (L : List (Option iV)) (r : List iV) (j : Int) (m : Nat) (h : iH) (Q : Option iV → iH → Prop), G sp sc [23] d mL_law (n + 1) 1431 L (.inl j :: .inr (.inr (m + 2)) :: r) h Q = (match h.1[m]? with | some (.inr (.inl (0, xs))) => inA j xs.length = true ∧ G sp sc [23] d mL_law n 1432 L (.inl (xs.getD j.toNat 0) :: r) h Q | _ => False)) ∧
  (∀ (n d : Nat) (L : List (Option iV)) (r : List iV) (m : Nat) (z0 : iV) (z1 : iV) (z2 : iV) (z3 : iV) (h : iH) (Q : Option iV → iH → Prop), G sp sc [23] (d + 1) mL_law (n + 1) 1432 L (z3 :: z2 :: z1 :: z0 :: .inr (.inr (m + 2)) :: r) h Q = (match h.1[m]? with | some (.inl (ci, _)) => (match lkC 13 153 ci with | some (y1, n1, kd) => (n1 = 4 ∧ (kd = 2 ∨ kd = 3 ∨ kd = 8) ∧ cs r ≤ 8) ∧ Call sp sc d y1 [.inr (.inr (m + 2)), z0, z1, z2, z3] h (fun q h1 => GC sp sc [23] (d + 1) mL_law n 1435 L q r h h1 Q) | none => False) | _ => False)) ∧
  (∀ (n d : Nat) (L : List (Option iV)) (a : Int) (b : Int) (r : List iV) (h : iH) (Q : Option iV → iH → Prop), G sp sc [23] d mL_law (n + 1) 1435 L (.inl b :: .inl a :: r) h Q = ((inI a = true ∧ inI b = true) ∧ (a = b → G sp sc [23] d mL_law n 1950 L r h Q) ∧ (¬ (a = b) → G sp sc [23] d mL_law n 1438 L r h Q))) ∧
  (∀ (n d : Nat) (L : List (Option iV)) (st : List iV) (h : iH) (Q : Option iV → iH → Prop), G sp sc [23] d mL_law (n + 1) 1438 L st h Q = G sp sc [23] d mL_law n 1439 L (.inl 0 :: st) h Q) ∧
  (∀ (n d : Nat) (L : List (Option iV)) (a : Int) (h : iH) (Q : Option iV → iH → Prop), G sp sc [23] d mL_law (n + 1) 1439 L [.inl a] h Q = ((a = 0 ∨ a = 1) ∧ Q (some (.inl a)) h)) := ⟨by intros; exact G_at (by decide +kernel : fetch mL_law 1379 = some (.aload_n 1)),
  by intros; exact G_at (by decide +kernel : fetch mL_law 1380 = some (.aload_n 0)),
  by intros; exact G_at (by decide +kernel : fetch mL_law 1381 = some (.iload 4)),
  by intros; exact G_at (by decide +kernel : fetch mL_law 1383 = some (.iconst 1)),
  by intros; exact G_at (by decide +kernel : fetch mL_law 1384 = some (.iadd)),
  by intros; exact G_at (by decide +kernel : fetch mL_law 1385 = some (.iaload)),
  by intros; exact G_at (by decide +kernel : fetch mL_law 1385 = some (.iaload)),
  by intros; exact G_at (by decide +kernel : fetch mL_law 1386 = some (.aload_n 0)),
  by intros; exact G_at (by decide +kernel : fetch mL_law 1387 = some (.iload 4)),
  by intros; exact G_at (by decide +kernel : fetch mL_law 1389 = some (.iconst 2)),
  by intros; exact G_at (by decide +kernel : fetch mL_law 1390 = some (.iadd)),
  by intros; exact G_at (by decide +kernel : fetch mL_law 1391 = some (.iaload)),
  by intros; exact G_at (by decide +kernel : fetch mL_law 1391 = some (.iaload)),
  by intros; exact G_at (by decide +kernel : fetch mL_law 1392 = some (.aload_n 0)),
  by intros; exact G_at (by decide +kernel : fetch mL_law 1393 = some (.iload 4)),
  by intros; exact G_at (by decide +kernel : fetch mL_law 1395 = some (.iconst 3)),
  by intros; exact G_at (by decide +kernel : fetch mL_law 1396 = some (.iadd)),
  by intros; exact G_at (by decide +kernel : fetch mL_law 1397 = some (.iaload)),
  by intros; exact G_at (by decide +kernel : fetch mL_law 1397 = some (.iaload)),
  by intros; exact G_at (by decide +kernel : fetch mL_law 1398 = some (.aload_n 0)),
  by intros; exact G_at (by decide +kernel : fetch mL_law 1399 = some (.iload 4)),
  by intros; exact G_at (by decide +kernel : fetch mL_law 1401 = some (.iconst 4)),
  by intros; exact G_at (by decide +kernel : fetch mL_law 1402 = some (.iadd)),
  by intros; exact G_at (by decide +kernel : fetch mL_law 1403 = some (.iaload)),
  by intros; exact G_at (by decide +kernel : fetch mL_law 1403 = some (.iaload)),
  by intros; exact G_callV (by decide +kernel : fetch mL_law 1404 = some (.invokevirtual 150)) (by decide +kernel) (by decide +kernel) rfl,
  by intros; exact G_at (by decide +kernel : fetch mL_law 1407 = some (.aload_n 2)),
  by intros; exact G_at (by decide +kernel : fetch mL_law 1408 = some (.aload_n 0)),
  by intros; exact G_at (by decide +kernel : fetch mL_law 1409 = some (.iload 4)),
  by intros; exact G_at (by decide +kernel : fetch mL_law 1411 = some (.iconst 1)),
  by intros; exact G_at (by decide +kernel : fetch mL_law 1412 = some (.iadd)),
  by intros; exact G_at (by decide +kernel : fetch mL_law 1413 = some (.iaload)),
  by intros; exact G_at (by decide +kernel : fetch mL_law 1413 = some (.iaload)),
  by intros; exact G_at (by decide +kernel : fetch mL_law 1414 = some (.aload_n 0)),
  by intros; exact G_at (by decide +kernel : fetch mL_law 1415 = some (.iload 4)),
  by intros; exact G_at (by decide +kernel : fetch mL_law 1417 = some (.iconst 2)),
  by intros; exact G_at (by decide +kernel : fetch mL_law 1418 = some (.iadd)),
  by intros; exact G_at (by decide +kernel : fetch mL_law 1419 = some (.iaload)),
  by intros; exact G_at (by decide +kernel : fetch mL_law 1419 = some (.iaload)),
  by intros; exact G_at (by decide +kernel : fetch mL_law 1420 = some (.aload_n 0)),
  by intros; exact G_at (by decide +kernel : fetch mL_law 1421 = some (.iload 4)),
  by intros; exact G_at (by decide +kernel : fetch mL_law 1423 = some (.iconst 3)),
  by intros; exact G_at (by decide +kernel : fetch mL_law 1424 = some (.iadd)),
  by intros; exact G_at (by decide +kernel : fetch mL_law 1425 = some (.iaload)),
  by intros; exact G_at (by decide +kernel : fetch mL_law 1425 = some (.iaload)),
  by intros; exact G_at (by decide +kernel : fetch mL_law 1426 = some (.aload_n 0)),
  by intros; exact G_at (by decide +kernel : fetch mL_law 1427 = some (.iload 4)),
  by intros; exact G_at (by decide +kernel : fetch mL_law 1429 = some (.iconst 4)),
  by intros; exact G_at (by decide +kernel : fetch mL_law 1430 = some (.iadd)),
  by intros; exact G_at (by decide +kernel : fetch mL_law 1431 = some (.iaload)),
  by intros; exact G_at (by decide +kernel : fetch mL_law 1431 = some (.iaload)),
  by intros; exact G_callV (by decide +kernel : fetch mL_law 1432 = some (.invokevirtual 153)) (by decide +kernel) (by decide +kernel) rfl,
  by intros; exact G_at (by decide +kernel : fetch mL_law 1435 = some (.if_icmp .eq 515)),
  by intros; exact G_at (by decide +kernel : fetch mL_law 1438 = some (.iconst 0)),
  by intros; exact G_retz (by decide +kernel : fetch mL_law 1439 = some (.ireturn)) (by decide +kernel)⟩
theorem gL_c32 : (∀ (n d : Nat) (L : List (Option iV)) (st : List iV) (h : iH) (Q : Option iV → iH → Prop), G sp sc [23] d mL_law (n + 1) 1440 L st h Q = (match ld L 1 with | some (.inr (.inr (r + 1))) => G sp sc [23] d mL_law n 1441 L (.inr (.inr (r + 1)) :: st) h Q | _ => False)) ∧
  (∀ (n d : Nat) (L : List (Option iV)) (st : List iV) (h : iH) (Q : Option iV → iH → Prop), G sp sc [23] d mL_law (n + 1) 1441 L st h Q = (match ld L 0 with | some (.inr (.inr (r + 1))) => G sp sc [23] d mL_law n 1442 L (.inr (.inr (r + 1)) :: st) h Q | _ => False)) ∧
  (∀ (n d : Nat) (L : List (Option iV)) (st : List iV) (h : iH) (Q : Option iV → iH → Prop), G sp sc [23] d mL_law (n + 1) 1442 L st h Q = (match ld L 4 with | some (.inl x) => G sp sc [23] d mL_law n 1444 L (.inl x :: st) h Q | _ => False)) ∧
  (∀ (n d : Nat) (L : List (Option iV)) (st : List iV) (h : iH) (Q : Option iV → iH → Prop), G sp sc [23] d mL_law (n + 1) 1444 L st h Q = G sp sc [23] d mL_law n 1445 L (.inl 1 :: st) h Q) ∧
  (∀ (n d : Nat) (L : List (Option iV)) (a : Int) (b : Int) (r : List iV) (h : iH) (Q : Option iV → iH → Prop), G sp sc [23] d mL_law (n + 1) 1445 L (.inl b :: .inl a :: r) h Q = G sp sc [23] d mL_law n 1446 L (.inl (a + b) :: r) h Q) ∧
  (∀ (n d : Nat) (L : List (Option iV)) (r : List iV) (j : Int) (h : iH) (Q : Option iV → iH → Prop), G sp sc [23] d mL_law (n + 1) 1446 L (.inl j :: .inr (.inr 1) :: r) h Q = (inA j sc.length = true ∧ G sp sc [23] d mL_law n 1447 L (.inl (sc.getD j.toNat 0) :: r) h Q)) ∧
  (∀ (n d : Nat) (L : List (Option iV)) (r : List iV) (j : Int) (m : Nat) (h : iH) (Q : Option iV → iH → Prop), G sp sc [23] d mL_law (n + 1) 1446 L (.inl j :: .inr (.inr (m + 2)) :: r) h Q = (match h.1[m]? with | some (.inr (.inl (0, xs))) => inA j xs.length = true ∧ G sp sc [23] d mL_law n 1447 L (.inl (xs.getD j.toNat 0) :: r) h Q | _ => False)) ∧
  (∀ (n d : Nat) (L : List (Option iV)) (st : List iV) (h : iH) (Q : Option iV → iH → Prop), G sp sc [23] d mL_law (n + 1) 1447 L st h Q = (match ld L 0 with | some (.inr (.inr (r + 1))) => G sp sc [23] d mL_law n 1448 L (.inr (.inr (r + 1)) :: st) h Q | _ => False)) ∧
  (∀ (n d : Nat) (L : List (Option iV)) (st : List iV) (h : iH) (Q : Option iV → iH → Prop), G sp sc [23] d mL_law (n + 1) 1448 L st h Q = (match ld L 4 with | some (.inl x) => G sp sc [23] d mL_law n 1450 L (.inl x :: st) h Q | _ => False)) ∧
  (∀ (n d : Nat) (L : List (Option iV)) (st : List iV) (h : iH) (Q : Option iV → iH → Prop), G sp sc [23] d mL_law (n + 1) 1450 L st h Q = G sp sc [23] d mL_law n 1451 L (.inl 2 :: st) h Q) ∧
  (∀ (n d : Nat) (L : List (Option iV)) (a : Int) (b : Int) (r : List iV) (h : iH) (Q : Option iV → iH → Prop), G sp sc [23] d mL_law (n + 1) 1451 L (.inl b :: .inl a :: r) h Q = G sp sc [23] d mL_law n 1452 L (.inl (a + b) :: r) h Q) ∧
  (∀ (n d : Nat) (L : List (Option iV)) (r : List iV) (j : Int) (h : iH) (Q : Option iV → iH → Prop), G sp sc [23] d mL_law (n + 1) 1452 L (.inl j :: .inr (.inr 1) :: r) h Q = (inA j sc.length = true ∧ G sp sc [23] d mL_law n 1453 L (.inl (sc.getD j.toNat 0) :: r) h Q)) ∧
  (∀ (n d : Nat) (L : List (Option iV)) (r : List iV) (j : Int) (m : Nat) (h : iH) (Q : Option iV → iH → Prop), G sp sc [23] d mL_law (n + 1) 1452 L (.inl j :: .inr (.inr (m + 2)) :: r) h Q = (match h.1[m]? with | some (.inr (.inl (0, xs))) => inA j xs.length = true ∧ G sp sc [23] d mL_law n 1453 L (.inl (xs.getD j.toNat 0) :: r) h Q | _ => False)) ∧
  (∀ (n d : Nat) (L : List (Option iV)) (st : List iV) (h : iH) (Q : Option iV → iH → Prop), G sp sc [23] d mL_law (n + 1) 1453 L st h Q = (match ld L 0 with | some (.inr (.inr (r + 1))) => G sp sc [23] d mL_law n 1454 L (.inr (.inr (r + 1)) :: st) h Q | _ => False)) ∧
  (∀ (n d : Nat) (L : List (Option iV)) (st : List iV) (h : iH) (Q : Option iV → iH → Prop), G sp sc [23] d mL_law (n + 1) 1454 L st h Q = (match ld L 4 with | some (.inl x) => G sp sc [23] d mL_law n 1456 L (.inl x :: st) h Q | _ => False)) ∧
  (∀ (n d : Nat) (L : List (Option iV)) (st : List iV) (h : iH) (Q : Option iV → iH → Prop), G sp sc [23] d mL_law (n + 1) 1456 L st h Q = G sp sc [23] d mL_law n 1457 L (.inl 3 :: st) h Q) ∧
  (∀ (n d : Nat) (L : List (Option iV)) (a : Int) (b : Int) (r : List iV) (h : iH) (Q : Option iV → iH → Prop), G sp sc [23] d mL_law (n + 1) 1457 L (.inl b :: .inl a :: r) h Q = G sp sc [23] d mL_law n 1458 L (.inl (a + b) :: r) h Q) ∧
  (∀ (n d : Nat) (L : List (Option iV)) (r : List iV) (j : Int) (h : iH) (Q : Option iV → iH → Prop), G sp sc [23] d mL_law (n + 1) 1458 L (.inl j :: .inr (.inr 1) :: r) h Q = (inA j sc.length = true ∧ G sp sc [23] d mL_law n 1459 L (.inl (sc.getD j.toNat 0) :: r) h Q)) ∧
  (∀ (n d : Nat) (L : List (Option iV)) (r : List iV) (j : Int) (m : Nat) (h : iH) (Q : Option iV → iH → Prop), G sp sc [23] d mL_law (n + 1) 1458 L (.inl j :: .inr (.inr (m + 2)) :: r) h Q = (match h.1[m]? with | some (.inr (.inl (0, xs))) => inA j xs.length = true ∧ G sp sc [23] d mL_law n 1459 L (.inl (xs.getD j.toNat 0) :: r) h Q | _ => False)) ∧
  (∀ (n d : Nat) (L : List (Option iV)) (st : List iV) (h : iH) (Q : Option iV → iH → Prop), G sp sc [23] d mL_law (n + 1) 1459 L st h Q = (match ld L 0 with | some (.inr (.inr (r + 1))) => G sp sc [23] d mL_law n 1460 L (.inr (.inr (r + 1)) :: st) h Q | _ => False)) ∧
  (∀ (n d : Nat) (L : List (Option iV)) (st : List iV) (h : iH) (Q : Option iV → iH → Prop), G sp sc [23] d mL_law (n + 1) 1460 L st h Q = (match ld L 4 with | some (.inl x) => G sp sc [23] d mL_law n 1462 L (.inl x :: st) h Q | _ => False)) ∧
  (∀ (n d : Nat) (L : List (Option iV)) (st : List iV) (h : iH) (Q : Option iV → iH → Prop), G sp sc [23] d mL_law (n + 1) 1462 L st h Q = G sp sc [23] d mL_law n 1463 L (.inl 4 :: st) h Q) ∧
  (∀ (n d : Nat) (L : List (Option iV)) (a : Int) (b : Int) (r : List iV) (h : iH) (Q : Option iV → iH → Prop), G sp sc [23] d mL_law (n + 1) 1463 L (.inl b :: .inl a :: r) h Q = G sp sc [23] d mL_law n 1464 L (.inl (a + b) :: r) h Q) ∧
  (∀ (n d : Nat) (L : List (Option iV)) (r : List iV) (j : Int) (h : iH) (Q : Option iV → iH → Prop), G sp sc [23] d mL_law (n + 1) 1464 L (.inl j :: .inr (.inr 1) :: r) h Q = (inA j sc.length = true ∧ G sp sc [23] d mL_law n 1465 L (.inl (sc.getD j.toNat 0) :: r) h Q)) ∧
  (∀ (n d : Nat) (L : List (Option iV)) (r : List iV) (j : Int) (m : Nat) (h : iH) (Q : Option iV → iH → Prop), G sp sc [23] d mL_law (n + 1) 1464 L (.inl j :: .inr (.inr (m + 2)) :: r) h Q = (match h.1[m]? with | some (.inr (.inl (0, xs))) => inA j xs.length = true ∧ G sp sc [23] d mL_law n 1465 L (.inl (xs.getD j.toNat 0) :: r) h Q | _ => False)) ∧
  (∀ (n d : Nat) (L : List (Option iV)) (r : List iV) (m : Nat) (z0 : iV) (z1 : iV) (z2 : iV) (z3 : iV) (h : iH) (Q : Option iV → iH → Prop), G sp sc [23] (d + 1) mL_law (n + 1) 1465 L (z3 :: z2 :: z1 :: z0 :: .inr (.inr (m + 2)) :: r) h Q = (match h.1[m]? with | some (.inl (ci, _)) => (match lkC 13 154 ci with | some (y1, n1, kd) => (n1 = 4 ∧ (kd = 2 ∨ kd = 3 ∨ kd = 8) ∧ cs r ≤ 8) ∧ Call sp sc d y1 [.inr (.inr (m + 2)), z0, z1, z2, z3] h (fun q h1 => GC sp sc [23] (d + 1) mL_law n 1468 L q r h h1 Q) | none => False) | _ => False)) ∧
  (∀ (n d : Nat) (L : List (Option iV)) (st : List iV) (h : iH) (Q : Option iV → iH → Prop), G sp sc [23] d mL_law (n + 1) 1468 L st h Q = (match ld L 2 with | some (.inr (.inr (r + 1))) => G sp sc [23] d mL_law n 1469 L (.inr (.inr (r + 1)) :: st) h Q | _ => False)) ∧
  (∀ (n d : Nat) (L : List (Option iV)) (st : List iV) (h : iH) (Q : Option iV → iH → Prop), G sp sc [23] d mL_law (n + 1) 1469 L st h Q = (match ld L 0 with | some (.inr (.inr (r + 1))) => G sp sc [23] d mL_law n 1470 L (.inr (.inr (r + 1)) :: st) h Q | _ => False)) ∧
  (∀ (n d : Nat) (L : List (Option iV)) (st : List iV) (h : iH) (Q : Option iV → iH → Prop), G sp sc [23] d mL_law (n + 1) 1470 L st h Q = (match ld L 4 with | some (.inl x) => G sp sc [23] d mL_law n 1472 L (.inl x :: st) h Q | _ => False)) ∧
  (∀ (n d : Nat) (L : List (Option iV)) (st : List iV) (h : iH) (Q : Option iV → iH → Prop), G sp sc [23] d mL_law (n + 1) 1472 L st h Q = G sp sc [23] d mL_law n 1473 L (.inl 1 :: st) h Q) ∧
  (∀ (n d : Nat) (L : List (Option iV)) (a : Int) (b : Int) (r : List iV) (h : iH) (Q : Option iV → iH → Prop), G sp sc [23] d mL_law (n + 1) 1473 L (.inl b :: .inl a :: r) h Q = G sp sc [23] d mL_law n 1474 L (.inl (a + b) :: r) h Q) ∧
  (∀ (n d : Nat) (L : List (Option iV)) (r : List iV) (j : Int) (h : iH) (Q : Option iV → iH → Prop), G sp sc [23] d mL_law (n + 1) 1474 L (.inl j :: .inr (.inr 1) :: r) h Q = (inA j sc.length = true ∧ G sp sc [23] d mL_law n 1475 L (.inl (sc.getD j.toNat 0) :: r) h Q)) ∧
  (∀ (n d : Nat) (L : List (Option iV)) (r : List iV) (j : Int) (m : Nat) (h : iH) (Q : Option iV → iH → Prop), G sp sc [23] d mL_law (n + 1) 1474 L (.inl j :: .inr (.inr (m + 2)) :: r) h Q = (match h.1[m]? with | some (.inr (.inl (0, xs))) => inA j xs.length = true ∧ G sp sc [23] d mL_law n 1475 L (.inl (xs.getD j.toNat 0) :: r) h Q | _ => False)) ∧
  (∀ (n d : Nat) (L : List (Option iV)) (st : List iV) (h : iH) (Q : Option iV → iH → Prop), G sp sc [23] d mL_law (n + 1) 1475 L st h Q = (match ld L 0 with | some (.inr (.inr (r + 1))) => G sp sc [23] d mL_law n 1476 L (.inr (.inr (r + 1)) :: st) h Q | _ => False)) ∧
  (∀ (n d : Nat) (L : List (Option iV)) (st : List iV) (h : iH) (Q : Option iV → iH → Prop), G sp sc [23] d mL_law (n + 1) 1476 L st h Q = (match ld L 4 with | some (.inl x) => G sp sc [23] d mL_law n 1478 L (.inl x :: st) h Q | _ => False)) ∧
  (∀ (n d : Nat) (L : List (Option iV)) (st : List iV) (h : iH) (Q : Option iV → iH → Prop), G sp sc [23] d mL_law (n + 1) 1478 L st h Q = G sp sc [23] d mL_law n 1479 L (.inl 2 :: st) h Q) ∧
  (∀ (n d : Nat) (L : List (Option iV)) (a : Int) (b : Int) (r : List iV) (h : iH) (Q : Option iV → iH → Prop), G sp sc [23] d mL_law (n + 1) 1479 L (.inl b :: .inl a :: r) h Q = G sp sc [23] d mL_law n 1480 L (.inl (a + b) :: r) h Q) ∧
  (∀ (n d : Nat) (L : List (Option iV)) (r : List iV) (j : Int) (h : iH) (Q : Option iV → iH → Prop), G sp sc [23] d mL_law (n + 1) 1480 L (.inl j :: .inr (.inr 1) :: r) h Q = (inA j sc.length = true ∧ G sp sc [23] d mL_law n 1481 L (.inl (sc.getD j.toNat 0) :: r) h Q)) ∧
  (∀ (n d : Nat) (L : List (Option iV)) (r : List iV) (j : Int) (m : Nat) (h : iH) (Q : Option iV → iH → Prop), G sp sc [23] d mL_law (n + 1) 1480 L (.inl j :: .inr (.inr (m + 2)) :: r) h Q = (match h.1[m]? with | some (.inr (.inl (0, xs))) => inA j xs.length = true ∧ G sp sc [23] d mL_law n 1481 L (.inl (xs.getD j.toNat 0) :: r) h Q | _ => False)) ∧
  (∀ (n d : Nat) (L : List (Option iV)) (st : List iV) (h : iH) (Q : Option iV → iH → Prop), G sp sc [23] d mL_law (n + 1) 1481 L st h Q = (match ld L 0 with | some (.inr (.inr (r + 1))) => G sp sc [23] d mL_law n 1482 L (.inr (.inr (r + 1)) :: st) h Q | _ => False)) ∧
  (∀ (n d : Nat) (L : List (Option iV)) (st : List iV) (h : iH) (Q : Option iV → iH → Prop), G sp sc [23] d mL_law (n + 1) 1482 L st h Q = (match ld L 4 with | some (.inl x) => G sp sc [23] d mL_law n 1484 L (.inl x :: st) h Q | _ => False)) ∧
  (∀ (n d : Nat) (L : List (Option iV)) (st : List iV) (h : iH) (Q : Option iV → iH → Prop), G sp sc [23] d mL_law (n + 1) 1484 L st h Q = G sp sc [23] d mL_law n 1485 L (.inl 3 :: st) h Q) ∧
  (∀ (n d : Nat) (L : List (Option iV)) (a : Int) (b : Int) (r : List iV) (h : iH) (Q : Option iV → iH → Prop), G sp sc [23] d mL_law (n + 1) 1485 L (.inl b :: .inl a :: r) h Q = G sp sc [23] d mL_law n 1486 L (.inl (a + b) :: r) h Q) ∧
  (∀ (n d : Nat) (L : List (Option iV)) (r : List iV) (j : Int) (h : iH) (Q : Option iV → iH → Prop), G sp sc [23] d mL_law (n + 1) 1486 L (.inl j :: .inr (.inr 1) :: r) h Q = (inA j sc.length = true ∧ G sp sc [23] d mL_law n 1487 L (.inl (sc.getD j.toNat 0) :: r) h Q)) ∧
  (∀ (n d : Nat) (L : List (Option iV)) (r : List iV) (j : Int) (m : Nat) (h : iH) (Q : Option iV → iH → Prop), G sp sc [23] d mL_law (n + 1) 1486 L (.inl j :: .inr (.inr (m + 2)) :: r) h Q = (match h.1[m]? with | some (.inr (.inl (0, xs))) => inA j xs.length = true ∧ G sp sc [23] d mL_law n 1487 L (.inl (xs.getD j.toNat 0) :: r) h Q | _ => False)) ∧
  (∀ (n d : Nat) (L : List (Option iV)) (st : List iV) (h : iH) (Q : Option iV → iH → Prop), G sp sc [23] d mL_law (n + 1) 1487 L st h Q = (match ld L 0 with | some (.inr (.inr (r + 1))) => G sp sc [23] d mL_law n 1488 L (.inr (.inr (r + 1)) :: st) h Q | _ => False)) ∧
  (∀ (n d : Nat) (L : List (Option iV)) (st : List iV) (h : iH) (Q : Option iV → iH → Prop), G sp sc [23] d mL_law (n + 1) 1488 L st h Q = (match ld L 4 with | some (.inl x) => G sp sc [23] d mL_law n 1490 L (.inl x :: st) h Q | _ => False)) ∧
  (∀ (n d : Nat) (L : List (Option iV)) (st : List iV) (h : iH) (Q : Option iV → iH → Prop), G sp sc [23] d mL_law (n + 1) 1490 L st h Q = G sp sc [23] d mL_law n 1491 L (.inl 4 :: st) h Q) ∧
  (∀ (n d : Nat) (L : List (Option iV)) (a : Int) (b : Int) (r : List iV) (h : iH) (Q : Option iV → iH → Prop), G sp sc [23] d mL_law (n + 1) 1491 L (.inl b :: .inl a :: r) h Q = G sp sc [23] d mL_law n 1492 L (.inl (a + b) :: r) h Q) ∧
  (∀ (n d : Nat) (L : List (Option iV)) (r : List iV) (j : Int) (h : iH) (Q : Option iV → iH → Prop), G sp sc [23] d mL_law (n + 1) 1492 L (.inl j :: .inr (.inr 1) :: r) h Q = (inA j sc.length = true ∧ G sp sc [23] d mL_law n 1493 L (.inl (sc.getD j.toNat 0) :: r) h Q)) ∧
  (∀ (n d : Nat) (L : List (Option iV)) (r : List iV) (j : Int) (m : Nat) (h : iH) (Q : Option iV → iH → Prop), G sp sc [23] d mL_law (n + 1) 1492 L (.inl j :: .inr (.inr (m + 2)) :: r) h Q = (match h.1[m]? with | some (.inr (.inl (0, xs))) => inA j xs.length = true ∧ G sp sc [23] d mL_law n 1493 L (.inl (xs.getD j.toNat 0) :: r) h Q | _ => False)) ∧
  (∀ (n d : Nat) (L : List (Option iV)) (r : List iV) (m : Nat) (z0 : iV) (z1 : iV) (z2 : iV) (z3 : iV) (h : iH) (Q : Option iV → iH → Prop), G sp sc [23] (d + 1) mL_law (n + 1) 1493 L (z3 :: z2 :: z1 :: z0 :: .inr (.inr (m + 2)) :: r) h Q = (match h.1[m]? with | some (.inl (ci, _)) => (match lkC 13 157 ci with | some (y1, n1, kd) => (n1 = 4 ∧ (kd = 2 ∨ kd = 3 ∨ kd = 8) ∧ cs r ≤ 8) ∧ Call sp sc d y1 [.inr (.inr (m + 2)), z0, z1, z2, z3] h (fun q h1 => GC sp sc [23] (d + 1) mL_law n 1496 L q r h h1 Q) | none => False) | _ => False)) ∧
  (∀ (n d : Nat) (L : List (Option iV)) (a : Int) (b : Int) (r : List iV) (h : iH) (Q : Option iV → iH → Prop), G sp sc [23] d mL_law (n + 1) 1496 L (.inl b :: .inl a :: r) h Q = ((inI a = true ∧ inI b = true) ∧ (a = b → G sp sc [23] d mL_law n 1950 L r h Q) ∧ (¬ (a = b) → G sp sc [23] d mL_law n 1499 L r h Q))) ∧
  (∀ (n d : Nat) (L : List (Option iV)) (st : List iV) (h : iH) (Q : Option iV → iH → Prop), G sp sc [23] d mL_law (n + 1) 1499 L st h Q = G sp sc [23] d mL_law n 1500 L (.inl 0 :: st) h Q) ∧
  (∀ (n d : Nat) (L : List (Option iV)) (a : Int) (h : iH) (Q : Option iV → iH → Prop), G sp sc [23] d mL_law (n + 1) 1500 L [.inl a] h Q = ((a = 0 ∨ a = 1) ∧ Q (some (.inl a)) h)) := ⟨by intros; exact G_at (by decide +kernel : fetch mL_law 1440 = some (.aload_n 1)),
  by intros; exact G_at (by decide +kernel : fetch mL_law 1441 = some (.aload_n 0)),
  by intros; exact G_at (by decide +kernel : fetch mL_law 1442 = some (.iload 4)),
  by intros; exact G_at (by decide +kernel : fetch mL_law 1444 = some (.iconst 1)),
  by intros; exact G_at (by decide +kernel : fetch mL_law 1445 = some (.iadd)),
  by intros; exact G_at (by decide +kernel : fetch mL_law 1446 = some (.iaload)),
  by intros; exact G_at (by decide +kernel : fetch mL_law 1446 = some (.iaload)),
  by intros; exact G_at (by decide +kernel : fetch mL_law 1447 = some (.aload_n 0)),
  by intros; exact G_at (by decide +kernel : fetch mL_law 1448 = some (.iload 4)),
  by intros; exact G_at (by decide +kernel : fetch mL_law 1450 = some (.iconst 2)),
  by intros; exact G_at (by decide +kernel : fetch mL_law 1451 = some (.iadd)),
  by intros; exact G_at (by decide +kernel : fetch mL_law 1452 = some (.iaload)),
  by intros; exact G_at (by decide +kernel : fetch mL_law 1452 = some (.iaload)),
  by intros; exact G_at (by decide +kernel : fetch mL_law 1453 = some (.aload_n 0)),
  by intros; exact G_at (by decide +kernel : fetch mL_law 1454 = some (.iload 4)),
  by intros; exact G_at (by decide +kernel : fetch mL_law 1456 = some (.iconst 3)),
  by intros; exact G_at (by decide +kernel : fetch mL_law 1457 = some (.iadd)),
  by intros; exact G_at (by decide +kernel : fetch mL_law 1458 = some (.iaload)),
  by intros; exact G_at (by decide +kernel : fetch mL_law 1458 = some (.iaload)),
  by intros; exact G_at (by decide +kernel : fetch mL_law 1459 = some (.aload_n 0)),
  by intros; exact G_at (by decide +kernel : fetch mL_law 1460 = some (.iload 4)),
  by intros; exact G_at (by decide +kernel : fetch mL_law 1462 = some (.iconst 4)),
  by intros; exact G_at (by decide +kernel : fetch mL_law 1463 = some (.iadd)),
  by intros; exact G_at (by decide +kernel : fetch mL_law 1464 = some (.iaload)),
  by intros; exact G_at (by decide +kernel : fetch mL_law 1464 = some (.iaload)),
  by intros; exact G_callV (by decide +kernel : fetch mL_law 1465 = some (.invokevirtual 154)) (by decide +kernel) (by decide +kernel) rfl,
  by intros; exact G_at (by decide +kernel : fetch mL_law 1468 = some (.aload_n 2)),
  by intros; exact G_at (by decide +kernel : fetch mL_law 1469 = some (.aload_n 0)),
  by intros; exact G_at (by decide +kernel : fetch mL_law 1470 = some (.iload 4)),
  by intros; exact G_at (by decide +kernel : fetch mL_law 1472 = some (.iconst 1)),
  by intros; exact G_at (by decide +kernel : fetch mL_law 1473 = some (.iadd)),
  by intros; exact G_at (by decide +kernel : fetch mL_law 1474 = some (.iaload)),
  by intros; exact G_at (by decide +kernel : fetch mL_law 1474 = some (.iaload)),
  by intros; exact G_at (by decide +kernel : fetch mL_law 1475 = some (.aload_n 0)),
  by intros; exact G_at (by decide +kernel : fetch mL_law 1476 = some (.iload 4)),
  by intros; exact G_at (by decide +kernel : fetch mL_law 1478 = some (.iconst 2)),
  by intros; exact G_at (by decide +kernel : fetch mL_law 1479 = some (.iadd)),
  by intros; exact G_at (by decide +kernel : fetch mL_law 1480 = some (.iaload)),
  by intros; exact G_at (by decide +kernel : fetch mL_law 1480 = some (.iaload)),
  by intros; exact G_at (by decide +kernel : fetch mL_law 1481 = some (.aload_n 0)),
  by intros; exact G_at (by decide +kernel : fetch mL_law 1482 = some (.iload 4)),
  by intros; exact G_at (by decide +kernel : fetch mL_law 1484 = some (.iconst 3)),
  by intros; exact G_at (by decide +kernel : fetch mL_law 1485 = some (.iadd)),
  by intros; exact G_at (by decide +kernel : fetch mL_law 1486 = some (.iaload)),
  by intros; exact G_at (by decide +kernel : fetch mL_law 1486 = some (.iaload)),
  by intros; exact G_at (by decide +kernel : fetch mL_law 1487 = some (.aload_n 0)),
  by intros; exact G_at (by decide +kernel : fetch mL_law 1488 = some (.iload 4)),
  by intros; exact G_at (by decide +kernel : fetch mL_law 1490 = some (.iconst 4)),
  by intros; exact G_at (by decide +kernel : fetch mL_law 1491 = some (.iadd)),
  by intros; exact G_at (by decide +kernel : fetch mL_law 1492 = some (.iaload)),
  by intros; exact G_at (by decide +kernel : fetch mL_law 1492 = some (.iaload)),
  by intros; exact G_callV (by decide +kernel : fetch mL_law 1493 = some (.invokevirtual 157)) (by decide +kernel) (by decide +kernel) rfl,
  by intros; exact G_at (by decide +kernel : fetch mL_law 1496 = some (.if_icmp .eq 454)),
  by intros; exact G_at (by decide +kernel : fetch mL_law 1499 = some (.iconst 0)),
  by intros; exact G_retz (by decide +kernel : fetch mL_law 1500 = some (.ireturn)) (by decide +kernel)⟩
theorem gL_c33 : (∀ (n d : Nat) (L : List (Option iV)) (st : List iV) (h : iH) (Q : Option iV → iH → Prop), G sp sc [23] d mL_law (n + 1) 1501 L st h Q = (match ld L 1 with | some (.inr (.inr (r + 1))) => G sp sc [23] d mL_law n 1502 L (.inr (.inr (r + 1)) :: st) h Q | _ => False)) ∧
  (∀ (n d : Nat) (L : List (Option iV)) (st : List iV) (h : iH) (Q : Option iV → iH → Prop), G sp sc [23] d mL_law (n + 1) 1502 L st h Q = (match ld L 0 with | some (.inr (.inr (r + 1))) => G sp sc [23] d mL_law n 1503 L (.inr (.inr (r + 1)) :: st) h Q | _ => False)) ∧
  (∀ (n d : Nat) (L : List (Option iV)) (st : List iV) (h : iH) (Q : Option iV → iH → Prop), G sp sc [23] d mL_law (n + 1) 1503 L st h Q = (match ld L 4 with | some (.inl x) => G sp sc [23] d mL_law n 1505 L (.inl x :: st) h Q | _ => False)) ∧
  (∀ (n d : Nat) (L : List (Option iV)) (st : List iV) (h : iH) (Q : Option iV → iH → Prop), G sp sc [23] d mL_law (n + 1) 1505 L st h Q = G sp sc [23] d mL_law n 1506 L (.inl 1 :: st) h Q) ∧
  (∀ (n d : Nat) (L : List (Option iV)) (a : Int) (b : Int) (r : List iV) (h : iH) (Q : Option iV → iH → Prop), G sp sc [23] d mL_law (n + 1) 1506 L (.inl b :: .inl a :: r) h Q = G sp sc [23] d mL_law n 1507 L (.inl (a + b) :: r) h Q) ∧
  (∀ (n d : Nat) (L : List (Option iV)) (r : List iV) (j : Int) (h : iH) (Q : Option iV → iH → Prop), G sp sc [23] d mL_law (n + 1) 1507 L (.inl j :: .inr (.inr 1) :: r) h Q = (inA j sc.length = true ∧ G sp sc [23] d mL_law n 1508 L (.inl (sc.getD j.toNat 0) :: r) h Q)) ∧
  (∀ (n d : Nat) (L : List (Option iV)) (r : List iV) (j : Int) (m : Nat) (h : iH) (Q : Option iV → iH → Prop), G sp sc [23] d mL_law (n + 1) 1507 L (.inl j :: .inr (.inr (m + 2)) :: r) h Q = (match h.1[m]? with | some (.inr (.inl (0, xs))) => inA j xs.length = true ∧ G sp sc [23] d mL_law n 1508 L (.inl (xs.getD j.toNat 0) :: r) h Q | _ => False)) ∧
  (∀ (n d : Nat) (L : List (Option iV)) (st : List iV) (h : iH) (Q : Option iV → iH → Prop), G sp sc [23] d mL_law (n + 1) 1508 L st h Q = (match ld L 0 with | some (.inr (.inr (r + 1))) => G sp sc [23] d mL_law n 1509 L (.inr (.inr (r + 1)) :: st) h Q | _ => False)) ∧
  (∀ (n d : Nat) (L : List (Option iV)) (st : List iV) (h : iH) (Q : Option iV → iH → Prop), G sp sc [23] d mL_law (n + 1) 1509 L st h Q = (match ld L 4 with | some (.inl x) => G sp sc [23] d mL_law n 1511 L (.inl x :: st) h Q | _ => False)) ∧
  (∀ (n d : Nat) (L : List (Option iV)) (st : List iV) (h : iH) (Q : Option iV → iH → Prop), G sp sc [23] d mL_law (n + 1) 1511 L st h Q = G sp sc [23] d mL_law n 1512 L (.inl 2 :: st) h Q) ∧
  (∀ (n d : Nat) (L : List (Option iV)) (a : Int) (b : Int) (r : List iV) (h : iH) (Q : Option iV → iH → Prop), G sp sc [23] d mL_law (n + 1) 1512 L (.inl b :: .inl a :: r) h Q = G sp sc [23] d mL_law n 1513 L (.inl (a + b) :: r) h Q) ∧
  (∀ (n d : Nat) (L : List (Option iV)) (r : List iV) (j : Int) (h : iH) (Q : Option iV → iH → Prop), G sp sc [23] d mL_law (n + 1) 1513 L (.inl j :: .inr (.inr 1) :: r) h Q = (inA j sc.length = true ∧ G sp sc [23] d mL_law n 1514 L (.inl (sc.getD j.toNat 0) :: r) h Q)) ∧
  (∀ (n d : Nat) (L : List (Option iV)) (r : List iV) (j : Int) (m : Nat) (h : iH) (Q : Option iV → iH → Prop), G sp sc [23] d mL_law (n + 1) 1513 L (.inl j :: .inr (.inr (m + 2)) :: r) h Q = (match h.1[m]? with | some (.inr (.inl (0, xs))) => inA j xs.length = true ∧ G sp sc [23] d mL_law n 1514 L (.inl (xs.getD j.toNat 0) :: r) h Q | _ => False)) ∧
  (∀ (n d : Nat) (L : List (Option iV)) (st : List iV) (h : iH) (Q : Option iV → iH → Prop), G sp sc [23] d mL_law (n + 1) 1514 L st h Q = (match ld L 0 with | some (.inr (.inr (r + 1))) => G sp sc [23] d mL_law n 1515 L (.inr (.inr (r + 1)) :: st) h Q | _ => False)) ∧
  (∀ (n d : Nat) (L : List (Option iV)) (st : List iV) (h : iH) (Q : Option iV → iH → Prop), G sp sc [23] d mL_law (n + 1) 1515 L st h Q = (match ld L 4 with | some (.inl x) => G sp sc [23] d mL_law n 1517 L (.inl x :: st) h Q | _ => False)) ∧
  (∀ (n d : Nat) (L : List (Option iV)) (st : List iV) (h : iH) (Q : Option iV → iH → Prop), G sp sc [23] d mL_law (n + 1) 1517 L st h Q = G sp sc [23] d mL_law n 1518 L (.inl 3 :: st) h Q) ∧
  (∀ (n d : Nat) (L : List (Option iV)) (a : Int) (b : Int) (r : List iV) (h : iH) (Q : Option iV → iH → Prop), G sp sc [23] d mL_law (n + 1) 1518 L (.inl b :: .inl a :: r) h Q = G sp sc [23] d mL_law n 1519 L (.inl (a + b) :: r) h Q) ∧
  (∀ (n d : Nat) (L : List (Option iV)) (r : List iV) (j : Int) (h : iH) (Q : Option iV → iH → Prop), G sp sc [23] d mL_law (n + 1) 1519 L (.inl j :: .inr (.inr 1) :: r) h Q = (inA j sc.length = true ∧ G sp sc [23] d mL_law n 1520 L (.inl (sc.getD j.toNat 0) :: r) h Q)) ∧
  (∀ (n d : Nat) (L : List (Option iV)) (r : List iV) (j : Int) (m : Nat) (h : iH) (Q : Option iV → iH → Prop), G sp sc [23] d mL_law (n + 1) 1519 L (.inl j :: .inr (.inr (m + 2)) :: r) h Q = (match h.1[m]? with | some (.inr (.inl (0, xs))) => inA j xs.length = true ∧ G sp sc [23] d mL_law n 1520 L (.inl (xs.getD j.toNat 0) :: r) h Q | _ => False)) ∧
  (∀ (n d : Nat) (L : List (Option iV)) (r : List iV) (m : Nat) (z0 : iV) (z1 : iV) (z2 : iV) (h : iH) (Q : Option iV → iH → Prop), G sp sc [23] (d + 1) mL_law (n + 1) 1520 L (z2 :: z1 :: z0 :: .inr (.inr (m + 2)) :: r) h Q = (match h.1[m]? with | some (.inl (ci, _)) => (match lkC 13 158 ci with | some (y1, n1, kd) => (n1 = 3 ∧ (kd = 2 ∨ kd = 3 ∨ kd = 8) ∧ cs r ≤ 8) ∧ Call sp sc d y1 [.inr (.inr (m + 2)), z0, z1, z2] h (fun q h1 => GC sp sc [23] (d + 1) mL_law n 1523 L q r h h1 Q) | none => False) | _ => False)) ∧
  (∀ (n d : Nat) (L : List (Option iV)) (st : List iV) (h : iH) (Q : Option iV → iH → Prop), G sp sc [23] d mL_law (n + 1) 1523 L st h Q = (match ld L 2 with | some (.inr (.inr (r + 1))) => G sp sc [23] d mL_law n 1524 L (.inr (.inr (r + 1)) :: st) h Q | _ => False)) ∧
  (∀ (n d : Nat) (L : List (Option iV)) (st : List iV) (h : iH) (Q : Option iV → iH → Prop), G sp sc [23] d mL_law (n + 1) 1524 L st h Q = (match ld L 0 with | some (.inr (.inr (r + 1))) => G sp sc [23] d mL_law n 1525 L (.inr (.inr (r + 1)) :: st) h Q | _ => False)) ∧
  (∀ (n d : Nat) (L : List (Option iV)) (st : List iV) (h : iH) (Q : Option iV → iH → Prop), G sp sc [23] d mL_law (n + 1) 1525 L st h Q = (match ld L 4 with | some (.inl x) => G sp sc [23] d mL_law n 1527 L (.inl x :: st) h Q | _ => False)) ∧
  (∀ (n d : Nat) (L : List (Option iV)) (st : List iV) (h : iH) (Q : Option iV → iH → Prop), G sp sc [23] d mL_law (n + 1) 1527 L st h Q = G sp sc [23] d mL_law n 1528 L (.inl 1 :: st) h Q) ∧
  (∀ (n d : Nat) (L : List (Option iV)) (a : Int) (b : Int) (r : List iV) (h : iH) (Q : Option iV → iH → Prop), G sp sc [23] d mL_law (n + 1) 1528 L (.inl b :: .inl a :: r) h Q = G sp sc [23] d mL_law n 1529 L (.inl (a + b) :: r) h Q) ∧
  (∀ (n d : Nat) (L : List (Option iV)) (r : List iV) (j : Int) (h : iH) (Q : Option iV → iH → Prop), G sp sc [23] d mL_law (n + 1) 1529 L (.inl j :: .inr (.inr 1) :: r) h Q = (inA j sc.length = true ∧ G sp sc [23] d mL_law n 1530 L (.inl (sc.getD j.toNat 0) :: r) h Q)) ∧
  (∀ (n d : Nat) (L : List (Option iV)) (r : List iV) (j : Int) (m : Nat) (h : iH) (Q : Option iV → iH → Prop), G sp sc [23] d mL_law (n + 1) 1529 L (.inl j :: .inr (.inr (m + 2)) :: r) h Q = (match h.1[m]? with | some (.inr (.inl (0, xs))) => inA j xs.length = true ∧ G sp sc [23] d mL_law n 1530 L (.inl (xs.getD j.toNat 0) :: r) h Q | _ => False)) ∧
  (∀ (n d : Nat) (L : List (Option iV)) (st : List iV) (h : iH) (Q : Option iV → iH → Prop), G sp sc [23] d mL_law (n + 1) 1530 L st h Q = (match ld L 0 with | some (.inr (.inr (r + 1))) => G sp sc [23] d mL_law n 1531 L (.inr (.inr (r + 1)) :: st) h Q | _ => False)) ∧
  (∀ (n d : Nat) (L : List (Option iV)) (st : List iV) (h : iH) (Q : Option iV → iH → Prop), G sp sc [23] d mL_law (n + 1) 1531 L st h Q = (match ld L 4 with | some (.inl x) => G sp sc [23] d mL_law n 1533 L (.inl x :: st) h Q | _ => False)) ∧
  (∀ (n d : Nat) (L : List (Option iV)) (st : List iV) (h : iH) (Q : Option iV → iH → Prop), G sp sc [23] d mL_law (n + 1) 1533 L st h Q = G sp sc [23] d mL_law n 1534 L (.inl 2 :: st) h Q) ∧
  (∀ (n d : Nat) (L : List (Option iV)) (a : Int) (b : Int) (r : List iV) (h : iH) (Q : Option iV → iH → Prop), G sp sc [23] d mL_law (n + 1) 1534 L (.inl b :: .inl a :: r) h Q = G sp sc [23] d mL_law n 1535 L (.inl (a + b) :: r) h Q) ∧
  (∀ (n d : Nat) (L : List (Option iV)) (r : List iV) (j : Int) (h : iH) (Q : Option iV → iH → Prop), G sp sc [23] d mL_law (n + 1) 1535 L (.inl j :: .inr (.inr 1) :: r) h Q = (inA j sc.length = true ∧ G sp sc [23] d mL_law n 1536 L (.inl (sc.getD j.toNat 0) :: r) h Q)) ∧
  (∀ (n d : Nat) (L : List (Option iV)) (r : List iV) (j : Int) (m : Nat) (h : iH) (Q : Option iV → iH → Prop), G sp sc [23] d mL_law (n + 1) 1535 L (.inl j :: .inr (.inr (m + 2)) :: r) h Q = (match h.1[m]? with | some (.inr (.inl (0, xs))) => inA j xs.length = true ∧ G sp sc [23] d mL_law n 1536 L (.inl (xs.getD j.toNat 0) :: r) h Q | _ => False)) ∧
  (∀ (n d : Nat) (L : List (Option iV)) (st : List iV) (h : iH) (Q : Option iV → iH → Prop), G sp sc [23] d mL_law (n + 1) 1536 L st h Q = (match ld L 0 with | some (.inr (.inr (r + 1))) => G sp sc [23] d mL_law n 1537 L (.inr (.inr (r + 1)) :: st) h Q | _ => False)) ∧
  (∀ (n d : Nat) (L : List (Option iV)) (st : List iV) (h : iH) (Q : Option iV → iH → Prop), G sp sc [23] d mL_law (n + 1) 1537 L st h Q = (match ld L 4 with | some (.inl x) => G sp sc [23] d mL_law n 1539 L (.inl x :: st) h Q | _ => False)) ∧
  (∀ (n d : Nat) (L : List (Option iV)) (st : List iV) (h : iH) (Q : Option iV → iH → Prop), G sp sc [23] d mL_law (n + 1) 1539 L st h Q = G sp sc [23] d mL_law n 1540 L (.inl 3 :: st) h Q) ∧
  (∀ (n d : Nat) (L : List (Option iV)) (a : Int) (b : Int) (r : List iV) (h : iH) (Q : Option iV → iH → Prop), G sp sc [23] d mL_law (n + 1) 1540 L (.inl b :: .inl a :: r) h Q = G sp sc [23] d mL_law n 1541 L (.inl (a + b) :: r) h Q) ∧
  (∀ (n d : Nat) (L : List (Option iV)) (r : List iV) (j : Int) (h : iH) (Q : Option iV → iH → Prop), G sp sc [23] d mL_law (n + 1) 1541 L (.inl j :: .inr (.inr 1) :: r) h Q = (inA j sc.length = true ∧ G sp sc [23] d mL_law n 1542 L (.inl (sc.getD j.toNat 0) :: r) h Q)) ∧
  (∀ (n d : Nat) (L : List (Option iV)) (r : List iV) (j : Int) (m : Nat) (h : iH) (Q : Option iV → iH → Prop), G sp sc [23] d mL_law (n + 1) 1541 L (.inl j :: .inr (.inr (m + 2)) :: r) h Q = (match h.1[m]? with | some (.inr (.inl (0, xs))) => inA j xs.length = true ∧ G sp sc [23] d mL_law n 1542 L (.inl (xs.getD j.toNat 0) :: r) h Q | _ => False)) ∧
  (∀ (n d : Nat) (L : List (Option iV)) (r : List iV) (m : Nat) (z0 : iV) (z1 : iV) (z2 : iV) (h : iH) (Q : Option iV → iH → Prop), G sp sc [23] (d + 1) mL_law (n + 1) 1542 L (z2 :: z1 :: z0 :: .inr (.inr (m + 2)) :: r) h Q = (match h.1[m]? with | some (.inl (ci, _)) => (match lkC 13 161 ci with | some (y1, n1, kd) => (n1 = 3 ∧ (kd = 2 ∨ kd = 3 ∨ kd = 8) ∧ cs r ≤ 8) ∧ Call sp sc d y1 [.inr (.inr (m + 2)), z0, z1, z2] h (fun q h1 => GC sp sc [23] (d + 1) mL_law n 1545 L q r h h1 Q) | none => False) | _ => False)) ∧
  (∀ (n d : Nat) (L : List (Option iV)) (a : Int) (b : Int) (r : List iV) (h : iH) (Q : Option iV → iH → Prop), G sp sc [23] d mL_law (n + 1) 1545 L (.inl b :: .inl a :: r) h Q = ((inI a = true ∧ inI b = true) ∧ (a = b → G sp sc [23] d mL_law n 1950 L r h Q) ∧ (¬ (a = b) → G sp sc [23] d mL_law n 1548 L r h Q))) ∧
  (∀ (n d : Nat) (L : List (Option iV)) (st : List iV) (h : iH) (Q : Option iV → iH → Prop), G sp sc [23] d mL_law (n + 1) 1548 L st h Q = G sp sc [23] d mL_law n 1549 L (.inl 0 :: st) h Q) ∧
  (∀ (n d : Nat) (L : List (Option iV)) (a : Int) (h : iH) (Q : Option iV → iH → Prop), G sp sc [23] d mL_law (n + 1) 1549 L [.inl a] h Q = ((a = 0 ∨ a = 1) ∧ Q (some (.inl a)) h)) := ⟨by intros; exact G_at (by decide +kernel : fetch mL_law 1501 = some (.aload_n 1)),
  by intros; exact G_at (by decide +kernel : fetch mL_law 1502 = some (.aload_n 0)),
  by intros; exact G_at (by decide +kernel : fetch mL_law 1503 = some (.iload 4)),
  by intros; exact G_at (by decide +kernel : fetch mL_law 1505 = some (.iconst 1)),
  by intros; exact G_at (by decide +kernel : fetch mL_law 1506 = some (.iadd)),
  by intros; exact G_at (by decide +kernel : fetch mL_law 1507 = some (.iaload)),
  by intros; exact G_at (by decide +kernel : fetch mL_law 1507 = some (.iaload)),
  by intros; exact G_at (by decide +kernel : fetch mL_law 1508 = some (.aload_n 0)),
  by intros; exact G_at (by decide +kernel : fetch mL_law 1509 = some (.iload 4)),
  by intros; exact G_at (by decide +kernel : fetch mL_law 1511 = some (.iconst 2)),
  by intros; exact G_at (by decide +kernel : fetch mL_law 1512 = some (.iadd)),
  by intros; exact G_at (by decide +kernel : fetch mL_law 1513 = some (.iaload)),
  by intros; exact G_at (by decide +kernel : fetch mL_law 1513 = some (.iaload)),
  by intros; exact G_at (by decide +kernel : fetch mL_law 1514 = some (.aload_n 0)),
  by intros; exact G_at (by decide +kernel : fetch mL_law 1515 = some (.iload 4)),
  by intros; exact G_at (by decide +kernel : fetch mL_law 1517 = some (.iconst 3)),
  by intros; exact G_at (by decide +kernel : fetch mL_law 1518 = some (.iadd)),
  by intros; exact G_at (by decide +kernel : fetch mL_law 1519 = some (.iaload)),
  by intros; exact G_at (by decide +kernel : fetch mL_law 1519 = some (.iaload)),
  by intros; exact G_callV (by decide +kernel : fetch mL_law 1520 = some (.invokevirtual 158)) (by decide +kernel) (by decide +kernel) rfl,
  by intros; exact G_at (by decide +kernel : fetch mL_law 1523 = some (.aload_n 2)),
  by intros; exact G_at (by decide +kernel : fetch mL_law 1524 = some (.aload_n 0)),
  by intros; exact G_at (by decide +kernel : fetch mL_law 1525 = some (.iload 4)),
  by intros; exact G_at (by decide +kernel : fetch mL_law 1527 = some (.iconst 1)),
  by intros; exact G_at (by decide +kernel : fetch mL_law 1528 = some (.iadd)),
  by intros; exact G_at (by decide +kernel : fetch mL_law 1529 = some (.iaload)),
  by intros; exact G_at (by decide +kernel : fetch mL_law 1529 = some (.iaload)),
  by intros; exact G_at (by decide +kernel : fetch mL_law 1530 = some (.aload_n 0)),
  by intros; exact G_at (by decide +kernel : fetch mL_law 1531 = some (.iload 4)),
  by intros; exact G_at (by decide +kernel : fetch mL_law 1533 = some (.iconst 2)),
  by intros; exact G_at (by decide +kernel : fetch mL_law 1534 = some (.iadd)),
  by intros; exact G_at (by decide +kernel : fetch mL_law 1535 = some (.iaload)),
  by intros; exact G_at (by decide +kernel : fetch mL_law 1535 = some (.iaload)),
  by intros; exact G_at (by decide +kernel : fetch mL_law 1536 = some (.aload_n 0)),
  by intros; exact G_at (by decide +kernel : fetch mL_law 1537 = some (.iload 4)),
  by intros; exact G_at (by decide +kernel : fetch mL_law 1539 = some (.iconst 3)),
  by intros; exact G_at (by decide +kernel : fetch mL_law 1540 = some (.iadd)),
  by intros; exact G_at (by decide +kernel : fetch mL_law 1541 = some (.iaload)),
  by intros; exact G_at (by decide +kernel : fetch mL_law 1541 = some (.iaload)),
  by intros; exact G_callV (by decide +kernel : fetch mL_law 1542 = some (.invokevirtual 161)) (by decide +kernel) (by decide +kernel) rfl,
  by intros; exact G_at (by decide +kernel : fetch mL_law 1545 = some (.if_icmp .eq 405)),
  by intros; exact G_at (by decide +kernel : fetch mL_law 1548 = some (.iconst 0)),
  by intros; exact G_retz (by decide +kernel : fetch mL_law 1549 = some (.ireturn)) (by decide +kernel)⟩
theorem gL_c34 : (∀ (n d : Nat) (L : List (Option iV)) (st : List iV) (h : iH) (Q : Option iV → iH → Prop), G sp sc [23] d mL_law (n + 1) 1550 L st h Q = (match ld L 1 with | some (.inr (.inr (r + 1))) => G sp sc [23] d mL_law n 1551 L (.inr (.inr (r + 1)) :: st) h Q | _ => False)) ∧
  (∀ (n d : Nat) (L : List (Option iV)) (r : List iV) (m : Nat) (h : iH) (Q : Option iV → iH → Prop), G sp sc [23] (d + 1) mL_law (n + 1) 1551 L (.inr (.inr (m + 2)) :: r) h Q = (match h.1[m]? with | some (.inl (ci, _)) => (match lkC 13 162 ci with | some (y1, n1, kd) => (n1 = 0 ∧ (kd = 2 ∨ kd = 3 ∨ kd = 8) ∧ cs r ≤ 8) ∧ Call sp sc d y1 [.inr (.inr (m + 2))] h (fun q h1 => GC sp sc [23] (d + 1) mL_law n 1554 L q r h h1 Q) | none => False) | _ => False)) ∧
  (∀ (n d : Nat) (L : List (Option iV)) (st : List iV) (h : iH) (Q : Option iV → iH → Prop), G sp sc [23] d mL_law (n + 1) 1554 L st h Q = (match ld L 2 with | some (.inr (.inr (r + 1))) => G sp sc [23] d mL_law n 1555 L (.inr (.inr (r + 1)) :: st) h Q | _ => False)) ∧
  (∀ (n d : Nat) (L : List (Option iV)) (r : List iV) (m : Nat) (h : iH) (Q : Option iV → iH → Prop), G sp sc [23] (d + 1) mL_law (n + 1) 1555 L (.inr (.inr (m + 2)) :: r) h Q = (match h.1[m]? with | some (.inl (ci, _)) => (match lkC 13 165 ci with | some (y1, n1, kd) => (n1 = 0 ∧ (kd = 2 ∨ kd = 3 ∨ kd = 8) ∧ cs r ≤ 8) ∧ Call sp sc d y1 [.inr (.inr (m + 2))] h (fun q h1 => GC sp sc [23] (d + 1) mL_law n 1558 L q r h h1 Q) | none => False) | _ => False)) ∧
  (∀ (n d : Nat) (L : List (Option iV)) (a : Int) (b : Int) (r : List iV) (h : iH) (Q : Option iV → iH → Prop), G sp sc [23] d mL_law (n + 1) 1558 L (.inl b :: .inl a :: r) h Q = ((inI a = true ∧ inI b = true) ∧ (a = b → G sp sc [23] d mL_law n 1950 L r h Q) ∧ (¬ (a = b) → G sp sc [23] d mL_law n 1561 L r h Q))) ∧
  (∀ (n d : Nat) (L : List (Option iV)) (st : List iV) (h : iH) (Q : Option iV → iH → Prop), G sp sc [23] d mL_law (n + 1) 1561 L st h Q = G sp sc [23] d mL_law n 1562 L (.inl 0 :: st) h Q) ∧
  (∀ (n d : Nat) (L : List (Option iV)) (a : Int) (h : iH) (Q : Option iV → iH → Prop), G sp sc [23] d mL_law (n + 1) 1562 L [.inl a] h Q = ((a = 0 ∨ a = 1) ∧ Q (some (.inl a)) h)) := ⟨by intros; exact G_at (by decide +kernel : fetch mL_law 1550 = some (.aload_n 1)),
  by intros; exact G_callV (by decide +kernel : fetch mL_law 1551 = some (.invokevirtual 162)) (by decide +kernel) (by decide +kernel) rfl,
  by intros; exact G_at (by decide +kernel : fetch mL_law 1554 = some (.aload_n 2)),
  by intros; exact G_callV (by decide +kernel : fetch mL_law 1555 = some (.invokevirtual 165)) (by decide +kernel) (by decide +kernel) rfl,
  by intros; exact G_at (by decide +kernel : fetch mL_law 1558 = some (.if_icmp .eq 392)),
  by intros; exact G_at (by decide +kernel : fetch mL_law 1561 = some (.iconst 0)),
  by intros; exact G_retz (by decide +kernel : fetch mL_law 1562 = some (.ireturn)) (by decide +kernel)⟩
theorem gL_c35 : (∀ (n d : Nat) (L : List (Option iV)) (st : List iV) (h : iH) (Q : Option iV → iH → Prop), G sp sc [23] d mL_law (n + 1) 1563 L st h Q = (match ld L 1 with | some (.inr (.inr (r + 1))) => G sp sc [23] d mL_law n 1564 L (.inr (.inr (r + 1)) :: st) h Q | _ => False)) ∧
  (∀ (n d : Nat) (L : List (Option iV)) (r : List iV) (m : Nat) (h : iH) (Q : Option iV → iH → Prop), G sp sc [23] (d + 1) mL_law (n + 1) 1564 L (.inr (.inr (m + 2)) :: r) h Q = (match h.1[m]? with | some (.inl (ci, _)) => (match lkC 13 166 ci with | some (y1, n1, kd) => (n1 = 0 ∧ (kd = 2 ∨ kd = 3 ∨ kd = 8) ∧ cs r ≤ 8) ∧ Call sp sc d y1 [.inr (.inr (m + 2))] h (fun q h1 => GC sp sc [23] (d + 1) mL_law n 1567 L q r h h1 Q) | none => False) | _ => False)) ∧
  (∀ (n d : Nat) (L : List (Option iV)) (st : List iV) (h : iH) (Q : Option iV → iH → Prop), G sp sc [23] d mL_law (n + 1) 1567 L st h Q = (match ld L 2 with | some (.inr (.inr (r + 1))) => G sp sc [23] d mL_law n 1568 L (.inr (.inr (r + 1)) :: st) h Q | _ => False)) ∧
  (∀ (n d : Nat) (L : List (Option iV)) (r : List iV) (m : Nat) (h : iH) (Q : Option iV → iH → Prop), G sp sc [23] (d + 1) mL_law (n + 1) 1568 L (.inr (.inr (m + 2)) :: r) h Q = (match h.1[m]? with | some (.inl (ci, _)) => (match lkC 13 169 ci with | some (y1, n1, kd) => (n1 = 0 ∧ (kd = 2 ∨ kd = 3 ∨ kd = 8) ∧ cs r ≤ 8) ∧ Call sp sc d y1 [.inr (.inr (m + 2))] h (fun q h1 => GC sp sc [23] (d + 1) mL_law n 1571 L q r h h1 Q) | none => False) | _ => False)) ∧
  (∀ (n d : Nat) (L : List (Option iV)) (a : Int) (b : Int) (r : List iV) (h : iH) (Q : Option iV → iH → Prop), G sp sc [23] d mL_law (n + 1) 1571 L (.inl b :: .inl a :: r) h Q = ((inI a = true ∧ inI b = true) ∧ (a = b → G sp sc [23] d mL_law n 1950 L r h Q) ∧ (¬ (a = b) → G sp sc [23] d mL_law n 1574 L r h Q))) ∧
  (∀ (n d : Nat) (L : List (Option iV)) (st : List iV) (h : iH) (Q : Option iV → iH → Prop), G sp sc [23] d mL_law (n + 1) 1574 L st h Q = G sp sc [23] d mL_law n 1575 L (.inl 0 :: st) h Q) ∧
  (∀ (n d : Nat) (L : List (Option iV)) (a : Int) (h : iH) (Q : Option iV → iH → Prop), G sp sc [23] d mL_law (n + 1) 1575 L [.inl a] h Q = ((a = 0 ∨ a = 1) ∧ Q (some (.inl a)) h)) := ⟨by intros; exact G_at (by decide +kernel : fetch mL_law 1563 = some (.aload_n 1)),
  by intros; exact G_callV (by decide +kernel : fetch mL_law 1564 = some (.invokevirtual 166)) (by decide +kernel) (by decide +kernel) rfl,
  by intros; exact G_at (by decide +kernel : fetch mL_law 1567 = some (.aload_n 2)),
  by intros; exact G_callV (by decide +kernel : fetch mL_law 1568 = some (.invokevirtual 169)) (by decide +kernel) (by decide +kernel) rfl,
  by intros; exact G_at (by decide +kernel : fetch mL_law 1571 = some (.if_icmp .eq 379)),
  by intros; exact G_at (by decide +kernel : fetch mL_law 1574 = some (.iconst 0)),
  by intros; exact G_retz (by decide +kernel : fetch mL_law 1575 = some (.ireturn)) (by decide +kernel)⟩
theorem gL_c36 : (∀ (n d : Nat) (L : List (Option iV)) (st : List iV) (h : iH) (Q : Option iV → iH → Prop), G sp sc [23] d mL_law (n + 1) 1576 L st h Q = (match ld L 1 with | some (.inr (.inr (r + 1))) => G sp sc [23] d mL_law n 1577 L (.inr (.inr (r + 1)) :: st) h Q | _ => False)) ∧
  (∀ (n d : Nat) (L : List (Option iV)) (st : List iV) (h : iH) (Q : Option iV → iH → Prop), G sp sc [23] d mL_law (n + 1) 1577 L st h Q = (match ld L 0 with | some (.inr (.inr (r + 1))) => G sp sc [23] d mL_law n 1578 L (.inr (.inr (r + 1)) :: st) h Q | _ => False)) ∧
  (∀ (n d : Nat) (L : List (Option iV)) (st : List iV) (h : iH) (Q : Option iV → iH → Prop), G sp sc [23] d mL_law (n + 1) 1578 L st h Q = (match ld L 4 with | some (.inl x) => G sp sc [23] d mL_law n 1580 L (.inl x :: st) h Q | _ => False)) ∧
  (∀ (n d : Nat) (L : List (Option iV)) (st : List iV) (h : iH) (Q : Option iV → iH → Prop), G sp sc [23] d mL_law (n + 1) 1580 L st h Q = G sp sc [23] d mL_law n 1581 L (.inl 1 :: st) h Q) ∧
  (∀ (n d : Nat) (L : List (Option iV)) (a : Int) (b : Int) (r : List iV) (h : iH) (Q : Option iV → iH → Prop), G sp sc [23] d mL_law (n + 1) 1581 L (.inl b :: .inl a :: r) h Q = G sp sc [23] d mL_law n 1582 L (.inl (a + b) :: r) h Q) ∧
  (∀ (n d : Nat) (L : List (Option iV)) (r : List iV) (j : Int) (h : iH) (Q : Option iV → iH → Prop), G sp sc [23] d mL_law (n + 1) 1582 L (.inl j :: .inr (.inr 1) :: r) h Q = (inA j sc.length = true ∧ G sp sc [23] d mL_law n 1583 L (.inl (sc.getD j.toNat 0) :: r) h Q)) ∧
  (∀ (n d : Nat) (L : List (Option iV)) (r : List iV) (j : Int) (m : Nat) (h : iH) (Q : Option iV → iH → Prop), G sp sc [23] d mL_law (n + 1) 1582 L (.inl j :: .inr (.inr (m + 2)) :: r) h Q = (match h.1[m]? with | some (.inr (.inl (0, xs))) => inA j xs.length = true ∧ G sp sc [23] d mL_law n 1583 L (.inl (xs.getD j.toNat 0) :: r) h Q | _ => False)) ∧
  (∀ (n d : Nat) (L : List (Option iV)) (r : List iV) (m : Nat) (z0 : iV) (h : iH) (Q : Option iV → iH → Prop), G sp sc [23] (d + 1) mL_law (n + 1) 1583 L (z0 :: .inr (.inr (m + 2)) :: r) h Q = (match h.1[m]? with | some (.inl (ci, _)) => (match lkC 13 170 ci with | some (y1, n1, kd) => (n1 = 1 ∧ (kd = 2 ∨ kd = 3 ∨ kd = 8) ∧ cs r ≤ 8) ∧ Call sp sc d y1 [.inr (.inr (m + 2)), z0] h (fun q h1 => GC sp sc [23] (d + 1) mL_law n 1586 L q r h h1 Q) | none => False) | _ => False)) ∧
  (∀ (n d : Nat) (L : List (Option iV)) (st : List iV) (h : iH) (Q : Option iV → iH → Prop), G sp sc [23] d mL_law (n + 1) 1586 L st h Q = (match ld L 2 with | some (.inr (.inr (r + 1))) => G sp sc [23] d mL_law n 1587 L (.inr (.inr (r + 1)) :: st) h Q | _ => False)) ∧
  (∀ (n d : Nat) (L : List (Option iV)) (st : List iV) (h : iH) (Q : Option iV → iH → Prop), G sp sc [23] d mL_law (n + 1) 1587 L st h Q = (match ld L 0 with | some (.inr (.inr (r + 1))) => G sp sc [23] d mL_law n 1588 L (.inr (.inr (r + 1)) :: st) h Q | _ => False)) ∧
  (∀ (n d : Nat) (L : List (Option iV)) (st : List iV) (h : iH) (Q : Option iV → iH → Prop), G sp sc [23] d mL_law (n + 1) 1588 L st h Q = (match ld L 4 with | some (.inl x) => G sp sc [23] d mL_law n 1590 L (.inl x :: st) h Q | _ => False)) ∧
  (∀ (n d : Nat) (L : List (Option iV)) (st : List iV) (h : iH) (Q : Option iV → iH → Prop), G sp sc [23] d mL_law (n + 1) 1590 L st h Q = G sp sc [23] d mL_law n 1591 L (.inl 1 :: st) h Q) ∧
  (∀ (n d : Nat) (L : List (Option iV)) (a : Int) (b : Int) (r : List iV) (h : iH) (Q : Option iV → iH → Prop), G sp sc [23] d mL_law (n + 1) 1591 L (.inl b :: .inl a :: r) h Q = G sp sc [23] d mL_law n 1592 L (.inl (a + b) :: r) h Q) ∧
  (∀ (n d : Nat) (L : List (Option iV)) (r : List iV) (j : Int) (h : iH) (Q : Option iV → iH → Prop), G sp sc [23] d mL_law (n + 1) 1592 L (.inl j :: .inr (.inr 1) :: r) h Q = (inA j sc.length = true ∧ G sp sc [23] d mL_law n 1593 L (.inl (sc.getD j.toNat 0) :: r) h Q)) ∧
  (∀ (n d : Nat) (L : List (Option iV)) (r : List iV) (j : Int) (m : Nat) (h : iH) (Q : Option iV → iH → Prop), G sp sc [23] d mL_law (n + 1) 1592 L (.inl j :: .inr (.inr (m + 2)) :: r) h Q = (match h.1[m]? with | some (.inr (.inl (0, xs))) => inA j xs.length = true ∧ G sp sc [23] d mL_law n 1593 L (.inl (xs.getD j.toNat 0) :: r) h Q | _ => False)) ∧
  (∀ (n d : Nat) (L : List (Option iV)) (r : List iV) (m : Nat) (z0 : iV) (h : iH) (Q : Option iV → iH → Prop), G sp sc [23] (d + 1) mL_law (n + 1) 1593 L (z0 :: .inr (.inr (m + 2)) :: r) h Q = (match h.1[m]? with | some (.inl (ci, _)) => (match lkC 13 173 ci with | some (y1, n1, kd) => (n1 = 1 ∧ (kd = 2 ∨ kd = 3 ∨ kd = 8) ∧ cs r ≤ 8) ∧ Call sp sc d y1 [.inr (.inr (m + 2)), z0] h (fun q h1 => GC sp sc [23] (d + 1) mL_law n 1596 L q r h h1 Q) | none => False) | _ => False)) ∧
  (∀ (n d : Nat) (L : List (Option iV)) (a : Int) (b : Int) (r : List iV) (h : iH) (Q : Option iV → iH → Prop), G sp sc [23] d mL_law (n + 1) 1596 L (.inl b :: .inl a :: r) h Q = ((inI a = true ∧ inI b = true) ∧ (a = b → G sp sc [23] d mL_law n 1950 L r h Q) ∧ (¬ (a = b) → G sp sc [23] d mL_law n 1599 L r h Q))) ∧
  (∀ (n d : Nat) (L : List (Option iV)) (st : List iV) (h : iH) (Q : Option iV → iH → Prop), G sp sc [23] d mL_law (n + 1) 1599 L st h Q = G sp sc [23] d mL_law n 1600 L (.inl 0 :: st) h Q) ∧
  (∀ (n d : Nat) (L : List (Option iV)) (a : Int) (h : iH) (Q : Option iV → iH → Prop), G sp sc [23] d mL_law (n + 1) 1600 L [.inl a] h Q = ((a = 0 ∨ a = 1) ∧ Q (some (.inl a)) h)) := ⟨by intros; exact G_at (by decide +kernel : fetch mL_law 1576 = some (.aload_n 1)),
  by intros; exact G_at (by decide +kernel : fetch mL_law 1577 = some (.aload_n 0)),
  by intros; exact G_at (by decide +kernel : fetch mL_law 1578 = some (.iload 4)),
  by intros; exact G_at (by decide +kernel : fetch mL_law 1580 = some (.iconst 1)),
  by intros; exact G_at (by decide +kernel : fetch mL_law 1581 = some (.iadd)),
  by intros; exact G_at (by decide +kernel : fetch mL_law 1582 = some (.iaload)),
  by intros; exact G_at (by decide +kernel : fetch mL_law 1582 = some (.iaload)),
  by intros; exact G_callV (by decide +kernel : fetch mL_law 1583 = some (.invokevirtual 170)) (by decide +kernel) (by decide +kernel) rfl,
  by intros; exact G_at (by decide +kernel : fetch mL_law 1586 = some (.aload_n 2)),
  by intros; exact G_at (by decide +kernel : fetch mL_law 1587 = some (.aload_n 0)),
  by intros; exact G_at (by decide +kernel : fetch mL_law 1588 = some (.iload 4)),
  by intros; exact G_at (by decide +kernel : fetch mL_law 1590 = some (.iconst 1)),
  by intros; exact G_at (by decide +kernel : fetch mL_law 1591 = some (.iadd)),
  by intros; exact G_at (by decide +kernel : fetch mL_law 1592 = some (.iaload)),
  by intros; exact G_at (by decide +kernel : fetch mL_law 1592 = some (.iaload)),
  by intros; exact G_callV (by decide +kernel : fetch mL_law 1593 = some (.invokevirtual 173)) (by decide +kernel) (by decide +kernel) rfl,
  by intros; exact G_at (by decide +kernel : fetch mL_law 1596 = some (.if_icmp .eq 354)),
  by intros; exact G_at (by decide +kernel : fetch mL_law 1599 = some (.iconst 0)),
  by intros; exact G_retz (by decide +kernel : fetch mL_law 1600 = some (.ireturn)) (by decide +kernel)⟩
theorem gL_c37 : (∀ (n d : Nat) (L : List (Option iV)) (st : List iV) (h : iH) (Q : Option iV → iH → Prop), G sp sc [23] d mL_law (n + 1) 1601 L st h Q = (match ld L 1 with | some (.inr (.inr (r + 1))) => G sp sc [23] d mL_law n 1602 L (.inr (.inr (r + 1)) :: st) h Q | _ => False)) ∧
  (∀ (n d : Nat) (L : List (Option iV)) (st : List iV) (h : iH) (Q : Option iV → iH → Prop), G sp sc [23] d mL_law (n + 1) 1602 L st h Q = (match ld L 0 with | some (.inr (.inr (r + 1))) => G sp sc [23] d mL_law n 1603 L (.inr (.inr (r + 1)) :: st) h Q | _ => False)) ∧
  (∀ (n d : Nat) (L : List (Option iV)) (st : List iV) (h : iH) (Q : Option iV → iH → Prop), G sp sc [23] d mL_law (n + 1) 1603 L st h Q = (match ld L 4 with | some (.inl x) => G sp sc [23] d mL_law n 1605 L (.inl x :: st) h Q | _ => False)) ∧
  (∀ (n d : Nat) (L : List (Option iV)) (st : List iV) (h : iH) (Q : Option iV → iH → Prop), G sp sc [23] d mL_law (n + 1) 1605 L st h Q = G sp sc [23] d mL_law n 1606 L (.inl 1 :: st) h Q) ∧
  (∀ (n d : Nat) (L : List (Option iV)) (a : Int) (b : Int) (r : List iV) (h : iH) (Q : Option iV → iH → Prop), G sp sc [23] d mL_law (n + 1) 1606 L (.inl b :: .inl a :: r) h Q = G sp sc [23] d mL_law n 1607 L (.inl (a + b) :: r) h Q) ∧
  (∀ (n d : Nat) (L : List (Option iV)) (r : List iV) (j : Int) (h : iH) (Q : Option iV → iH → Prop), G sp sc [23] d mL_law (n + 1) 1607 L (.inl j :: .inr (.inr 1) :: r) h Q = (inA j sc.length = true ∧ G sp sc [23] d mL_law n 1608 L (.inl (sc.getD j.toNat 0) :: r) h Q)) ∧
  (∀ (n d : Nat) (L : List (Option iV)) (r : List iV) (j : Int) (m : Nat) (h : iH) (Q : Option iV → iH → Prop), G sp sc [23] d mL_law (n + 1) 1607 L (.inl j :: .inr (.inr (m + 2)) :: r) h Q = (match h.1[m]? with | some (.inr (.inl (0, xs))) => inA j xs.length = true ∧ G sp sc [23] d mL_law n 1608 L (.inl (xs.getD j.toNat 0) :: r) h Q | _ => False)) ∧
  (∀ (n d : Nat) (L : List (Option iV)) (st : List iV) (h : iH) (Q : Option iV → iH → Prop), G sp sc [23] d mL_law (n + 1) 1608 L st h Q = (match ld L 0 with | some (.inr (.inr (r + 1))) => G sp sc [23] d mL_law n 1609 L (.inr (.inr (r + 1)) :: st) h Q | _ => False)) ∧
  (∀ (n d : Nat) (L : List (Option iV)) (st : List iV) (h : iH) (Q : Option iV → iH → Prop), G sp sc [23] d mL_law (n + 1) 1609 L st h Q = (match ld L 4 with | some (.inl x) => G sp sc [23] d mL_law n 1611 L (.inl x :: st) h Q | _ => False)) ∧
  (∀ (n d : Nat) (L : List (Option iV)) (st : List iV) (h : iH) (Q : Option iV → iH → Prop), G sp sc [23] d mL_law (n + 1) 1611 L st h Q = G sp sc [23] d mL_law n 1612 L (.inl 2 :: st) h Q) ∧
  (∀ (n d : Nat) (L : List (Option iV)) (a : Int) (b : Int) (r : List iV) (h : iH) (Q : Option iV → iH → Prop), G sp sc [23] d mL_law (n + 1) 1612 L (.inl b :: .inl a :: r) h Q = G sp sc [23] d mL_law n 1613 L (.inl (a + b) :: r) h Q) ∧
  (∀ (n d : Nat) (L : List (Option iV)) (r : List iV) (j : Int) (h : iH) (Q : Option iV → iH → Prop), G sp sc [23] d mL_law (n + 1) 1613 L (.inl j :: .inr (.inr 1) :: r) h Q = (inA j sc.length = true ∧ G sp sc [23] d mL_law n 1614 L (.inl (sc.getD j.toNat 0) :: r) h Q)) ∧
  (∀ (n d : Nat) (L : List (Option iV)) (r : List iV) (j : Int) (m : Nat) (h : iH) (Q : Option iV → iH → Prop), G sp sc [23] d mL_law (n + 1) 1613 L (.inl j :: .inr (.inr (m + 2)) :: r) h Q = (match h.1[m]? with | some (.inr (.inl (0, xs))) => inA j xs.length = true ∧ G sp sc [23] d mL_law n 1614 L (.inl (xs.getD j.toNat 0) :: r) h Q | _ => False)) ∧
  (∀ (n d : Nat) (L : List (Option iV)) (st : List iV) (h : iH) (Q : Option iV → iH → Prop), G sp sc [23] d mL_law (n + 1) 1614 L st h Q = (match ld L 0 with | some (.inr (.inr (r + 1))) => G sp sc [23] d mL_law n 1615 L (.inr (.inr (r + 1)) :: st) h Q | _ => False)) ∧
  (∀ (n d : Nat) (L : List (Option iV)) (st : List iV) (h : iH) (Q : Option iV → iH → Prop), G sp sc [23] d mL_law (n + 1) 1615 L st h Q = (match ld L 4 with | some (.inl x) => G sp sc [23] d mL_law n 1617 L (.inl x :: st) h Q | _ => False)) ∧
  (∀ (n d : Nat) (L : List (Option iV)) (st : List iV) (h : iH) (Q : Option iV → iH → Prop), G sp sc [23] d mL_law (n + 1) 1617 L st h Q = G sp sc [23] d mL_law n 1618 L (.inl 3 :: st) h Q) ∧
  (∀ (n d : Nat) (L : List (Option iV)) (a : Int) (b : Int) (r : List iV) (h : iH) (Q : Option iV → iH → Prop), G sp sc [23] d mL_law (n + 1) 1618 L (.inl b :: .inl a :: r) h Q = G sp sc [23] d mL_law n 1619 L (.inl (a + b) :: r) h Q) ∧
  (∀ (n d : Nat) (L : List (Option iV)) (r : List iV) (j : Int) (h : iH) (Q : Option iV → iH → Prop), G sp sc [23] d mL_law (n + 1) 1619 L (.inl j :: .inr (.inr 1) :: r) h Q = (inA j sc.length = true ∧ G sp sc [23] d mL_law n 1620 L (.inl (sc.getD j.toNat 0) :: r) h Q)) ∧
  (∀ (n d : Nat) (L : List (Option iV)) (r : List iV) (j : Int) (m : Nat) (h : iH) (Q : Option iV → iH → Prop), G sp sc [23] d mL_law (n + 1) 1619 L (.inl j :: .inr (.inr (m + 2)) :: r) h Q = (match h.1[m]? with | some (.inr (.inl (0, xs))) => inA j xs.length = true ∧ G sp sc [23] d mL_law n 1620 L (.inl (xs.getD j.toNat 0) :: r) h Q | _ => False)) ∧
  (∀ (n d : Nat) (L : List (Option iV)) (st : List iV) (h : iH) (Q : Option iV → iH → Prop), G sp sc [23] d mL_law (n + 1) 1620 L st h Q = (match ld L 0 with | some (.inr (.inr (r + 1))) => G sp sc [23] d mL_law n 1621 L (.inr (.inr (r + 1)) :: st) h Q | _ => False)) ∧
  (∀ (n d : Nat) (L : List (Option iV)) (st : List iV) (h : iH) (Q : Option iV → iH → Prop), G sp sc [23] d mL_law (n + 1) 1621 L st h Q = (match ld L 4 with | some (.inl x) => G sp sc [23] d mL_law n 1623 L (.inl x :: st) h Q | _ => False)) ∧
  (∀ (n d : Nat) (L : List (Option iV)) (st : List iV) (h : iH) (Q : Option iV → iH → Prop), G sp sc [23] d mL_law (n + 1) 1623 L st h Q = G sp sc [23] d mL_law n 1624 L (.inl 4 :: st) h Q) ∧
  (∀ (n d : Nat) (L : List (Option iV)) (a : Int) (b : Int) (r : List iV) (h : iH) (Q : Option iV → iH → Prop), G sp sc [23] d mL_law (n + 1) 1624 L (.inl b :: .inl a :: r) h Q = G sp sc [23] d mL_law n 1625 L (.inl (a + b) :: r) h Q) ∧
  (∀ (n d : Nat) (L : List (Option iV)) (r : List iV) (j : Int) (h : iH) (Q : Option iV → iH → Prop), G sp sc [23] d mL_law (n + 1) 1625 L (.inl j :: .inr (.inr 1) :: r) h Q = (inA j sc.length = true ∧ G sp sc [23] d mL_law n 1626 L (.inl (sc.getD j.toNat 0) :: r) h Q)) ∧
  (∀ (n d : Nat) (L : List (Option iV)) (r : List iV) (j : Int) (m : Nat) (h : iH) (Q : Option iV → iH → Prop), G sp sc [23] d mL_law (n + 1) 1625 L (.inl j :: .inr (.inr (m + 2)) :: r) h Q = (match h.1[m]? with | some (.inr (.inl (0, xs))) => inA j xs.length = true ∧ G sp sc [23] d mL_law n 1626 L (.inl (xs.getD j.toNat 0) :: r) h Q | _ => False)) ∧
  (∀ (n d : Nat) (L : List (Option iV)) (r : List iV) (m : Nat) (z0 : iV) (z1 : iV) (z2 : iV) (z3 : iV) (h : iH) (Q : Option iV → iH → Prop), G sp sc [23] (d + 1) mL_law (n + 1) 1626 L (z3 :: z2 :: z1 :: z0 :: .inr (.inr (m + 2)) :: r) h Q = (match h.1[m]? with | some (.inl (ci, _)) => (match lkC 13 174 ci with | some (y1, n1, kd) => (n1 = 4 ∧ (kd = 2 ∨ kd = 3 ∨ kd = 8) ∧ cs r ≤ 8) ∧ Call sp sc d y1 [.inr (.inr (m + 2)), z0, z1, z2, z3] h (fun q h1 => GC sp sc [23] (d + 1) mL_law n 1629 L q r h h1 Q) | none => False) | _ => False)) ∧
  (∀ (n d : Nat) (L : List (Option iV)) (st : List iV) (h : iH) (Q : Option iV → iH → Prop), G sp sc [23] d mL_law (n + 1) 1629 L st h Q = (match ld L 2 with | some (.inr (.inr (r + 1))) => G sp sc [23] d mL_law n 1630 L (.inr (.inr (r + 1)) :: st) h Q | _ => False)) ∧
  (∀ (n d : Nat) (L : List (Option iV)) (st : List iV) (h : iH) (Q : Option iV → iH → Prop), G sp sc [23] d mL_law (n + 1) 1630 L st h Q = (match ld L 0 with | some (.inr (.inr (r + 1))) => G sp sc [23] d mL_law n 1631 L (.inr (.inr (r + 1)) :: st) h Q | _ => False)) ∧
  (∀ (n d : Nat) (L : List (Option iV)) (st : List iV) (h : iH) (Q : Option iV → iH → Prop), G sp sc [23] d mL_law (n + 1) 1631 L st h Q = (match ld L 4 with | some (.inl x) => G sp sc [23] d mL_law n 1633 L (.inl x :: st) h Q | _ => False)) ∧
  (∀ (n d : Nat) (L : List (Option iV)) (st : List iV) (h : iH) (Q : Option iV → iH → Prop), G sp sc [23] d mL_law (n + 1) 1633 L st h Q = G sp sc [23] d mL_law n 1634 L (.inl 1 :: st) h Q) ∧
  (∀ (n d : Nat) (L : List (Option iV)) (a : Int) (b : Int) (r : List iV) (h : iH) (Q : Option iV → iH → Prop), G sp sc [23] d mL_law (n + 1) 1634 L (.inl b :: .inl a :: r) h Q = G sp sc [23] d mL_law n 1635 L (.inl (a + b) :: r) h Q) ∧
  (∀ (n d : Nat) (L : List (Option iV)) (r : List iV) (j : Int) (h : iH) (Q : Option iV → iH → Prop), G sp sc [23] d mL_law (n + 1) 1635 L (.inl j :: .inr (.inr 1) :: r) h Q = (inA j sc.length = true ∧ G sp sc [23] d mL_law n 1636 L (.inl (sc.getD j.toNat 0) :: r) h Q)) ∧
  (∀ (n d : Nat) (L : List (Option iV)) (r : List iV) (j : Int) (m : Nat) (h : iH) (Q : Option iV → iH → Prop), G sp sc [23] d mL_law (n + 1) 1635 L (.inl j :: .inr (.inr (m + 2)) :: r) h Q = (match h.1[m]? with | some (.inr (.inl (0, xs))) => inA j xs.length = true ∧ G sp sc [23] d mL_law n 1636 L (.inl (xs.getD j.toNat 0) :: r) h Q | _ => False)) ∧
  (∀ (n d : Nat) (L : List (Option iV)) (st : List iV) (h : iH) (Q : Option iV → iH → Prop), G sp sc [23] d mL_law (n + 1) 1636 L st h Q = (match ld L 0 with | some (.inr (.inr (r + 1))) => G sp sc [23] d mL_law n 1637 L (.inr (.inr (r + 1)) :: st) h Q | _ => False)) ∧
  (∀ (n d : Nat) (L : List (Option iV)) (st : List iV) (h : iH) (Q : Option iV → iH → Prop), G sp sc [23] d mL_law (n + 1) 1637 L st h Q = (match ld L 4 with | some (.inl x) => G sp sc [23] d mL_law n 1639 L (.inl x :: st) h Q | _ => False)) ∧
  (∀ (n d : Nat) (L : List (Option iV)) (st : List iV) (h : iH) (Q : Option iV → iH → Prop), G sp sc [23] d mL_law (n + 1) 1639 L st h Q = G sp sc [23] d mL_law n 1640 L (.inl 2 :: st) h Q) ∧
  (∀ (n d : Nat) (L : List (Option iV)) (a : Int) (b : Int) (r : List iV) (h : iH) (Q : Option iV → iH → Prop), G sp sc [23] d mL_law (n + 1) 1640 L (.inl b :: .inl a :: r) h Q = G sp sc [23] d mL_law n 1641 L (.inl (a + b) :: r) h Q) ∧
  (∀ (n d : Nat) (L : List (Option iV)) (r : List iV) (j : Int) (h : iH) (Q : Option iV → iH → Prop), G sp sc [23] d mL_law (n + 1) 1641 L (.inl j :: .inr (.inr 1) :: r) h Q = (inA j sc.length = true ∧ G sp sc [23] d mL_law n 1642 L (.inl (sc.getD j.toNat 0) :: r) h Q)) ∧
  (∀ (n d : Nat) (L : List (Option iV)) (r : List iV) (j : Int) (m : Nat) (h : iH) (Q : Option iV → iH → Prop), G sp sc [23] d mL_law (n + 1) 1641 L (.inl j :: .inr (.inr (m + 2)) :: r) h Q = (match h.1[m]? with | some (.inr (.inl (0, xs))) => inA j xs.length = true ∧ G sp sc [23] d mL_law n 1642 L (.inl (xs.getD j.toNat 0) :: r) h Q | _ => False)) ∧
  (∀ (n d : Nat) (L : List (Option iV)) (st : List iV) (h : iH) (Q : Option iV → iH → Prop), G sp sc [23] d mL_law (n + 1) 1642 L st h Q = (match ld L 0 with | some (.inr (.inr (r + 1))) => G sp sc [23] d mL_law n 1643 L (.inr (.inr (r + 1)) :: st) h Q | _ => False)) ∧
  (∀ (n d : Nat) (L : List (Option iV)) (st : List iV) (h : iH) (Q : Option iV → iH → Prop), G sp sc [23] d mL_law (n + 1) 1643 L st h Q = (match ld L 4 with | some (.inl x) => G sp sc [23] d mL_law n 1645 L (.inl x :: st) h Q | _ => False)) ∧
  (∀ (n d : Nat) (L : List (Option iV)) (st : List iV) (h : iH) (Q : Option iV → iH → Prop), G sp sc [23] d mL_law (n + 1) 1645 L st h Q = G sp sc [23] d mL_law n 1646 L (.inl 3 :: st) h Q) ∧
  (∀ (n d : Nat) (L : List (Option iV)) (a : Int) (b : Int) (r : List iV) (h : iH) (Q : Option iV → iH → Prop), G sp sc [23] d mL_law (n + 1) 1646 L (.inl b :: .inl a :: r) h Q = G sp sc [23] d mL_law n 1647 L (.inl (a + b) :: r) h Q) ∧
  (∀ (n d : Nat) (L : List (Option iV)) (r : List iV) (j : Int) (h : iH) (Q : Option iV → iH → Prop), G sp sc [23] d mL_law (n + 1) 1647 L (.inl j :: .inr (.inr 1) :: r) h Q = (inA j sc.length = true ∧ G sp sc [23] d mL_law n 1648 L (.inl (sc.getD j.toNat 0) :: r) h Q)) ∧
  (∀ (n d : Nat) (L : List (Option iV)) (r : List iV) (j : Int) (m : Nat) (h : iH) (Q : Option iV → iH → Prop), G sp sc [23] d mL_law (n + 1) 1647 L (.inl j :: .inr (.inr (m + 2)) :: r) h Q = (match h.1[m]? with | some (.inr (.inl (0, xs))) => inA j xs.length = true ∧ G sp sc [23] d mL_law n 1648 L (.inl (xs.getD j.toNat 0) :: r) h Q | _ => False)) ∧
  (∀ (n d : Nat) (L : List (Option iV)) (st : List iV) (h : iH) (Q : Option iV → iH → Prop), G sp sc [23] d mL_law (n + 1) 1648 L st h Q = (match ld L 0 with | some (.inr (.inr (r + 1))) => G sp sc [23] d mL_law n 1649 L (.inr (.inr (r + 1)) :: st) h Q | _ => False)) ∧
  (∀ (n d : Nat) (L : List (Option iV)) (st : List iV) (h : iH) (Q : Option iV → iH → Prop), G sp sc [23] d mL_law (n + 1) 1649 L st h Q = (match ld L 4 with | some (.inl x) => G sp sc [23] d mL_law n 1651 L (.inl x :: st) h Q | _ => False)) ∧
  (∀ (n d : Nat) (L : List (Option iV)) (st : List iV) (h : iH) (Q : Option iV → iH → Prop), G sp sc [23] d mL_law (n + 1) 1651 L st h Q = G sp sc [23] d mL_law n 1652 L (.inl 4 :: st) h Q) ∧
  (∀ (n d : Nat) (L : List (Option iV)) (a : Int) (b : Int) (r : List iV) (h : iH) (Q : Option iV → iH → Prop), G sp sc [23] d mL_law (n + 1) 1652 L (.inl b :: .inl a :: r) h Q = G sp sc [23] d mL_law n 1653 L (.inl (a + b) :: r) h Q) ∧
  (∀ (n d : Nat) (L : List (Option iV)) (r : List iV) (j : Int) (h : iH) (Q : Option iV → iH → Prop), G sp sc [23] d mL_law (n + 1) 1653 L (.inl j :: .inr (.inr 1) :: r) h Q = (inA j sc.length = true ∧ G sp sc [23] d mL_law n 1654 L (.inl (sc.getD j.toNat 0) :: r) h Q)) ∧
  (∀ (n d : Nat) (L : List (Option iV)) (r : List iV) (j : Int) (m : Nat) (h : iH) (Q : Option iV → iH → Prop), G sp sc [23] d mL_law (n + 1) 1653 L (.inl j :: .inr (.inr (m + 2)) :: r) h Q = (match h.1[m]? with | some (.inr (.inl (0, xs))) => inA j xs.length = true ∧ G sp sc [23] d mL_law n 1654 L (.inl (xs.getD j.toNat 0) :: r) h Q | _ => False)) ∧
  (∀ (n d : Nat) (L : List (Option iV)) (r : List iV) (m : Nat) (z0 : iV) (z1 : iV) (z2 : iV) (z3 : iV) (h : iH) (Q : Option iV → iH → Prop), G sp sc [23] (d + 1) mL_law (n + 1) 1654 L (z3 :: z2 :: z1 :: z0 :: .inr (.inr (m + 2)) :: r) h Q = (match h.1[m]? with | some (.inl (ci, _)) => (match lkC 13 177 ci with | some (y1, n1, kd) => (n1 = 4 ∧ (kd = 2 ∨ kd = 3 ∨ kd = 8) ∧ cs r ≤ 8) ∧ Call sp sc d y1 [.inr (.inr (m + 2)), z0, z1, z2, z3] h (fun q h1 => GC sp sc [23] (d + 1) mL_law n 1657 L q r h h1 Q) | none => False) | _ => False)) ∧
  (∀ (n d : Nat) (L : List (Option iV)) (a : Int) (b : Int) (r : List iV) (h : iH) (Q : Option iV → iH → Prop), G sp sc [23] d mL_law (n + 1) 1657 L (.inl b :: .inl a :: r) h Q = ((inI a = true ∧ inI b = true) ∧ (a = b → G sp sc [23] d mL_law n 1950 L r h Q) ∧ (¬ (a = b) → G sp sc [23] d mL_law n 1660 L r h Q))) ∧
  (∀ (n d : Nat) (L : List (Option iV)) (st : List iV) (h : iH) (Q : Option iV → iH → Prop), G sp sc [23] d mL_law (n + 1) 1660 L st h Q = G sp sc [23] d mL_law n 1661 L (.inl 0 :: st) h Q) ∧
  (∀ (n d : Nat) (L : List (Option iV)) (a : Int) (h : iH) (Q : Option iV → iH → Prop), G sp sc [23] d mL_law (n + 1) 1661 L [.inl a] h Q = ((a = 0 ∨ a = 1) ∧ Q (some (.inl a)) h)) := ⟨by intros; exact G_at (by decide +kernel : fetch mL_law 1601 = some (.aload_n 1)),
  by intros; exact G_at (by decide +kernel : fetch mL_law 1602 = some (.aload_n 0)),
  by intros; exact G_at (by decide +kernel : fetch mL_law 1603 = some (.iload 4)),
  by intros; exact G_at (by decide +kernel : fetch mL_law 1605 = some (.iconst 1)),
  by intros; exact G_at (by decide +kernel : fetch mL_law 1606 = some (.iadd)),
  by intros; exact G_at (by decide +kernel : fetch mL_law 1607 = some (.iaload)),
  by intros; exact G_at (by decide +kernel : fetch mL_law 1607 = some (.iaload)),
  by intros; exact G_at (by decide +kernel : fetch mL_law 1608 = some (.aload_n 0)),
  by intros; exact G_at (by decide +kernel : fetch mL_law 1609 = some (.iload 4)),
  by intros; exact G_at (by decide +kernel : fetch mL_law 1611 = some (.iconst 2)),
  by intros; exact G_at (by decide +kernel : fetch mL_law 1612 = some (.iadd)),
  by intros; exact G_at (by decide +kernel : fetch mL_law 1613 = some (.iaload)),
  by intros; exact G_at (by decide +kernel : fetch mL_law 1613 = some (.iaload)),
  by intros; exact G_at (by decide +kernel : fetch mL_law 1614 = some (.aload_n 0)),
  by intros; exact G_at (by decide +kernel : fetch mL_law 1615 = some (.iload 4)),
  by intros; exact G_at (by decide +kernel : fetch mL_law 1617 = some (.iconst 3)),
  by intros; exact G_at (by decide +kernel : fetch mL_law 1618 = some (.iadd)),
  by intros; exact G_at (by decide +kernel : fetch mL_law 1619 = some (.iaload)),
  by intros; exact G_at (by decide +kernel : fetch mL_law 1619 = some (.iaload)),
  by intros; exact G_at (by decide +kernel : fetch mL_law 1620 = some (.aload_n 0)),
  by intros; exact G_at (by decide +kernel : fetch mL_law 1621 = some (.iload 4)),
  by intros; exact G_at (by decide +kernel : fetch mL_law 1623 = some (.iconst 4)),
  by intros; exact G_at (by decide +kernel : fetch mL_law 1624 = some (.iadd)),
  by intros; exact G_at (by decide +kernel : fetch mL_law 1625 = some (.iaload)),
  by intros; exact G_at (by decide +kernel : fetch mL_law 1625 = some (.iaload)),
  by intros; exact G_callV (by decide +kernel : fetch mL_law 1626 = some (.invokevirtual 174)) (by decide +kernel) (by decide +kernel) rfl,
  by intros; exact G_at (by decide +kernel : fetch mL_law 1629 = some (.aload_n 2)),
  by intros; exact G_at (by decide +kernel : fetch mL_law 1630 = some (.aload_n 0)),
  by intros; exact G_at (by decide +kernel : fetch mL_law 1631 = some (.iload 4)),
  by intros; exact G_at (by decide +kernel : fetch mL_law 1633 = some (.iconst 1)),
  by intros; exact G_at (by decide +kernel : fetch mL_law 1634 = some (.iadd)),
  by intros; exact G_at (by decide +kernel : fetch mL_law 1635 = some (.iaload)),
  by intros; exact G_at (by decide +kernel : fetch mL_law 1635 = some (.iaload)),
  by intros; exact G_at (by decide +kernel : fetch mL_law 1636 = some (.aload_n 0)),
  by intros; exact G_at (by decide +kernel : fetch mL_law 1637 = some (.iload 4)),
  by intros; exact G_at (by decide +kernel : fetch mL_law 1639 = some (.iconst 2)),
  by intros; exact G_at (by decide +kernel : fetch mL_law 1640 = some (.iadd)),
  by intros; exact G_at (by decide +kernel : fetch mL_law 1641 = some (.iaload)),
  by intros; exact G_at (by decide +kernel : fetch mL_law 1641 = some (.iaload)),
  by intros; exact G_at (by decide +kernel : fetch mL_law 1642 = some (.aload_n 0)),
  by intros; exact G_at (by decide +kernel : fetch mL_law 1643 = some (.iload 4)),
  by intros; exact G_at (by decide +kernel : fetch mL_law 1645 = some (.iconst 3)),
  by intros; exact G_at (by decide +kernel : fetch mL_law 1646 = some (.iadd)),
  by intros; exact G_at (by decide +kernel : fetch mL_law 1647 = some (.iaload)),
  by intros; exact G_at (by decide +kernel : fetch mL_law 1647 = some (.iaload)),
  by intros; exact G_at (by decide +kernel : fetch mL_law 1648 = some (.aload_n 0)),
  by intros; exact G_at (by decide +kernel : fetch mL_law 1649 = some (.iload 4)),
  by intros; exact G_at (by decide +kernel : fetch mL_law 1651 = some (.iconst 4)),
  by intros; exact G_at (by decide +kernel : fetch mL_law 1652 = some (.iadd)),
  by intros; exact G_at (by decide +kernel : fetch mL_law 1653 = some (.iaload)),
  by intros; exact G_at (by decide +kernel : fetch mL_law 1653 = some (.iaload)),
  by intros; exact G_callV (by decide +kernel : fetch mL_law 1654 = some (.invokevirtual 177)) (by decide +kernel) (by decide +kernel) rfl,
  by intros; exact G_at (by decide +kernel : fetch mL_law 1657 = some (.if_icmp .eq 293)),
  by intros; exact G_at (by decide +kernel : fetch mL_law 1660 = some (.iconst 0)),
  by intros; exact G_retz (by decide +kernel : fetch mL_law 1661 = some (.ireturn)) (by decide +kernel)⟩
theorem gL_c38 : (∀ (n d : Nat) (L : List (Option iV)) (st : List iV) (h : iH) (Q : Option iV → iH → Prop), G sp sc [23] d mL_law (n + 1) 1662 L st h Q = (match ld L 1 with | some (.inr (.inr (r + 1))) => G sp sc [23] d mL_law n 1663 L (.inr (.inr (r + 1)) :: st) h Q | _ => False)) ∧
  (∀ (n d : Nat) (L : List (Option iV)) (st : List iV) (h : iH) (Q : Option iV → iH → Prop), G sp sc [23] d mL_law (n + 1) 1663 L st h Q = (match ld L 0 with | some (.inr (.inr (r + 1))) => G sp sc [23] d mL_law n 1664 L (.inr (.inr (r + 1)) :: st) h Q | _ => False)) ∧
  (∀ (n d : Nat) (L : List (Option iV)) (st : List iV) (h : iH) (Q : Option iV → iH → Prop), G sp sc [23] d mL_law (n + 1) 1664 L st h Q = (match ld L 4 with | some (.inl x) => G sp sc [23] d mL_law n 1666 L (.inl x :: st) h Q | _ => False)) ∧
  (∀ (n d : Nat) (L : List (Option iV)) (st : List iV) (h : iH) (Q : Option iV → iH → Prop), G sp sc [23] d mL_law (n + 1) 1666 L st h Q = G sp sc [23] d mL_law n 1667 L (.inl 1 :: st) h Q) ∧
  (∀ (n d : Nat) (L : List (Option iV)) (a : Int) (b : Int) (r : List iV) (h : iH) (Q : Option iV → iH → Prop), G sp sc [23] d mL_law (n + 1) 1667 L (.inl b :: .inl a :: r) h Q = G sp sc [23] d mL_law n 1668 L (.inl (a + b) :: r) h Q) ∧
  (∀ (n d : Nat) (L : List (Option iV)) (r : List iV) (j : Int) (h : iH) (Q : Option iV → iH → Prop), G sp sc [23] d mL_law (n + 1) 1668 L (.inl j :: .inr (.inr 1) :: r) h Q = (inA j sc.length = true ∧ G sp sc [23] d mL_law n 1669 L (.inl (sc.getD j.toNat 0) :: r) h Q)) ∧
  (∀ (n d : Nat) (L : List (Option iV)) (r : List iV) (j : Int) (m : Nat) (h : iH) (Q : Option iV → iH → Prop), G sp sc [23] d mL_law (n + 1) 1668 L (.inl j :: .inr (.inr (m + 2)) :: r) h Q = (match h.1[m]? with | some (.inr (.inl (0, xs))) => inA j xs.length = true ∧ G sp sc [23] d mL_law n 1669 L (.inl (xs.getD j.toNat 0) :: r) h Q | _ => False)) ∧
  (∀ (n d : Nat) (L : List (Option iV)) (st : List iV) (h : iH) (Q : Option iV → iH → Prop), G sp sc [23] d mL_law (n + 1) 1669 L st h Q = (match ld L 0 with | some (.inr (.inr (r + 1))) => G sp sc [23] d mL_law n 1670 L (.inr (.inr (r + 1)) :: st) h Q | _ => False)) ∧
  (∀ (n d : Nat) (L : List (Option iV)) (st : List iV) (h : iH) (Q : Option iV → iH → Prop), G sp sc [23] d mL_law (n + 1) 1670 L st h Q = (match ld L 4 with | some (.inl x) => G sp sc [23] d mL_law n 1672 L (.inl x :: st) h Q | _ => False)) ∧
  (∀ (n d : Nat) (L : List (Option iV)) (st : List iV) (h : iH) (Q : Option iV → iH → Prop), G sp sc [23] d mL_law (n + 1) 1672 L st h Q = G sp sc [23] d mL_law n 1673 L (.inl 2 :: st) h Q) ∧
  (∀ (n d : Nat) (L : List (Option iV)) (a : Int) (b : Int) (r : List iV) (h : iH) (Q : Option iV → iH → Prop), G sp sc [23] d mL_law (n + 1) 1673 L (.inl b :: .inl a :: r) h Q = G sp sc [23] d mL_law n 1674 L (.inl (a + b) :: r) h Q) ∧
  (∀ (n d : Nat) (L : List (Option iV)) (r : List iV) (j : Int) (h : iH) (Q : Option iV → iH → Prop), G sp sc [23] d mL_law (n + 1) 1674 L (.inl j :: .inr (.inr 1) :: r) h Q = (inA j sc.length = true ∧ G sp sc [23] d mL_law n 1675 L (.inl (sc.getD j.toNat 0) :: r) h Q)) ∧
  (∀ (n d : Nat) (L : List (Option iV)) (r : List iV) (j : Int) (m : Nat) (h : iH) (Q : Option iV → iH → Prop), G sp sc [23] d mL_law (n + 1) 1674 L (.inl j :: .inr (.inr (m + 2)) :: r) h Q = (match h.1[m]? with | some (.inr (.inl (0, xs))) => inA j xs.length = true ∧ G sp sc [23] d mL_law n 1675 L (.inl (xs.getD j.toNat 0) :: r) h Q | _ => False)) ∧
  (∀ (n d : Nat) (L : List (Option iV)) (st : List iV) (h : iH) (Q : Option iV → iH → Prop), G sp sc [23] d mL_law (n + 1) 1675 L st h Q = (match ld L 0 with | some (.inr (.inr (r + 1))) => G sp sc [23] d mL_law n 1676 L (.inr (.inr (r + 1)) :: st) h Q | _ => False)) ∧
  (∀ (n d : Nat) (L : List (Option iV)) (st : List iV) (h : iH) (Q : Option iV → iH → Prop), G sp sc [23] d mL_law (n + 1) 1676 L st h Q = (match ld L 4 with | some (.inl x) => G sp sc [23] d mL_law n 1678 L (.inl x :: st) h Q | _ => False)) ∧
  (∀ (n d : Nat) (L : List (Option iV)) (st : List iV) (h : iH) (Q : Option iV → iH → Prop), G sp sc [23] d mL_law (n + 1) 1678 L st h Q = G sp sc [23] d mL_law n 1679 L (.inl 3 :: st) h Q) ∧
  (∀ (n d : Nat) (L : List (Option iV)) (a : Int) (b : Int) (r : List iV) (h : iH) (Q : Option iV → iH → Prop), G sp sc [23] d mL_law (n + 1) 1679 L (.inl b :: .inl a :: r) h Q = G sp sc [23] d mL_law n 1680 L (.inl (a + b) :: r) h Q) ∧
  (∀ (n d : Nat) (L : List (Option iV)) (r : List iV) (j : Int) (h : iH) (Q : Option iV → iH → Prop), G sp sc [23] d mL_law (n + 1) 1680 L (.inl j :: .inr (.inr 1) :: r) h Q = (inA j sc.length = true ∧ G sp sc [23] d mL_law n 1681 L (.inl (sc.getD j.toNat 0) :: r) h Q)) ∧
  (∀ (n d : Nat) (L : List (Option iV)) (r : List iV) (j : Int) (m : Nat) (h : iH) (Q : Option iV → iH → Prop), G sp sc [23] d mL_law (n + 1) 1680 L (.inl j :: .inr (.inr (m + 2)) :: r) h Q = (match h.1[m]? with | some (.inr (.inl (0, xs))) => inA j xs.length = true ∧ G sp sc [23] d mL_law n 1681 L (.inl (xs.getD j.toNat 0) :: r) h Q | _ => False)) ∧
  (∀ (n d : Nat) (L : List (Option iV)) (r : List iV) (m : Nat) (z0 : iV) (z1 : iV) (z2 : iV) (h : iH) (Q : Option iV → iH → Prop), G sp sc [23] (d + 1) mL_law (n + 1) 1681 L (z2 :: z1 :: z0 :: .inr (.inr (m + 2)) :: r) h Q = (match h.1[m]? with | some (.inl (ci, _)) => (match lkC 13 178 ci with | some (y1, n1, kd) => (n1 = 3 ∧ (kd = 2 ∨ kd = 3 ∨ kd = 8) ∧ cs r ≤ 8) ∧ Call sp sc d y1 [.inr (.inr (m + 2)), z0, z1, z2] h (fun q h1 => GC sp sc [23] (d + 1) mL_law n 1684 L q r h h1 Q) | none => False) | _ => False)) ∧
  (∀ (n d : Nat) (L : List (Option iV)) (st : List iV) (h : iH) (Q : Option iV → iH → Prop), G sp sc [23] d mL_law (n + 1) 1684 L st h Q = (match ld L 2 with | some (.inr (.inr (r + 1))) => G sp sc [23] d mL_law n 1685 L (.inr (.inr (r + 1)) :: st) h Q | _ => False)) ∧
  (∀ (n d : Nat) (L : List (Option iV)) (st : List iV) (h : iH) (Q : Option iV → iH → Prop), G sp sc [23] d mL_law (n + 1) 1685 L st h Q = (match ld L 0 with | some (.inr (.inr (r + 1))) => G sp sc [23] d mL_law n 1686 L (.inr (.inr (r + 1)) :: st) h Q | _ => False)) ∧
  (∀ (n d : Nat) (L : List (Option iV)) (st : List iV) (h : iH) (Q : Option iV → iH → Prop), G sp sc [23] d mL_law (n + 1) 1686 L st h Q = (match ld L 4 with | some (.inl x) => G sp sc [23] d mL_law n 1688 L (.inl x :: st) h Q | _ => False)) ∧
  (∀ (n d : Nat) (L : List (Option iV)) (st : List iV) (h : iH) (Q : Option iV → iH → Prop), G sp sc [23] d mL_law (n + 1) 1688 L st h Q = G sp sc [23] d mL_law n 1689 L (.inl 1 :: st) h Q) ∧
  (∀ (n d : Nat) (L : List (Option iV)) (a : Int) (b : Int) (r : List iV) (h : iH) (Q : Option iV → iH → Prop), G sp sc [23] d mL_law (n + 1) 1689 L (.inl b :: .inl a :: r) h Q = G sp sc [23] d mL_law n 1690 L (.inl (a + b) :: r) h Q) ∧
  (∀ (n d : Nat) (L : List (Option iV)) (r : List iV) (j : Int) (h : iH) (Q : Option iV → iH → Prop), G sp sc [23] d mL_law (n + 1) 1690 L (.inl j :: .inr (.inr 1) :: r) h Q = (inA j sc.length = true ∧ G sp sc [23] d mL_law n 1691 L (.inl (sc.getD j.toNat 0) :: r) h Q)) ∧
  (∀ (n d : Nat) (L : List (Option iV)) (r : List iV) (j : Int) (m : Nat) (h : iH) (Q : Option iV → iH → Prop), G sp sc [23] d mL_law (n + 1) 1690 L (.inl j :: .inr (.inr (m + 2)) :: r) h Q = (match h.1[m]? with | some (.inr (.inl (0, xs))) => inA j xs.length = true ∧ G sp sc [23] d mL_law n 1691 L (.inl (xs.getD j.toNat 0) :: r) h Q | _ => False)) ∧
  (∀ (n d : Nat) (L : List (Option iV)) (st : List iV) (h : iH) (Q : Option iV → iH → Prop), G sp sc [23] d mL_law (n + 1) 1691 L st h Q = (match ld L 0 with | some (.inr (.inr (r + 1))) => G sp sc [23] d mL_law n 1692 L (.inr (.inr (r + 1)) :: st) h Q | _ => False)) ∧
  (∀ (n d : Nat) (L : List (Option iV)) (st : List iV) (h : iH) (Q : Option iV → iH → Prop), G sp sc [23] d mL_law (n + 1) 1692 L st h Q = (match ld L 4 with | some (.inl x) => G sp sc [23] d mL_law n 1694 L (.inl x :: st) h Q | _ => False)) ∧
  (∀ (n d : Nat) (L : List (Option iV)) (st : List iV) (h : iH) (Q : Option iV → iH → Prop), G sp sc [23] d mL_law (n + 1) 1694 L st h Q = G sp sc [23] d mL_law n 1695 L (.inl 2 :: st) h Q) ∧
  (∀ (n d : Nat) (L : List (Option iV)) (a : Int) (b : Int) (r : List iV) (h : iH) (Q : Option iV → iH → Prop), G sp sc [23] d mL_law (n + 1) 1695 L (.inl b :: .inl a :: r) h Q = G sp sc [23] d mL_law n 1696 L (.inl (a + b) :: r) h Q) ∧
  (∀ (n d : Nat) (L : List (Option iV)) (r : List iV) (j : Int) (h : iH) (Q : Option iV → iH → Prop), G sp sc [23] d mL_law (n + 1) 1696 L (.inl j :: .inr (.inr 1) :: r) h Q = (inA j sc.length = true ∧ G sp sc [23] d mL_law n 1697 L (.inl (sc.getD j.toNat 0) :: r) h Q)) ∧
  (∀ (n d : Nat) (L : List (Option iV)) (r : List iV) (j : Int) (m : Nat) (h : iH) (Q : Option iV → iH → Prop), G sp sc [23] d mL_law (n + 1) 1696 L (.inl j :: .inr (.inr (m + 2)) :: r) h Q = (match h.1[m]? with | some (.inr (.inl (0, xs))) => inA j xs.length = true ∧ G sp sc [23] d mL_law n 1697 L (.inl (xs.getD j.toNat 0) :: r) h Q | _ => False)) ∧
  (∀ (n d : Nat) (L : List (Option iV)) (st : List iV) (h : iH) (Q : Option iV → iH → Prop), G sp sc [23] d mL_law (n + 1) 1697 L st h Q = (match ld L 0 with | some (.inr (.inr (r + 1))) => G sp sc [23] d mL_law n 1698 L (.inr (.inr (r + 1)) :: st) h Q | _ => False)) ∧
  (∀ (n d : Nat) (L : List (Option iV)) (st : List iV) (h : iH) (Q : Option iV → iH → Prop), G sp sc [23] d mL_law (n + 1) 1698 L st h Q = (match ld L 4 with | some (.inl x) => G sp sc [23] d mL_law n 1700 L (.inl x :: st) h Q | _ => False)) ∧
  (∀ (n d : Nat) (L : List (Option iV)) (st : List iV) (h : iH) (Q : Option iV → iH → Prop), G sp sc [23] d mL_law (n + 1) 1700 L st h Q = G sp sc [23] d mL_law n 1701 L (.inl 3 :: st) h Q) ∧
  (∀ (n d : Nat) (L : List (Option iV)) (a : Int) (b : Int) (r : List iV) (h : iH) (Q : Option iV → iH → Prop), G sp sc [23] d mL_law (n + 1) 1701 L (.inl b :: .inl a :: r) h Q = G sp sc [23] d mL_law n 1702 L (.inl (a + b) :: r) h Q) ∧
  (∀ (n d : Nat) (L : List (Option iV)) (r : List iV) (j : Int) (h : iH) (Q : Option iV → iH → Prop), G sp sc [23] d mL_law (n + 1) 1702 L (.inl j :: .inr (.inr 1) :: r) h Q = (inA j sc.length = true ∧ G sp sc [23] d mL_law n 1703 L (.inl (sc.getD j.toNat 0) :: r) h Q)) ∧
  (∀ (n d : Nat) (L : List (Option iV)) (r : List iV) (j : Int) (m : Nat) (h : iH) (Q : Option iV → iH → Prop), G sp sc [23] d mL_law (n + 1) 1702 L (.inl j :: .inr (.inr (m + 2)) :: r) h Q = (match h.1[m]? with | some (.inr (.inl (0, xs))) => inA j xs.length = true ∧ G sp sc [23] d mL_law n 1703 L (.inl (xs.getD j.toNat 0) :: r) h Q | _ => False)) ∧
  (∀ (n d : Nat) (L : List (Option iV)) (r : List iV) (m : Nat) (z0 : iV) (z1 : iV) (z2 : iV) (h : iH) (Q : Option iV → iH → Prop), G sp sc [23] (d + 1) mL_law (n + 1) 1703 L (z2 :: z1 :: z0 :: .inr (.inr (m + 2)) :: r) h Q = (match h.1[m]? with | some (.inl (ci, _)) => (match lkC 13 181 ci with | some (y1, n1, kd) => (n1 = 3 ∧ (kd = 2 ∨ kd = 3 ∨ kd = 8) ∧ cs r ≤ 8) ∧ Call sp sc d y1 [.inr (.inr (m + 2)), z0, z1, z2] h (fun q h1 => GC sp sc [23] (d + 1) mL_law n 1706 L q r h h1 Q) | none => False) | _ => False)) ∧
  (∀ (n d : Nat) (L : List (Option iV)) (a : Int) (b : Int) (r : List iV) (h : iH) (Q : Option iV → iH → Prop), G sp sc [23] d mL_law (n + 1) 1706 L (.inl b :: .inl a :: r) h Q = ((inI a = true ∧ inI b = true) ∧ (a = b → G sp sc [23] d mL_law n 1950 L r h Q) ∧ (¬ (a = b) → G sp sc [23] d mL_law n 1709 L r h Q))) ∧
  (∀ (n d : Nat) (L : List (Option iV)) (st : List iV) (h : iH) (Q : Option iV → iH → Prop), G sp sc [23] d mL_law (n + 1) 1709 L st h Q = G sp sc [23] d mL_law n 1710 L (.inl 0 :: st) h Q) ∧
  (∀ (n d : Nat) (L : List (Option iV)) (a : Int) (h : iH) (Q : Option iV → iH → Prop), G sp sc [23] d mL_law (n + 1) 1710 L [.inl a] h Q = ((a = 0 ∨ a = 1) ∧ Q (some (.inl a)) h)) := ⟨by intros; exact G_at (by decide +kernel : fetch mL_law 1662 = some (.aload_n 1)),
  by intros; exact G_at (by decide +kernel : fetch mL_law 1663 = some (.aload_n 0)),
  by intros; exact G_at (by decide +kernel : fetch mL_law 1664 = some (.iload 4)),
  by intros; exact G_at (by decide +kernel : fetch mL_law 1666 = some (.iconst 1)),
  by intros; exact G_at (by decide +kernel : fetch mL_law 1667 = some (.iadd)),
  by intros; exact G_at (by decide +kernel : fetch mL_law 1668 = some (.iaload)),
  by intros; exact G_at (by decide +kernel : fetch mL_law 1668 = some (.iaload)),
  by intros; exact G_at (by decide +kernel : fetch mL_law 1669 = some (.aload_n 0)),
  by intros; exact G_at (by decide +kernel : fetch mL_law 1670 = some (.iload 4)),
  by intros; exact G_at (by decide +kernel : fetch mL_law 1672 = some (.iconst 2)),
  by intros; exact G_at (by decide +kernel : fetch mL_law 1673 = some (.iadd)),
  by intros; exact G_at (by decide +kernel : fetch mL_law 1674 = some (.iaload)),
  by intros; exact G_at (by decide +kernel : fetch mL_law 1674 = some (.iaload)),
  by intros; exact G_at (by decide +kernel : fetch mL_law 1675 = some (.aload_n 0)),
  by intros; exact G_at (by decide +kernel : fetch mL_law 1676 = some (.iload 4)),
  by intros; exact G_at (by decide +kernel : fetch mL_law 1678 = some (.iconst 3)),
  by intros; exact G_at (by decide +kernel : fetch mL_law 1679 = some (.iadd)),
  by intros; exact G_at (by decide +kernel : fetch mL_law 1680 = some (.iaload)),
  by intros; exact G_at (by decide +kernel : fetch mL_law 1680 = some (.iaload)),
  by intros; exact G_callV (by decide +kernel : fetch mL_law 1681 = some (.invokevirtual 178)) (by decide +kernel) (by decide +kernel) rfl,
  by intros; exact G_at (by decide +kernel : fetch mL_law 1684 = some (.aload_n 2)),
  by intros; exact G_at (by decide +kernel : fetch mL_law 1685 = some (.aload_n 0)),
  by intros; exact G_at (by decide +kernel : fetch mL_law 1686 = some (.iload 4)),
  by intros; exact G_at (by decide +kernel : fetch mL_law 1688 = some (.iconst 1)),
  by intros; exact G_at (by decide +kernel : fetch mL_law 1689 = some (.iadd)),
  by intros; exact G_at (by decide +kernel : fetch mL_law 1690 = some (.iaload)),
  by intros; exact G_at (by decide +kernel : fetch mL_law 1690 = some (.iaload)),
  by intros; exact G_at (by decide +kernel : fetch mL_law 1691 = some (.aload_n 0)),
  by intros; exact G_at (by decide +kernel : fetch mL_law 1692 = some (.iload 4)),
  by intros; exact G_at (by decide +kernel : fetch mL_law 1694 = some (.iconst 2)),
  by intros; exact G_at (by decide +kernel : fetch mL_law 1695 = some (.iadd)),
  by intros; exact G_at (by decide +kernel : fetch mL_law 1696 = some (.iaload)),
  by intros; exact G_at (by decide +kernel : fetch mL_law 1696 = some (.iaload)),
  by intros; exact G_at (by decide +kernel : fetch mL_law 1697 = some (.aload_n 0)),
  by intros; exact G_at (by decide +kernel : fetch mL_law 1698 = some (.iload 4)),
  by intros; exact G_at (by decide +kernel : fetch mL_law 1700 = some (.iconst 3)),
  by intros; exact G_at (by decide +kernel : fetch mL_law 1701 = some (.iadd)),
  by intros; exact G_at (by decide +kernel : fetch mL_law 1702 = some (.iaload)),
  by intros; exact G_at (by decide +kernel : fetch mL_law 1702 = some (.iaload)),
  by intros; exact G_callV (by decide +kernel : fetch mL_law 1703 = some (.invokevirtual 181)) (by decide +kernel) (by decide +kernel) rfl,
  by intros; exact G_at (by decide +kernel : fetch mL_law 1706 = some (.if_icmp .eq 244)),
  by intros; exact G_at (by decide +kernel : fetch mL_law 1709 = some (.iconst 0)),
  by intros; exact G_retz (by decide +kernel : fetch mL_law 1710 = some (.ireturn)) (by decide +kernel)⟩
theorem gL_c39 : (∀ (n d : Nat) (L : List (Option iV)) (st : List iV) (h : iH) (Q : Option iV → iH → Prop), G sp sc [23] d mL_law (n + 1) 1711 L st h Q = (match ld L 1 with | some (.inr (.inr (r + 1))) => G sp sc [23] d mL_law n 1712 L (.inr (.inr (r + 1)) :: st) h Q | _ => False)) ∧
  (∀ (n d : Nat) (L : List (Option iV)) (st : List iV) (h : iH) (Q : Option iV → iH → Prop), G sp sc [23] d mL_law (n + 1) 1712 L st h Q = (match ld L 0 with | some (.inr (.inr (r + 1))) => G sp sc [23] d mL_law n 1713 L (.inr (.inr (r + 1)) :: st) h Q | _ => False)) ∧
  (∀ (n d : Nat) (L : List (Option iV)) (st : List iV) (h : iH) (Q : Option iV → iH → Prop), G sp sc [23] d mL_law (n + 1) 1713 L st h Q = (match ld L 4 with | some (.inl x) => G sp sc [23] d mL_law n 1715 L (.inl x :: st) h Q | _ => False)) ∧
  (∀ (n d : Nat) (L : List (Option iV)) (st : List iV) (h : iH) (Q : Option iV → iH → Prop), G sp sc [23] d mL_law (n + 1) 1715 L st h Q = G sp sc [23] d mL_law n 1716 L (.inl 1 :: st) h Q) ∧
  (∀ (n d : Nat) (L : List (Option iV)) (a : Int) (b : Int) (r : List iV) (h : iH) (Q : Option iV → iH → Prop), G sp sc [23] d mL_law (n + 1) 1716 L (.inl b :: .inl a :: r) h Q = G sp sc [23] d mL_law n 1717 L (.inl (a + b) :: r) h Q) ∧
  (∀ (n d : Nat) (L : List (Option iV)) (r : List iV) (j : Int) (h : iH) (Q : Option iV → iH → Prop), G sp sc [23] d mL_law (n + 1) 1717 L (.inl j :: .inr (.inr 1) :: r) h Q = (inA j sc.length = true ∧ G sp sc [23] d mL_law n 1718 L (.inl (sc.getD j.toNat 0) :: r) h Q)) ∧
  (∀ (n d : Nat) (L : List (Option iV)) (r : List iV) (j : Int) (m : Nat) (h : iH) (Q : Option iV → iH → Prop), G sp sc [23] d mL_law (n + 1) 1717 L (.inl j :: .inr (.inr (m + 2)) :: r) h Q = (match h.1[m]? with | some (.inr (.inl (0, xs))) => inA j xs.length = true ∧ G sp sc [23] d mL_law n 1718 L (.inl (xs.getD j.toNat 0) :: r) h Q | _ => False)) ∧
  (∀ (n d : Nat) (L : List (Option iV)) (st : List iV) (h : iH) (Q : Option iV → iH → Prop), G sp sc [23] d mL_law (n + 1) 1718 L st h Q = (match ld L 0 with | some (.inr (.inr (r + 1))) => G sp sc [23] d mL_law n 1719 L (.inr (.inr (r + 1)) :: st) h Q | _ => False)) ∧
  (∀ (n d : Nat) (L : List (Option iV)) (st : List iV) (h : iH) (Q : Option iV → iH → Prop), G sp sc [23] d mL_law (n + 1) 1719 L st h Q = (match ld L 4 with | some (.inl x) => G sp sc [23] d mL_law n 1721 L (.inl x :: st) h Q | _ => False)) ∧
  (∀ (n d : Nat) (L : List (Option iV)) (st : List iV) (h : iH) (Q : Option iV → iH → Prop), G sp sc [23] d mL_law (n + 1) 1721 L st h Q = G sp sc [23] d mL_law n 1722 L (.inl 2 :: st) h Q) ∧
  (∀ (n d : Nat) (L : List (Option iV)) (a : Int) (b : Int) (r : List iV) (h : iH) (Q : Option iV → iH → Prop), G sp sc [23] d mL_law (n + 1) 1722 L (.inl b :: .inl a :: r) h Q = G sp sc [23] d mL_law n 1723 L (.inl (a + b) :: r) h Q) ∧
  (∀ (n d : Nat) (L : List (Option iV)) (r : List iV) (j : Int) (h : iH) (Q : Option iV → iH → Prop), G sp sc [23] d mL_law (n + 1) 1723 L (.inl j :: .inr (.inr 1) :: r) h Q = (inA j sc.length = true ∧ G sp sc [23] d mL_law n 1724 L (.inl (sc.getD j.toNat 0) :: r) h Q)) ∧
  (∀ (n d : Nat) (L : List (Option iV)) (r : List iV) (j : Int) (m : Nat) (h : iH) (Q : Option iV → iH → Prop), G sp sc [23] d mL_law (n + 1) 1723 L (.inl j :: .inr (.inr (m + 2)) :: r) h Q = (match h.1[m]? with | some (.inr (.inl (0, xs))) => inA j xs.length = true ∧ G sp sc [23] d mL_law n 1724 L (.inl (xs.getD j.toNat 0) :: r) h Q | _ => False)) ∧
  (∀ (n d : Nat) (L : List (Option iV)) (st : List iV) (h : iH) (Q : Option iV → iH → Prop), G sp sc [23] d mL_law (n + 1) 1724 L st h Q = (match ld L 0 with | some (.inr (.inr (r + 1))) => G sp sc [23] d mL_law n 1725 L (.inr (.inr (r + 1)) :: st) h Q | _ => False)) ∧
  (∀ (n d : Nat) (L : List (Option iV)) (st : List iV) (h : iH) (Q : Option iV → iH → Prop), G sp sc [23] d mL_law (n + 1) 1725 L st h Q = (match ld L 4 with | some (.inl x) => G sp sc [23] d mL_law n 1727 L (.inl x :: st) h Q | _ => False)) ∧
  (∀ (n d : Nat) (L : List (Option iV)) (st : List iV) (h : iH) (Q : Option iV → iH → Prop), G sp sc [23] d mL_law (n + 1) 1727 L st h Q = G sp sc [23] d mL_law n 1728 L (.inl 3 :: st) h Q) ∧
  (∀ (n d : Nat) (L : List (Option iV)) (a : Int) (b : Int) (r : List iV) (h : iH) (Q : Option iV → iH → Prop), G sp sc [23] d mL_law (n + 1) 1728 L (.inl b :: .inl a :: r) h Q = G sp sc [23] d mL_law n 1729 L (.inl (a + b) :: r) h Q) ∧
  (∀ (n d : Nat) (L : List (Option iV)) (r : List iV) (j : Int) (h : iH) (Q : Option iV → iH → Prop), G sp sc [23] d mL_law (n + 1) 1729 L (.inl j :: .inr (.inr 1) :: r) h Q = (inA j sc.length = true ∧ G sp sc [23] d mL_law n 1730 L (.inl (sc.getD j.toNat 0) :: r) h Q)) ∧
  (∀ (n d : Nat) (L : List (Option iV)) (r : List iV) (j : Int) (m : Nat) (h : iH) (Q : Option iV → iH → Prop), G sp sc [23] d mL_law (n + 1) 1729 L (.inl j :: .inr (.inr (m + 2)) :: r) h Q = (match h.1[m]? with | some (.inr (.inl (0, xs))) => inA j xs.length = true ∧ G sp sc [23] d mL_law n 1730 L (.inl (xs.getD j.toNat 0) :: r) h Q | _ => False)) ∧
  (∀ (n d : Nat) (L : List (Option iV)) (r : List iV) (m : Nat) (z0 : iV) (z1 : iV) (z2 : iV) (h : iH) (Q : Option iV → iH → Prop), G sp sc [23] (d + 1) mL_law (n + 1) 1730 L (z2 :: z1 :: z0 :: .inr (.inr (m + 2)) :: r) h Q = (match h.1[m]? with | some (.inl (ci, _)) => (match lkC 13 182 ci with | some (y1, n1, kd) => (n1 = 3 ∧ (kd = 2 ∨ kd = 3 ∨ kd = 8) ∧ cs r ≤ 8) ∧ Call sp sc d y1 [.inr (.inr (m + 2)), z0, z1, z2] h (fun q h1 => GC sp sc [23] (d + 1) mL_law n 1733 L q r h h1 Q) | none => False) | _ => False)) ∧
  (∀ (n d : Nat) (L : List (Option iV)) (st : List iV) (h : iH) (Q : Option iV → iH → Prop), G sp sc [23] d mL_law (n + 1) 1733 L st h Q = (match ld L 2 with | some (.inr (.inr (r + 1))) => G sp sc [23] d mL_law n 1734 L (.inr (.inr (r + 1)) :: st) h Q | _ => False)) ∧
  (∀ (n d : Nat) (L : List (Option iV)) (st : List iV) (h : iH) (Q : Option iV → iH → Prop), G sp sc [23] d mL_law (n + 1) 1734 L st h Q = (match ld L 0 with | some (.inr (.inr (r + 1))) => G sp sc [23] d mL_law n 1735 L (.inr (.inr (r + 1)) :: st) h Q | _ => False)) ∧
  (∀ (n d : Nat) (L : List (Option iV)) (st : List iV) (h : iH) (Q : Option iV → iH → Prop), G sp sc [23] d mL_law (n + 1) 1735 L st h Q = (match ld L 4 with | some (.inl x) => G sp sc [23] d mL_law n 1737 L (.inl x :: st) h Q | _ => False)) ∧
  (∀ (n d : Nat) (L : List (Option iV)) (st : List iV) (h : iH) (Q : Option iV → iH → Prop), G sp sc [23] d mL_law (n + 1) 1737 L st h Q = G sp sc [23] d mL_law n 1738 L (.inl 1 :: st) h Q) ∧
  (∀ (n d : Nat) (L : List (Option iV)) (a : Int) (b : Int) (r : List iV) (h : iH) (Q : Option iV → iH → Prop), G sp sc [23] d mL_law (n + 1) 1738 L (.inl b :: .inl a :: r) h Q = G sp sc [23] d mL_law n 1739 L (.inl (a + b) :: r) h Q) ∧
  (∀ (n d : Nat) (L : List (Option iV)) (r : List iV) (j : Int) (h : iH) (Q : Option iV → iH → Prop), G sp sc [23] d mL_law (n + 1) 1739 L (.inl j :: .inr (.inr 1) :: r) h Q = (inA j sc.length = true ∧ G sp sc [23] d mL_law n 1740 L (.inl (sc.getD j.toNat 0) :: r) h Q)) ∧
  (∀ (n d : Nat) (L : List (Option iV)) (r : List iV) (j : Int) (m : Nat) (h : iH) (Q : Option iV → iH → Prop), G sp sc [23] d mL_law (n + 1) 1739 L (.inl j :: .inr (.inr (m + 2)) :: r) h Q = (match h.1[m]? with | some (.inr (.inl (0, xs))) => inA j xs.length = true ∧ G sp sc [23] d mL_law n 1740 L (.inl (xs.getD j.toNat 0) :: r) h Q | _ => False)) ∧
  (∀ (n d : Nat) (L : List (Option iV)) (st : List iV) (h : iH) (Q : Option iV → iH → Prop), G sp sc [23] d mL_law (n + 1) 1740 L st h Q = (match ld L 0 with | some (.inr (.inr (r + 1))) => G sp sc [23] d mL_law n 1741 L (.inr (.inr (r + 1)) :: st) h Q | _ => False)) ∧
  (∀ (n d : Nat) (L : List (Option iV)) (st : List iV) (h : iH) (Q : Option iV → iH → Prop), G sp sc [23] d mL_law (n + 1) 1741 L st h Q = (match ld L 4 with | some (.inl x) => G sp sc [23] d mL_law n 1743 L (.inl x :: st) h Q | _ => False)) ∧
  (∀ (n d : Nat) (L : List (Option iV)) (st : List iV) (h : iH) (Q : Option iV → iH → Prop), G sp sc [23] d mL_law (n + 1) 1743 L st h Q = G sp sc [23] d mL_law n 1744 L (.inl 2 :: st) h Q) ∧
  (∀ (n d : Nat) (L : List (Option iV)) (a : Int) (b : Int) (r : List iV) (h : iH) (Q : Option iV → iH → Prop), G sp sc [23] d mL_law (n + 1) 1744 L (.inl b :: .inl a :: r) h Q = G sp sc [23] d mL_law n 1745 L (.inl (a + b) :: r) h Q) ∧
  (∀ (n d : Nat) (L : List (Option iV)) (r : List iV) (j : Int) (h : iH) (Q : Option iV → iH → Prop), G sp sc [23] d mL_law (n + 1) 1745 L (.inl j :: .inr (.inr 1) :: r) h Q = (inA j sc.length = true ∧ G sp sc [23] d mL_law n 1746 L (.inl (sc.getD j.toNat 0) :: r) h Q)) ∧
  (∀ (n d : Nat) (L : List (Option iV)) (r : List iV) (j : Int) (m : Nat) (h : iH) (Q : Option iV → iH → Prop), G sp sc [23] d mL_law (n + 1) 1745 L (.inl j :: .inr (.inr (m + 2)) :: r) h Q = (match h.1[m]? with | some (.inr (.inl (0, xs))) => inA j xs.length = true ∧ G sp sc [23] d mL_law n 1746 L (.inl (xs.getD j.toNat 0) :: r) h Q | _ => False)) ∧
  (∀ (n d : Nat) (L : List (Option iV)) (st : List iV) (h : iH) (Q : Option iV → iH → Prop), G sp sc [23] d mL_law (n + 1) 1746 L st h Q = (match ld L 0 with | some (.inr (.inr (r + 1))) => G sp sc [23] d mL_law n 1747 L (.inr (.inr (r + 1)) :: st) h Q | _ => False)) ∧
  (∀ (n d : Nat) (L : List (Option iV)) (st : List iV) (h : iH) (Q : Option iV → iH → Prop), G sp sc [23] d mL_law (n + 1) 1747 L st h Q = (match ld L 4 with | some (.inl x) => G sp sc [23] d mL_law n 1749 L (.inl x :: st) h Q | _ => False)) ∧
  (∀ (n d : Nat) (L : List (Option iV)) (st : List iV) (h : iH) (Q : Option iV → iH → Prop), G sp sc [23] d mL_law (n + 1) 1749 L st h Q = G sp sc [23] d mL_law n 1750 L (.inl 3 :: st) h Q) ∧
  (∀ (n d : Nat) (L : List (Option iV)) (a : Int) (b : Int) (r : List iV) (h : iH) (Q : Option iV → iH → Prop), G sp sc [23] d mL_law (n + 1) 1750 L (.inl b :: .inl a :: r) h Q = G sp sc [23] d mL_law n 1751 L (.inl (a + b) :: r) h Q) ∧
  (∀ (n d : Nat) (L : List (Option iV)) (r : List iV) (j : Int) (h : iH) (Q : Option iV → iH → Prop), G sp sc [23] d mL_law (n + 1) 1751 L (.inl j :: .inr (.inr 1) :: r) h Q = (inA j sc.length = true ∧ G sp sc [23] d mL_law n 1752 L (.inl (sc.getD j.toNat 0) :: r) h Q)) ∧
  (∀ (n d : Nat) (L : List (Option iV)) (r : List iV) (j : Int) (m : Nat) (h : iH) (Q : Option iV → iH → Prop), G sp sc [23] d mL_law (n + 1) 1751 L (.inl j :: .inr (.inr (m + 2)) :: r) h Q = (match h.1[m]? with | some (.inr (.inl (0, xs))) => inA j xs.length = true ∧ G sp sc [23] d mL_law n 1752 L (.inl (xs.getD j.toNat 0) :: r) h Q | _ => False)) ∧
  (∀ (n d : Nat) (L : List (Option iV)) (r : List iV) (m : Nat) (z0 : iV) (z1 : iV) (z2 : iV) (h : iH) (Q : Option iV → iH → Prop), G sp sc [23] (d + 1) mL_law (n + 1) 1752 L (z2 :: z1 :: z0 :: .inr (.inr (m + 2)) :: r) h Q = (match h.1[m]? with | some (.inl (ci, _)) => (match lkC 13 185 ci with | some (y1, n1, kd) => (n1 = 3 ∧ (kd = 2 ∨ kd = 3 ∨ kd = 8) ∧ cs r ≤ 8) ∧ Call sp sc d y1 [.inr (.inr (m + 2)), z0, z1, z2] h (fun q h1 => GC sp sc [23] (d + 1) mL_law n 1755 L q r h h1 Q) | none => False) | _ => False)) ∧
  (∀ (n d : Nat) (L : List (Option iV)) (a : Int) (b : Int) (r : List iV) (h : iH) (Q : Option iV → iH → Prop), G sp sc [23] d mL_law (n + 1) 1755 L (.inl b :: .inl a :: r) h Q = ((inI a = true ∧ inI b = true) ∧ (a = b → G sp sc [23] d mL_law n 1950 L r h Q) ∧ (¬ (a = b) → G sp sc [23] d mL_law n 1758 L r h Q))) ∧
  (∀ (n d : Nat) (L : List (Option iV)) (st : List iV) (h : iH) (Q : Option iV → iH → Prop), G sp sc [23] d mL_law (n + 1) 1758 L st h Q = G sp sc [23] d mL_law n 1759 L (.inl 0 :: st) h Q) ∧
  (∀ (n d : Nat) (L : List (Option iV)) (a : Int) (h : iH) (Q : Option iV → iH → Prop), G sp sc [23] d mL_law (n + 1) 1759 L [.inl a] h Q = ((a = 0 ∨ a = 1) ∧ Q (some (.inl a)) h)) := ⟨by intros; exact G_at (by decide +kernel : fetch mL_law 1711 = some (.aload_n 1)),
  by intros; exact G_at (by decide +kernel : fetch mL_law 1712 = some (.aload_n 0)),
  by intros; exact G_at (by decide +kernel : fetch mL_law 1713 = some (.iload 4)),
  by intros; exact G_at (by decide +kernel : fetch mL_law 1715 = some (.iconst 1)),
  by intros; exact G_at (by decide +kernel : fetch mL_law 1716 = some (.iadd)),
  by intros; exact G_at (by decide +kernel : fetch mL_law 1717 = some (.iaload)),
  by intros; exact G_at (by decide +kernel : fetch mL_law 1717 = some (.iaload)),
  by intros; exact G_at (by decide +kernel : fetch mL_law 1718 = some (.aload_n 0)),
  by intros; exact G_at (by decide +kernel : fetch mL_law 1719 = some (.iload 4)),
  by intros; exact G_at (by decide +kernel : fetch mL_law 1721 = some (.iconst 2)),
  by intros; exact G_at (by decide +kernel : fetch mL_law 1722 = some (.iadd)),
  by intros; exact G_at (by decide +kernel : fetch mL_law 1723 = some (.iaload)),
  by intros; exact G_at (by decide +kernel : fetch mL_law 1723 = some (.iaload)),
  by intros; exact G_at (by decide +kernel : fetch mL_law 1724 = some (.aload_n 0)),
  by intros; exact G_at (by decide +kernel : fetch mL_law 1725 = some (.iload 4)),
  by intros; exact G_at (by decide +kernel : fetch mL_law 1727 = some (.iconst 3)),
  by intros; exact G_at (by decide +kernel : fetch mL_law 1728 = some (.iadd)),
  by intros; exact G_at (by decide +kernel : fetch mL_law 1729 = some (.iaload)),
  by intros; exact G_at (by decide +kernel : fetch mL_law 1729 = some (.iaload)),
  by intros; exact G_callV (by decide +kernel : fetch mL_law 1730 = some (.invokevirtual 182)) (by decide +kernel) (by decide +kernel) rfl,
  by intros; exact G_at (by decide +kernel : fetch mL_law 1733 = some (.aload_n 2)),
  by intros; exact G_at (by decide +kernel : fetch mL_law 1734 = some (.aload_n 0)),
  by intros; exact G_at (by decide +kernel : fetch mL_law 1735 = some (.iload 4)),
  by intros; exact G_at (by decide +kernel : fetch mL_law 1737 = some (.iconst 1)),
  by intros; exact G_at (by decide +kernel : fetch mL_law 1738 = some (.iadd)),
  by intros; exact G_at (by decide +kernel : fetch mL_law 1739 = some (.iaload)),
  by intros; exact G_at (by decide +kernel : fetch mL_law 1739 = some (.iaload)),
  by intros; exact G_at (by decide +kernel : fetch mL_law 1740 = some (.aload_n 0)),
  by intros; exact G_at (by decide +kernel : fetch mL_law 1741 = some (.iload 4)),
  by intros; exact G_at (by decide +kernel : fetch mL_law 1743 = some (.iconst 2)),
  by intros; exact G_at (by decide +kernel : fetch mL_law 1744 = some (.iadd)),
  by intros; exact G_at (by decide +kernel : fetch mL_law 1745 = some (.iaload)),
  by intros; exact G_at (by decide +kernel : fetch mL_law 1745 = some (.iaload)),
  by intros; exact G_at (by decide +kernel : fetch mL_law 1746 = some (.aload_n 0)),
  by intros; exact G_at (by decide +kernel : fetch mL_law 1747 = some (.iload 4)),
  by intros; exact G_at (by decide +kernel : fetch mL_law 1749 = some (.iconst 3)),
  by intros; exact G_at (by decide +kernel : fetch mL_law 1750 = some (.iadd)),
  by intros; exact G_at (by decide +kernel : fetch mL_law 1751 = some (.iaload)),
  by intros; exact G_at (by decide +kernel : fetch mL_law 1751 = some (.iaload)),
  by intros; exact G_callV (by decide +kernel : fetch mL_law 1752 = some (.invokevirtual 185)) (by decide +kernel) (by decide +kernel) rfl,
  by intros; exact G_at (by decide +kernel : fetch mL_law 1755 = some (.if_icmp .eq 195)),
  by intros; exact G_at (by decide +kernel : fetch mL_law 1758 = some (.iconst 0)),
  by intros; exact G_retz (by decide +kernel : fetch mL_law 1759 = some (.ireturn)) (by decide +kernel)⟩
theorem gL_c40 : (∀ (n d : Nat) (L : List (Option iV)) (st : List iV) (h : iH) (Q : Option iV → iH → Prop), G sp sc [23] d mL_law (n + 1) 1760 L st h Q = (match ld L 1 with | some (.inr (.inr (r + 1))) => G sp sc [23] d mL_law n 1761 L (.inr (.inr (r + 1)) :: st) h Q | _ => False)) ∧
  (∀ (n d : Nat) (L : List (Option iV)) (st : List iV) (h : iH) (Q : Option iV → iH → Prop), G sp sc [23] d mL_law (n + 1) 1761 L st h Q = (match ld L 0 with | some (.inr (.inr (r + 1))) => G sp sc [23] d mL_law n 1762 L (.inr (.inr (r + 1)) :: st) h Q | _ => False)) ∧
  (∀ (n d : Nat) (L : List (Option iV)) (st : List iV) (h : iH) (Q : Option iV → iH → Prop), G sp sc [23] d mL_law (n + 1) 1762 L st h Q = (match ld L 4 with | some (.inl x) => G sp sc [23] d mL_law n 1764 L (.inl x :: st) h Q | _ => False)) ∧
  (∀ (n d : Nat) (L : List (Option iV)) (st : List iV) (h : iH) (Q : Option iV → iH → Prop), G sp sc [23] d mL_law (n + 1) 1764 L st h Q = G sp sc [23] d mL_law n 1765 L (.inl 1 :: st) h Q) ∧
  (∀ (n d : Nat) (L : List (Option iV)) (a : Int) (b : Int) (r : List iV) (h : iH) (Q : Option iV → iH → Prop), G sp sc [23] d mL_law (n + 1) 1765 L (.inl b :: .inl a :: r) h Q = G sp sc [23] d mL_law n 1766 L (.inl (a + b) :: r) h Q) ∧
  (∀ (n d : Nat) (L : List (Option iV)) (r : List iV) (j : Int) (h : iH) (Q : Option iV → iH → Prop), G sp sc [23] d mL_law (n + 1) 1766 L (.inl j :: .inr (.inr 1) :: r) h Q = (inA j sc.length = true ∧ G sp sc [23] d mL_law n 1767 L (.inl (sc.getD j.toNat 0) :: r) h Q)) ∧
  (∀ (n d : Nat) (L : List (Option iV)) (r : List iV) (j : Int) (m : Nat) (h : iH) (Q : Option iV → iH → Prop), G sp sc [23] d mL_law (n + 1) 1766 L (.inl j :: .inr (.inr (m + 2)) :: r) h Q = (match h.1[m]? with | some (.inr (.inl (0, xs))) => inA j xs.length = true ∧ G sp sc [23] d mL_law n 1767 L (.inl (xs.getD j.toNat 0) :: r) h Q | _ => False)) ∧
  (∀ (n d : Nat) (L : List (Option iV)) (st : List iV) (h : iH) (Q : Option iV → iH → Prop), G sp sc [23] d mL_law (n + 1) 1767 L st h Q = (match ld L 0 with | some (.inr (.inr (r + 1))) => G sp sc [23] d mL_law n 1768 L (.inr (.inr (r + 1)) :: st) h Q | _ => False)) ∧
  (∀ (n d : Nat) (L : List (Option iV)) (st : List iV) (h : iH) (Q : Option iV → iH → Prop), G sp sc [23] d mL_law (n + 1) 1768 L st h Q = (match ld L 4 with | some (.inl x) => G sp sc [23] d mL_law n 1770 L (.inl x :: st) h Q | _ => False)) ∧
  (∀ (n d : Nat) (L : List (Option iV)) (st : List iV) (h : iH) (Q : Option iV → iH → Prop), G sp sc [23] d mL_law (n + 1) 1770 L st h Q = G sp sc [23] d mL_law n 1771 L (.inl 2 :: st) h Q) ∧
  (∀ (n d : Nat) (L : List (Option iV)) (a : Int) (b : Int) (r : List iV) (h : iH) (Q : Option iV → iH → Prop), G sp sc [23] d mL_law (n + 1) 1771 L (.inl b :: .inl a :: r) h Q = G sp sc [23] d mL_law n 1772 L (.inl (a + b) :: r) h Q) ∧
  (∀ (n d : Nat) (L : List (Option iV)) (r : List iV) (j : Int) (h : iH) (Q : Option iV → iH → Prop), G sp sc [23] d mL_law (n + 1) 1772 L (.inl j :: .inr (.inr 1) :: r) h Q = (inA j sc.length = true ∧ G sp sc [23] d mL_law n 1773 L (.inl (sc.getD j.toNat 0) :: r) h Q)) ∧
  (∀ (n d : Nat) (L : List (Option iV)) (r : List iV) (j : Int) (m : Nat) (h : iH) (Q : Option iV → iH → Prop), G sp sc [23] d mL_law (n + 1) 1772 L (.inl j :: .inr (.inr (m + 2)) :: r) h Q = (match h.1[m]? with | some (.inr (.inl (0, xs))) => inA j xs.length = true ∧ G sp sc [23] d mL_law n 1773 L (.inl (xs.getD j.toNat 0) :: r) h Q | _ => False)) ∧
  (∀ (n d : Nat) (L : List (Option iV)) (st : List iV) (h : iH) (Q : Option iV → iH → Prop), G sp sc [23] d mL_law (n + 1) 1773 L st h Q = (match ld L 3 with | some (.inr (.inr (r + 1))) => G sp sc [23] d mL_law n 1774 L (.inr (.inr (r + 1)) :: st) h Q | _ => False)) ∧
  (∀ (n d : Nat) (L : List (Option iV)) (r : List iV) (z0 : iV) (z1 : iV) (z2 : iV) (z3 : iV) (h : iH) (Q : Option iV → iH → Prop), G sp sc [23] (d + 1) mL_law (n + 1) 1774 L (z3 :: z2 :: z1 :: z0 :: r) h Q = (cs r ≤ 8 ∧ Call sp sc d mL_element [z0, z1, z2, z3] h (fun q h1 => GC sp sc [23] (d + 1) mL_law n 1777 L q r h h1 Q))) ∧
  (∀ (n d : Nat) (L : List (Option iV)) (r : List iV) (x : Int) (h : iH) (Q : Option iV → iH → Prop), G sp sc [23] d mL_law (n + 1) 1777 L (.inl x :: r) h Q = (match st1 L 5 (.inl x) with | some L' => G sp sc [23] d mL_law n 1779 L' r h Q | none => False)) ∧
  (∀ (n d : Nat) (L : List (Option iV)) (st : List iV) (h : iH) (Q : Option iV → iH → Prop), G sp sc [23] d mL_law (n + 1) 1779 L st h Q = (match ld L 2 with | some (.inr (.inr (r + 1))) => G sp sc [23] d mL_law n 1780 L (.inr (.inr (r + 1)) :: st) h Q | _ => False)) ∧
  (∀ (n d : Nat) (L : List (Option iV)) (st : List iV) (h : iH) (Q : Option iV → iH → Prop), G sp sc [23] d mL_law (n + 1) 1780 L st h Q = (match ld L 0 with | some (.inr (.inr (r + 1))) => G sp sc [23] d mL_law n 1781 L (.inr (.inr (r + 1)) :: st) h Q | _ => False)) ∧
  (∀ (n d : Nat) (L : List (Option iV)) (st : List iV) (h : iH) (Q : Option iV → iH → Prop), G sp sc [23] d mL_law (n + 1) 1781 L st h Q = (match ld L 4 with | some (.inl x) => G sp sc [23] d mL_law n 1783 L (.inl x :: st) h Q | _ => False)) ∧
  (∀ (n d : Nat) (L : List (Option iV)) (st : List iV) (h : iH) (Q : Option iV → iH → Prop), G sp sc [23] d mL_law (n + 1) 1783 L st h Q = G sp sc [23] d mL_law n 1784 L (.inl 1 :: st) h Q) ∧
  (∀ (n d : Nat) (L : List (Option iV)) (a : Int) (b : Int) (r : List iV) (h : iH) (Q : Option iV → iH → Prop), G sp sc [23] d mL_law (n + 1) 1784 L (.inl b :: .inl a :: r) h Q = G sp sc [23] d mL_law n 1785 L (.inl (a + b) :: r) h Q) ∧
  (∀ (n d : Nat) (L : List (Option iV)) (r : List iV) (j : Int) (h : iH) (Q : Option iV → iH → Prop), G sp sc [23] d mL_law (n + 1) 1785 L (.inl j :: .inr (.inr 1) :: r) h Q = (inA j sc.length = true ∧ G sp sc [23] d mL_law n 1786 L (.inl (sc.getD j.toNat 0) :: r) h Q)) ∧
  (∀ (n d : Nat) (L : List (Option iV)) (r : List iV) (j : Int) (m : Nat) (h : iH) (Q : Option iV → iH → Prop), G sp sc [23] d mL_law (n + 1) 1785 L (.inl j :: .inr (.inr (m + 2)) :: r) h Q = (match h.1[m]? with | some (.inr (.inl (0, xs))) => inA j xs.length = true ∧ G sp sc [23] d mL_law n 1786 L (.inl (xs.getD j.toNat 0) :: r) h Q | _ => False)) ∧
  (∀ (n d : Nat) (L : List (Option iV)) (st : List iV) (h : iH) (Q : Option iV → iH → Prop), G sp sc [23] d mL_law (n + 1) 1786 L st h Q = (match ld L 0 with | some (.inr (.inr (r + 1))) => G sp sc [23] d mL_law n 1787 L (.inr (.inr (r + 1)) :: st) h Q | _ => False)) ∧
  (∀ (n d : Nat) (L : List (Option iV)) (st : List iV) (h : iH) (Q : Option iV → iH → Prop), G sp sc [23] d mL_law (n + 1) 1787 L st h Q = (match ld L 4 with | some (.inl x) => G sp sc [23] d mL_law n 1789 L (.inl x :: st) h Q | _ => False)) ∧
  (∀ (n d : Nat) (L : List (Option iV)) (st : List iV) (h : iH) (Q : Option iV → iH → Prop), G sp sc [23] d mL_law (n + 1) 1789 L st h Q = G sp sc [23] d mL_law n 1790 L (.inl 2 :: st) h Q) ∧
  (∀ (n d : Nat) (L : List (Option iV)) (a : Int) (b : Int) (r : List iV) (h : iH) (Q : Option iV → iH → Prop), G sp sc [23] d mL_law (n + 1) 1790 L (.inl b :: .inl a :: r) h Q = G sp sc [23] d mL_law n 1791 L (.inl (a + b) :: r) h Q) ∧
  (∀ (n d : Nat) (L : List (Option iV)) (r : List iV) (j : Int) (h : iH) (Q : Option iV → iH → Prop), G sp sc [23] d mL_law (n + 1) 1791 L (.inl j :: .inr (.inr 1) :: r) h Q = (inA j sc.length = true ∧ G sp sc [23] d mL_law n 1792 L (.inl (sc.getD j.toNat 0) :: r) h Q)) ∧
  (∀ (n d : Nat) (L : List (Option iV)) (r : List iV) (j : Int) (m : Nat) (h : iH) (Q : Option iV → iH → Prop), G sp sc [23] d mL_law (n + 1) 1791 L (.inl j :: .inr (.inr (m + 2)) :: r) h Q = (match h.1[m]? with | some (.inr (.inl (0, xs))) => inA j xs.length = true ∧ G sp sc [23] d mL_law n 1792 L (.inl (xs.getD j.toNat 0) :: r) h Q | _ => False)) ∧
  (∀ (n d : Nat) (L : List (Option iV)) (r : List iV) (m : Nat) (z0 : iV) (z1 : iV) (h : iH) (Q : Option iV → iH → Prop), G sp sc [23] (d + 1) mL_law (n + 1) 1792 L (z1 :: z0 :: .inr (.inr (m + 2)) :: r) h Q = (match h.1[m]? with | some (.inl (ci, _)) => (match lkC 13 191 ci with | some (y1, n1, kd) => (n1 = 2 ∧ (kd = 2 ∨ kd = 3 ∨ kd = 8) ∧ cs r ≤ 8) ∧ Call sp sc d y1 [.inr (.inr (m + 2)), z0, z1] h (fun q h1 => GC sp sc [23] (d + 1) mL_law n 1795 L q r h h1 Q) | none => False) | _ => False)) ∧
  (∀ (n d : Nat) (L : List (Option iV)) (r : List iV) (x : Int) (h : iH) (Q : Option iV → iH → Prop), G sp sc [23] d mL_law (n + 1) 1795 L (.inr (.inl x) :: r) h Q = (match st2 L 6 (.inr (.inl x)) with | some L' => G sp sc [23] d mL_law n 1797 L' r h Q | none => False)) ∧
  (∀ (n d : Nat) (L : List (Option iV)) (st : List iV) (h : iH) (Q : Option iV → iH → Prop), G sp sc [23] d mL_law (n + 1) 1797 L st h Q = (match ld L 2 with | some (.inr (.inr (r + 1))) => G sp sc [23] d mL_law n 1798 L (.inr (.inr (r + 1)) :: st) h Q | _ => False)) ∧
  (∀ (n d : Nat) (L : List (Option iV)) (r : List iV) (m : Nat) (h : iH) (Q : Option iV → iH → Prop), G sp sc [23] (d + 1) mL_law (n + 1) 1798 L (.inr (.inr (m + 2)) :: r) h Q = (match h.1[m]? with | some (.inl (ci, _)) => (match lkC 13 192 ci with | some (y1, n1, kd) => (n1 = 0 ∧ (kd = 2 ∨ kd = 3 ∨ kd = 8) ∧ cs r ≤ 8) ∧ Call sp sc d y1 [.inr (.inr (m + 2))] h (fun q h1 => GC sp sc [23] (d + 1) mL_law n 1801 L q r h h1 Q) | none => False) | _ => False)) ∧
  (∀ (n d : Nat) (L : List (Option iV)) (st : List iV) (h : iH) (Q : Option iV → iH → Prop), G sp sc [23] d mL_law (n + 1) 1801 L st h Q = (match ld L 5 with | some (.inl x) => G sp sc [23] d mL_law n 1803 L (.inl x :: st) h Q | _ => False)) ∧
  (∀ (n d : Nat) (L : List (Option iV)) (a : Int) (b : Int) (r : List iV) (h : iH) (Q : Option iV → iH → Prop), G sp sc [23] d mL_law (n + 1) 1803 L (.inl b :: .inl a :: r) h Q = ((inI a = true ∧ inI b = true) ∧ (a = b → G sp sc [23] d mL_law n 1808 L r h Q) ∧ (¬ (a = b) → G sp sc [23] d mL_law n 1806 L r h Q))) ∧
  (∀ (n d : Nat) (L : List (Option iV)) (st : List iV) (h : iH) (Q : Option iV → iH → Prop), G sp sc [23] d mL_law (n + 1) 1806 L st h Q = G sp sc [23] d mL_law n 1807 L (.inl 0 :: st) h Q) ∧
  (∀ (n d : Nat) (L : List (Option iV)) (a : Int) (h : iH) (Q : Option iV → iH → Prop), G sp sc [23] d mL_law (n + 1) 1807 L [.inl a] h Q = ((a = 0 ∨ a = 1) ∧ Q (some (.inl a)) h)) ∧
  (∀ (n d : Nat) (L : List (Option iV)) (st : List iV) (h : iH) (Q : Option iV → iH → Prop), G sp sc [23] d mL_law (n + 1) 1808 L st h Q = (match ld L 5 with | some (.inl x) => G sp sc [23] d mL_law n 1810 L (.inl x :: st) h Q | _ => False)) ∧
  (∀ (n d : Nat) (L : List (Option iV)) (a : Int) (r : List iV) (h : iH) (Q : Option iV → iH → Prop), G sp sc [23] d mL_law (n + 1) 1810 L (.inl a :: r) h Q = (inI a = true ∧ (¬ a = 0 → G sp sc [23] d mL_law n 1824 L r h Q) ∧ (¬ (¬ a = 0) → G sp sc [23] d mL_law n 1813 L r h Q))) ∧
  (∀ (n d : Nat) (L : List (Option iV)) (st : List iV) (h : iH) (Q : Option iV → iH → Prop), G sp sc [23] d mL_law (n + 1) 1813 L st h Q = (match ld L 3 with | some (.inr (.inr (r + 1))) => G sp sc [23] d mL_law n 1814 L (.inr (.inr (r + 1)) :: st) h Q | _ => False)) ∧
  (∀ (n d : Nat) (L : List (Option iV)) (st : List iV) (h : iH) (Q : Option iV → iH → Prop), G sp sc [23] d mL_law (n + 1) 1814 L st h Q = G sp sc [23] d mL_law n 1815 L (.inl 0 :: st) h Q) ∧
  (∀ (n d : Nat) (L : List (Option iV)) (r : List iV) (j : Int) (m : Nat) (h : iH) (Q : Option iV → iH → Prop), G sp sc [23] d mL_law (n + 1) 1815 L (.inl j :: .inr (.inr (m + 2)) :: r) h Q = (match h.1[m]? with | some (.inr (.inl (1, xs))) => inA j xs.length = true ∧ G sp sc [23] d mL_law n 1816 L (.inr (.inl (xs.getD j.toNat 0)) :: r) h Q | _ => False)) ∧
  (∀ (n d : Nat) (L : List (Option iV)) (st : List iV) (h : iH) (Q : Option iV → iH → Prop), G sp sc [23] d mL_law (n + 1) 1816 L st h Q = (match ld L 6 with | some (.inr (.inl x)) => G sp sc [23] d mL_law n 1818 L (.inr (.inl x) :: st) h Q | _ => False)) ∧
  (∀ (n d : Nat) (L : List (Option iV)) (a : Int) (b : Int) (r : List iV) (h : iH) (Q : Option iV → iH → Prop), G sp sc [23] d mL_law (n + 1) 1818 L (.inr (.inl b) :: .inr (.inl a) :: r) h Q = ((inJ a = true ∧ inJ b = true) ∧ G sp sc [23] d mL_law n 1819 L (.inl (if b < a then 1 else if a = b then 0 else -1) :: r) h Q)) ∧
  (∀ (n d : Nat) (L : List (Option iV)) (a : Int) (r : List iV) (h : iH) (Q : Option iV → iH → Prop), G sp sc [23] d mL_law (n + 1) 1819 L (.inl a :: r) h Q = (inI a = true ∧ (a = 0 → G sp sc [23] d mL_law n 1824 L r h Q) ∧ (¬ (a = 0) → G sp sc [23] d mL_law n 1822 L r h Q))) ∧
  (∀ (n d : Nat) (L : List (Option iV)) (st : List iV) (h : iH) (Q : Option iV → iH → Prop), G sp sc [23] d mL_law (n + 1) 1822 L st h Q = G sp sc [23] d mL_law n 1823 L (.inl 0 :: st) h Q) ∧
  (∀ (n d : Nat) (L : List (Option iV)) (a : Int) (h : iH) (Q : Option iV → iH → Prop), G sp sc [23] d mL_law (n + 1) 1823 L [.inl a] h Q = ((a = 0 ∨ a = 1) ∧ Q (some (.inl a)) h)) ∧
  (∀ (n d : Nat) (L : List (Option iV)) (st : List iV) (h : iH) (Q : Option iV → iH → Prop), G sp sc [23] d mL_law (n + 1) 1824 L st h Q = G sp sc [23] d mL_law n 1950 L st h Q) := ⟨by intros; exact G_at (by decide +kernel : fetch mL_law 1760 = some (.aload_n 1)),
  by intros; exact G_at (by decide +kernel : fetch mL_law 1761 = some (.aload_n 0)),
  by intros; exact G_at (by decide +kernel : fetch mL_law 1762 = some (.iload 4)),
  by intros; exact G_at (by decide +kernel : fetch mL_law 1764 = some (.iconst 1)),
  by intros; exact G_at (by decide +kernel : fetch mL_law 1765 = some (.iadd)),
  by intros; exact G_at (by decide +kernel : fetch mL_law 1766 = some (.iaload)),
  by intros; exact G_at (by decide +kernel : fetch mL_law 1766 = some (.iaload)),
  by intros; exact G_at (by decide +kernel : fetch mL_law 1767 = some (.aload_n 0)),
  by intros; exact G_at (by decide +kernel : fetch mL_law 1768 = some (.iload 4)),
  by intros; exact G_at (by decide +kernel : fetch mL_law 1770 = some (.iconst 2)),
  by intros; exact G_at (by decide +kernel : fetch mL_law 1771 = some (.iadd)),
  by intros; exact G_at (by decide +kernel : fetch mL_law 1772 = some (.iaload)),
  by intros; exact G_at (by decide +kernel : fetch mL_law 1772 = some (.iaload)),
  by intros; exact G_at (by decide +kernel : fetch mL_law 1773 = some (.aload_n 3)),
  by intros; exact G_callS (k := 4) (kd := 9) (by decide +kernel : fetch mL_law 1774 = some (.invokestatic 186)) (by decide +kernel) (by decide +kernel) (by decide +kernel) rfl (by decide),
  by intros; exact G_at (by decide +kernel : fetch mL_law 1777 = some (.istore 5)),
  by intros; exact G_at (by decide +kernel : fetch mL_law 1779 = some (.aload_n 2)),
  by intros; exact G_at (by decide +kernel : fetch mL_law 1780 = some (.aload_n 0)),
  by intros; exact G_at (by decide +kernel : fetch mL_law 1781 = some (.iload 4)),
  by intros; exact G_at (by decide +kernel : fetch mL_law 1783 = some (.iconst 1)),
  by intros; exact G_at (by decide +kernel : fetch mL_law 1784 = some (.iadd)),
  by intros; exact G_at (by decide +kernel : fetch mL_law 1785 = some (.iaload)),
  by intros; exact G_at (by decide +kernel : fetch mL_law 1785 = some (.iaload)),
  by intros; exact G_at (by decide +kernel : fetch mL_law 1786 = some (.aload_n 0)),
  by intros; exact G_at (by decide +kernel : fetch mL_law 1787 = some (.iload 4)),
  by intros; exact G_at (by decide +kernel : fetch mL_law 1789 = some (.iconst 2)),
  by intros; exact G_at (by decide +kernel : fetch mL_law 1790 = some (.iadd)),
  by intros; exact G_at (by decide +kernel : fetch mL_law 1791 = some (.iaload)),
  by intros; exact G_at (by decide +kernel : fetch mL_law 1791 = some (.iaload)),
  by intros; exact G_callV (by decide +kernel : fetch mL_law 1792 = some (.invokevirtual 191)) (by decide +kernel) (by decide +kernel) rfl,
  by intros; exact G_at (by decide +kernel : fetch mL_law 1795 = some (.lstore 6)),
  by intros; exact G_at (by decide +kernel : fetch mL_law 1797 = some (.aload_n 2)),
  by intros; exact G_callV (by decide +kernel : fetch mL_law 1798 = some (.invokevirtual 192)) (by decide +kernel) (by decide +kernel) rfl,
  by intros; exact G_at (by decide +kernel : fetch mL_law 1801 = some (.iload 5)),
  by intros; exact G_at (by decide +kernel : fetch mL_law 1803 = some (.if_icmp .eq 5)),
  by intros; exact G_at (by decide +kernel : fetch mL_law 1806 = some (.iconst 0)),
  by intros; exact G_retz (by decide +kernel : fetch mL_law 1807 = some (.ireturn)) (by decide +kernel),
  by intros; exact G_at (by decide +kernel : fetch mL_law 1808 = some (.iload 5)),
  by intros; exact G_at (by decide +kernel : fetch mL_law 1810 = some (.ifCond .ne 14)),
  by intros; exact G_at (by decide +kernel : fetch mL_law 1813 = some (.aload_n 3)),
  by intros; exact G_at (by decide +kernel : fetch mL_law 1814 = some (.iconst 0)),
  by intros; exact G_at (by decide +kernel : fetch mL_law 1815 = some (.laload)),
  by intros; exact G_at (by decide +kernel : fetch mL_law 1816 = some (.lload 6)),
  by intros; exact G_at (by decide +kernel : fetch mL_law 1818 = some (.lcmp)),
  by intros; exact G_at (by decide +kernel : fetch mL_law 1819 = some (.ifCond .eq 5)),
  by intros; exact G_at (by decide +kernel : fetch mL_law 1822 = some (.iconst 0)),
  by intros; exact G_retz (by decide +kernel : fetch mL_law 1823 = some (.ireturn)) (by decide +kernel),
  by intros; exact G_at (by decide +kernel : fetch mL_law 1824 = some (.goto 126))⟩
theorem gL_c41 : (∀ (n d : Nat) (L : List (Option iV)) (st : List iV) (h : iH) (Q : Option iV → iH → Prop), G sp sc [23] d mL_law (n + 1) 1827 L st h Q = (match ld L 1 with | some (.inr (.inr (r + 1))) => G sp sc [23] d mL_law n 1828 L (.inr (.inr (r + 1)) :: st) h Q | _ => False)) ∧
  (∀ (n d : Nat) (L : List (Option iV)) (st : List iV) (h : iH) (Q : Option iV → iH → Prop), G sp sc [23] d mL_law (n + 1) 1828 L st h Q = (match ld L 0 with | some (.inr (.inr (r + 1))) => G sp sc [23] d mL_law n 1829 L (.inr (.inr (r + 1)) :: st) h Q | _ => False)) ∧
  (∀ (n d : Nat) (L : List (Option iV)) (st : List iV) (h : iH) (Q : Option iV → iH → Prop), G sp sc [23] d mL_law (n + 1) 1829 L st h Q = (match ld L 4 with | some (.inl x) => G sp sc [23] d mL_law n 1831 L (.inl x :: st) h Q | _ => False)) ∧
  (∀ (n d : Nat) (L : List (Option iV)) (st : List iV) (h : iH) (Q : Option iV → iH → Prop), G sp sc [23] d mL_law (n + 1) 1831 L st h Q = G sp sc [23] d mL_law n 1832 L (.inl 1 :: st) h Q) ∧
  (∀ (n d : Nat) (L : List (Option iV)) (a : Int) (b : Int) (r : List iV) (h : iH) (Q : Option iV → iH → Prop), G sp sc [23] d mL_law (n + 1) 1832 L (.inl b :: .inl a :: r) h Q = G sp sc [23] d mL_law n 1833 L (.inl (a + b) :: r) h Q) ∧
  (∀ (n d : Nat) (L : List (Option iV)) (r : List iV) (j : Int) (h : iH) (Q : Option iV → iH → Prop), G sp sc [23] d mL_law (n + 1) 1833 L (.inl j :: .inr (.inr 1) :: r) h Q = (inA j sc.length = true ∧ G sp sc [23] d mL_law n 1834 L (.inl (sc.getD j.toNat 0) :: r) h Q)) ∧
  (∀ (n d : Nat) (L : List (Option iV)) (r : List iV) (j : Int) (m : Nat) (h : iH) (Q : Option iV → iH → Prop), G sp sc [23] d mL_law (n + 1) 1833 L (.inl j :: .inr (.inr (m + 2)) :: r) h Q = (match h.1[m]? with | some (.inr (.inl (0, xs))) => inA j xs.length = true ∧ G sp sc [23] d mL_law n 1834 L (.inl (xs.getD j.toNat 0) :: r) h Q | _ => False)) ∧
  (∀ (n d : Nat) (L : List (Option iV)) (st : List iV) (h : iH) (Q : Option iV → iH → Prop), G sp sc [23] d mL_law (n + 1) 1834 L st h Q = (match ld L 0 with | some (.inr (.inr (r + 1))) => G sp sc [23] d mL_law n 1835 L (.inr (.inr (r + 1)) :: st) h Q | _ => False)) ∧
  (∀ (n d : Nat) (L : List (Option iV)) (st : List iV) (h : iH) (Q : Option iV → iH → Prop), G sp sc [23] d mL_law (n + 1) 1835 L st h Q = (match ld L 4 with | some (.inl x) => G sp sc [23] d mL_law n 1837 L (.inl x :: st) h Q | _ => False)) ∧
  (∀ (n d : Nat) (L : List (Option iV)) (st : List iV) (h : iH) (Q : Option iV → iH → Prop), G sp sc [23] d mL_law (n + 1) 1837 L st h Q = G sp sc [23] d mL_law n 1838 L (.inl 2 :: st) h Q) ∧
  (∀ (n d : Nat) (L : List (Option iV)) (a : Int) (b : Int) (r : List iV) (h : iH) (Q : Option iV → iH → Prop), G sp sc [23] d mL_law (n + 1) 1838 L (.inl b :: .inl a :: r) h Q = G sp sc [23] d mL_law n 1839 L (.inl (a + b) :: r) h Q) ∧
  (∀ (n d : Nat) (L : List (Option iV)) (r : List iV) (j : Int) (h : iH) (Q : Option iV → iH → Prop), G sp sc [23] d mL_law (n + 1) 1839 L (.inl j :: .inr (.inr 1) :: r) h Q = (inA j sc.length = true ∧ G sp sc [23] d mL_law n 1840 L (.inl (sc.getD j.toNat 0) :: r) h Q)) ∧
  (∀ (n d : Nat) (L : List (Option iV)) (r : List iV) (j : Int) (m : Nat) (h : iH) (Q : Option iV → iH → Prop), G sp sc [23] d mL_law (n + 1) 1839 L (.inl j :: .inr (.inr (m + 2)) :: r) h Q = (match h.1[m]? with | some (.inr (.inl (0, xs))) => inA j xs.length = true ∧ G sp sc [23] d mL_law n 1840 L (.inl (xs.getD j.toNat 0) :: r) h Q | _ => False)) ∧
  (∀ (n d : Nat) (L : List (Option iV)) (st : List iV) (h : iH) (Q : Option iV → iH → Prop), G sp sc [23] d mL_law (n + 1) 1840 L st h Q = (match ld L 0 with | some (.inr (.inr (r + 1))) => G sp sc [23] d mL_law n 1841 L (.inr (.inr (r + 1)) :: st) h Q | _ => False)) ∧
  (∀ (n d : Nat) (L : List (Option iV)) (st : List iV) (h : iH) (Q : Option iV → iH → Prop), G sp sc [23] d mL_law (n + 1) 1841 L st h Q = (match ld L 4 with | some (.inl x) => G sp sc [23] d mL_law n 1843 L (.inl x :: st) h Q | _ => False)) ∧
  (∀ (n d : Nat) (L : List (Option iV)) (st : List iV) (h : iH) (Q : Option iV → iH → Prop), G sp sc [23] d mL_law (n + 1) 1843 L st h Q = G sp sc [23] d mL_law n 1844 L (.inl 3 :: st) h Q) ∧
  (∀ (n d : Nat) (L : List (Option iV)) (a : Int) (b : Int) (r : List iV) (h : iH) (Q : Option iV → iH → Prop), G sp sc [23] d mL_law (n + 1) 1844 L (.inl b :: .inl a :: r) h Q = G sp sc [23] d mL_law n 1845 L (.inl (a + b) :: r) h Q) ∧
  (∀ (n d : Nat) (L : List (Option iV)) (r : List iV) (j : Int) (h : iH) (Q : Option iV → iH → Prop), G sp sc [23] d mL_law (n + 1) 1845 L (.inl j :: .inr (.inr 1) :: r) h Q = (inA j sc.length = true ∧ G sp sc [23] d mL_law n 1846 L (.inl (sc.getD j.toNat 0) :: r) h Q)) ∧
  (∀ (n d : Nat) (L : List (Option iV)) (r : List iV) (j : Int) (m : Nat) (h : iH) (Q : Option iV → iH → Prop), G sp sc [23] d mL_law (n + 1) 1845 L (.inl j :: .inr (.inr (m + 2)) :: r) h Q = (match h.1[m]? with | some (.inr (.inl (0, xs))) => inA j xs.length = true ∧ G sp sc [23] d mL_law n 1846 L (.inl (xs.getD j.toNat 0) :: r) h Q | _ => False)) ∧
  (∀ (n d : Nat) (L : List (Option iV)) (st : List iV) (h : iH) (Q : Option iV → iH → Prop), G sp sc [23] d mL_law (n + 1) 1846 L st h Q = (match ld L 0 with | some (.inr (.inr (r + 1))) => G sp sc [23] d mL_law n 1847 L (.inr (.inr (r + 1)) :: st) h Q | _ => False)) ∧
  (∀ (n d : Nat) (L : List (Option iV)) (st : List iV) (h : iH) (Q : Option iV → iH → Prop), G sp sc [23] d mL_law (n + 1) 1847 L st h Q = (match ld L 4 with | some (.inl x) => G sp sc [23] d mL_law n 1849 L (.inl x :: st) h Q | _ => False)) ∧
  (∀ (n d : Nat) (L : List (Option iV)) (st : List iV) (h : iH) (Q : Option iV → iH → Prop), G sp sc [23] d mL_law (n + 1) 1849 L st h Q = G sp sc [23] d mL_law n 1850 L (.inl 4 :: st) h Q) ∧
  (∀ (n d : Nat) (L : List (Option iV)) (a : Int) (b : Int) (r : List iV) (h : iH) (Q : Option iV → iH → Prop), G sp sc [23] d mL_law (n + 1) 1850 L (.inl b :: .inl a :: r) h Q = G sp sc [23] d mL_law n 1851 L (.inl (a + b) :: r) h Q) ∧
  (∀ (n d : Nat) (L : List (Option iV)) (r : List iV) (j : Int) (h : iH) (Q : Option iV → iH → Prop), G sp sc [23] d mL_law (n + 1) 1851 L (.inl j :: .inr (.inr 1) :: r) h Q = (inA j sc.length = true ∧ G sp sc [23] d mL_law n 1852 L (.inl (sc.getD j.toNat 0) :: r) h Q)) ∧
  (∀ (n d : Nat) (L : List (Option iV)) (r : List iV) (j : Int) (m : Nat) (h : iH) (Q : Option iV → iH → Prop), G sp sc [23] d mL_law (n + 1) 1851 L (.inl j :: .inr (.inr (m + 2)) :: r) h Q = (match h.1[m]? with | some (.inr (.inl (0, xs))) => inA j xs.length = true ∧ G sp sc [23] d mL_law n 1852 L (.inl (xs.getD j.toNat 0) :: r) h Q | _ => False)) ∧
  (∀ (n d : Nat) (L : List (Option iV)) (st : List iV) (h : iH) (Q : Option iV → iH → Prop), G sp sc [23] d mL_law (n + 1) 1852 L st h Q = (match ld L 0 with | some (.inr (.inr (r + 1))) => G sp sc [23] d mL_law n 1853 L (.inr (.inr (r + 1)) :: st) h Q | _ => False)) ∧
  (∀ (n d : Nat) (L : List (Option iV)) (st : List iV) (h : iH) (Q : Option iV → iH → Prop), G sp sc [23] d mL_law (n + 1) 1853 L st h Q = (match ld L 4 with | some (.inl x) => G sp sc [23] d mL_law n 1855 L (.inl x :: st) h Q | _ => False)) ∧
  (∀ (n d : Nat) (L : List (Option iV)) (st : List iV) (h : iH) (Q : Option iV → iH → Prop), G sp sc [23] d mL_law (n + 1) 1855 L st h Q = G sp sc [23] d mL_law n 1856 L (.inl 5 :: st) h Q) ∧
  (∀ (n d : Nat) (L : List (Option iV)) (a : Int) (b : Int) (r : List iV) (h : iH) (Q : Option iV → iH → Prop), G sp sc [23] d mL_law (n + 1) 1856 L (.inl b :: .inl a :: r) h Q = G sp sc [23] d mL_law n 1857 L (.inl (a + b) :: r) h Q) ∧
  (∀ (n d : Nat) (L : List (Option iV)) (r : List iV) (j : Int) (h : iH) (Q : Option iV → iH → Prop), G sp sc [23] d mL_law (n + 1) 1857 L (.inl j :: .inr (.inr 1) :: r) h Q = (inA j sc.length = true ∧ G sp sc [23] d mL_law n 1858 L (.inl (sc.getD j.toNat 0) :: r) h Q)) ∧
  (∀ (n d : Nat) (L : List (Option iV)) (r : List iV) (j : Int) (m : Nat) (h : iH) (Q : Option iV → iH → Prop), G sp sc [23] d mL_law (n + 1) 1857 L (.inl j :: .inr (.inr (m + 2)) :: r) h Q = (match h.1[m]? with | some (.inr (.inl (0, xs))) => inA j xs.length = true ∧ G sp sc [23] d mL_law n 1858 L (.inl (xs.getD j.toNat 0) :: r) h Q | _ => False)) ∧
  (∀ (n d : Nat) (L : List (Option iV)) (r : List iV) (m : Nat) (z0 : iV) (z1 : iV) (z2 : iV) (z3 : iV) (z4 : iV) (h : iH) (Q : Option iV → iH → Prop), G sp sc [23] (d + 1) mL_law (n + 1) 1858 L (z4 :: z3 :: z2 :: z1 :: z0 :: .inr (.inr (m + 2)) :: r) h Q = (match h.1[m]? with | some (.inl (ci, _)) => (match lkC 13 195 ci with | some (y1, n1, kd) => (n1 = 5 ∧ (kd = 2 ∨ kd = 3 ∨ kd = 8) ∧ cs r ≤ 8) ∧ Call sp sc d y1 [.inr (.inr (m + 2)), z0, z1, z2, z3, z4] h (fun q h1 => GC sp sc [23] (d + 1) mL_law n 1861 L q r h h1 Q) | none => False) | _ => False)) ∧
  (∀ (n d : Nat) (L : List (Option iV)) (st : List iV) (h : iH) (Q : Option iV → iH → Prop), G sp sc [23] d mL_law (n + 1) 1861 L st h Q = (match ld L 2 with | some (.inr (.inr (r + 1))) => G sp sc [23] d mL_law n 1862 L (.inr (.inr (r + 1)) :: st) h Q | _ => False)) ∧
  (∀ (n d : Nat) (L : List (Option iV)) (st : List iV) (h : iH) (Q : Option iV → iH → Prop), G sp sc [23] d mL_law (n + 1) 1862 L st h Q = (match ld L 0 with | some (.inr (.inr (r + 1))) => G sp sc [23] d mL_law n 1863 L (.inr (.inr (r + 1)) :: st) h Q | _ => False)) ∧
  (∀ (n d : Nat) (L : List (Option iV)) (st : List iV) (h : iH) (Q : Option iV → iH → Prop), G sp sc [23] d mL_law (n + 1) 1863 L st h Q = (match ld L 4 with | some (.inl x) => G sp sc [23] d mL_law n 1865 L (.inl x :: st) h Q | _ => False)) ∧
  (∀ (n d : Nat) (L : List (Option iV)) (st : List iV) (h : iH) (Q : Option iV → iH → Prop), G sp sc [23] d mL_law (n + 1) 1865 L st h Q = G sp sc [23] d mL_law n 1866 L (.inl 1 :: st) h Q) ∧
  (∀ (n d : Nat) (L : List (Option iV)) (a : Int) (b : Int) (r : List iV) (h : iH) (Q : Option iV → iH → Prop), G sp sc [23] d mL_law (n + 1) 1866 L (.inl b :: .inl a :: r) h Q = G sp sc [23] d mL_law n 1867 L (.inl (a + b) :: r) h Q) ∧
  (∀ (n d : Nat) (L : List (Option iV)) (r : List iV) (j : Int) (h : iH) (Q : Option iV → iH → Prop), G sp sc [23] d mL_law (n + 1) 1867 L (.inl j :: .inr (.inr 1) :: r) h Q = (inA j sc.length = true ∧ G sp sc [23] d mL_law n 1868 L (.inl (sc.getD j.toNat 0) :: r) h Q)) ∧
  (∀ (n d : Nat) (L : List (Option iV)) (r : List iV) (j : Int) (m : Nat) (h : iH) (Q : Option iV → iH → Prop), G sp sc [23] d mL_law (n + 1) 1867 L (.inl j :: .inr (.inr (m + 2)) :: r) h Q = (match h.1[m]? with | some (.inr (.inl (0, xs))) => inA j xs.length = true ∧ G sp sc [23] d mL_law n 1868 L (.inl (xs.getD j.toNat 0) :: r) h Q | _ => False)) ∧
  (∀ (n d : Nat) (L : List (Option iV)) (st : List iV) (h : iH) (Q : Option iV → iH → Prop), G sp sc [23] d mL_law (n + 1) 1868 L st h Q = (match ld L 0 with | some (.inr (.inr (r + 1))) => G sp sc [23] d mL_law n 1869 L (.inr (.inr (r + 1)) :: st) h Q | _ => False)) ∧
  (∀ (n d : Nat) (L : List (Option iV)) (st : List iV) (h : iH) (Q : Option iV → iH → Prop), G sp sc [23] d mL_law (n + 1) 1869 L st h Q = (match ld L 4 with | some (.inl x) => G sp sc [23] d mL_law n 1871 L (.inl x :: st) h Q | _ => False)) ∧
  (∀ (n d : Nat) (L : List (Option iV)) (st : List iV) (h : iH) (Q : Option iV → iH → Prop), G sp sc [23] d mL_law (n + 1) 1871 L st h Q = G sp sc [23] d mL_law n 1872 L (.inl 2 :: st) h Q) ∧
  (∀ (n d : Nat) (L : List (Option iV)) (a : Int) (b : Int) (r : List iV) (h : iH) (Q : Option iV → iH → Prop), G sp sc [23] d mL_law (n + 1) 1872 L (.inl b :: .inl a :: r) h Q = G sp sc [23] d mL_law n 1873 L (.inl (a + b) :: r) h Q) ∧
  (∀ (n d : Nat) (L : List (Option iV)) (r : List iV) (j : Int) (h : iH) (Q : Option iV → iH → Prop), G sp sc [23] d mL_law (n + 1) 1873 L (.inl j :: .inr (.inr 1) :: r) h Q = (inA j sc.length = true ∧ G sp sc [23] d mL_law n 1874 L (.inl (sc.getD j.toNat 0) :: r) h Q)) ∧
  (∀ (n d : Nat) (L : List (Option iV)) (r : List iV) (j : Int) (m : Nat) (h : iH) (Q : Option iV → iH → Prop), G sp sc [23] d mL_law (n + 1) 1873 L (.inl j :: .inr (.inr (m + 2)) :: r) h Q = (match h.1[m]? with | some (.inr (.inl (0, xs))) => inA j xs.length = true ∧ G sp sc [23] d mL_law n 1874 L (.inl (xs.getD j.toNat 0) :: r) h Q | _ => False)) ∧
  (∀ (n d : Nat) (L : List (Option iV)) (st : List iV) (h : iH) (Q : Option iV → iH → Prop), G sp sc [23] d mL_law (n + 1) 1874 L st h Q = (match ld L 0 with | some (.inr (.inr (r + 1))) => G sp sc [23] d mL_law n 1875 L (.inr (.inr (r + 1)) :: st) h Q | _ => False)) ∧
  (∀ (n d : Nat) (L : List (Option iV)) (st : List iV) (h : iH) (Q : Option iV → iH → Prop), G sp sc [23] d mL_law (n + 1) 1875 L st h Q = (match ld L 4 with | some (.inl x) => G sp sc [23] d mL_law n 1877 L (.inl x :: st) h Q | _ => False)) ∧
  (∀ (n d : Nat) (L : List (Option iV)) (st : List iV) (h : iH) (Q : Option iV → iH → Prop), G sp sc [23] d mL_law (n + 1) 1877 L st h Q = G sp sc [23] d mL_law n 1878 L (.inl 3 :: st) h Q) ∧
  (∀ (n d : Nat) (L : List (Option iV)) (a : Int) (b : Int) (r : List iV) (h : iH) (Q : Option iV → iH → Prop), G sp sc [23] d mL_law (n + 1) 1878 L (.inl b :: .inl a :: r) h Q = G sp sc [23] d mL_law n 1879 L (.inl (a + b) :: r) h Q) ∧
  (∀ (n d : Nat) (L : List (Option iV)) (r : List iV) (j : Int) (h : iH) (Q : Option iV → iH → Prop), G sp sc [23] d mL_law (n + 1) 1879 L (.inl j :: .inr (.inr 1) :: r) h Q = (inA j sc.length = true ∧ G sp sc [23] d mL_law n 1880 L (.inl (sc.getD j.toNat 0) :: r) h Q)) ∧
  (∀ (n d : Nat) (L : List (Option iV)) (r : List iV) (j : Int) (m : Nat) (h : iH) (Q : Option iV → iH → Prop), G sp sc [23] d mL_law (n + 1) 1879 L (.inl j :: .inr (.inr (m + 2)) :: r) h Q = (match h.1[m]? with | some (.inr (.inl (0, xs))) => inA j xs.length = true ∧ G sp sc [23] d mL_law n 1880 L (.inl (xs.getD j.toNat 0) :: r) h Q | _ => False)) ∧
  (∀ (n d : Nat) (L : List (Option iV)) (st : List iV) (h : iH) (Q : Option iV → iH → Prop), G sp sc [23] d mL_law (n + 1) 1880 L st h Q = (match ld L 0 with | some (.inr (.inr (r + 1))) => G sp sc [23] d mL_law n 1881 L (.inr (.inr (r + 1)) :: st) h Q | _ => False)) ∧
  (∀ (n d : Nat) (L : List (Option iV)) (st : List iV) (h : iH) (Q : Option iV → iH → Prop), G sp sc [23] d mL_law (n + 1) 1881 L st h Q = (match ld L 4 with | some (.inl x) => G sp sc [23] d mL_law n 1883 L (.inl x :: st) h Q | _ => False)) ∧
  (∀ (n d : Nat) (L : List (Option iV)) (st : List iV) (h : iH) (Q : Option iV → iH → Prop), G sp sc [23] d mL_law (n + 1) 1883 L st h Q = G sp sc [23] d mL_law n 1884 L (.inl 4 :: st) h Q) ∧
  (∀ (n d : Nat) (L : List (Option iV)) (a : Int) (b : Int) (r : List iV) (h : iH) (Q : Option iV → iH → Prop), G sp sc [23] d mL_law (n + 1) 1884 L (.inl b :: .inl a :: r) h Q = G sp sc [23] d mL_law n 1885 L (.inl (a + b) :: r) h Q) ∧
  (∀ (n d : Nat) (L : List (Option iV)) (r : List iV) (j : Int) (h : iH) (Q : Option iV → iH → Prop), G sp sc [23] d mL_law (n + 1) 1885 L (.inl j :: .inr (.inr 1) :: r) h Q = (inA j sc.length = true ∧ G sp sc [23] d mL_law n 1886 L (.inl (sc.getD j.toNat 0) :: r) h Q)) ∧
  (∀ (n d : Nat) (L : List (Option iV)) (r : List iV) (j : Int) (m : Nat) (h : iH) (Q : Option iV → iH → Prop), G sp sc [23] d mL_law (n + 1) 1885 L (.inl j :: .inr (.inr (m + 2)) :: r) h Q = (match h.1[m]? with | some (.inr (.inl (0, xs))) => inA j xs.length = true ∧ G sp sc [23] d mL_law n 1886 L (.inl (xs.getD j.toNat 0) :: r) h Q | _ => False)) ∧
  (∀ (n d : Nat) (L : List (Option iV)) (st : List iV) (h : iH) (Q : Option iV → iH → Prop), G sp sc [23] d mL_law (n + 1) 1886 L st h Q = (match ld L 0 with | some (.inr (.inr (r + 1))) => G sp sc [23] d mL_law n 1887 L (.inr (.inr (r + 1)) :: st) h Q | _ => False)) ∧
  (∀ (n d : Nat) (L : List (Option iV)) (st : List iV) (h : iH) (Q : Option iV → iH → Prop), G sp sc [23] d mL_law (n + 1) 1887 L st h Q = (match ld L 4 with | some (.inl x) => G sp sc [23] d mL_law n 1889 L (.inl x :: st) h Q | _ => False)) ∧
  (∀ (n d : Nat) (L : List (Option iV)) (st : List iV) (h : iH) (Q : Option iV → iH → Prop), G sp sc [23] d mL_law (n + 1) 1889 L st h Q = G sp sc [23] d mL_law n 1890 L (.inl 5 :: st) h Q) ∧
  (∀ (n d : Nat) (L : List (Option iV)) (a : Int) (b : Int) (r : List iV) (h : iH) (Q : Option iV → iH → Prop), G sp sc [23] d mL_law (n + 1) 1890 L (.inl b :: .inl a :: r) h Q = G sp sc [23] d mL_law n 1891 L (.inl (a + b) :: r) h Q) ∧
  (∀ (n d : Nat) (L : List (Option iV)) (r : List iV) (j : Int) (h : iH) (Q : Option iV → iH → Prop), G sp sc [23] d mL_law (n + 1) 1891 L (.inl j :: .inr (.inr 1) :: r) h Q = (inA j sc.length = true ∧ G sp sc [23] d mL_law n 1892 L (.inl (sc.getD j.toNat 0) :: r) h Q)) ∧
  (∀ (n d : Nat) (L : List (Option iV)) (r : List iV) (j : Int) (m : Nat) (h : iH) (Q : Option iV → iH → Prop), G sp sc [23] d mL_law (n + 1) 1891 L (.inl j :: .inr (.inr (m + 2)) :: r) h Q = (match h.1[m]? with | some (.inr (.inl (0, xs))) => inA j xs.length = true ∧ G sp sc [23] d mL_law n 1892 L (.inl (xs.getD j.toNat 0) :: r) h Q | _ => False)) ∧
  (∀ (n d : Nat) (L : List (Option iV)) (r : List iV) (m : Nat) (z0 : iV) (z1 : iV) (z2 : iV) (z3 : iV) (z4 : iV) (h : iH) (Q : Option iV → iH → Prop), G sp sc [23] (d + 1) mL_law (n + 1) 1892 L (z4 :: z3 :: z2 :: z1 :: z0 :: .inr (.inr (m + 2)) :: r) h Q = (match h.1[m]? with | some (.inl (ci, _)) => (match lkC 13 199 ci with | some (y1, n1, kd) => (n1 = 5 ∧ (kd = 2 ∨ kd = 3 ∨ kd = 8) ∧ cs r ≤ 8) ∧ Call sp sc d y1 [.inr (.inr (m + 2)), z0, z1, z2, z3, z4] h (fun q h1 => GC sp sc [23] (d + 1) mL_law n 1895 L q r h h1 Q) | none => False) | _ => False)) ∧
  (∀ (n d : Nat) (L : List (Option iV)) (a : Int) (b : Int) (r : List iV) (h : iH) (Q : Option iV → iH → Prop), G sp sc [23] d mL_law (n + 1) 1895 L (.inl b :: .inl a :: r) h Q = ((inI a = true ∧ inI b = true) ∧ (a = b → G sp sc [23] d mL_law n 1950 L r h Q) ∧ (¬ (a = b) → G sp sc [23] d mL_law n 1898 L r h Q))) ∧
  (∀ (n d : Nat) (L : List (Option iV)) (st : List iV) (h : iH) (Q : Option iV → iH → Prop), G sp sc [23] d mL_law (n + 1) 1898 L st h Q = G sp sc [23] d mL_law n 1899 L (.inl 0 :: st) h Q) ∧
  (∀ (n d : Nat) (L : List (Option iV)) (a : Int) (h : iH) (Q : Option iV → iH → Prop), G sp sc [23] d mL_law (n + 1) 1899 L [.inl a] h Q = ((a = 0 ∨ a = 1) ∧ Q (some (.inl a)) h)) := ⟨by intros; exact G_at (by decide +kernel : fetch mL_law 1827 = some (.aload_n 1)),
  by intros; exact G_at (by decide +kernel : fetch mL_law 1828 = some (.aload_n 0)),
  by intros; exact G_at (by decide +kernel : fetch mL_law 1829 = some (.iload 4)),
  by intros; exact G_at (by decide +kernel : fetch mL_law 1831 = some (.iconst 1)),
  by intros; exact G_at (by decide +kernel : fetch mL_law 1832 = some (.iadd)),
  by intros; exact G_at (by decide +kernel : fetch mL_law 1833 = some (.iaload)),
  by intros; exact G_at (by decide +kernel : fetch mL_law 1833 = some (.iaload)),
  by intros; exact G_at (by decide +kernel : fetch mL_law 1834 = some (.aload_n 0)),
  by intros; exact G_at (by decide +kernel : fetch mL_law 1835 = some (.iload 4)),
  by intros; exact G_at (by decide +kernel : fetch mL_law 1837 = some (.iconst 2)),
  by intros; exact G_at (by decide +kernel : fetch mL_law 1838 = some (.iadd)),
  by intros; exact G_at (by decide +kernel : fetch mL_law 1839 = some (.iaload)),
  by intros; exact G_at (by decide +kernel : fetch mL_law 1839 = some (.iaload)),
  by intros; exact G_at (by decide +kernel : fetch mL_law 1840 = some (.aload_n 0)),
  by intros; exact G_at (by decide +kernel : fetch mL_law 1841 = some (.iload 4)),
  by intros; exact G_at (by decide +kernel : fetch mL_law 1843 = some (.iconst 3)),
  by intros; exact G_at (by decide +kernel : fetch mL_law 1844 = some (.iadd)),
  by intros; exact G_at (by decide +kernel : fetch mL_law 1845 = some (.iaload)),
  by intros; exact G_at (by decide +kernel : fetch mL_law 1845 = some (.iaload)),
  by intros; exact G_at (by decide +kernel : fetch mL_law 1846 = some (.aload_n 0)),
  by intros; exact G_at (by decide +kernel : fetch mL_law 1847 = some (.iload 4)),
  by intros; exact G_at (by decide +kernel : fetch mL_law 1849 = some (.iconst 4)),
  by intros; exact G_at (by decide +kernel : fetch mL_law 1850 = some (.iadd)),
  by intros; exact G_at (by decide +kernel : fetch mL_law 1851 = some (.iaload)),
  by intros; exact G_at (by decide +kernel : fetch mL_law 1851 = some (.iaload)),
  by intros; exact G_at (by decide +kernel : fetch mL_law 1852 = some (.aload_n 0)),
  by intros; exact G_at (by decide +kernel : fetch mL_law 1853 = some (.iload 4)),
  by intros; exact G_at (by decide +kernel : fetch mL_law 1855 = some (.iconst 5)),
  by intros; exact G_at (by decide +kernel : fetch mL_law 1856 = some (.iadd)),
  by intros; exact G_at (by decide +kernel : fetch mL_law 1857 = some (.iaload)),
  by intros; exact G_at (by decide +kernel : fetch mL_law 1857 = some (.iaload)),
  by intros; exact G_callV (by decide +kernel : fetch mL_law 1858 = some (.invokevirtual 195)) (by decide +kernel) (by decide +kernel) rfl,
  by intros; exact G_at (by decide +kernel : fetch mL_law 1861 = some (.aload_n 2)),
  by intros; exact G_at (by decide +kernel : fetch mL_law 1862 = some (.aload_n 0)),
  by intros; exact G_at (by decide +kernel : fetch mL_law 1863 = some (.iload 4)),
  by intros; exact G_at (by decide +kernel : fetch mL_law 1865 = some (.iconst 1)),
  by intros; exact G_at (by decide +kernel : fetch mL_law 1866 = some (.iadd)),
  by intros; exact G_at (by decide +kernel : fetch mL_law 1867 = some (.iaload)),
  by intros; exact G_at (by decide +kernel : fetch mL_law 1867 = some (.iaload)),
  by intros; exact G_at (by decide +kernel : fetch mL_law 1868 = some (.aload_n 0)),
  by intros; exact G_at (by decide +kernel : fetch mL_law 1869 = some (.iload 4)),
  by intros; exact G_at (by decide +kernel : fetch mL_law 1871 = some (.iconst 2)),
  by intros; exact G_at (by decide +kernel : fetch mL_law 1872 = some (.iadd)),
  by intros; exact G_at (by decide +kernel : fetch mL_law 1873 = some (.iaload)),
  by intros; exact G_at (by decide +kernel : fetch mL_law 1873 = some (.iaload)),
  by intros; exact G_at (by decide +kernel : fetch mL_law 1874 = some (.aload_n 0)),
  by intros; exact G_at (by decide +kernel : fetch mL_law 1875 = some (.iload 4)),
  by intros; exact G_at (by decide +kernel : fetch mL_law 1877 = some (.iconst 3)),
  by intros; exact G_at (by decide +kernel : fetch mL_law 1878 = some (.iadd)),
  by intros; exact G_at (by decide +kernel : fetch mL_law 1879 = some (.iaload)),
  by intros; exact G_at (by decide +kernel : fetch mL_law 1879 = some (.iaload)),
  by intros; exact G_at (by decide +kernel : fetch mL_law 1880 = some (.aload_n 0)),
  by intros; exact G_at (by decide +kernel : fetch mL_law 1881 = some (.iload 4)),
  by intros; exact G_at (by decide +kernel : fetch mL_law 1883 = some (.iconst 4)),
  by intros; exact G_at (by decide +kernel : fetch mL_law 1884 = some (.iadd)),
  by intros; exact G_at (by decide +kernel : fetch mL_law 1885 = some (.iaload)),
  by intros; exact G_at (by decide +kernel : fetch mL_law 1885 = some (.iaload)),
  by intros; exact G_at (by decide +kernel : fetch mL_law 1886 = some (.aload_n 0)),
  by intros; exact G_at (by decide +kernel : fetch mL_law 1887 = some (.iload 4)),
  by intros; exact G_at (by decide +kernel : fetch mL_law 1889 = some (.iconst 5)),
  by intros; exact G_at (by decide +kernel : fetch mL_law 1890 = some (.iadd)),
  by intros; exact G_at (by decide +kernel : fetch mL_law 1891 = some (.iaload)),
  by intros; exact G_at (by decide +kernel : fetch mL_law 1891 = some (.iaload)),
  by intros; exact G_callV (by decide +kernel : fetch mL_law 1892 = some (.invokevirtual 199)) (by decide +kernel) (by decide +kernel) rfl,
  by intros; exact G_at (by decide +kernel : fetch mL_law 1895 = some (.if_icmp .eq 55)),
  by intros; exact G_at (by decide +kernel : fetch mL_law 1898 = some (.iconst 0)),
  by intros; exact G_retz (by decide +kernel : fetch mL_law 1899 = some (.ireturn)) (by decide +kernel)⟩
theorem gL_c42 : (∀ (n d : Nat) (L : List (Option iV)) (st : List iV) (h : iH) (Q : Option iV → iH → Prop), G sp sc [23] d mL_law (n + 1) 1900 L st h Q = (match ld L 1 with | some (.inr (.inr (r + 1))) => G sp sc [23] d mL_law n 1901 L (.inr (.inr (r + 1)) :: st) h Q | _ => False)) ∧
  (∀ (n d : Nat) (L : List (Option iV)) (st : List iV) (h : iH) (Q : Option iV → iH → Prop), G sp sc [23] d mL_law (n + 1) 1901 L st h Q = (match ld L 0 with | some (.inr (.inr (r + 1))) => G sp sc [23] d mL_law n 1902 L (.inr (.inr (r + 1)) :: st) h Q | _ => False)) ∧
  (∀ (n d : Nat) (L : List (Option iV)) (st : List iV) (h : iH) (Q : Option iV → iH → Prop), G sp sc [23] d mL_law (n + 1) 1902 L st h Q = (match ld L 4 with | some (.inl x) => G sp sc [23] d mL_law n 1904 L (.inl x :: st) h Q | _ => False)) ∧
  (∀ (n d : Nat) (L : List (Option iV)) (st : List iV) (h : iH) (Q : Option iV → iH → Prop), G sp sc [23] d mL_law (n + 1) 1904 L st h Q = G sp sc [23] d mL_law n 1905 L (.inl 1 :: st) h Q) ∧
  (∀ (n d : Nat) (L : List (Option iV)) (a : Int) (b : Int) (r : List iV) (h : iH) (Q : Option iV → iH → Prop), G sp sc [23] d mL_law (n + 1) 1905 L (.inl b :: .inl a :: r) h Q = G sp sc [23] d mL_law n 1906 L (.inl (a + b) :: r) h Q) ∧
  (∀ (n d : Nat) (L : List (Option iV)) (r : List iV) (j : Int) (h : iH) (Q : Option iV → iH → Prop), G sp sc [23] d mL_law (n + 1) 1906 L (.inl j :: .inr (.inr 1) :: r) h Q = (inA j sc.length = true ∧ G sp sc [23] d mL_law n 1907 L (.inl (sc.getD j.toNat 0) :: r) h Q)) ∧
  (∀ (n d : Nat) (L : List (Option iV)) (r : List iV) (j : Int) (m : Nat) (h : iH) (Q : Option iV → iH → Prop), G sp sc [23] d mL_law (n + 1) 1906 L (.inl j :: .inr (.inr (m + 2)) :: r) h Q = (match h.1[m]? with | some (.inr (.inl (0, xs))) => inA j xs.length = true ∧ G sp sc [23] d mL_law n 1907 L (.inl (xs.getD j.toNat 0) :: r) h Q | _ => False)) ∧
  (∀ (n d : Nat) (L : List (Option iV)) (r : List iV) (m : Nat) (z0 : iV) (h : iH) (Q : Option iV → iH → Prop), G sp sc [23] (d + 1) mL_law (n + 1) 1907 L (z0 :: .inr (.inr (m + 2)) :: r) h Q = (match h.1[m]? with | some (.inl (ci, _)) => (match lkC 13 200 ci with | some (y1, n1, kd) => (n1 = 1 ∧ (kd = 2 ∨ kd = 3 ∨ kd = 8) ∧ cs r ≤ 8) ∧ Call sp sc d y1 [.inr (.inr (m + 2)), z0] h (fun q h1 => GC sp sc [23] (d + 1) mL_law n 1910 L q r h h1 Q) | none => False) | _ => False)) ∧
  (∀ (n d : Nat) (L : List (Option iV)) (st : List iV) (h : iH) (Q : Option iV → iH → Prop), G sp sc [23] d mL_law (n + 1) 1910 L st h Q = (match ld L 2 with | some (.inr (.inr (r + 1))) => G sp sc [23] d mL_law n 1911 L (.inr (.inr (r + 1)) :: st) h Q | _ => False)) ∧
  (∀ (n d : Nat) (L : List (Option iV)) (st : List iV) (h : iH) (Q : Option iV → iH → Prop), G sp sc [23] d mL_law (n + 1) 1911 L st h Q = (match ld L 0 with | some (.inr (.inr (r + 1))) => G sp sc [23] d mL_law n 1912 L (.inr (.inr (r + 1)) :: st) h Q | _ => False)) ∧
  (∀ (n d : Nat) (L : List (Option iV)) (st : List iV) (h : iH) (Q : Option iV → iH → Prop), G sp sc [23] d mL_law (n + 1) 1912 L st h Q = (match ld L 4 with | some (.inl x) => G sp sc [23] d mL_law n 1914 L (.inl x :: st) h Q | _ => False)) ∧
  (∀ (n d : Nat) (L : List (Option iV)) (st : List iV) (h : iH) (Q : Option iV → iH → Prop), G sp sc [23] d mL_law (n + 1) 1914 L st h Q = G sp sc [23] d mL_law n 1915 L (.inl 1 :: st) h Q) ∧
  (∀ (n d : Nat) (L : List (Option iV)) (a : Int) (b : Int) (r : List iV) (h : iH) (Q : Option iV → iH → Prop), G sp sc [23] d mL_law (n + 1) 1915 L (.inl b :: .inl a :: r) h Q = G sp sc [23] d mL_law n 1916 L (.inl (a + b) :: r) h Q) ∧
  (∀ (n d : Nat) (L : List (Option iV)) (r : List iV) (j : Int) (h : iH) (Q : Option iV → iH → Prop), G sp sc [23] d mL_law (n + 1) 1916 L (.inl j :: .inr (.inr 1) :: r) h Q = (inA j sc.length = true ∧ G sp sc [23] d mL_law n 1917 L (.inl (sc.getD j.toNat 0) :: r) h Q)) ∧
  (∀ (n d : Nat) (L : List (Option iV)) (r : List iV) (j : Int) (m : Nat) (h : iH) (Q : Option iV → iH → Prop), G sp sc [23] d mL_law (n + 1) 1916 L (.inl j :: .inr (.inr (m + 2)) :: r) h Q = (match h.1[m]? with | some (.inr (.inl (0, xs))) => inA j xs.length = true ∧ G sp sc [23] d mL_law n 1917 L (.inl (xs.getD j.toNat 0) :: r) h Q | _ => False)) ∧
  (∀ (n d : Nat) (L : List (Option iV)) (r : List iV) (m : Nat) (z0 : iV) (h : iH) (Q : Option iV → iH → Prop), G sp sc [23] (d + 1) mL_law (n + 1) 1917 L (z0 :: .inr (.inr (m + 2)) :: r) h Q = (match h.1[m]? with | some (.inl (ci, _)) => (match lkC 13 203 ci with | some (y1, n1, kd) => (n1 = 1 ∧ (kd = 2 ∨ kd = 3 ∨ kd = 8) ∧ cs r ≤ 8) ∧ Call sp sc d y1 [.inr (.inr (m + 2)), z0] h (fun q h1 => GC sp sc [23] (d + 1) mL_law n 1920 L q r h h1 Q) | none => False) | _ => False)) ∧
  (∀ (n d : Nat) (L : List (Option iV)) (a : Int) (b : Int) (r : List iV) (h : iH) (Q : Option iV → iH → Prop), G sp sc [23] d mL_law (n + 1) 1920 L (.inl b :: .inl a :: r) h Q = ((inI a = true ∧ inI b = true) ∧ (a = b → G sp sc [23] d mL_law n 1950 L r h Q) ∧ (¬ (a = b) → G sp sc [23] d mL_law n 1923 L r h Q))) ∧
  (∀ (n d : Nat) (L : List (Option iV)) (st : List iV) (h : iH) (Q : Option iV → iH → Prop), G sp sc [23] d mL_law (n + 1) 1923 L st h Q = G sp sc [23] d mL_law n 1924 L (.inl 0 :: st) h Q) ∧
  (∀ (n d : Nat) (L : List (Option iV)) (a : Int) (h : iH) (Q : Option iV → iH → Prop), G sp sc [23] d mL_law (n + 1) 1924 L [.inl a] h Q = ((a = 0 ∨ a = 1) ∧ Q (some (.inl a)) h)) := ⟨by intros; exact G_at (by decide +kernel : fetch mL_law 1900 = some (.aload_n 1)),
  by intros; exact G_at (by decide +kernel : fetch mL_law 1901 = some (.aload_n 0)),
  by intros; exact G_at (by decide +kernel : fetch mL_law 1902 = some (.iload 4)),
  by intros; exact G_at (by decide +kernel : fetch mL_law 1904 = some (.iconst 1)),
  by intros; exact G_at (by decide +kernel : fetch mL_law 1905 = some (.iadd)),
  by intros; exact G_at (by decide +kernel : fetch mL_law 1906 = some (.iaload)),
  by intros; exact G_at (by decide +kernel : fetch mL_law 1906 = some (.iaload)),
  by intros; exact G_callV (by decide +kernel : fetch mL_law 1907 = some (.invokevirtual 200)) (by decide +kernel) (by decide +kernel) rfl,
  by intros; exact G_at (by decide +kernel : fetch mL_law 1910 = some (.aload_n 2)),
  by intros; exact G_at (by decide +kernel : fetch mL_law 1911 = some (.aload_n 0)),
  by intros; exact G_at (by decide +kernel : fetch mL_law 1912 = some (.iload 4)),
  by intros; exact G_at (by decide +kernel : fetch mL_law 1914 = some (.iconst 1)),
  by intros; exact G_at (by decide +kernel : fetch mL_law 1915 = some (.iadd)),
  by intros; exact G_at (by decide +kernel : fetch mL_law 1916 = some (.iaload)),
  by intros; exact G_at (by decide +kernel : fetch mL_law 1916 = some (.iaload)),
  by intros; exact G_callV (by decide +kernel : fetch mL_law 1917 = some (.invokevirtual 203)) (by decide +kernel) (by decide +kernel) rfl,
  by intros; exact G_at (by decide +kernel : fetch mL_law 1920 = some (.if_icmp .eq 30)),
  by intros; exact G_at (by decide +kernel : fetch mL_law 1923 = some (.iconst 0)),
  by intros; exact G_retz (by decide +kernel : fetch mL_law 1924 = some (.ireturn)) (by decide +kernel)⟩
theorem gL_c43 : (∀ (n d : Nat) (L : List (Option iV)) (st : List iV) (h : iH) (Q : Option iV → iH → Prop), G sp sc [23] d mL_law (n + 1) 1925 L st h Q = (match ld L 1 with | some (.inr (.inr (r + 1))) => G sp sc [23] d mL_law n 1926 L (.inr (.inr (r + 1)) :: st) h Q | _ => False)) ∧
  (∀ (n d : Nat) (L : List (Option iV)) (st : List iV) (h : iH) (Q : Option iV → iH → Prop), G sp sc [23] d mL_law (n + 1) 1926 L st h Q = (match ld L 0 with | some (.inr (.inr (r + 1))) => G sp sc [23] d mL_law n 1927 L (.inr (.inr (r + 1)) :: st) h Q | _ => False)) ∧
  (∀ (n d : Nat) (L : List (Option iV)) (st : List iV) (h : iH) (Q : Option iV → iH → Prop), G sp sc [23] d mL_law (n + 1) 1927 L st h Q = (match ld L 4 with | some (.inl x) => G sp sc [23] d mL_law n 1929 L (.inl x :: st) h Q | _ => False)) ∧
  (∀ (n d : Nat) (L : List (Option iV)) (st : List iV) (h : iH) (Q : Option iV → iH → Prop), G sp sc [23] d mL_law (n + 1) 1929 L st h Q = G sp sc [23] d mL_law n 1930 L (.inl 1 :: st) h Q) ∧
  (∀ (n d : Nat) (L : List (Option iV)) (a : Int) (b : Int) (r : List iV) (h : iH) (Q : Option iV → iH → Prop), G sp sc [23] d mL_law (n + 1) 1930 L (.inl b :: .inl a :: r) h Q = G sp sc [23] d mL_law n 1931 L (.inl (a + b) :: r) h Q) ∧
  (∀ (n d : Nat) (L : List (Option iV)) (r : List iV) (j : Int) (h : iH) (Q : Option iV → iH → Prop), G sp sc [23] d mL_law (n + 1) 1931 L (.inl j :: .inr (.inr 1) :: r) h Q = (inA j sc.length = true ∧ G sp sc [23] d mL_law n 1932 L (.inl (sc.getD j.toNat 0) :: r) h Q)) ∧
  (∀ (n d : Nat) (L : List (Option iV)) (r : List iV) (j : Int) (m : Nat) (h : iH) (Q : Option iV → iH → Prop), G sp sc [23] d mL_law (n + 1) 1931 L (.inl j :: .inr (.inr (m + 2)) :: r) h Q = (match h.1[m]? with | some (.inr (.inl (0, xs))) => inA j xs.length = true ∧ G sp sc [23] d mL_law n 1932 L (.inl (xs.getD j.toNat 0) :: r) h Q | _ => False)) ∧
  (∀ (n d : Nat) (L : List (Option iV)) (r : List iV) (m : Nat) (z0 : iV) (h : iH) (Q : Option iV → iH → Prop), G sp sc [23] (d + 1) mL_law (n + 1) 1932 L (z0 :: .inr (.inr (m + 2)) :: r) h Q = (match h.1[m]? with | some (.inl (ci, _)) => (match lkC 13 204 ci with | some (y1, n1, kd) => (n1 = 1 ∧ (kd = 2 ∨ kd = 3 ∨ kd = 8) ∧ cs r ≤ 8) ∧ Call sp sc d y1 [.inr (.inr (m + 2)), z0] h (fun q h1 => GC sp sc [23] (d + 1) mL_law n 1935 L q r h h1 Q) | none => False) | _ => False)) ∧
  (∀ (n d : Nat) (L : List (Option iV)) (st : List iV) (h : iH) (Q : Option iV → iH → Prop), G sp sc [23] d mL_law (n + 1) 1935 L st h Q = (match ld L 2 with | some (.inr (.inr (r + 1))) => G sp sc [23] d mL_law n 1936 L (.inr (.inr (r + 1)) :: st) h Q | _ => False)) ∧
  (∀ (n d : Nat) (L : List (Option iV)) (st : List iV) (h : iH) (Q : Option iV → iH → Prop), G sp sc [23] d mL_law (n + 1) 1936 L st h Q = (match ld L 0 with | some (.inr (.inr (r + 1))) => G sp sc [23] d mL_law n 1937 L (.inr (.inr (r + 1)) :: st) h Q | _ => False)) ∧
  (∀ (n d : Nat) (L : List (Option iV)) (st : List iV) (h : iH) (Q : Option iV → iH → Prop), G sp sc [23] d mL_law (n + 1) 1937 L st h Q = (match ld L 4 with | some (.inl x) => G sp sc [23] d mL_law n 1939 L (.inl x :: st) h Q | _ => False)) ∧
  (∀ (n d : Nat) (L : List (Option iV)) (st : List iV) (h : iH) (Q : Option iV → iH → Prop), G sp sc [23] d mL_law (n + 1) 1939 L st h Q = G sp sc [23] d mL_law n 1940 L (.inl 1 :: st) h Q) ∧
  (∀ (n d : Nat) (L : List (Option iV)) (a : Int) (b : Int) (r : List iV) (h : iH) (Q : Option iV → iH → Prop), G sp sc [23] d mL_law (n + 1) 1940 L (.inl b :: .inl a :: r) h Q = G sp sc [23] d mL_law n 1941 L (.inl (a + b) :: r) h Q) ∧
  (∀ (n d : Nat) (L : List (Option iV)) (r : List iV) (j : Int) (h : iH) (Q : Option iV → iH → Prop), G sp sc [23] d mL_law (n + 1) 1941 L (.inl j :: .inr (.inr 1) :: r) h Q = (inA j sc.length = true ∧ G sp sc [23] d mL_law n 1942 L (.inl (sc.getD j.toNat 0) :: r) h Q)) ∧
  (∀ (n d : Nat) (L : List (Option iV)) (r : List iV) (j : Int) (m : Nat) (h : iH) (Q : Option iV → iH → Prop), G sp sc [23] d mL_law (n + 1) 1941 L (.inl j :: .inr (.inr (m + 2)) :: r) h Q = (match h.1[m]? with | some (.inr (.inl (0, xs))) => inA j xs.length = true ∧ G sp sc [23] d mL_law n 1942 L (.inl (xs.getD j.toNat 0) :: r) h Q | _ => False)) ∧
  (∀ (n d : Nat) (L : List (Option iV)) (r : List iV) (m : Nat) (z0 : iV) (h : iH) (Q : Option iV → iH → Prop), G sp sc [23] (d + 1) mL_law (n + 1) 1942 L (z0 :: .inr (.inr (m + 2)) :: r) h Q = (match h.1[m]? with | some (.inl (ci, _)) => (match lkC 13 207 ci with | some (y1, n1, kd) => (n1 = 1 ∧ (kd = 2 ∨ kd = 3 ∨ kd = 8) ∧ cs r ≤ 8) ∧ Call sp sc d y1 [.inr (.inr (m + 2)), z0] h (fun q h1 => GC sp sc [23] (d + 1) mL_law n 1945 L q r h h1 Q) | none => False) | _ => False)) ∧
  (∀ (n d : Nat) (L : List (Option iV)) (a : Int) (b : Int) (r : List iV) (h : iH) (Q : Option iV → iH → Prop), G sp sc [23] d mL_law (n + 1) 1945 L (.inl b :: .inl a :: r) h Q = ((inI a = true ∧ inI b = true) ∧ (a = b → G sp sc [23] d mL_law n 1950 L r h Q) ∧ (¬ (a = b) → G sp sc [23] d mL_law n 1948 L r h Q))) ∧
  (∀ (n d : Nat) (L : List (Option iV)) (st : List iV) (h : iH) (Q : Option iV → iH → Prop), G sp sc [23] d mL_law (n + 1) 1948 L st h Q = G sp sc [23] d mL_law n 1949 L (.inl 0 :: st) h Q) ∧
  (∀ (n d : Nat) (L : List (Option iV)) (a : Int) (h : iH) (Q : Option iV → iH → Prop), G sp sc [23] d mL_law (n + 1) 1949 L [.inl a] h Q = ((a = 0 ∨ a = 1) ∧ Q (some (.inl a)) h)) := ⟨by intros; exact G_at (by decide +kernel : fetch mL_law 1925 = some (.aload_n 1)),
  by intros; exact G_at (by decide +kernel : fetch mL_law 1926 = some (.aload_n 0)),
  by intros; exact G_at (by decide +kernel : fetch mL_law 1927 = some (.iload 4)),
  by intros; exact G_at (by decide +kernel : fetch mL_law 1929 = some (.iconst 1)),
  by intros; exact G_at (by decide +kernel : fetch mL_law 1930 = some (.iadd)),
  by intros; exact G_at (by decide +kernel : fetch mL_law 1931 = some (.iaload)),
  by intros; exact G_at (by decide +kernel : fetch mL_law 1931 = some (.iaload)),
  by intros; exact G_callV (by decide +kernel : fetch mL_law 1932 = some (.invokevirtual 204)) (by decide +kernel) (by decide +kernel) rfl,
  by intros; exact G_at (by decide +kernel : fetch mL_law 1935 = some (.aload_n 2)),
  by intros; exact G_at (by decide +kernel : fetch mL_law 1936 = some (.aload_n 0)),
  by intros; exact G_at (by decide +kernel : fetch mL_law 1937 = some (.iload 4)),
  by intros; exact G_at (by decide +kernel : fetch mL_law 1939 = some (.iconst 1)),
  by intros; exact G_at (by decide +kernel : fetch mL_law 1940 = some (.iadd)),
  by intros; exact G_at (by decide +kernel : fetch mL_law 1941 = some (.iaload)),
  by intros; exact G_at (by decide +kernel : fetch mL_law 1941 = some (.iaload)),
  by intros; exact G_callV (by decide +kernel : fetch mL_law 1942 = some (.invokevirtual 207)) (by decide +kernel) (by decide +kernel) rfl,
  by intros; exact G_at (by decide +kernel : fetch mL_law 1945 = some (.if_icmp .eq 5)),
  by intros; exact G_at (by decide +kernel : fetch mL_law 1948 = some (.iconst 0)),
  by intros; exact G_retz (by decide +kernel : fetch mL_law 1949 = some (.ireturn)) (by decide +kernel)⟩
theorem gL_k : lkC 13 101 12 = some (mX12_orders, 1, 2) ∧
  lkC 13 102 11 = some (mX11_deputies, 2, 2) ∧
  lkC 13 105 12 = some (mX12_deputies, 2, 2) ∧
  lkC 13 106 11 = some (mX11_bestWho, 1, 2) ∧
  lkC 13 109 12 = some (mX12_bestWho, 1, 2) ∧
  lkC 13 110 11 = some (mX11_leave, 1, 2) ∧
  lkC 13 113 12 = some (mX12_leave, 1, 2) ∧
  lkC 13 114 11 = some (mX11_stable, 1, 2) ∧
  lkC 13 117 12 = some (mX12_stable, 1, 2) ∧
  lkC 13 118 11 = some (mX11_allStable, 0, 2) ∧
  lkC 13 121 12 = some (mX12_allStable, 0, 2) ∧
  lkC 13 122 11 = some (mX11_most, 0, 2) ∧
  lkC 13 125 12 = some (mX12_most, 0, 2) ∧
  lkC 13 126 11 = some (mX11_mostOf, 1, 2) ∧
  lkC 13 129 12 = some (mX12_mostOf, 1, 2) ∧
  lkC 13 130 11 = some (mX11_report, 3, 2) ∧
  lkC 13 133 12 = some (mX12_report, 3, 2) ∧
  lkC 13 134 11 = some (mX11_said, 4, 2) ∧
  lkC 13 137 12 = some (mX12_said, 4, 2) ∧
  lkC 13 138 11 = some (mX11_learnt, 2, 2) ∧
  lkC 13 141 12 = some (mX12_learnt, 2, 2) ∧
  lkC 13 142 11 = some (mX11_chain, 3, 2) ∧
  lkC 13 145 12 = some (mX12_chain, 3, 2) ∧
  lkC 13 146 11 = some (mX11_ways, 1, 2) ∧
  lkC 13 149 12 = some (mX12_ways, 1, 2) ∧
  lkC 13 150 11 = some (mX11_thaw, 4, 2) ∧
  lkC 13 153 12 = some (mX12_thaw, 4, 2) ∧
  lkC 13 154 11 = some (mX11_judge, 4, 2) ∧
  lkC 13 157 12 = some (mX12_judge, 4, 2) ∧
  lkC 13 158 11 = some (mX11_seeds, 3, 2) ∧
  lkC 13 161 12 = some (mX12_seeds, 3, 2) ∧
  lkC 13 162 11 = some (mX11_image, 0, 2) ∧
  lkC 13 165 12 = some (mX12_image, 0, 2) ∧
  lkC 13 166 11 = some (mX11_restore, 0, 2) ∧
  lkC 13 169 12 = some (mX12_restore, 0, 2) ∧
  lkC 13 170 11 = some (mX11_count, 1, 2) ∧
  lkC 13 173 12 = some (mX12_count, 1, 2) ∧
  lkC 13 174 11 = some (mX11_keep, 4, 2) ∧
  lkC 13 177 12 = some (mX12_keep, 4, 2) ∧
  lkC 13 178 11 = some (mX11_row, 3, 2) ∧
  lkC 13 181 12 = some (mX12_row, 3, 2) ∧
  lkC 13 182 11 = some (mX11_put, 3, 2) ∧
  lkC 13 185 12 = some (mX12_put, 3, 2) ∧
  lkC 13 191 12 = some (mX12_element, 2, 2) ∧
  lkC 13 192 12 = some (mX12_thrown, 0, 2) ∧
  lkC 13 195 11 = some (mX11_copy, 5, 2) ∧
  lkC 13 199 12 = some (mX12_copy, 5, 2) ∧
  lkC 13 200 11 = some (mX11_cost, 1, 2) ∧
  lkC 13 203 12 = some (mX12_cost, 1, 2) ∧
  lkC 13 204 11 = some (mX11_toss, 1, 8) ∧
  lkC 13 207 12 = some (mX12_toss, 1, 2) ∧
  lkC 13 21 11 = some (mX11_valley, 1, 2) ∧
  lkC 13 25 12 = some (mX12_valley, 1, 2) ∧
  lkC 13 26 11 = some (mX11_one, 3, 2) ∧
  lkC 13 30 12 = some (mX12_one, 3, 2) ∧
  lkC 13 31 11 = some (mX11_grows, 3, 2) ∧
  lkC 13 34 12 = some (mX12_grows, 3, 2) ∧
  lkC 13 35 11 = some (mX11_retells, 3, 2) ∧
  lkC 13 38 12 = some (mX12_retells, 3, 2) ∧
  lkC 13 39 11 = some (mX11_comes, 2, 2) ∧
  lkC 13 43 12 = some (mX12_comes, 2, 2) ∧
  lkC 13 44 11 = some (mX11_likes, 3, 2) ∧
  lkC 13 47 12 = some (mX12_likes, 3, 2) ∧
  lkC 13 48 11 = some (mX11_like, 4, 2) ∧
  lkC 13 52 12 = some (mX12_like, 4, 2) ∧
  lkC 13 53 11 = some (mX11_sends, 3, 2) ∧
  lkC 13 56 12 = some (mX12_sends, 3, 2) ∧
  lkC 13 57 11 = some (mX11_couple, 2, 2) ∧
  lkC 13 60 12 = some (mX12_couple, 2, 2) ∧
  lkC 13 61 11 = some (mX11_about, 2, 2) ∧
  lkC 13 64 12 = some (mX12_about, 2, 2) ∧
  lkC 13 65 11 = some (mX11_who, 2, 2) ∧
  lkC 13 68 12 = some (mX12_who, 2, 2) ∧
  lkC 13 69 11 = some (mX11_slip, 1, 2) ∧
  lkC 13 72 12 = some (mX12_slip, 1, 2) ∧
  lkC 13 73 11 = some (mX11_days, 1, 2) ∧
  lkC 13 76 12 = some (mX12_days, 1, 2) ∧
  lkC 13 77 11 = some (mX11_fate, 3, 2) ∧
  lkC 13 80 12 = some (mX12_fate, 3, 2) ∧
  lkC 13 81 11 = some (mX11_then, 4, 2) ∧
  lkC 13 84 12 = some (mX12_then, 4, 2) ∧
  lkC 13 85 11 = some (mX11_bound, 3, 2) ∧
  lkC 13 88 12 = some (mX12_bound, 3, 2) ∧
  lkC 13 89 11 = some (mX11_slips, 2, 2) ∧
  lkC 13 92 12 = some (mX12_slips, 2, 2) ∧
  lkC 13 93 11 = some (mX11_soonest, 0, 2) ∧
  lkC 13 97 12 = some (mX12_soonest, 0, 2) ∧
  lkC 13 98 11 = some (mX11_orders, 1, 2) := ⟨by decide +kernel,
  by decide +kernel,
  by decide +kernel,
  by decide +kernel,
  by decide +kernel,
  by decide +kernel,
  by decide +kernel,
  by decide +kernel,
  by decide +kernel,
  by decide +kernel,
  by decide +kernel,
  by decide +kernel,
  by decide +kernel,
  by decide +kernel,
  by decide +kernel,
  by decide +kernel,
  by decide +kernel,
  by decide +kernel,
  by decide +kernel,
  by decide +kernel,
  by decide +kernel,
  by decide +kernel,
  by decide +kernel,
  by decide +kernel,
  by decide +kernel,
  by decide +kernel,
  by decide +kernel,
  by decide +kernel,
  by decide +kernel,
  by decide +kernel,
  by decide +kernel,
  by decide +kernel,
  by decide +kernel,
  by decide +kernel,
  by decide +kernel,
  by decide +kernel,
  by decide +kernel,
  by decide +kernel,
  by decide +kernel,
  by decide +kernel,
  by decide +kernel,
  by decide +kernel,
  by decide +kernel,
  by decide +kernel,
  by decide +kernel,
  by decide +kernel,
  by decide +kernel,
  by decide +kernel,
  by decide +kernel,
  by decide +kernel,
  by decide +kernel,
  by decide +kernel,
  by decide +kernel,
  by decide +kernel,
  by decide +kernel,
  by decide +kernel,
  by decide +kernel,
  by decide +kernel,
  by decide +kernel,
  by decide +kernel,
  by decide +kernel,
  by decide +kernel,
  by decide +kernel,
  by decide +kernel,
  by decide +kernel,
  by decide +kernel,
  by decide +kernel,
  by decide +kernel,
  by decide +kernel,
  by decide +kernel,
  by decide +kernel,
  by decide +kernel,
  by decide +kernel,
  by decide +kernel,
  by decide +kernel,
  by decide +kernel,
  by decide +kernel,
  by decide +kernel,
  by decide +kernel,
  by decide +kernel,
  by decide +kernel,
  by decide +kernel,
  by decide +kernel,
  by decide +kernel,
  by decide +kernel,
  by decide +kernel,
  by decide +kernel,
  by decide +kernel⟩
end GG
