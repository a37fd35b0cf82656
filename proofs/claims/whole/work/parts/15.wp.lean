/-! ===== what must hold ahead of an instruction, in a form to compute with ===== -/
def brP (c : Jvm.ClassFile.Cond) (a b : Int) : Prop := match c with
  | .eq => a = b
  | .ne => ¬ a = b
  | .lt => a < b
  | .ge => b ≤ a
  | .gt => b < a
  | .le => a ≤ b
theorem brP_iff {c : Jvm.ClassFile.Cond} {a b : Int} : brI c a b = true ↔ brP c a b := by
  cases c <;> simp [brI, brP]
def okI1 (z : Int) : Prop := inI z = true
/-- the n values on top, the deepest first, and the rest -/
def tka : Nat → List iV → List iV → Option (List iV × List iV)
  | 0, st, acc => some (acc, st)
  | _ + 1, [], _ => none
  | n + 1, v :: st, acc => tka n st (v :: acc)
theorem tka_ok : ∀ (n : Nat) (st acc av rest : List iV), tka n st acc = some (av, rest) → n ≤ st.length ∧ av = (st.take n).reverse ++ acc ∧ rest = st.drop n := by
  intro n
  induction n with
  | zero => intro st acc av rest h; cases h; exact ⟨Nat.zero_le _, rfl, rfl⟩
  | succ n ih =>
    intro st acc av rest h
    cases st with
    | nil => cases h
    | cons v st =>
      obtain ⟨h1, h2, h3⟩ := ih st (v :: acc) av rest h
      refine ⟨Nat.succ_le_succ h1, ?_, h3⟩
      rw [h2, List.take_succ_cons, List.reverse_cons, List.append_assoc]
      rfl
/-- K: what must hold behind it -/
def wpI (sp : Nat → List iV → iH → Option (Option iV × iH)) (sc : List Int) (d y : Nat) (K : Nat → List (Option iV) → List iV → iH → Prop) (i : Instr) (pc : Nat) (L : List (Option iV)) (st : List iV) (h : iH) (Q : Option iV → iH → Prop) : Prop := match i with
  | .iconst n => K (pc + 1) L (.inl n :: st) h
  | .bipush n => (-128 ≤ n ∧ n < 128) ∧ K (pc + 2) L (.inl n :: st) h
  | .sipush n => (-32768 ≤ n ∧ n < 32768) ∧ K (pc + 3) L (.inl n :: st) h
  | .lconst n => K (pc + 1) L (.inr (.inl (n.val : Int)) :: st) h
  | .iload_n k => (match ld L k.val with
    | some (.inl x) => K (pc + 1) L (.inl x :: st) h
    | _ => False)
  | .iload k => (match ld L k with
    | some (.inl x) => K (pc + 2) L (.inl x :: st) h
    | _ => False)
  | .lload_n k => (match ld L k.val with
    | some (.inr (.inl x)) => K (pc + 1) L (.inr (.inl x) :: st) h
    | _ => False)
  | .lload k => (match ld L k with
    | some (.inr (.inl x)) => K (pc + 2) L (.inr (.inl x) :: st) h
    | _ => False)
  | .aload_n k => (match ld L k.val with
    | some (.inr (.inr (r + 1))) => K (pc + 1) L (.inr (.inr (r + 1)) :: st) h
    | _ => False)
  | .aload k => (match ld L k with
    | some (.inr (.inr (r + 1))) => K (pc + 2) L (.inr (.inr (r + 1)) :: st) h
    | _ => False)
  | .istore_n k => (match st with
    | .inl x :: r => (match st1 L k.val (.inl x) with
      | some L' => K (pc + 1) L' r h
      | none => False)
    | _ => False)
  | .istore k => (match st with
    | .inl x :: r => (match st1 L k (.inl x) with
      | some L' => K (pc + 2) L' r h
      | none => False)
    | _ => False)
  | .lstore_n k => (match st with
    | .inr (.inl x) :: r => (match st2 L k.val (.inr (.inl x)) with
      | some L' => K (pc + 1) L' r h
      | none => False)
    | _ => False)
  | .lstore k => (match st with
    | .inr (.inl x) :: r => (match st2 L k (.inr (.inl x)) with
      | some L' => K (pc + 2) L' r h
      | none => False)
    | _ => False)
  | .astore_n k => (match st with
    | .inr (.inr (x + 1)) :: r => (match st1 L k.val (.inr (.inr (x + 1))) with
      | some L' => K (pc + 1) L' r h
      | none => False)
    | _ => False)
  | .astore k => (match st with
    | .inr (.inr (x + 1)) :: r => (match st1 L k (.inr (.inr (x + 1))) with
      | some L' => K (pc + 2) L' r h
      | none => False)
    | _ => False)
  | .iinc k n => (match ld L k with
    | some (.inl x) => (match st1 L k (.inl (x + n)) with
      | some L' => K (pc + 3) L' st h
      | none => False)
    | _ => False)
  | .ineg => (match st with
    | .inl a :: r => K (pc + 1) L (.inl (-a) :: r) h
    | _ => False)
  | .i2l => (match st with
    | .inl a :: r => inI a = true ∧ K (pc + 1) L (.inr (.inl a) :: r) h
    | _ => False)
  | .l2i => (match st with
    | .inr (.inl a) :: r => K (pc + 1) L (.inl a :: r) h
    | _ => False)
  | .i2b => (match st with
    | .inl a :: r => K (pc + 1) L (.inl (w8 a) :: r) h
    | _ => False)
  | .lcmp => (match st with
    | .inr (.inl b) :: .inr (.inl a) :: r => (inJ a = true ∧ inJ b = true) ∧ K (pc + 1) L (.inl (if b < a then 1 else if a = b then 0 else -1) :: r) h
    | _ => False)
  | .dup => (match st with
    | .inl a :: r => K (pc + 1) L (.inl a :: .inl a :: r) h
    | .inr (.inr a) :: r => K (pc + 1) L (.inr (.inr a) :: .inr (.inr a) :: r) h
    | _ => False)
  | .dup2 => (match st with
    | .inl a :: .inr (.inr b) :: r => K (pc + 1) L (.inl a :: .inr (.inr b) :: .inl a :: .inr (.inr b) :: r) h
    | _ => False)
  | .goto off => (match jmp pc off with
    | some q => K q L st h
    | none => False)
  | .ifCond c off => (match st with
    | .inl a :: r => (match jmp pc off with
      | some q => inI a = true ∧ (brP c a 0 → K q L r h) ∧ (¬ brP c a 0 → K (pc + 3) L r h)
      | none => False)
    | _ => False)
  | .if_icmp c off => (match st with
    | .inl b :: .inl a :: r => (match jmp pc off with
      | some q => (inI a = true ∧ inI b = true) ∧ (brP c a b → K q L r h) ∧ (¬ brP c a b → K (pc + 3) L r h)
      | none => False)
    | _ => False)
  | .iadd => (match st with
    | .inl b :: .inl a :: r => K (pc + 1) L (.inl (a + b) :: r) h
    | _ => False)
  | .isub => (match st with
    | .inl b :: .inl a :: r => K (pc + 1) L (.inl (a - b) :: r) h
    | _ => False)
  | .imul => (match st with
    | .inl b :: .inl a :: r => K (pc + 1) L (.inl (a * b) :: r) h
    | _ => False)
  | .idiv => (match st with
    | .inl b :: .inl a :: r => (inI a = true ∧ inI b = true ∧ 0 < b) ∧ K (pc + 1) L (.inl (a.tdiv b) :: r) h
    | _ => False)
  | .irem => (match st with
    | .inl b :: .inl a :: r => (inI a = true ∧ inI b = true ∧ 0 < b) ∧ K (pc + 1) L (.inl (a.tmod b) :: r) h
    | _ => False)
  | .iand => (match st with
    | .inl b :: .inl a :: r => K (pc + 1) L (.inl (bAnd a b) :: r) h
    | _ => False)
  | .ior => (match st with
    | .inl b :: .inl a :: r => K (pc + 1) L (.inl (bOr a b) :: r) h
    | _ => False)
  | .ixor => (match st with
    | .inl b :: .inl a :: r => K (pc + 1) L (.inl (bXor a b) :: r) h
    | _ => False)
  | .ishl => (match st with
    | .inl b :: .inl a :: r => K (pc + 1) L (.inl (bShl a b) :: r) h
    | _ => False)
  | .ishr => (match st with
    | .inl b :: .inl a :: r => K (pc + 1) L (.inl (bShr a b) :: r) h
    | _ => False)
  | .ladd => (match st with
    | .inr (.inl b) :: .inr (.inl a) :: r => K (pc + 1) L (.inr (.inl (a + b)) :: r) h
    | _ => False)
  | .lmul => (match st with
    | .inr (.inl b) :: .inr (.inl a) :: r => K (pc + 1) L (.inr (.inl (a * b)) :: r) h
    | _ => False)
  | .ldiv => (match st with
    | .inr (.inl b) :: .inr (.inl a) :: r => (inJ a = true ∧ inJ b = true ∧ 0 < b) ∧ K (pc + 1) L (.inr (.inl (a.tdiv b)) :: r) h
    | _ => False)
  | .lrem => (match st with
    | .inr (.inl b) :: .inr (.inl a) :: r => (inJ a = true ∧ inJ b = true ∧ 0 < b) ∧ K (pc + 1) L (.inr (.inl (a.tmod b)) :: r) h
    | _ => False)
  | .ldc idx => (match lkZ kTab (oY y) idx with
    | some z => K (pc + 2) L (.inl z :: st) h
    | none => False)
  | .ldc_w idx => (match lkZ kTab (oY y) idx with
    | some z => K (pc + 3) L (.inl z :: st) h
    | none => False)
  | .ldc2_w idx => (match lkZ jTab (oY y) idx with
    | some z => K (pc + 3) L (.inr (.inl z) :: st) h
    | none => False)
  | .ireturn => (match st with
    | [.inl a] => (match retY y with
      | some .int => Q (some (.inl a)) h
      | some .boolean => (a = 0 ∨ a = 1) ∧ Q (some (.inl a)) h
      | _ => False)
    | _ => False)
  | .lreturn => (match st with
    | [.inr (.inl a)] => retY y = some .long ∧ Q (some (.inr (.inl a))) h
    | _ => False)
  | .areturn => (match st with
    | [.inr (.inr a)] => (match retY y with
      | some (.object _) => Q (some (.inr (.inr a))) h
      | _ => False)
    | _ => False)
  | .return_ => (match st with
    | [] => retY y = none ∧ Q none h
    | _ => False)
  | .tableswitch dflt lo hi offs => (match st with
    | .inl a :: r => inI a = true ∧ ((a < lo ∨ hi < a) → (match jmp pc dflt with
      | some q => K q L r h
      | none => False)) ∧ (¬ (a < lo ∨ hi < a) → (match offs[(a - lo).toNat]? with
      | some off => (match jmp pc off with
        | some q => K q L r h
        | none => False)
      | none => False))
    | _ => False)
  | .lookupswitch dflt ps => (match st with
    | .inl a :: r => inI a = true ∧ (ps.toList.zip (ps.toList.drop 1)).all (fun (x, next) => x.1 < next.1) = true ∧ (match jmp pc (Op.lookupswitch.offset ps.toList dflt a) with
      | some q => K q L r h
      | none => False)
    | _ => False)
  | .getfield idx => (match st with
    | .inr (.inr (n + 2)) :: r => (match h.1[n]? with
      | some (.inl (ci, fs)) => (match lkF (oY y) idx ci with
        | some k => (match fs[k]? with
          | some v => K (pc + 3) L (v :: r) h
          | none => False)
        | none => False)
      | _ => False)
    | _ => False)
  | .arraylength => (match st with
    | .inr (.inr 1) :: r => K (pc + 1) L (.inl (sc.length : Int) :: r) h
    | .inr (.inr (n + 2)) :: r => (match h.1[n]? with
      | some (.inr (.inl (t, xs))) => t < 6 ∧ K (pc + 1) L (.inl (xs.length : Int) :: r) h
      | some (.inr (.inr (t, rs))) => t < 6 ∧ K (pc + 1) L (.inl (rs.length : Int) :: r) h
      | _ => False)
    | _ => False)
  | .iaload => (match st with
    | .inl j :: .inr (.inr 1) :: r => inA j sc.length = true ∧ K (pc + 1) L (.inl (sc.getD j.toNat 0) :: r) h
    | .inl j :: .inr (.inr (n + 2)) :: r => (match h.1[n]? with
      | some (.inr (.inl (0, xs))) => inA j xs.length = true ∧ K (pc + 1) L (.inl (xs.getD j.toNat 0) :: r) h
      | _ => False)
    | _ => False)
  | .laload => (match st with
    | .inl j :: .inr (.inr (n + 2)) :: r => (match h.1[n]? with
      | some (.inr (.inl (1, xs))) => inA j xs.length = true ∧ K (pc + 1) L (.inr (.inl (xs.getD j.toNat 0)) :: r) h
      | _ => False)
    | _ => False)
  | .baload => (match st with
    | .inl j :: .inr (.inr (n + 2)) :: r => (match h.1[n]? with
      | some (.inr (.inl (2, xs))) => inA j xs.length = true ∧ K (pc + 1) L (.inl (xs.getD j.toNat 0) :: r) h
      | _ => False)
    | _ => False)
  | .aaload => (match st with
    | .inl j :: .inr (.inr (n + 2)) :: r => (match h.1[n]? with
      | some (.inr (.inr (t, rs))) => (inA j rs.length = true ∧ 3 ≤ t ∧ t < 6) ∧ K (pc + 1) L (.inr (.inr (rs.getD j.toNat 0)) :: r) h
      | _ => False)
    | _ => False)
  | .putfield idx => (match st with
    | v :: .inr (.inr (n + 2)) :: r => (match h.1[n]? with
      | some (.inl (ci, fs)) => (match lkF (oY y) idx ci with
        | some k => (fitV (tyT ci k) v = true ∧ k < fs.length ∧ pOK (oY y) (iniY y) ci k = true) ∧ K (pc + 3) L r (h.1.set n (.inl (ci, fs.set k v)), h.2)
        | none => False)
      | _ => False)
    | _ => False)
  | .iastore => (match st with
    | .inl v :: .inl j :: .inr (.inr (n + 2)) :: r => (match h.1[n]? with
      | some (.inr (.inl (0, xs))) => inA j xs.length = true ∧ K (pc + 1) L r (h.1.set n (.inr (.inl (0, xs.set j.toNat v))), h.2)
      | _ => False)
    | _ => False)
  | .lastore => (match st with
    | .inr (.inl v) :: .inl j :: .inr (.inr (n + 2)) :: r => (match h.1[n]? with
      | some (.inr (.inl (1, xs))) => inA j xs.length = true ∧ K (pc + 1) L r (h.1.set n (.inr (.inl (1, xs.set j.toNat v))), h.2)
      | _ => False)
    | _ => False)
  | .bastore => (match st with
    | .inl v :: .inl j :: .inr (.inr (n + 2)) :: r => (match h.1[n]? with
      | some (.inr (.inl (2, xs))) => (inA j xs.length = true ∧ (v = 0 ∨ v = 1)) ∧ K (pc + 1) L r (h.1.set n (.inr (.inl (2, xs.set j.toNat v))), h.2)
      | _ => False)
    | _ => False)
  | .aastore => (match st with
    | .inr (.inr (v + 2)) :: .inl j :: .inr (.inr (n + 2)) :: r => (match h.1[n]? with
      | some (.inr (.inr (t, rs))) => (match h.1[v]? with
        | some (.inl (ci, _)) => (inA j rs.length = true ∧ asT t ci = true) ∧ K (pc + 1) L r (h.1.set n (.inr (.inr (t, rs.set j.toNat (v + 2)))), h.2)
        | _ => False)
      | _ => False)
    | _ => False)
  | .invokevirtual idx => (match d with
    | 0 => False
    | d' + 1 => (match lkN (oY y) idx with
      | some n => (match tka n st [] with
        | some (av, .inr (.inr (m + 2)) :: rest) => (match h.1[m]? with
          | some (.inl (ci, _)) => (match lkC (oY y) idx ci with
            | some (y1, n1, kd) => (n1 = n ∧ (kd = 2 ∨ kd = 3 ∨ kd = 8) ∧ cs rest ≤ 8) ∧ Call sp sc d' y1 (.inr (.inr (m + 2)) :: av) h (fun r h1 => back h h1 L rest ∧ K (pc + 3) L (r.toList ++ rest) h1)
            | none => False)
          | _ => False)
        | _ => False)
      | none => False))
  | .invokespecial idx => (match d with
    | 0 => False
    | d' + 1 => (match isIn oTab (oY y) idx with
      | true => (match st with
        | .inr (.inr (n + 2)) :: r => cs r ≤ 8 ∧ K (pc + 3) L r h
        | _ => False)
      | false => (match lkC (oY y) idx 99 with
        | some (y1, n, kd) => (match tka n st [] with
          | some (av, .inr (.inr (m + 2)) :: rest) => (match h.1[m]? with
            | some (.inl (ci, _)) => ((kd = 4 ∨ kd = 5 ∨ kd = 6 ∨ kd = 7) ∧ cs rest ≤ 8) ∧ Call sp sc d' y1 (.inr (.inr (m + 2)) :: av) h (fun r h1 => back h h1 L rest ∧ K (pc + 3) L (r.toList ++ rest) h1)
            | _ => False)
          | _ => False)
        | none => False)))
  | .invokestatic idx => (match d with
    | 0 => False
    | d' + 1 => (match lk2 xTab (oY y) idx with
      | some t => (match st with
        | .inl b :: .inl a :: r => (inI a = true ∧ inI b = true ∧ cs r ≤ 8) ∧ K (pc + 3) L (.inl (if t = 1 then (if a < b then b else a) else (if b < a then b else a)) :: r) h
        | _ => False)
      | none => (match isIn yTab (oY y) idx with
        | true => (match stY (oY y) i pc st h.1 with
          | some (q, st', n, x) => K q L st' (h.1.set n x, h.2)
          | none => False)
        | false => (match lkC (oY y) idx 99 with
          | some (y1, n, kd) => (match tka n st [] with
            | some (av, rest) => ((kd = 0 ∨ kd = 1 ∨ kd = 9) ∧ cs rest ≤ 8) ∧ Call sp sc d' y1 av h (fun r h1 => back h h1 L rest ∧ K (pc + 3) L (r.toList ++ rest) h1)
            | none => False)
          | none => False))))
  | .new _ => (match stN (oY y) i pc st with
    | some (q, st', x) => (vL h.1.length L && (st'.all (vV h.1.length) && h.1.all (vO h.1.length))) = true ∧ K q L (.inr (.inr (h.1.length + 2)) :: st') (h.1 ++ [x], h.2 + 1)
    | none => False)
  | .newarray _ => (match stN (oY y) i pc st with
    | some (q, st', x) => (vL h.1.length L && (st'.all (vV h.1.length) && h.1.all (vO h.1.length))) = true ∧ K q L (.inr (.inr (h.1.length + 2)) :: st') (h.1 ++ [x], h.2 + 1)
    | none => False)
  | .anewarray _ => (match stN (oY y) i pc st with
    | some (q, st', x) => (vL h.1.length L && (st'.all (vV h.1.length) && h.1.all (vO h.1.length))) = true ∧ K q L (.inr (.inr (h.1.length + 2)) :: st') (h.1 ++ [x], h.2 + 1)
    | none => False)
  | _ => False
section WP
variable {sp : Nat → List iV → iH → Option (Option iV × iH)} {sc : List Int} {d y pc : Nat} {L : List (Option iV)} {st : List iV} {h : iH} {Q : Option iV → iH → Prop} {i : Instr} {K : Nat → List (Option iV) → List iV → iH → Prop}
theorem run_stp {F' : iF} {h' : iH} (hr : rtn (retY y) i st = none) (hs : stp sc (oY y) (iniY y) d i (pc, L, st) h = some (F', h')) (k : Run sp sc d y F'.1 F'.2.1 F'.2.2 h' Q) : RunI sp sc d y (some i) pc L st h Q := by
  unfold RunI
  simp only [hr, hs]
  exact k
theorem run_ret {r : Option iV} (hr : rtn (retY y) i st = some r) (k : Q r h) : RunI sp sc d y (some i) pc L st h Q := by
  unfold RunI
  simp only [hr]
  exact k
theorem run_call {y' kd : Nat} {av rest : List iV} (hr : rtn (retY y) i st = none) (hs : stp sc (oY y) (iniY y) (d + 1) i (pc, L, st) h = none) (hv : rsv (oY y) i st h.1 = some (y', av, rest, kd)) (k : Call sp sc d y' av h (fun r h1 => back h h1 L rest ∧ Run sp sc (d + 1) y (pc + 3) L (r.toList ++ rest) h1 Q)) : RunI sp sc (d + 1) y (some i) pc L st h Q := by
  unfold RunI
  simp only [hr, hs, hv]
  exact k
theorem stE_no (h1 : ∀ a b, binI i a b = none) (h2 : ∀ a b, binJ i a b = none) : stE i pc L st = none := by
  unfold stE
  split
  · rw [h1]
  · rw [h2]
  · rfl
theorem stp_none {hh : iH} (a : stA i pc L st = none) (b : stB i pc L st = none) (c : stC i pc L st = none) (dd : stD i pc L st = none) (ee : stE i pc L st = none) (k : stK (oY y) i pc L st = none) (r : stR sc (oY y) i pc st hh.1 = none) (w : stW (oY y) (iniY y) i pc st hh.1 = none) (n : stN (oY y) i pc st = none) (m : stM (oY y) i pc st = none) (yy : stY (oY y) i pc st hh.1 = none) : stp sc (oY y) (iniY y) (d + 1) i (pc, L, st) hh = none := by
  unfold stp
  simp only [a, b, c, dd, ee, k, r, w, n, m, yy]
  rfl
theorem stM_no {idx : Nat} (hx : lk2 xTab (oY y) idx = none) : stM (oY y) (.invokestatic idx) pc st = none := by
  unfold stM
  simp only [hx]
theorem stY_no {idx : Nat} {hh : iH} (hx : isIn yTab (oY y) idx = false) : stY (oY y) (.invokestatic idx) pc st hh.1 = none := by
  unfold stY
  simp only [hx]
  rfl
theorem stM_no2 {idx : Nat} (hx : isIn oTab (oY y) idx = false) : stM (oY y) (.invokespecial idx) pc st = none := by
  unfold stM
  simp only [hx]
  rfl
set_option maxHeartbeats 4000000 in
theorem wpI_ok (hK : ∀ pc L st h, K pc L st h → Run sp sc d y pc L st h Q) (hw : wpI sp sc d y K i pc L st h Q) : RunI sp sc d y (some i) pc L st h Q := by
  cases i
  case ifCond cnd off =>
    simp only [wpI] at hw
    split at hw
    · rename_i a r
      split at hw
      · rename_i q hq
        obtain ⟨ha, h1, h2⟩ := hw
        by_cases hb : brI cnd a 0 = true
        · refine run_stp (F' := (_, _, _)) rfl ?_ (hK _ _ _ _ (h1 (brP_iff.mp hb)))
          simp [stp, stA, stB, stC, stD, ha, hq, hb]
        · refine run_stp (F' := (_, _, _)) rfl ?_ (hK _ _ _ _ (h2 (fun z => hb (brP_iff.mpr z))))
          simp [stp, stA, stB, stC, stD, ha, hq, hb]
      · exact hw.elim
    · exact hw.elim
  case if_icmp cnd off =>
    simp only [wpI] at hw
    split at hw
    · rename_i x a r
      split at hw
      · rename_i q hq
        obtain ⟨⟨ha, hx⟩, h1, h2⟩ := hw
        by_cases hb : brI cnd a x = true
        · refine run_stp (F' := (_, _, _)) rfl ?_ (hK _ _ _ _ (h1 (brP_iff.mp hb)))
          simp [stp, stA, stB, stC, stD, ha, hx, hq, hb]
        · refine run_stp (F' := (_, _, _)) rfl ?_ (hK _ _ _ _ (h2 (fun z => hb (brP_iff.mpr z))))
          simp [stp, stA, stB, stC, stD, ha, hx, hq, hb]
      · exact hw.elim
    · exact hw.elim
  case tableswitch dflt lo hi offs =>
    simp only [wpI] at hw
    split at hw
    · rename_i a r
      obtain ⟨ha, h1, h2⟩ := hw
      by_cases hb : a < lo ∨ hi < a
      · have h1 := h1 hb
        split at h1
        · rename_i q hq
          refine run_stp (F' := (_, _, _)) rfl ?_ (hK _ _ _ _ h1)
          simp [stp, stA, stB, stC, stD, ha, hq, hb, push]
        · exact h1.elim
      · have h2 := h2 hb
        split at h2
        · rename_i off ho
          split at h2
          · rename_i q hq
            refine run_stp (F' := (_, _, _)) rfl ?_ (hK _ _ _ _ h2)
            simp only [stp, stA, stB, stC, stD, ha, hb, if_true, if_false, ho, push, hq]
          · exact h2.elim
        · exact h2.elim
    · exact hw.elim
  case lookupswitch dflt ps =>
    simp only [wpI] at hw
    split at hw
    · rename_i a r
      obtain ⟨ha, h1, h2⟩ := hw
      split at h2
      · rename_i q hq
        refine run_stp (F' := (_, _, _)) rfl ?_ (hK _ _ _ _ h2)
        have hc : (inI a && (ps.toList.zip (ps.toList.drop 1)).all (fun (x, next) => x.1 < next.1)) = true := by rw [ha, h1]; rfl
        simp only [stp, stA, stB, stC, stD, hc, if_true, push, hq]
      · exact h2.elim
    · exact hw.elim
  case invokevirtual idx =>
    simp only [wpI] at hw
    cases d with
    | zero => exact hw.elim
    | succ d =>
      dsimp only at hw
      split at hw
      · rename_i n hn
        split at hw
        · rename_i av m rest ht
          obtain ⟨t1, t2, t3⟩ := tka_ok _ _ _ _ _ ht
          split at hw
          · rename_i ci fs hm
            split at hw
            · rename_i y1 n1 kd hc
              obtain ⟨hcond, hw⟩ := hw
              have hv : rsv (oY y) (.invokevirtual idx) st h.1 = some (y1, .inr (.inr (m + 2)) :: av, rest, kd) := by
                unfold rsv
                simp only [hn]
                rw [← t3]
                simp only [hm, hc]
                rw [if_pos hcond, t2, List.append_nil]
              exact run_call rfl (stp_none rfl rfl rfl rfl (stE_no (fun _ _ => rfl) (fun _ _ => rfl)) rfl rfl rfl rfl rfl rfl) hv (hw.imp fun r h' z => ⟨z.1, hK _ _ _ _ z.2⟩)
            · exact hw.elim
          · exact hw.elim
        · exact hw.elim
      · exact hw.elim
  case invokespecial idx =>
    simp only [wpI] at hw
    cases d with
    | zero => exact hw.elim
    | succ d =>
      dsimp only at hw
      split at hw
      · rename_i ho
        split at hw
        · rename_i n r
          obtain ⟨h8, hw⟩ := hw
          refine run_stp (F' := (_, _, _)) rfl ?_ (hK _ _ _ _ hw)
          have e1 : stE (.invokespecial idx) pc L (.inr (.inr (n + 2)) :: r) = none := stE_no (fun _ _ => rfl) (fun _ _ => rfl)
          have e2 : stM (oY y) (.invokespecial idx) pc (.inr (.inr (n + 2)) :: r) = some (pc + 3, r) := by
            unfold stM; simp only [ho, h8, if_true]
          unfold stp
          simp only [e1, e2, stA, stB, stC, stD, stK, stR, stW, stN]
          rfl
        · exact hw.elim
      · rename_i ho
        split at hw
        · rename_i y1 n kd hc
          split at hw
          · rename_i av m rest ht
            obtain ⟨t1, t2, t3⟩ := tka_ok _ _ _ _ _ ht
            split at hw
            · rename_i ci fs hm
              obtain ⟨hcond, hw⟩ := hw
              have hv : rsv (oY y) (.invokespecial idx) st h.1 = some (y1, .inr (.inr (m + 2)) :: av, rest, kd) := by
                unfold rsv
                simp only [hc]
                rw [← t3]
                simp only [hm]
                rw [if_pos hcond, t2, List.append_nil]
              exact run_call rfl (stp_none rfl rfl rfl rfl (stE_no (fun _ _ => rfl) (fun _ _ => rfl)) rfl rfl rfl rfl (stM_no2 ho) rfl) hv (hw.imp fun r h' z => ⟨z.1, hK _ _ _ _ z.2⟩)
            · exact hw.elim
          · exact hw.elim
        · exact hw.elim
  case invokestatic idx =>
    simp only [wpI] at hw
    cases d with
    | zero => exact hw.elim
    | succ d =>
      dsimp only at hw
      split at hw
      · rename_i t ht
        split at hw
        · rename_i x a r
          obtain ⟨⟨ha, hx, h8⟩, hw⟩ := hw
          refine run_stp (F' := (_, _, _)) rfl ?_ (hK _ _ _ _ hw)
          have e1 : stE (.invokestatic idx) pc L (.inl x :: .inl a :: r) = none := stE_no (fun _ _ => rfl) (fun _ _ => rfl)
          have e2 : stM (oY y) (.invokestatic idx) pc (.inl x :: .inl a :: r) = some (pc + 3, .inl (if t = 1 then (if a < x then x else a) else (if x < a then x else a)) :: r) := by
            unfold stM; simp only [ht, ha, hx, h8, decide_true, Bool.and_self, if_true]
          unfold stp
          simp only [e1, e2, stA, stB, stC, stD, stK, stR, stW, stN]
          rfl
        · exact hw.elim
      · rename_i ht
        split at hw
        · rename_i hy
          split at hw
          · rename_i hv
            refine run_stp (F' := (_, _, _)) rfl ?_ (hK _ _ _ _ hw)
            have e1 : stE (.invokestatic idx) pc L st = none := stE_no (fun _ _ => rfl) (fun _ _ => rfl)
            have e2 : stM (oY y) (.invokestatic idx) pc st = none := stM_no ht
            unfold stp
            simp only [e1, e2, hv, stA, stB, stC, stD, stK, stR, stW, stN]
            rfl
          · exact hw.elim
        · rename_i hy
          split at hw
          · rename_i y1 n kd hc
            split at hw
            · rename_i av rest htk
              obtain ⟨t1, t2, t3⟩ := tka_ok _ _ _ _ _ htk
              obtain ⟨⟨hkd, h8⟩, hw⟩ := hw
              have hv : rsv (oY y) (.invokestatic idx) st h.1 = some (y1, av, rest, kd) := by
                unfold rsv
                simp only [hc]
                rw [← t3, if_pos ⟨t1, hkd, h8⟩, t2, List.append_nil]
              exact run_call rfl (stp_none rfl rfl rfl rfl (stE_no (fun _ _ => rfl) (fun _ _ => rfl)) rfl rfl rfl rfl (stM_no ht) (stY_no hy)) hv (hw.imp fun r h' z => ⟨z.1, hK _ _ _ _ z.2⟩)
            · exact hw.elim
          · exact hw.elim
  case new idx =>
    simp only [wpI] at hw
    split at hw
    · rename_i hn
      obtain ⟨h1, hw⟩ := hw
      refine run_stp (F' := (_, _, _)) rfl ?_ (hK _ _ _ _ hw)
      have e1 : stE (.new idx) pc L st = none := stE_no (fun _ _ => rfl) (fun _ _ => rfl)
      unfold stp
      simp only [e1, hn, stA, stB, stC, stD, stK, stR, stW, h1, if_true]
    · exact hw.elim
  case newarray ty =>
    simp only [wpI] at hw
    split at hw
    · rename_i hn
      obtain ⟨h1, hw⟩ := hw
      refine run_stp (F' := (_, _, _)) rfl ?_ (hK _ _ _ _ hw)
      have e1 : stE (.newarray ty) pc L st = none := stE_no (fun _ _ => rfl) (fun _ _ => rfl)
      unfold stp
      simp only [e1, hn, stA, stB, stC, stD, stK, stR, stW, h1, if_true]
    · exact hw.elim
  case anewarray idx =>
    simp only [wpI] at hw
    split at hw
    · rename_i hn
      obtain ⟨h1, hw⟩ := hw
      refine run_stp (F' := (_, _, _)) rfl ?_ (hK _ _ _ _ hw)
      have e1 : stE (.anewarray idx) pc L st = none := stE_no (fun _ _ => rfl) (fun _ _ => rfl)
      unfold stp
      simp only [e1, hn, stA, stB, stC, stD, stK, stR, stW, h1, if_true]
    · exact hw.elim
  case ireturn =>
    simp only [wpI] at hw
    split at hw
    · split at hw
      · rename_i hr
        exact run_ret (by rw [hr]; rfl) hw
      · rename_i a hr
        obtain ⟨ha, hw⟩ := hw
        exact run_ret (by rw [hr]; unfold rtn; simp only [ha, if_true]) hw
      · exact hw.elim
    · exact hw.elim
  case lreturn =>
    simp only [wpI] at hw
    split at hw
    · obtain ⟨hr, hw⟩ := hw
      exact run_ret (by rw [hr]; rfl) hw
    · exact hw.elim
  case areturn =>
    simp only [wpI] at hw
    split at hw
    · split at hw
      · rename_i hr
        exact run_ret (by rw [hr]; rfl) hw
      · exact hw.elim
    · exact hw.elim
  case return_ =>
    simp only [wpI] at hw
    split at hw
    · obtain ⟨hr, hw⟩ := hw
      exact run_ret (by rw [hr]; rfl) hw
    · exact hw.elim
  case ldc idx =>
    simp only [wpI] at hw
    split at hw
    · rename_i z hz
      refine run_stp (F' := (_, _, _)) rfl ?_ (hK _ _ _ _ hw)
      have e1 : stE (.ldc idx) pc L st = none := stE_no (fun _ _ => rfl) (fun _ _ => rfl)
      unfold stp
      simp only [e1, stA, stB, stC, stD, stK, hz]
    · exact hw.elim
  case ldc_w idx =>
    simp only [wpI] at hw
    split at hw
    · rename_i z hz
      refine run_stp (F' := (_, _, _)) rfl ?_ (hK _ _ _ _ hw)
      have e1 : stE (.ldc_w idx) pc L st = none := stE_no (fun _ _ => rfl) (fun _ _ => rfl)
      unfold stp
      simp only [e1, stA, stB, stC, stD, stK, hz]
    · exact hw.elim
  case ldc2_w idx =>
    simp only [wpI] at hw
    split at hw
    · rename_i z hz
      refine run_stp (F' := (_, _, _)) rfl ?_ (hK _ _ _ _ hw)
      have e1 : stE (.ldc2_w idx) pc L st = none := stE_no (fun _ _ => rfl) (fun _ _ => rfl)
      unfold stp
      simp only [e1, stA, stB, stC, stD, stK, hz]
    · exact hw.elim
  all_goals simp only [wpI] at hw
  all_goals repeat' split at hw
  all_goals first
    | (exact hw.elim)
    | (refine run_stp (F' := (_, _, _)) rfl ?_ (hK _ _ _ _ hw); first | rfl | (simp [stp, stA, stB, stC, stD, stE, stK, stR, stW, binI, binJ, push, *]; done))
    | (obtain ⟨hc, hw⟩ := hw; refine run_stp (F' := (_, _, _)) rfl ?_ (hK _ _ _ _ hw); first | rfl | (simp [stp, stA, stB, stC, stD, stE, stK, stR, stW, binI, binJ, push, *]; done))
end WP
/-- n instructions at most, not beyond the marked places -/
def G (sp : Nat → List iV → iH → Option (Option iV × iH)) (sc : List Int) (B : List Nat) (d y : Nat) : Nat → Nat → List (Option iV) → List iV → iH → (Option iV → iH → Prop) → Prop
  | 0, pc, L, st, h, Q => Run sp sc d y pc L st h Q
  | n + 1, pc, L, st, h, Q => match fetch y pc with
    | none => False
    | some i => wpI sp sc d y (fun pc' L' st' h' => match B.contains pc' with
      | true => Run sp sc d y pc' L' st' h' Q
      | false => G sp sc B d y n pc' L' st' h' Q) i pc L st h Q
theorem G_run {sp : Nat → List iV → iH → Option (Option iV × iH)} {sc : List Int} {B : List Nat} {d y : Nat} {Q : Option iV → iH → Prop} : ∀ (n pc : Nat) (L : List (Option iV)) (st : List iV) (h : iH), G sp sc B d y n pc L st h Q → Run sp sc d y pc L st h Q := by
  intro n
  induction n with
  | zero => intro pc L st h k; exact k
  | succ n ih =>
    intro pc L st h k
    rw [Run_unf]
    unfold G at k
    cases hf : fetch y pc with
    | none => rw [hf] at k; exact k.elim
    | some i =>
      rw [hf] at k
      refine wpI_ok (fun pc' L' st' h' z => ?_) k
      split at z
      · exact z
      · exact ih _ _ _ _ z
theorem G_step {sp : Nat → List iV → iH → Option (Option iV × iH)} {sc : List Int} {B : List Nat} {d y n pc : Nat} {L : List (Option iV)} {st : List iV} {h : iH} {Q : Option iV → iH → Prop} : G sp sc B d y (n + 1) pc L st h Q = (match fetch y pc with
    | none => False
    | some i => wpI sp sc d y (fun pc' L' st' h' => match B.contains pc' with
      | true => Run sp sc d y pc' L' st' h' Q
      | false => G sp sc B d y n pc' L' st' h' Q) i pc L st h Q) := rfl
theorem call_of {sp : Nat → List iV → iH → Option (Option iV × iH)} {sc : List Int} {d y : Nat} {q : mE} {av : List iV} {h : iH} {Q : Option iV → iH → Prop} {L : List (Option iV)} (hy : y < nCall) (hq : mtab[y]? = some q) (he : ent q.2.2.1 av = L) (hl : L.length = q.2.2.1) (k : Run sp sc d y 0 L [] h Q) : Call sp sc d y av h Q := by
  unfold Call
  rw [if_pos hy, hq]
  subst he
  exact ⟨hl, k⟩
theorem back_same {h h1 : iH} {L : List (Option iV)} {rest : List iV} (e1 : h1.1.length = h.1.length) (e2 : h.2 ≤ h1.2) : back h h1 L rest := ⟨e2, Or.inl e1⟩
theorem back_rfl {h : iH} {L : List (Option iV)} {rest : List iV} : back h h L rest := back_same rfl (Nat.le_refl _)
/-- the caller's rest behind a call -/
def GC (sp : Nat → List iV → iH → Option (Option iV × iH)) (sc : List Int) (B : List Nat) (d y n pc : Nat) (L : List (Option iV)) (r : Option iV) (rest : List iV) (h h1 : iH) (Q : Option iV → iH → Prop) : Prop := back h h1 L rest ∧ (match B.contains pc with
  | true => Run sp sc d y pc L (r.toList ++ rest) h1 Q
  | false => G sp sc B d y n pc L (r.toList ++ rest) h1 Q)
theorem G_at {sp : Nat → List iV → iH → Option (Option iV × iH)} {sc : List Int} {B : List Nat} {d y n pc : Nat} {L : List (Option iV)} {st : List iV} {h : iH} {Q : Option iV → iH → Prop} {i : Instr} (hf : fetch y pc = some i) : G sp sc B d y (n + 1) pc L st h Q = wpI sp sc d y (fun pc' L' st' h' => match B.contains pc' with
      | true => Run sp sc d y pc' L' st' h' Q
      | false => G sp sc B d y n pc' L' st' h' Q) i pc L st h Q := by
  rw [G_step, hf]
theorem Call_iff {sp : Nat → List iV → iH → Option (Option iV × iH)} {sc : List Int} {d y : Nat} {av : List iV} {h h' : iH} {r : Option iV} {Q : Option iV → iH → Prop} (k : Call sp sc d y av h (fun a b => a = r ∧ b = h')) : Call sp sc d y av h Q ↔ Q r h' := by
  constructor
  · intro z
    unfold Call at k z
    split at k
    · rename_i hy
      rw [if_pos hy] at z
      cases hq : mtab[y]? with
      | none => rw [hq] at z; exact z.elim
      | some q =>
        rw [hq] at z k
        obtain ⟨-, n, a, b, e1, rfl, rfl⟩ := k
        obtain ⟨-, n2, a2, b2, e2, hQ⟩ := z
        have := ex_det e1 e2
        cases this
        exact hQ
    · rename_i hy
      rw [if_neg hy] at z
      obtain ⟨-, a, b, e1, rfl, rfl⟩ := k
      obtain ⟨-, a2, b2, e2, hQ⟩ := z
      cases e1.symm.trans e2
      exact hQ
  · intro hQ
    exact k.imp fun a b ⟨e1, e2⟩ => by subst e1; subst e2; exact hQ
theorem Call_eq {sp : Nat → List iV → iH → Option (Option iV × iH)} {sc : List Int} {d y : Nat} {av : List iV} {h h' : iH} {r : Option iV} {Q : Option iV → iH → Prop} (k : Call sp sc d y av h (fun a b => a = r ∧ b = h')) : Call sp sc d y av h Q = Q r h' := propext (Call_iff k)
theorem back_eq {h : iH} {L : List (Option iV)} {rest : List iV} : back h h L rest = True := eq_true back_rfl
theorem back_set {h : iH} {L : List (Option iV)} {rest : List iV} {n : Nat} {x : iO} : back h (h.1.set n x, h.2) L rest = True := eq_true (back_same (List.length_set ..) (Nat.le_refl _))
theorem ld_z {o : Option iV} {L : List (Option iV)} : ld (o :: L) 0 = o := rfl
theorem ld_s {o : Option iV} {L : List (Option iV)} {n : Nat} : ld (o :: L) (n + 1) = ld L n := rfl
theorem st1_at {L L' : List (Option iV)} {i : Nat} {v : iV} (h : st1 L i v = some L') : st1 L i v = some L' := h

section GE
variable {sp : Nat → List iV → iH → Option (Option iV × iH)} {sc : List Int} {B : List Nat} {d y n pc : Nat} {L : List (Option iV)} {st : List iV} {h : iH} {Q : Option iV → iH → Prop}
/-- on from pc -/
def GK (sp : Nat → List iV → iH → Option (Option iV × iH)) (sc : List Int) (B : List Nat) (d y n pc : Nat) (L : List (Option iV)) (st : List iV) (h : iH) (Q : Option iV → iH → Prop) : Prop := match B.contains pc with
  | true => Run sp sc d y pc L st h Q
  | false => G sp sc B d y n pc L st h Q
theorem G_own {idx m o : Nat} {r : List iV} (hf : fetch y pc = some (.getfield idx)) (ho : oY y = o) : G sp sc B d y (n + 1) pc L (.inr (.inr (m + 2)) :: r) h Q = (match h.1[m]? with
      | some (.inl (ci, fs)) => (match lkF o idx ci with
        | some k => (match fs[k]? with
          | some v => GK sp sc B d y n (pc + 3) L (v :: r) h Q
          | none => False)
        | none => False)
      | _ => False) := by
  subst ho; exact G_at hf
theorem G_ownW {idx m o : Nat} {ini : Bool} {v : iV} {r : List iV} (hf : fetch y pc = some (.putfield idx)) (ho : oY y = o) (hi : iniY y = ini) : G sp sc B d y (n + 1) pc L (v :: .inr (.inr (m + 2)) :: r) h Q = (match h.1[m]? with
      | some (.inl (ci, fs)) => (match lkF o idx ci with
        | some k => (fitV (tyT ci k) v = true ∧ k < fs.length ∧ pOK o ini ci k = true) ∧ GK sp sc B d y n (pc + 3) L r (h.1.set m (.inl (ci, fs.set k v)), h.2) Q
        | none => False)
      | _ => False) := by
  subst ho; subst hi; exact G_at hf
theorem G_ldc {idx : Nat} {z : Int} (hf : fetch y pc = some (.ldc idx)) (hz : lkZ kTab (oY y) idx = some z) : G sp sc B d y (n + 1) pc L st h Q = GK sp sc B d y n (pc + 2) L (.inl z :: st) h Q := by
  rw [G_at hf]; simp only [wpI, hz]; rfl
theorem G_ldcw {idx : Nat} {z : Int} (hf : fetch y pc = some (.ldc_w idx)) (hz : lkZ kTab (oY y) idx = some z) : G sp sc B d y (n + 1) pc L st h Q = GK sp sc B d y n (pc + 3) L (.inl z :: st) h Q := by
  rw [G_at hf]; simp only [wpI, hz]; rfl
theorem G_ldc2 {idx : Nat} {z : Int} (hf : fetch y pc = some (.ldc2_w idx)) (hz : lkZ jTab (oY y) idx = some z) : G sp sc B d y (n + 1) pc L st h Q = GK sp sc B d y n (pc + 3) L (.inr (.inl z) :: st) h Q := by
  rw [G_at hf]; simp only [wpI, hz]; rfl
theorem G_reti {a : Int} (hf : fetch y pc = some .ireturn) (hr : retY y = some .int) : G sp sc B d y (n + 1) pc L [.inl a] h Q = Q (some (.inl a)) h := by
  rw [G_at hf]; simp only [wpI, hr]
theorem G_retz {a : Int} (hf : fetch y pc = some .ireturn) (hr : retY y = some .boolean) : G sp sc B d y (n + 1) pc L [.inl a] h Q = ((a = 0 ∨ a = 1) ∧ Q (some (.inl a)) h) := by
  rw [G_at hf]; simp only [wpI, hr]
theorem G_retl {a : Int} (hf : fetch y pc = some .lreturn) (hr : retY y = some .long) : G sp sc B d y (n + 1) pc L [.inr (.inl a)] h Q = Q (some (.inr (.inl a))) h := by
  rw [G_at hf]; simp only [wpI, hr, true_and]
theorem G_reta {a : Nat} {s : String} (hf : fetch y pc = some .areturn) (hr : retY y = some (.object s)) : G sp sc B d y (n + 1) pc L [.inr (.inr a)] h Q = Q (some (.inr (.inr a))) h := by
  rw [G_at hf]; simp only [wpI, hr]
theorem G_retv (hf : fetch y pc = some .return_) (hr : retY y = none) : G sp sc B d y (n + 1) pc L [] h Q = Q none h := by
  rw [G_at hf]; simp only [wpI, hr, true_and]
theorem G_obj {idx m : Nat} {r : List iV} (hf : fetch y pc = some (.invokespecial idx)) (ho : isIn oTab (oY y) idx = true) : G sp sc B (d + 1) y (n + 1) pc L (.inr (.inr (m + 2)) :: r) h Q = (cs r ≤ 8 ∧ GK sp sc B (d + 1) y n (pc + 3) L r h Q) := by
  rw [G_at hf]; simp only [wpI, ho]; rfl
theorem G_m1 {idx : Nat} {a b : Int} {r : List iV} (hf : fetch y pc = some (.invokestatic idx)) (hx : lk2 xTab (oY y) idx = some 1) : G sp sc B (d + 1) y (n + 1) pc L (.inl b :: .inl a :: r) h Q = ((inI a = true ∧ inI b = true ∧ cs r ≤ 8) ∧ GK sp sc B (d + 1) y n (pc + 3) L (.inl (if a < b then b else a) :: r) h Q) := by
  rw [G_at hf]; simp only [wpI, hx, if_true]; rfl
theorem G_m0 {idx : Nat} {a b : Int} {r : List iV} (hf : fetch y pc = some (.invokestatic idx)) (hx : lk2 xTab (oY y) idx = some 0) : G sp sc B (d + 1) y (n + 1) pc L (.inl b :: .inl a :: r) h Q = ((inI a = true ∧ inI b = true ∧ cs r ≤ 8) ∧ GK sp sc B (d + 1) y n (pc + 3) L (.inl (if b < a then b else a) :: r) h Q) := by
  rw [G_at hf]; simp only [wpI, hx, Nat.zero_ne_one, if_false]; rfl
theorem G_callS {idx y1 k kd : Nat} {av rest : List iV} (hf : fetch y pc = some (.invokestatic idx)) (hx : lk2 xTab (oY y) idx = none) (hy : isIn yTab (oY y) idx = false) (hc : lkC (oY y) idx 99 = some (y1, k, kd)) (ht : tka k st [] = some (av, rest)) (hk : kd = 0 ∨ kd = 1 ∨ kd = 9) : G sp sc B (d + 1) y (n + 1) pc L st h Q = (cs rest ≤ 8 ∧ Call sp sc d y1 av h (fun q h1 => GC sp sc B (d + 1) y n (pc + 3) L q rest h h1 Q)) := by
  rw [G_at hf]; simp only [wpI, hx, hy, hc, ht, hk, true_and]; rfl
theorem G_callP {idx y1 k kd m : Nat} {av rest : List iV} (hf : fetch y pc = some (.invokespecial idx)) (hy : isIn oTab (oY y) idx = false) (hc : lkC (oY y) idx 99 = some (y1, k, kd)) (ht : tka k st [] = some (av, .inr (.inr (m + 2)) :: rest)) (hk : kd = 4 ∨ kd = 5 ∨ kd = 6 ∨ kd = 7) : G sp sc B (d + 1) y (n + 1) pc L st h Q = (match h.1[m]? with
      | some (.inl (ci, _)) => cs rest ≤ 8 ∧ Call sp sc d y1 (.inr (.inr (m + 2)) :: av) h (fun q h1 => GC sp sc B (d + 1) y n (pc + 3) L q rest h h1 Q)
      | _ => False) := by
  rw [G_at hf]; simp only [wpI, hy, hc, ht, hk, true_and]; rfl
theorem G_callV {idx k m o : Nat} {av rest : List iV} (hf : fetch y pc = some (.invokevirtual idx)) (ho : oY y = o) (hN : lkN o idx = some k) (ht : tka k st [] = some (av, .inr (.inr (m + 2)) :: rest)) : G sp sc B (d + 1) y (n + 1) pc L st h Q = (match h.1[m]? with
      | some (.inl (ci, _)) => (match lkC o idx ci with
        | some (y1, n1, kd) => (n1 = k ∧ (kd = 2 ∨ kd = 3 ∨ kd = 8) ∧ cs rest ≤ 8) ∧ Call sp sc d y1 (.inr (.inr (m + 2)) :: av) h (fun q h1 => GC sp sc B (d + 1) y n (pc + 3) L q rest h h1 Q)
        | none => False)
      | _ => False) := by
  subst ho
  rw [G_at hf]; simp only [wpI, hN, ht]; rfl
end GE
section GE2
variable {sp : Nat → List iV → iH → Option (Option iV × iH)} {sc : List Int} {B : List Nat} {d y n pc : Nat} {L : List (Option iV)} {rest : List iV} {v : iV} {h h1 : iH} {Q : Option iV → iH → Prop}
theorem GC_s : GC sp sc B d y n pc L (some v) rest h h1 Q = (back h h1 L rest ∧ GK sp sc B d y n pc L (v :: rest) h1 Q) := rfl
theorem GC_n : GC sp sc B d y n pc L none rest h h1 Q = (back h h1 L rest ∧ GK sp sc B d y n pc L rest h1 Q) := rfl
theorem GC_s0 : GC sp sc B d y n pc L (some v) rest h h Q = GK sp sc B d y n pc L (v :: rest) h Q := by rw [GC_s, back_eq, true_and]
theorem GC_n0 : GC sp sc B d y n pc L none rest h h Q = GK sp sc B d y n pc L rest h Q := by rw [GC_n, back_eq, true_and]
theorem GK_nil : GK sp sc [] d y n pc L rest h Q = G sp sc [] d y n pc L rest h Q := rfl
end GE2
