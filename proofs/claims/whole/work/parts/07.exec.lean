/-! ===== the interpreter: cells, calls ===== -/
def lkF (o idx ci : Nat) : Option Nat := match fTab.find? (fun e => e.1 == o && e.2.1 == idx && e.2.2.1 == ci) with
  | some e => some e.2.2.2
  | none => none
def lk2 (l : List (Nat × Nat × Nat)) (o idx : Nat) : Option Nat := match l.find? (fun e => e.1 == o && e.2.1 == idx) with
  | some e => some e.2.2
  | none => none
def lkZ (l : List (Nat × Nat × Int)) (o idx : Nat) : Option Int := match l.find? (fun e => e.1 == o && e.2.1 == idx) with
  | some e => some e.2.2
  | none => none
def isIn (l : List (Nat × Nat)) (o idx : Nat) : Bool := l.any (fun e => e.1 == o && e.2 == idx)
def lkN (o idx : Nat) : Option Nat := match cTab.find? (fun e => e.1 == o && e.2.1 == idx) with
  | some e => some e.2.2.2.2.1
  | none => none
def lkC (o idx ci : Nat) : Option (Nat × Nat × Nat) := match cTab.find? (fun e => e.1 == o && e.2.1 == idx && e.2.2.1 == ci) with
  | some e => some e.2.2.2
  | none => none
def fitV (ty : FieldType) (v : iV) : Bool := match ty, v with
  | .int, .inl _ => true
  | .boolean, .inl z => decide (z = 0) || decide (z = 1)
  | .long, .inr (.inl _) => true
  | .object _, .inr (.inr _) => true
  | .array _, .inr (.inr _) => true
  | _, _ => false
/-- a field may be written: it isn't final, or its class's own constructor writes it -/
def pOK (o : Nat) (ini : Bool) (ci k : Nat) : Bool := match vwCl[ci]? with
  | some r => !(r.2.1 k).2.2.2 || (ini && decide ((r.2.1 k).1 = cnm o))
  | none => false
def asT (t ci : Nat) : Bool := match t with
  | 3 => ci == 0 || ci == 1 || ci == 3 || ci == 6 || ci == 7 || ci == 9
  | 4 => ci == 5
  | 5 => ci == 2
  | _ => false
def vV (n : Nat) (v : iV) : Bool := match v with
  | .inr (.inr r) => decide (r < n + 2)
  | _ => true
def vO (n : Nat) (x : iO) : Bool := match x with
  | .inl (_, fs) => fs.all (vV n)
  | .inr (.inl _) => true
  | .inr (.inr (_, rs)) => rs.all (fun r => decide (r < n + 2))
def vL (n : Nat) (L : List (Option iV)) : Bool := L.all (fun x => match x with
  | some v => vV n v
  | none => true)
def inA (i : Int) (n : Nat) : Bool := inI i && decide (0 ≤ i) && decide (i < n)
/-- constants -/
def stK (o : Nat) (i : Instr) (pc : Nat) (L : List (Option iV)) (st : List iV) : Option iF := match i with
  | .ldc idx => match lkZ kTab o idx with
    | some z => some (pc + 2, L, .inl z :: st)
    | none => none
  | .ldc_w idx => match lkZ kTab o idx with
    | some z => some (pc + 3, L, .inl z :: st)
    | none => none
  | .ldc2_w idx => match lkZ jTab o idx with
    | some z => some (pc + 3, L, .inr (.inl z) :: st)
    | none => none
  | _ => none
/-- reads -/
def stR (sc : List Int) (o : Nat) (i : Instr) (pc : Nat) (st : List iV) (h : List iO) : Option (Nat × List iV) := match i with
  | .getfield idx => match st with
    | .inr (.inr (n + 2)) :: r => match h[n]? with
      | some (.inl (ci, fs)) => match lkF o idx ci with
        | some k => match fs[k]? with
          | some v => some (pc + 3, v :: r)
          | none => none
        | none => none
      | _ => none
    | _ => none
  | .arraylength => match st with
    | .inr (.inr 1) :: r => some (pc + 1, .inl (sc.length : Int) :: r)
    | .inr (.inr (n + 2)) :: r => match h[n]? with
      | some (.inr (.inl (t, xs))) => if t < 6 then some (pc + 1, .inl (xs.length : Int) :: r) else none
      | some (.inr (.inr (t, rs))) => if t < 6 then some (pc + 1, .inl (rs.length : Int) :: r) else none
      | _ => none
    | _ => none
  | .iaload => match st with
    | .inl j :: .inr (.inr 1) :: r => if inA j sc.length then some (pc + 1, .inl (sc.getD j.toNat 0) :: r) else none
    | .inl j :: .inr (.inr (n + 2)) :: r => match h[n]? with
      | some (.inr (.inl (0, xs))) => if inA j xs.length then some (pc + 1, .inl (xs.getD j.toNat 0) :: r) else none
      | _ => none
    | _ => none
  | .laload => match st with
    | .inl j :: .inr (.inr (n + 2)) :: r => match h[n]? with
      | some (.inr (.inl (1, xs))) => if inA j xs.length then some (pc + 1, .inr (.inl (xs.getD j.toNat 0)) :: r) else none
      | _ => none
    | _ => none
  | .baload => match st with
    | .inl j :: .inr (.inr (n + 2)) :: r => match h[n]? with
      | some (.inr (.inl (2, xs))) => if inA j xs.length then some (pc + 1, .inl (xs.getD j.toNat 0) :: r) else none
      | _ => none
    | _ => none
  | .aaload => match st with
    | .inl j :: .inr (.inr (n + 2)) :: r => match h[n]? with
      | some (.inr (.inr (t, rs))) => if inA j rs.length && decide (3 ≤ t) && decide (t < 6) then some (pc + 1, .inr (.inr (rs.getD j.toNat 0)) :: r) else none
      | _ => none
    | _ => none
  | _ => none
/-- writes: the cell, and what it holds then -/
def stW (o : Nat) (ini : Bool) (i : Instr) (pc : Nat) (st : List iV) (h : List iO) : Option (Nat × List iV × Nat × iO) := match i with
  | .putfield idx => match st with
    | v :: .inr (.inr (n + 2)) :: r => match h[n]? with
      | some (.inl (ci, fs)) => match lkF o idx ci with
        | some k => if fitV (tyT ci k) v && decide (k < fs.length) && pOK o ini ci k then some (pc + 3, r, n, .inl (ci, fs.set k v)) else none
        | none => none
      | _ => none
    | _ => none
  | .iastore => match st with
    | .inl v :: .inl j :: .inr (.inr (n + 2)) :: r => match h[n]? with
      | some (.inr (.inl (0, xs))) => if inA j xs.length then some (pc + 1, r, n, .inr (.inl (0, xs.set j.toNat v))) else none
      | _ => none
    | _ => none
  | .lastore => match st with
    | .inr (.inl v) :: .inl j :: .inr (.inr (n + 2)) :: r => match h[n]? with
      | some (.inr (.inl (1, xs))) => if inA j xs.length then some (pc + 1, r, n, .inr (.inl (1, xs.set j.toNat v))) else none
      | _ => none
    | _ => none
  | .bastore => match st with
    | .inl v :: .inl j :: .inr (.inr (n + 2)) :: r => match h[n]? with
      | some (.inr (.inl (2, xs))) => if inA j xs.length && (decide (v = 0) || decide (v = 1)) then some (pc + 1, r, n, .inr (.inl (2, xs.set j.toNat v))) else none
      | _ => none
    | _ => none
  | .aastore => match st with
    | .inr (.inr (v + 2)) :: .inl j :: .inr (.inr (n + 2)) :: r => match h[n]? with
      | some (.inr (.inr (t, rs))) => match h[v]? with
        | some (.inl (ci, _)) => if inA j rs.length && asT t ci then some (pc + 1, r, n, .inr (.inr (t, rs.set j.toNat (v + 2)))) else none
        | _ => none
      | _ => none
    | _ => none
  | _ => none
/-- makings: the stack below, and the new cell -/
def stN (o : Nat) (i : Instr) (pc : Nat) (st : List iV) : Option (Nat × List iV × iO) := match i with
  | .new idx => match lk2 nTab o idx with
    | some ci => some (pc + 3, st, .inl (ci, dfT ci))
    | none => none
  | .newarray ty => match st with
    | .inl n :: r => if 0 ≤ n ∧ n ≤ 1000 then (match ty with
      | .int => some (pc + 2, r, .inr (.inl (0, List.replicate n.toNat 0)))
      | .long => some (pc + 2, r, .inr (.inl (1, List.replicate n.toNat 0)))
      | .boolean => some (pc + 2, r, .inr (.inl (2, List.replicate n.toNat 0)))
      | _ => none) else none
    | _ => none
  | .anewarray idx => match st with
    | .inl n :: r => if 0 ≤ n ∧ n ≤ 1000 then (match lk2 aTab o idx with
      | some t => some (pc + 3, r, .inr (.inr (t, List.replicate n.toNat 0)))
      | none => none) else none
    | _ => none
  | _ => none
def cpy {α : Type} (xs ys : List α) (sp dp n : Nat) : List α := ys.take dp ++ ((xs.drop sp).take n ++ ys.drop (dp + n))
def cs (st : List iV) : Nat := (st.map fun v => match v with
  | .inr (.inl _) => 2
  | _ => 1).sum
def in3 (sp dp n : Int) (a c : Nat) : Bool := inI sp && inI dp && inI n && decide (0 ≤ sp) && decide (0 ≤ dp) && decide (0 ≤ n) && decide (sp + n ≤ a) && decide (dp + n ≤ c)
/-- the machine's own methods: max and min; and a constructor of Object -/
def stM (o : Nat) (i : Instr) (pc : Nat) (st : List iV) : Option (Nat × List iV) := match i with
  | .invokestatic idx => match lk2 xTab o idx with
    | some t => match st with
      | .inl b :: .inl a :: r => if inI a && inI b && decide (cs r ≤ 8) then some (pc + 3, .inl (if t = 1 then (if a < b then b else a) else (if b < a then b else a)) :: r) else none
      | _ => none
    | none => none
  | .invokespecial idx => if isIn oTab o idx then (match st with
    | .inr (.inr (n + 2)) :: r => if cs r ≤ 8 then some (pc + 3, r) else none
    | _ => none) else none
  | _ => none
def stY (o : Nat) (i : Instr) (pc : Nat) (st : List iV) (h : List iO) : Option (Nat × List iV × Nat × iO) := match i with
  | .invokestatic idx => if isIn yTab o idx then (match st with
    | .inl n :: .inl dp :: .inr (.inr (c + 2)) :: .inl sp :: .inr (.inr (a + 2)) :: r => if cs r ≤ 8 then (match h[a]?, h[c]? with
      | some (.inr (.inl (t, xs))), some (.inr (.inl (t', ys))) => if in3 sp dp n xs.length ys.length && decide (t = t') && decide (t < 2) then some (pc + 3, r, c, .inr (.inl (t, cpy xs ys sp.toNat dp.toNat n.toNat))) else none
      | some (.inr (.inr (t, xs))), some (.inr (.inr (t', ys))) => if in3 sp dp n xs.length ys.length && decide (t = 3) && decide (t' = 3) && xs.all (fun x => match x with
          | v + 2 => (match h[v]? with
            | some (.inl (ci, _)) => asT 3 ci
            | _ => false)
          | x => x == 0) then some (pc + 3, r, c, .inr (.inr (t', cpy xs ys sp.toNat dp.toNat n.toNat))) else none
      | _, _ => none) else none
    | _ => none) else none
  | _ => none
/-- the end of a method -/
def rtn (ret : Option FieldType) (i : Instr) (st : List iV) : Option (Option iV) := match i, ret, st with
  | .ireturn, some .int, [.inl a] => some (some (.inl a))
  | .ireturn, some .boolean, [.inl a] => if a = 0 ∨ a = 1 then some (some (.inl a)) else none
  | .lreturn, some .long, [.inr (.inl a)] => some (some (.inr (.inl a)))
  | .areturn, some (.object _), [.inr (.inr r)] => some (some (.inr (.inr r)))
  | .return_, none, [] => some none
  | _, _, _ => none
/-- a call: the method, its arguments, the stack below; its kind -/
def rsv (o : Nat) (i : Instr) (st : List iV) (h : List iO) : Option (Nat × List iV × List iV × Nat) := match i with
  | .invokevirtual idx => match lkN o idx with
    | some n => match st.drop n with
      | .inr (.inr (r + 2)) :: rest => match h[r]? with
        | some (.inl (ci, _)) => match lkC o idx ci with
          | some (y, n', kd) => if n' = n ∧ (kd = 2 ∨ kd = 3 ∨ kd = 8) ∧ cs rest ≤ 8 then some (y, .inr (.inr (r + 2)) :: (st.take n).reverse, rest, kd) else none
          | none => none
        | _ => none
      | _ => none
    | none => none
  | .invokespecial idx => match lkC o idx 99 with
    | some (y, n, kd) => match st.drop n with
      | .inr (.inr (r + 2)) :: rest => match h[r]? with
        | some (.inl (ci, _)) => if (kd = 4 ∨ kd = 5 ∨ kd = 6 ∨ kd = 7) ∧ cs rest ≤ 8 then some (y, .inr (.inr (r + 2)) :: (st.take n).reverse, rest, kd) else none
        | _ => none
      | _ => none
    | none => none
  | .invokestatic idx => match lkC o idx 99 with
    | some (y, n, kd) => if n ≤ st.length ∧ (kd = 0 ∨ kd = 1 ∨ kd = 9) ∧ cs (st.drop n) ≤ 8 then some (y, (st.take n).reverse, st.drop n, kd) else none
    | none => none
  | _ => none
/-- what a step leaves: the frame and the cells -/
def stp (sc : List Int) (o : Nat) (ini : Bool) (d : Nat) (i : Instr) (F : iF) (h : iH) : Option (iF × iH) :=
  match stA i F.1 F.2.1 F.2.2 with
  | some F' => some (F', h)
  | none => match stB i F.1 F.2.1 F.2.2 with
  | some F' => some (F', h)
  | none => match stC i F.1 F.2.1 F.2.2 with
  | some F' => some (F', h)
  | none => match stD i F.1 F.2.1 F.2.2 with
  | some F' => some (F', h)
  | none => match stE i F.1 F.2.1 F.2.2 with
  | some F' => some (F', h)
  | none => match stK o i F.1 F.2.1 F.2.2 with
  | some F' => some (F', h)
  | none => match stR sc o i F.1 F.2.2 h.1 with
  | some (q, st) => some ((q, F.2.1, st), h)
  | none => match stW o ini i F.1 F.2.2 h.1 with
  | some (q, st, n, x) => some ((q, F.2.1, st), (h.1.set n x, h.2))
  | none => match stN o i F.1 F.2.2 with
  | some (q, st, x) => if vL h.1.length F.2.1 && (st.all (vV h.1.length) && h.1.all (vO h.1.length)) then some ((q, F.2.1, .inr (.inr (h.1.length + 2)) :: st), (h.1 ++ [x], h.2 + 1)) else none
  | none => if d = 0 then none else match stM o i F.1 F.2.2 with
  | some (q, st) => some ((q, F.2.1, st), h)
  | none => match stY o i F.1 F.2.2 h.1 with
  | some (q, st, n, x) => some ((q, F.2.1, st), (h.1.set n x, h.2))
  | none => none
/-- the locals with which a method begins -/
def ent (ml : Nat) (args : List iV) : List (Option iV) :=
  let l := args.flatMap fun v => match v with
    | .inr (.inl z) => [some (.inr (.inl z)), none]
    | v => [some v]
  l ++ List.replicate (ml - l.length) none
/-- n steps at most, frames d deep at most: what the method returns, and the cells then (sp: methods that are walked apart) -/
def ex (sp : Nat → List iV → iH → Option (Option iV × iH)) (sc : List Int) : Nat → Nat → Nat → iF → iH → Option (Option iV × iH)
  | 0, _, _, _, _ => none
  | n + 1, d, y, F, h => match mtab[y]? with
    | none => none
    | some q => match decode q.2.1 F.1 with
      | .error _ => none
      | .ok (i, len) => if lnI i = 0 ∨ len = lnI i then (match rtn q.2.2.2.1 i F.2.2 with
        | some r => some (r, h)
        | none => match stp sc q.2.2.2.2 (decide (q.1.name = "<init>")) d i F h with
          | some (F', h') => ex sp sc n d y F' h'
          | none => match d with
            | 0 => none
            | d' + 1 => match rsv q.2.2.2.2 i F.2.2 h.1 with
              | none => none
              | some (y', args, rest, _) => match (if y' < nCall then (match mtab[y']? with
                  | some q' => if (ent q'.2.2.1 args).length = q'.2.2.1 then ex sp sc n d' y' (0, ent q'.2.2.1 args, []) h else none
                  | none => none) else if 10 ≤ d' then sp y' args h else none) with
                | none => none
                | some (r, h') => if h.2 ≤ h'.2 ∧ (h'.1.length = h.1.length ∨ (vL h.1.length F.2.1 && rest.all (vV h.1.length)) = true) then ex sp sc n (d' + 1) y (F.1 + 3, F.2.1, r.toList ++ rest) h' else none) else none
