/-! ===== an interpreter of the claim's bytecode over whole numbers: its words ===== -/
/-- a value: an int, a long, or a reference (0: null, 1: the script, n + 2: the n-th cell) -/
abbrev iV : Type := Int ⊕ Int ⊕ Nat
/-- a cell: an object (its class, its fields), an array of numbers (its kind, its elements), an array of references -/
abbrev iO : Type := (Nat × List iV) ⊕ (Nat × List Int) ⊕ (Nat × List Nat)
/-- all cells; how many were made -/
abbrev iH : Type := List iO × Nat
abbrev iF : Type := Nat × List (Option iV) × List iV
def inI (z : Int) : Bool := decide (-2147483648 ≤ z) && decide (z < 2147483648)
def inJ (z : Int) : Bool := decide (-9223372036854775808 ≤ z) && decide (z < 9223372036854775808)
def bAnd (a b : Int) : Int := (Int32.ofInt a &&& Int32.ofInt b).toInt
def bOr (a b : Int) : Int := (Int32.ofInt a ||| Int32.ofInt b).toInt
def bXor (a b : Int) : Int := (Int32.ofInt a ^^^ Int32.ofInt b).toInt
def bShl (a b : Int) : Int := (Int32.ofInt a <<< (Int32.ofInt b &&& 31)).toInt
def bShr (a b : Int) : Int := (Int32.ofInt a >>> (Int32.ofInt b &&& 31)).toInt
def w8 (a : Int) : Int := (Int8.ofInt a).toInt
/-- the places of the locals -/
def ld (L : List (Option iV)) (i : Nat) : Option iV := match L[i]? with
  | some o => o
  | none => none
def isJ (o : Option (Option iV)) : Bool := match o with
  | some (some (.inr (.inl _))) => true
  | _ => false
def kill (L : List (Option iV)) (i : Nat) : List (Option iV) := match i with
  | 0 => L
  | j + 1 => if isJ L[j]? then L.set j none else L
def st1 (L : List (Option iV)) (i : Nat) (v : iV) : Option (List (Option iV)) := if i < L.length then some ((kill L i).set i (some v)) else none
def st2 (L : List (Option iV)) (i : Nat) (v : iV) : Option (List (Option iV)) := if i + 1 < L.length then some (((kill L i).set i (some v)).set (i + 1) none) else none
def binI (i : Instr) (a b : Int) : Option Int := match i with
  | .iadd => some (a + b)
  | .isub => some (a - b)
  | .imul => some (a * b)
  | .idiv => if inI a && inI b && decide (0 < b) then some (a.tdiv b) else none
  | .irem => if inI a && inI b && decide (0 < b) then some (a.tmod b) else none
  | .iand => some (bAnd a b)
  | .ior => some (bOr a b)
  | .ixor => some (bXor a b)
  | .ishl => some (bShl a b)
  | .ishr => some (bShr a b)
  | _ => none
def binJ (i : Instr) (a b : Int) : Option Int := match i with
  | .ladd => some (a + b)
  | .lsub => some (a - b)
  | .lmul => some (a * b)
  | .ldiv => if inJ a && inJ b && decide (0 < b) then some (a.tdiv b) else none
  | .lrem => if inJ a && inJ b && decide (0 < b) then some (a.tmod b) else none
  | _ => none
def brI (c : Jvm.ClassFile.Cond) (a b : Int) : Bool := match c with
  | .eq => decide (a = b)
  | .ne => decide (a ≠ b)
  | .lt => decide (a < b)
  | .ge => decide (b ≤ a)
  | .gt => decide (b < a)
  | .le => decide (a ≤ b)
/-- where a branch goes -/
def jmp (pc : Nat) (off : Int) : Option Nat := if 0 ≤ (pc : Int) + off then some ((pc : Int) + off).toNat else none
def push (F : Option Nat) (L : List (Option iV)) (st : List iV) : Option iF := match F with
  | some q => some (q, L, st)
  | none => none
/-- loads -/
def stA (i : Instr) (pc : Nat) (L : List (Option iV)) (st : List iV) : Option iF := match i with
  | .iconst n => some (pc + 1, L, .inl n :: st)
  | .bipush n => if -128 ≤ n ∧ n < 128 then some (pc + 2, L, .inl n :: st) else none
  | .sipush n => if -32768 ≤ n ∧ n < 32768 then some (pc + 3, L, .inl n :: st) else none
  | .lconst n => some (pc + 1, L, .inr (.inl (n.val : Int)) :: st)
  | .iload_n k => match ld L k.val with
    | some (.inl x) => some (pc + 1, L, .inl x :: st)
    | _ => none
  | .iload k => match ld L k with
    | some (.inl x) => some (pc + 2, L, .inl x :: st)
    | _ => none
  | .lload_n k => match ld L k.val with
    | some (.inr (.inl x)) => some (pc + 1, L, .inr (.inl x) :: st)
    | _ => none
  | .lload k => match ld L k with
    | some (.inr (.inl x)) => some (pc + 2, L, .inr (.inl x) :: st)
    | _ => none
  | .aload_n k => match ld L k.val with
    | some (.inr (.inr (r + 1))) => some (pc + 1, L, .inr (.inr (r + 1)) :: st)
    | _ => none
  | .aload k => match ld L k with
    | some (.inr (.inr (r + 1))) => some (pc + 2, L, .inr (.inr (r + 1)) :: st)
    | _ => none
  | _ => none
/-- stores -/
def stB (i : Instr) (pc : Nat) (L : List (Option iV)) (st : List iV) : Option iF := match i with
  | .istore_n k => match st with
    | .inl x :: r => match st1 L k.val (.inl x) with
      | some L' => some (pc + 1, L', r)
      | none => none
    | _ => none
  | .istore k => match st with
    | .inl x :: r => match st1 L k (.inl x) with
      | some L' => some (pc + 2, L', r)
      | none => none
    | _ => none
  | .lstore_n k => match st with
    | .inr (.inl x) :: r => match st2 L k.val (.inr (.inl x)) with
      | some L' => some (pc + 1, L', r)
      | none => none
    | _ => none
  | .lstore k => match st with
    | .inr (.inl x) :: r => match st2 L k (.inr (.inl x)) with
      | some L' => some (pc + 2, L', r)
      | none => none
    | _ => none
  | .astore_n k => match st with
    | .inr (.inr (x + 1)) :: r => match st1 L k.val (.inr (.inr (x + 1))) with
      | some L' => some (pc + 1, L', r)
      | none => none
    | _ => none
  | .astore k => match st with
    | .inr (.inr (x + 1)) :: r => match st1 L k (.inr (.inr (x + 1))) with
      | some L' => some (pc + 2, L', r)
      | none => none
    | _ => none
  | .iinc k n => match ld L k with
    | some (.inl x) => match st1 L k (.inl (x + n)) with
      | some L' => some (pc + 3, L', st)
      | none => none
    | _ => none
  | _ => none
/-- one value from the stack, or two of one slot -/
def stC (i : Instr) (pc : Nat) (L : List (Option iV)) (st : List iV) : Option iF := match i with
  | .ineg => match st with
    | .inl a :: r => some (pc + 1, L, .inl (-a) :: r)
    | _ => none
  | .i2l => match st with
    | .inl a :: r => if inI a then some (pc + 1, L, .inr (.inl a) :: r) else none
    | _ => none
  | .l2i => match st with
    | .inr (.inl a) :: r => some (pc + 1, L, .inl a :: r)
    | _ => none
  | .i2b => match st with
    | .inl a :: r => some (pc + 1, L, .inl (w8 a) :: r)
    | _ => none
  | .lcmp => match st with
    | .inr (.inl b) :: .inr (.inl a) :: r => if inJ a && inJ b then some (pc + 1, L, .inl (if b < a then 1 else if a = b then 0 else -1) :: r) else none
    | _ => none
  | .dup => match st with
    | .inl a :: r => some (pc + 1, L, .inl a :: .inl a :: r)
    | .inr (.inr a) :: r => some (pc + 1, L, .inr (.inr a) :: .inr (.inr a) :: r)
    | _ => none
  | .dup2 => match st with
    | .inl a :: .inr (.inr b) :: r => some (pc + 1, L, .inl a :: .inr (.inr b) :: .inl a :: .inr (.inr b) :: r)
    | _ => none
  | _ => none
/-- ways -/
def stD (i : Instr) (pc : Nat) (L : List (Option iV)) (st : List iV) : Option iF := match i with
  | .goto off => push (jmp pc off) L st
  | .ifCond c off => match st with
    | .inl a :: r => if inI a then (match jmp pc off with
      | some q => if brI c a 0 then some (q, L, r) else some (pc + 3, L, r)
      | none => none) else none
    | _ => none
  | .if_icmp c off => match st with
    | .inl b :: .inl a :: r => if inI a && inI b then (match jmp pc off with
      | some q => if brI c a b then some (q, L, r) else some (pc + 3, L, r)
      | none => none) else none
    | _ => none
  | .tableswitch dflt lo hi offs => match st with
    | .inl a :: r => if inI a then (if a < lo ∨ hi < a then push (jmp pc dflt) L r else match offs[(a - lo).toNat]? with
      | some off => push (jmp pc off) L r
      | none => none) else none
    | _ => none
  | .lookupswitch dflt ps => match st with
    | .inl a :: r => if inI a && (ps.toList.zip (ps.toList.drop 1)).all (fun (x, next) => x.1 < next.1) then push (jmp pc (Op.lookupswitch.offset ps.toList dflt a)) L r else none
    | _ => none
  | _ => none
def stE (i : Instr) (pc : Nat) (L : List (Option iV)) (st : List iV) : Option iF := match st with
  | .inl b :: .inl a :: r => match binI i a b with
    | some c => some (pc + 1, L, .inl c :: r)
    | none => none
  | .inr (.inl b) :: .inr (.inl a) :: r => match binJ i a b with
    | some c => some (pc + 1, L, .inr (.inl c) :: r)
    | none => none
  | _ => none
/-- the length of an instruction (0: any) -/
def lnI (i : Instr) : Nat := match i with
  | .bipush _ => 2
  | .sipush _ => 3
  | .iload _ => 2
  | .lload _ => 2
  | .aload _ => 2
  | .istore _ => 2
  | .lstore _ => 2
  | .astore _ => 2
  | .iinc _ _ => 3
  | .goto _ => 3
  | .ifCond _ _ => 3
  | .if_icmp _ _ => 3
  | .tableswitch _ _ _ _ => 0
  | .lookupswitch _ _ => 0
  | .getfield _ => 3
  | .putfield _ => 3
  | .new _ => 3
  | .newarray _ => 2
  | .anewarray _ => 3
  | .invokevirtual _ => 3
  | .invokespecial _ => 3
  | .invokestatic _ => 3
  | .ldc _ => 2
  | .ldc_w _ => 3
  | .ldc2_w _ => 3
  | _ => 1
/-! ===== what the words mean on the machine ===== -/
/-- a reference: the cells' addresses are as, the script's is b -/
def trR (as : List Nat) (b : Nat) (r : Nat) : Option Nat := match r with
  | 0 => none
  | 1 => some b
  | n + 2 => some (as.getD n 0)
def tr (as : List Nat) (b : Nat) (v : iV) : Value := match v with
  | .inl z => .int (Int32.ofInt z)
  | .inr (.inl z) => .long (Int64.ofInt z)
  | .inr (.inr r) => va_rf (trR as b r)
theorem inI_iff {z : Int} : inI z = true ↔ -2147483648 ≤ z ∧ z < 2147483648 := by simp [inI]
theorem inJ_iff {z : Int} : inJ z = true ↔ -9223372036854775808 ≤ z ∧ z < 9223372036854775808 := by simp [inJ]
theorem o_toInt {z : Int} (h : inI z = true) : (Int32.ofInt z).toInt = z := by
  rw [inI_iff] at h
  exact Int32.toInt_ofInt_of_le (by omega) (by omega)
theorem o_toIntJ {z : Int} (h : inJ z = true) : (Int64.ofInt z).toInt = z := by
  rw [inJ_iff] at h
  exact Int64.toInt_ofInt_of_le (by omega) (by omega)
theorem o_add (a b : Int) : Int32.ofInt a + Int32.ofInt b = Int32.ofInt (a + b) := by
  apply Int32.toBitVec.inj; simp [BitVec.ofInt_add]
theorem o_sub (a b : Int) : Int32.ofInt a - Int32.ofInt b = Int32.ofInt (a - b) := by
  rw [Int32.sub_eq_add_neg, Int32.neg_ofInt, o_add, Int.sub_eq_add_neg]
theorem o_mul (a b : Int) : Int32.ofInt a * Int32.ofInt b = Int32.ofInt (a * b) := by
  apply Int32.toBitVec.inj; simp [BitVec.ofInt_mul]
theorem o_neg (a : Int) : -Int32.ofInt a = Int32.ofInt (-a) := Int32.neg_ofInt
theorem o_lt {a b : Int} (ha : inI a = true) (hb : inI b = true) : Int32.ofInt a < Int32.ofInt b ↔ a < b := by rw [Int32.lt_iff_toInt_lt, o_toInt ha, o_toInt hb]
theorem o_le {a b : Int} (ha : inI a = true) (hb : inI b = true) : Int32.ofInt a ≤ Int32.ofInt b ↔ a ≤ b := by rw [Int32.le_iff_toInt_le, o_toInt ha, o_toInt hb]
theorem o_eq {a b : Int} (ha : inI a = true) (hb : inI b = true) : Int32.ofInt a = Int32.ofInt b ↔ a = b := by rw [← Int32.toInt_inj, o_toInt ha, o_toInt hb]
theorem o_0 : (0 : Int32) = Int32.ofInt 0 := by decide
theorem i0 : inI 0 = true := by decide
theorem o_div {a b : Int} (ha : inI a = true) (hb : inI b = true) (h0 : 0 < b) : Int32.ofInt a / Int32.ofInt b = Int32.ofInt (a.tdiv b) := by
  apply Int32.toInt.inj
  rw [Int32.toInt_div, o_toInt ha, o_toInt hb, Int32.toInt_ofInt]
theorem o_ne0 {b : Int} (hb : inI b = true) (h0 : 0 < b) : ¬ Int32.ofInt b = 0 := by
  rw [o_0, o_eq hb i0]; omega
theorem o_rem {a b : Int} (ha : inI a = true) (hb : inI b = true) (h0 : 0 < b) : Int32.ofInt a - Int32.ofInt a / Int32.ofInt b * Int32.ofInt b = Int32.ofInt (a.tmod b) := by
  rw [o_div ha hb h0, o_mul, o_sub]
  congr 1
  have := Int.tmod_add_mul_tdiv a b
  rw [Int.mul_comm] at this
  omega
theorem j_add (a b : Int) : Int64.ofInt a + Int64.ofInt b = Int64.ofInt (a + b) := by
  apply Int64.toBitVec.inj; simp [BitVec.ofInt_add]
theorem j_sub (a b : Int) : Int64.ofInt a - Int64.ofInt b = Int64.ofInt (a - b) := by
  rw [Int64.sub_eq_add_neg, Int64.neg_ofInt, j_add, Int.sub_eq_add_neg]
theorem j_mul (a b : Int) : Int64.ofInt a * Int64.ofInt b = Int64.ofInt (a * b) := by
  apply Int64.toBitVec.inj; simp [BitVec.ofInt_mul]
theorem j_lt {a b : Int} (ha : inJ a = true) (hb : inJ b = true) : Int64.ofInt a < Int64.ofInt b ↔ a < b := by rw [Int64.lt_iff_toInt_lt, o_toIntJ ha, o_toIntJ hb]
theorem j_eq {a b : Int} (ha : inJ a = true) (hb : inJ b = true) : Int64.ofInt a = Int64.ofInt b ↔ a = b := by rw [← Int64.toInt_inj, o_toIntJ ha, o_toIntJ hb]
theorem j_0 : (0 : Int64) = Int64.ofInt 0 := by decide
theorem j_ne0 {b : Int} (hb : inJ b = true) (h0 : 0 < b) : ¬ Int64.ofInt b = 0 := by
  rw [j_0, j_eq hb (by decide)]; omega
theorem j_div {a b : Int} (ha : inJ a = true) (hb : inJ b = true) (h0 : 0 < b) : Int64.ofInt a / Int64.ofInt b = Int64.ofInt (a.tdiv b) := by
  apply Int64.toInt.inj
  rw [Int64.toInt_div, o_toIntJ ha, o_toIntJ hb, Int64.toInt_ofInt]
theorem j_rem {a b : Int} (ha : inJ a = true) (hb : inJ b = true) (h0 : 0 < b) : Int64.ofInt a - Int64.ofInt a / Int64.ofInt b * Int64.ofInt b = Int64.ofInt (a.tmod b) := by
  rw [j_div ha hb h0, j_mul, j_sub]
  congr 1
  have := Int.tmod_add_mul_tdiv a b
  rw [Int.mul_comm] at this
  omega
theorem o_wide {a : Int} (ha : inI a = true) : (Int32.ofInt a).toInt64 = Int64.ofInt a := by
  apply Int64.toInt.inj
  rw [Int32.toInt_toInt64, o_toInt ha, o_toIntJ]
  rw [inI_iff] at ha; rw [inJ_iff]; omega
theorem o_8 (a : Int) : (Int32.ofInt a).toInt8.toInt32 = Int32.ofInt (w8 a) := by
  rw [Int32.toInt8_ofInt]; rfl
theorem j_cmp {a b : Int} (ha : inJ a = true) (hb : inJ b = true) : lg_cmp (Int64.ofInt a) (Int64.ofInt b) = Int32.ofInt (if b < a then 1 else if a = b then 0 else -1) := by
  unfold lg_cmp
  simp only [gt_iff_lt, j_lt hb ha, j_eq ha hb]
  split
  · rfl
  · split <;> rfl
theorem o_clamp {a : Int} (h0 : 0 ≤ a) (h1 : inI a = true) : (Int32.ofInt a).toNatClampNeg = a.toNat := by
  rw [inI_iff] at h1
  exact Int32.toNatClampNeg_ofInt_of_le (by omega) (by omega)
theorem o_in {a : Int} {n : Nat} (h0 : 0 ≤ a) (h1 : inI a = true) (h2 : a < n) : vp_in (Int32.ofInt a) n := by
  rw [vp_in_iff, o_toInt h1]; exact ⟨h0, h2⟩
