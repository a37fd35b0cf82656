/-! ===== runs of the interpreter, as a calculus ===== -/
section RUN
variable {sp : Nat → List iV → iH → Option (Option iV × iH)} {sc : List Int}
theorem ex_fuel : ∀ (n d y : Nat) (F : iF) (h : iH) (x : Option iV × iH), ex sp sc n d y F h = some x → ex sp sc (n + 1) d y F h = some x := by
  intro n
  induction n with
  | zero => intro d y F h x hx; cases hx
  | succ n ih =>
    intro d y F h x hx
    rw [ex] at hx ⊢
    cases hq : mtab[y]? with
    | none => rw [hq] at hx; cases hx
    | some q =>
      rw [hq] at hx
      dsimp only at hx ⊢
      cases hd : decode q.2.1 F.1 with
      | error z => rw [hd] at hx; cases hx
      | ok il =>
        obtain ⟨i, len⟩ := il
        rw [hd] at hx
        dsimp only at hx ⊢
        by_cases hln : lnI i = 0 ∨ len = lnI i
        · rw [if_pos hln] at hx ⊢
          cases hr : rtn q.2.2.2.1 i F.2.2 with
          | some r => rw [hr] at hx; exact hx
          | none =>
            rw [hr] at hx
            dsimp only at hx ⊢
            cases hs : stp sc q.2.2.2.2 (decide (q.1.name = "<init>")) d i F h with
            | some Fh =>
              rw [hs] at hx
              exact ih _ _ _ _ _ hx
            | none =>
              rw [hs] at hx
              dsimp only at hx ⊢
              cases d with
              | zero => cases hx
              | succ d =>
                dsimp only at hx ⊢
                cases hrs : rsv q.2.2.2.2 i F.2.2 h.1 with
                | none => rw [hrs] at hx; cases hx
                | some z =>
                  obtain ⟨y', av, rest, kd⟩ := z
                  rw [hrs] at hx
                  dsimp only at hx ⊢
                  have step : ∀ (a a' : Option (Option iV × iH)), (∀ z, a = some z → a' = some z) → (match a with
                      | none => none
                      | some (r, h') => if h.2 ≤ h'.2 ∧ (h'.1.length = h.1.length ∨ (vL h.1.length F.2.1 && rest.all (vV h.1.length)) = true) then ex sp sc n (d + 1) y (F.1 + 3, F.2.1, r.toList ++ rest) h' else none) = some x →
                      (match a' with
                      | none => none
                      | some (r, h') => if h.2 ≤ h'.2 ∧ (h'.1.length = h.1.length ∨ (vL h.1.length F.2.1 && rest.all (vV h.1.length)) = true) then ex sp sc (n + 1) (d + 1) y (F.1 + 3, F.2.1, r.toList ++ rest) h' else none) = some x := fun a a' haa hz => by
                    cases a with
                    | none => cases hz
                    | some z =>
                      rw [haa z rfl]
                      obtain ⟨r, h1⟩ := z
                      dsimp only at hz ⊢
                      split at hz
                      · rename_i hc
                        rw [if_pos hc]
                        exact ih _ _ _ _ _ hz
                      · cases hz
                  refine step _ _ ?_ hx
                  intro z hz
                  split at hz
                  · rename_i hy
                    rw [if_pos hy]
                    cases hq' : mtab[y']? with
                    | none => rw [hq'] at hz; cases hz
                    | some q' =>
                      rw [hq'] at hz
                      dsimp only at hz ⊢
                      split at hz
                      · rename_i hent
                        rw [if_pos hent]
                        exact ih _ _ _ _ _ hz
                      · cases hz
                  · rename_i hy
                    rw [if_neg hy]
                    exact hz
        · rw [if_neg hln] at hx; cases hx
theorem ex_more {n m d y : Nat} {F : iF} {h : iH} {x : Option iV × iH} (hx : ex sp sc n d y F h = some x) (hm : n ≤ m) : ex sp sc m d y F h = some x := by
  obtain ⟨k, rfl⟩ : ∃ k, m = n + k := ⟨m - n, by omega⟩
  clear hm
  induction k with
  | zero => exact hx
  | succ k ih => exact ex_fuel _ _ _ _ _ _ ih
theorem ex_det {n m d y : Nat} {F : iF} {h : iH} {x z : Option iV × iH} (hx : ex sp sc n d y F h = some x) (hz : ex sp sc m d y F h = some z) : x = z := by
  have h1 := ex_more hx (Nat.le_max_left n m)
  have h2 := ex_more hz (Nat.le_max_right n m)
  exact Option.some.inj (h1.symm.trans h2)
end RUN
/-- from this frame the run ends, with Q -/
def Run (sp : Nat → List iV → iH → Option (Option iV × iH)) (sc : List Int) (d y pc : Nat) (L : List (Option iV)) (st : List iV) (h : iH) (Q : Option iV → iH → Prop) : Prop :=
  ∃ (n : Nat) (r : Option iV) (h' : iH), ex sp sc n d y (pc, L, st) h = some (r, h') ∧ Q r h'
/-- a call: by number, with these arguments -/
def Call (sp : Nat → List iV → iH → Option (Option iV × iH)) (sc : List Int) (d y : Nat) (av : List iV) (h : iH) (Q : Option iV → iH → Prop) : Prop :=
  if y < nCall then (match mtab[y]? with
    | some q => (ent q.2.2.1 av).length = q.2.2.1 ∧ Run sp sc d y 0 (ent q.2.2.1 av) [] h Q
    | none => False) else 10 ≤ d ∧ ∃ (r : Option iV) (h' : iH), sp y av h = some (r, h') ∧ Q r h'
def fetch (y pc : Nat) : Option Instr := match mtab[y]? with
  | some q => (match decode q.2.1 pc with
    | .ok (i, len) => if lnI i = 0 ∨ len = lnI i then some i else none
    | .error _ => none)
  | none => none
def oY (y : Nat) : Nat := match mtab[y]? with
  | some q => q.2.2.2.2
  | none => 0
def iniY (y : Nat) : Bool := match mtab[y]? with
  | some q => decide (q.1.name = "<init>")
  | none => false
def retY (y : Nat) : Option FieldType := match mtab[y]? with
  | some q => q.2.2.2.1
  | none => none
/-- behind a call the caller's own references must still be good -/
def back (h h1 : iH) (L : List (Option iV)) (rest : List iV) : Prop := h.2 ≤ h1.2 ∧ (h1.1.length = h.1.length ∨ (vL h.1.length L && rest.all (vV h.1.length)) = true)
def RunI (sp : Nat → List iV → iH → Option (Option iV × iH)) (sc : List Int) (d y : Nat) (oi : Option Instr) (pc : Nat) (L : List (Option iV)) (st : List iV) (h : iH) (Q : Option iV → iH → Prop) : Prop := match oi with
  | none => False
  | some i => match rtn (retY y) i st with
    | some r => Q r h
    | none => match stp sc (oY y) (iniY y) d i (pc, L, st) h with
      | some (F', h') => Run sp sc d y F'.1 F'.2.1 F'.2.2 h' Q
      | none => match d with
        | 0 => False
        | d' + 1 => match rsv (oY y) i st h.1 with
          | none => False
          | some (y', av, rest, _) => Call sp sc d' y' av h (fun r h1 => back h h1 L rest ∧ Run sp sc (d' + 1) y (pc + 3) L (r.toList ++ rest) h1 Q)
theorem ex_one {sp : Nat → List iV → iH → Option (Option iV × iH)} {sc : List Int} {n d y pc len : Nat} {q : mE} {i : Instr} {L : List (Option iV)} {st : List iV} {h : iH} {z : Option iV × iH} (hq : mtab[y]? = some q) (hd : decode q.2.1 pc = .ok (i, len)) (hln : lnI i = 0 ∨ len = lnI i)
    (hz : (match rtn q.2.2.2.1 i st with
              | some r => some (r, h)
              | none => match stp sc q.2.2.2.2 (decide (q.1.name = "<init>")) d i (pc, L, st) h with
                | some (F', h') => ex sp sc n d y F' h'
                | none => match d with
                  | 0 => none
                  | d' + 1 => match rsv q.2.2.2.2 i st h.1 with
                    | none => none
                    | some (y', args, rest, _) => match (if y' < nCall then (match mtab[y']? with
                        | some q' => if (ent q'.2.2.1 args).length = q'.2.2.1 then ex sp sc n d' y' (0, ent q'.2.2.1 args, []) h else none
                        | none => none) else if 10 ≤ d' then sp y' args h else none) with
                      | none => none
                      | some (r, h') => if h.2 ≤ h'.2 ∧ (h'.1.length = h.1.length ∨ (vL h.1.length L && rest.all (vV h.1.length)) = true) then ex sp sc n (d' + 1) y (pc + 3, L, r.toList ++ rest) h' else none) = some z) : ex sp sc (n + 1) d y (pc, L, st) h = some z := by
  rw [ex, hq]
  dsimp only
  rw [hd]
  dsimp only
  rw [if_pos hln]
  exact hz
theorem Run_unf {sp : Nat → List iV → iH → Option (Option iV × iH)} {sc : List Int} {d y pc : Nat} {L : List (Option iV)} {st : List iV} {h : iH} {Q : Option iV → iH → Prop} : Run sp sc d y pc L st h Q ↔ RunI sp sc d y (fetch y pc) pc L st h Q := by
  unfold RunI fetch oY iniY retY
  constructor
  · rintro ⟨n, r, h', hx, hQ⟩
    cases n with
    | zero => cases hx
    | succ n =>
      rw [ex] at hx
      cases hq : mtab[y]? with
      | none => rw [hq] at hx; cases hx
      | some q =>
        rw [hq] at hx
        dsimp only at hx ⊢
        cases hd : decode q.2.1 pc with
        | error z => rw [hd] at hx; cases hx
        | ok il =>
          obtain ⟨i, len⟩ := il
          rw [hd] at hx
          dsimp only at hx ⊢
          by_cases hln : lnI i = 0 ∨ len = lnI i
          · rw [if_pos hln] at hx ⊢
            dsimp only
            cases hr : rtn q.2.2.2.1 i st with
            | some r' => rw [hr] at hx; cases hx; exact hQ
            | none =>
              rw [hr] at hx
              dsimp only at hx ⊢
              cases hs : stp sc q.2.2.2.2 (decide (q.1.name = "<init>")) d i (pc, L, st) h with
              | some Fh =>
                rw [hs] at hx
                exact ⟨n, r, h', hx, hQ⟩
              | none =>
                rw [hs] at hx
                dsimp only at hx ⊢
                cases d with
                | zero => cases hx
                | succ d =>
                  dsimp only at hx ⊢
                  cases hrs : rsv q.2.2.2.2 i st h.1 with
                  | none => rw [hrs] at hx; cases hx
                  | some z =>
                    obtain ⟨y', av, rest, kd⟩ := z
                    rw [hrs] at hx
                    dsimp only at hx ⊢
                    unfold Call
                    split at hx
                    · cases hx
                    · rename_i r1 h1 hcall
                      split at hx
                      · rename_i hc
                        by_cases hy : y' < nCall
                        · rw [if_pos hy] at hcall ⊢
                          cases hq' : mtab[y']? with
                          | none => rw [hq'] at hcall; cases hcall
                          | some q' =>
                            rw [hq'] at hcall
                            dsimp only at hcall ⊢
                            split at hcall
                            · rename_i hent
                              exact ⟨hent, n, r1, h1, hcall, hc, n, r, h', hx, hQ⟩
                            · cases hcall
                        · rw [if_neg hy] at hcall ⊢
                          split at hcall
                          · rename_i h10
                            exact ⟨h10, r1, h1, hcall, hc, n, r, h', hx, hQ⟩
                          · cases hcall
                      · cases hx
          · rw [if_neg hln] at hx; cases hx
  · intro hx
    cases hq : mtab[y]? with
    | none => rw [hq] at hx; cases hx
    | some q =>
      rw [hq] at hx
      dsimp only at hx
      cases hd : decode q.2.1 pc with
      | error z => rw [hd] at hx; cases hx
      | ok il =>
        obtain ⟨i, len⟩ := il
        rw [hd] at hx
        dsimp only at hx
        by_cases hln : lnI i = 0 ∨ len = lnI i
        · rw [if_pos hln] at hx
          dsimp only at hx
          have one := fun {n : Nat} {z : Option iV × iH} => ex_one (sp := sp) (sc := sc) (n := n) (d := d) (L := L) (st := st) (h := h) (z := z) hq hd hln
          cases hr : rtn q.2.2.2.1 i st with
          | some r' =>
            rw [hr] at hx
            exact ⟨1, r', h, one (by rw [hr]), hx⟩
          | none =>
            rw [hr] at hx
            dsimp only at hx
            cases hs : stp sc q.2.2.2.2 (decide (q.1.name = "<init>")) d i (pc, L, st) h with
            | some Fh =>
              rw [hs] at hx
              obtain ⟨n, r, h', h1, h2⟩ := hx
              exact ⟨n + 1, r, h', one (by rw [hr]; dsimp only; rw [hs]; exact h1), h2⟩
            | none =>
              rw [hs] at hx
              dsimp only at hx
              cases d with
              | zero => cases hx
              | succ d =>
                dsimp only at hx
                cases hrs : rsv q.2.2.2.2 i st h.1 with
                | none => rw [hrs] at hx; cases hx
                | some z =>
                  obtain ⟨y', av, rest, kd⟩ := z
                  rw [hrs] at hx
                  dsimp only at hx
                  unfold Call at hx
                  by_cases hy : y' < nCall
                  · rw [if_pos hy] at hx
                    cases hq' : mtab[y']? with
                    | none => rw [hq'] at hx; cases hx
                    | some q' =>
                      rw [hq'] at hx
                      dsimp only at hx
                      obtain ⟨hent, n1, r1, h1, hc1, hbk, n2, r, h', hc2, hQ⟩ := hx
                      have a1 := ex_more hc1 (Nat.le_max_left n1 n2)
                      have a2 := ex_more hc2 (Nat.le_max_right n1 n2)
                      refine ⟨max n1 n2 + 1, r, h', one ?_, hQ⟩
                      rw [hr]; dsimp only; rw [hs]; dsimp only; rw [hrs]; dsimp only
                      rw [if_pos hy, hq']; dsimp only
                      rw [if_pos hent, a1]; dsimp only
                      have hbk2 := hbk
                      unfold back at hbk2
                      rw [if_pos hbk2]; exact a2
                  · rw [if_neg hy] at hx
                    obtain ⟨h10, r1, h1, hc1, hbk, n2, r, h', hc2, hQ⟩ := hx
                    refine ⟨n2 + 1, r, h', one ?_, hQ⟩
                    rw [hr]; dsimp only; rw [hs]; dsimp only; rw [hrs]; dsimp only
                    rw [if_neg hy, if_pos h10, hc1]; dsimp only
                    have hbk2 := hbk
                    unfold back at hbk2
                    rw [if_pos hbk2]; exact hc2
        · rw [if_neg hln] at hx; cases hx

section DEP
variable {sp : Nat → List iV → iH → Option (Option iV × iH)} {sc : List Int}
theorem stp_d0 {o : Nat} {ini : Bool} {d : Nat} {i : Instr} {F : iF} {h : iH} {z : iF × iH} (hs : stp sc o ini 0 i F h = some z) : stp sc o ini d i F h = some z := by
  unfold stp at hs ⊢
  repeat' split at hs
  all_goals first | (cases hs; done) | (simp only [*]; done) | skip
  all_goals simp_all
theorem stp_d {o : Nat} {ini : Bool} {d d' : Nat} (h0 : d ≠ 0) (h1 : d' ≠ 0) {i : Instr} {F : iF} {h : iH} : stp sc o ini d i F h = stp sc o ini d' i F h := by
  unfold stp
  rw [if_neg h0, if_neg h1]
theorem ex_dep : ∀ (n d d' y : Nat) (F : iF) (h : iH) (x : Option iV × iH), d ≤ d' → ex sp sc n d y F h = some x → ex sp sc n d' y F h = some x := by
  intro n
  induction n with
  | zero => intro d d' y F h x _ hx; cases hx
  | succ n ih =>
    intro d d' y F h x hdd hx
    rw [ex] at hx ⊢
    cases hq : mtab[y]? with
    | none => rw [hq] at hx; cases hx
    | some q =>
      rw [hq] at hx
      dsimp only at hx ⊢
      cases hd : decode q.2.1 F.1 with
      | error z => rw [hd] at hx; cases hx
      | ok il =>
        obtain ⟨i, len⟩ := il
        rw [hd] at hx
        dsimp only at hx ⊢
        by_cases hln : lnI i = 0 ∨ len = lnI i
        · rw [if_pos hln] at hx ⊢
          cases hr : rtn q.2.2.2.1 i F.2.2 with
          | some r => rw [hr] at hx; exact hx
          | none =>
            rw [hr] at hx
            dsimp only at hx ⊢
            cases d with
            | zero =>
              cases hs : stp sc q.2.2.2.2 (decide (q.1.name = "<init>")) 0 i F h with
              | some Fh =>
                rw [hs] at hx
                rw [stp_d0 hs]
                exact ih _ _ _ _ _ _ hdd hx
              | none => rw [hs] at hx; cases hx
            | succ d =>
              obtain ⟨e, rfl⟩ : ∃ e, d' = e + 1 := ⟨d' - 1, by omega⟩
              rw [stp_d (d := e + 1) (d' := d + 1) (by omega) (by omega)]
              cases hs : stp sc q.2.2.2.2 (decide (q.1.name = "<init>")) (d + 1) i F h with
              | some Fh =>
                rw [hs] at hx
                exact ih _ _ _ _ _ _ hdd hx
              | none =>
                rw [hs] at hx
                dsimp only at hx ⊢
                cases hrs : rsv q.2.2.2.2 i F.2.2 h.1 with
                | none => rw [hrs] at hx; cases hx
                | some z =>
                  obtain ⟨y', av, rest, kd⟩ := z
                  rw [hrs] at hx
                  dsimp only at hx ⊢
                  have step : ∀ (a a' : Option (Option iV × iH)), (∀ z, a = some z → a' = some z) → (match a with
                      | none => none
                      | some (r, h') => if h.2 ≤ h'.2 ∧ (h'.1.length = h.1.length ∨ (vL h.1.length F.2.1 && rest.all (vV h.1.length)) = true) then ex sp sc n (d + 1) y (F.1 + 3, F.2.1, r.toList ++ rest) h' else none) = some x →
                      (match a' with
                      | none => none
                      | some (r, h') => if h.2 ≤ h'.2 ∧ (h'.1.length = h.1.length ∨ (vL h.1.length F.2.1 && rest.all (vV h.1.length)) = true) then ex sp sc n (e + 1) y (F.1 + 3, F.2.1, r.toList ++ rest) h' else none) = some x := fun a a' haa hz => by
                    cases a with
                    | none => cases hz
                    | some z =>
                      rw [haa z rfl]
                      obtain ⟨r, h1⟩ := z
                      dsimp only at hz ⊢
                      split at hz
                      · rename_i hc
                        rw [if_pos hc]
                        exact ih _ _ _ _ _ _ hdd hz
                      · cases hz
                  refine step _ _ ?_ hx
                  intro z hz
                  split at hz
                  · rename_i hy
                    rw [if_pos hy]
                    cases hq' : mtab[y']? with
                    | none => rw [hq'] at hz; cases hz
                    | some q' =>
                      rw [hq'] at hz
                      dsimp only at hz ⊢
                      split at hz
                      · rename_i hent
                        rw [if_pos hent]
                        exact ih _ _ _ _ _ _ (by omega) hz
                      · cases hz
                  · rename_i hy
                    rw [if_neg hy]
                    split at hz
                    · rw [if_pos (by omega)]; exact hz
                    · cases hz
        · rw [if_neg hln] at hx; cases hx
theorem Run.dep {d d' y pc : Nat} {L : List (Option iV)} {st : List iV} {h : iH} {Q : Option iV → iH → Prop} (hd : d ≤ d') (k : Run sp sc d y pc L st h Q) : Run sp sc d' y pc L st h Q := by
  obtain ⟨n, r, h', h1, h2⟩ := k
  exact ⟨n, r, h', ex_dep _ _ _ _ _ _ _ hd h1, h2⟩
theorem Call.dep {d d' y : Nat} {av : List iV} {h : iH} {Q : Option iV → iH → Prop} (hd : d ≤ d') (k : Call sp sc d y av h Q) : Call sp sc d' y av h Q := by
  unfold Call at k ⊢
  split
  · rename_i hy
    rw [if_pos hy] at k
    cases hq : mtab[y]? with
    | none => rw [hq] at k; exact k
    | some q => rw [hq] at k; exact ⟨k.1, k.2.dep hd⟩
  · rename_i hy
    rw [if_neg hy] at k
    exact ⟨by omega, k.2⟩
theorem Run.imp {d y pc : Nat} {L : List (Option iV)} {st : List iV} {h : iH} {Q Q' : Option iV → iH → Prop} (k : Run sp sc d y pc L st h Q) (hQ : ∀ r h', Q r h' → Q' r h') : Run sp sc d y pc L st h Q' := by
  obtain ⟨n, r, h', h1, h2⟩ := k
  exact ⟨n, r, h', h1, hQ _ _ h2⟩
theorem Call.imp {d y : Nat} {av : List iV} {h : iH} {Q Q' : Option iV → iH → Prop} (k : Call sp sc d y av h Q) (hQ : ∀ r h', Q r h' → Q' r h') : Call sp sc d y av h Q' := by
  unfold Call at k ⊢
  split
  · rename_i hy
    rw [if_pos hy] at k
    cases hq : mtab[y]? with
    | none => rw [hq] at k; exact k
    | some q => rw [hq] at k; exact ⟨k.1, k.2.imp hQ⟩
  · rename_i hy
    rw [if_neg hy] at k
    obtain ⟨h10, r, h', h1, h2⟩ := k
    exact ⟨h10, r, h', h1, hQ _ _ h2⟩
end DEP
