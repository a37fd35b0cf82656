set_option maxRecDepth 16384
/-! ===== the constructors: a run over written-out cells, counted by the kernel ===== -/
def trapI (i : Instr) (st : List iV) : Bool := match i, st with
  | .arraylength, .inr (.inr 1) :: _ => true
  | .iaload, .inl _ :: .inr (.inr 1) :: _ => true
  | _, _ => false
abbrev cInfo : Type := (Nat × Bool × Option FieldType × Nat) × List (Nat × Instr)
def insT : List (Nat × cInfo) := [
  (mX11_init, ((11, true, none, 4), [(0, .aload_n 0), (1, .invokespecial 1), (4, .new 7), (7, .dup), (8, .iconst 0), (9, .invokespecial 9), (12, .astore_n 1), (13, .new 12), (16, .dup), (17, .aload_n 1), (18, .invokespecial 14), (21, .astore_n 2), (22, .aload_n 0), (23, .aload_n 2), (24, .putfield 17), (27, .aload_n 0), (28, .new 23), (31, .dup), (32, .aload_n 2), (33, .invokespecial 25), (36, .putfield 28), (39, .aload_n 0), (40, .new 12), (43, .dup), (44, .aload_n 1), (45, .invokespecial 14), (48, .putfield 32), (51, .aload_n 0), (52, .new 35), (55, .dup), (56, .new 12), (59, .dup), (60, .aload_n 1), (61, .invokespecial 14), (64, .invokespecial 37), (67, .putfield 38), (70, .aload_n 0), (71, .bipush 60), (73, .anewarray 7), (76, .putfield 42), (79, .iconst 0), (80, .istore_n 3), (81, .iload_n 3), (82, .bipush 10), (84, .if_icmp .ge 108), (87, .aload_n 0), (88, .getfield 42), (91, .iload_n 3), (92, .new 7), (95, .dup), (96, .iload_n 3), (97, .invokespecial 9), (100, .aastore), (101, .aload_n 0), (102, .getfield 42), (105, .bipush 10), (107, .iload_n 3), (108, .iadd), (109, .new 46), (112, .dup), (113, .iload_n 3), (114, .invokespecial 48), (117, .aastore), (118, .aload_n 0), (119, .getfield 42), (122, .bipush 20), (124, .iload_n 3), (125, .iadd), (126, .new 49), (129, .dup), (130, .iload_n 3), (131, .invokespecial 51), (134, .aastore), (135, .aload_n 0), (136, .getfield 42), (139, .bipush 30), (141, .iload_n 3), (142, .iadd), (143, .new 52), (146, .dup), (147, .iload_n 3), (148, .invokespecial 54), (151, .aastore), (152, .aload_n 0), (153, .getfield 42), (156, .bipush 40), (158, .iload_n 3), (159, .iadd), (160, .new 55), (163, .dup), (164, .iload_n 3), (165, .invokespecial 57), (168, .aastore), (169, .aload_n 0), (170, .getfield 42), (173, .bipush 50), (175, .iload_n 3), (176, .iadd), (177, .new 58), (180, .dup), (181, .iload_n 3), (182, .invokespecial 60), (185, .aastore), (186, .iinc 3 1), (189, .goto (-108)), (192, .aload_n 0), (193, .bipush 8), (195, .anewarray 61), (198, .putfield 63), (201, .iconst 0), (202, .istore_n 3), (203, .iload_n 3), (204, .bipush 8), (206, .if_icmp .ge 23), (209, .aload_n 0), (210, .getfield 63), (213, .iload_n 3), (214, .new 61), (217, .dup), (218, .aload_n 1), (219, .invokespecial 67), (222, .aastore), (223, .iinc 3 1), (226, .goto (-23)), (229, .aload_n 0), (230, .bipush 7), (232, .anewarray 68), (235, .putfield 70), (238, .iconst 0), (239, .istore_n 3), (240, .iload_n 3), (241, .bipush 6), (243, .if_icmp .gt 22), (246, .aload_n 0), (247, .getfield 70), (250, .iload_n 3), (251, .new 68), (254, .dup), (255, .invokespecial 74), (258, .aastore), (259, .iinc 3 1), (262, .goto (-22)), (265, .return_)])),
  (mX8_init, ((8, true, none, 3), [(0, .aload_n 0), (1, .invokespecial 3), (4, .aload_n 0), (5, .iconst 2), (6, .newarray .int), (8, .putfield 9), (11, .aload_n 0), (12, .bipush 10), (14, .anewarray 15), (17, .putfield 17), (20, .aload_n 0), (21, .bipush 10), (23, .newarray .int), (25, .putfield 21), (28, .aload_n 0), (29, .bipush 10), (31, .newarray .int), (33, .putfield 24), (36, .aload_n 0), (37, .bipush 50), (39, .newarray .int), (41, .putfield 27), (44, .aload_n 0), (45, .iconst 4), (46, .newarray .int), (48, .putfield 30), (51, .aload_n 0), (52, .iconst 4), (53, .newarray .int), (55, .putfield 33), (58, .aload_n 0), (59, .iconst 4), (60, .newarray .int), (62, .putfield 36), (65, .aload_n 0), (66, .iconst 4), (67, .newarray .int), (69, .putfield 39), (72, .aload_n 0), (73, .bipush 6), (75, .newarray .int), (77, .putfield 42), (80, .aload_n 0), (81, .bipush 60), (83, .putfield 45), (86, .iconst 0), (87, .istore_n 2), (88, .iload_n 2), (89, .aload_n 0), (90, .getfield 17), (93, .arraylength), (94, .if_icmp .ge 30), (97, .aload_n 0), (98, .getfield 17), (101, .iload_n 2), (102, .aload_n 1), (103, .aastore), (104, .aload_n 0), (105, .getfield 21), (108, .iload_n 2), (109, .iconst (-1)), (110, .iastore), (111, .aload_n 0), (112, .getfield 24), (115, .iload_n 2), (116, .iconst (-1)), (117, .iastore), (118, .iinc 2 1), (121, .goto (-33)), (124, .iconst 0), (125, .istore_n 2), (126, .iload_n 2), (127, .aload_n 0), (128, .getfield 27), (131, .arraylength), (132, .if_icmp .ge 17), (135, .aload_n 0), (136, .getfield 27), (139, .iload_n 2), (140, .bipush 10), (142, .iastore), (143, .iinc 2 1), (146, .goto (-20)), (149, .iconst 0), (150, .istore_n 2), (151, .iload_n 2), (152, .iconst 5), (153, .if_icmp .ge 16), (156, .aload_n 0), (157, .getfield 42), (160, .iload_n 2), (161, .iconst 1), (162, .iastore), (163, .iinc 2 1), (166, .goto (-15)), (169, .return_)])),
  (mX10_init, ((10, true, none, 2), [(0, .aload_n 0), (1, .invokespecial 3), (4, .aload_n 0), (5, .iconst 4), (6, .newarray .int), (8, .putfield 9), (11, .aload_n 0), (12, .bipush 10), (14, .newarray .boolean), (16, .putfield 15), (19, .aload_n 0), (20, .iconst 4), (21, .newarray .int), (23, .putfield 19), (26, .aload_n 0), (27, .iconst 4), (28, .newarray .int), (30, .putfield 22), (33, .aload_n 0), (34, .aload_n 1), (35, .putfield 25), (38, .return_)])),
  (mX4_init, ((4, true, none, 2), [(0, .aload_n 0), (1, .invokespecial 3), (4, .aload_n 0), (5, .iconst 5), (6, .newarray .int), (8, .putfield 9), (11, .aload_n 0), (12, .iconst 5), (13, .newarray .int), (15, .putfield 15), (18, .aload_n 0), (19, .iconst 5), (20, .newarray .int), (22, .putfield 18), (25, .aload_n 0), (26, .bipush 25), (28, .newarray .boolean), (30, .putfield 21), (33, .aload_n 0), (34, .aload_n 1), (35, .putfield 25), (38, .return_)])),
  (mX5_init, ((5, true, none, 2), [(0, .aload_n 0), (1, .invokespecial 3), (4, .aload_n 0), (5, .iconst 0), (6, .putfield 9), (9, .aload_n 0), (10, .iconst 0), (11, .newarray .long), (13, .putfield 15), (16, .aload_n 0), (17, .aload_n 1), (18, .putfield 19), (21, .return_)])),
  (mX2_init, ((2, true, none, 1), [(0, .aload_n 0), (1, .invokespecial 1), (4, .aload_n 0), (5, .bipush 8), (7, .newarray .long), (9, .putfield 7), (12, .return_)])),
  (mX6_init, ((6, true, none, 2), [(0, .aload_n 0), (1, .invokespecial 1), (4, .aload_n 0), (5, .iload_n 1), (6, .putfield 7), (9, .return_)])),
  (mX9_init, ((9, true, none, 2), [(0, .aload_n 0), (1, .iload_n 1), (2, .invokespecial 1), (5, .return_)])),
  (mX0_init, ((0, true, none, 2), [(0, .aload_n 0), (1, .iload_n 1), (2, .invokespecial 1), (5, .return_)])),
  (mX3_init, ((3, true, none, 2), [(0, .aload_n 0), (1, .iload_n 1), (2, .invokespecial 1), (5, .return_)])),
  (mX7_init, ((7, true, none, 2), [(0, .aload_n 0), (1, .iload_n 1), (2, .invokespecial 1), (5, .return_)])),
  (mX1_init, ((1, true, none, 2), [(0, .aload_n 0), (1, .iload_n 1), (2, .invokespecial 1), (5, .return_)])),
  (mX12_init, ((12, true, none, 2), [(0, .aload_n 0), (1, .invokespecial 1), (4, .aload_n 0), (5, .bipush 117), (7, .newarray .int), (9, .putfield 9), (12, .aload_n 0), (13, .bipush 117), (15, .newarray .int), (17, .putfield 13), (20, .aload_n 0), (21, .bipush 117), (23, .newarray .int), (25, .putfield 16), (28, .aload_n 0), (29, .bipush 117), (31, .newarray .int), (33, .putfield 19), (36, .aload_n 0), (37, .iconst 4), (38, .newarray .int), (40, .putfield 22), (43, .aload_n 0), (44, .iconst 4), (45, .newarray .int), (47, .putfield 25), (50, .aload_n 0), (51, .iconst 4), (52, .newarray .int), (54, .putfield 28), (57, .aload_n 0), (58, .iconst 4), (59, .newarray .int), (61, .putfield 31), (64, .aload_n 0), (65, .iconst 5), (66, .newarray .int), (68, .putfield 34), (71, .aload_n 0), (72, .iconst 5), (73, .newarray .int), (75, .putfield 37), (78, .aload_n 0), (79, .iconst 5), (80, .newarray .int), (82, .putfield 40), (85, .aload_n 0), (86, .sipush 448), (89, .newarray .int), (91, .putfield 43), (94, .aload_n 0), (95, .sipush 448), (98, .newarray .int), (100, .putfield 46), (103, .aload_n 0), (104, .bipush 8), (106, .newarray .int), (108, .putfield 49), (111, .aload_n 0), (112, .bipush 8), (114, .newarray .int), (116, .putfield 52), (119, .aload_n 0), (120, .bipush 8), (122, .newarray .int), (124, .putfield 55), (127, .aload_n 0), (128, .bipush 8), (130, .newarray .int), (132, .putfield 58), (135, .aload_n 0), (136, .bipush 8), (138, .newarray .int), (140, .putfield 61), (143, .aload_n 0), (144, .sipush 800), (147, .newarray .int), (149, .putfield 64), (152, .aload_n 0), (153, .getfield 9), (156, .iconst 4), (157, .bipush 60), (159, .iastore), (160, .iconst 0), (161, .istore_n 1), (162, .iload_n 1), (163, .iconst 5), (164, .if_icmp .ge 18), (167, .aload_n 0), (168, .getfield 9), (171, .iconst 5), (172, .iload_n 1), (173, .iadd), (174, .iconst 1), (175, .iastore), (176, .iinc 1 1), (179, .goto (-17)), (182, .return_)])),
  (mL_law, ((13, false, some .boolean, 8), [(0, .new 8), (3, .dup), (8, .new 18), (11, .dup), (16, .iconst 1), (17, .newarray .long), (19, .astore_n 3), (20, .iconst 0), (21, .istore 4)]))]
theorem insT_ok : ∀ e ∈ insT, oY e.1 = e.2.1.1 ∧ iniY e.1 = e.2.1.2.1 ∧ retY e.1 = e.2.1.2.2.1 ∧ (mtab[e.1]?).map (fun q => q.2.2.1) = some e.2.1.2.2.2 ∧ ∀ z ∈ e.2.2, fetch e.1 z.1 = some z.2 := by decide +kernel
def gT (y : Nat) : Option cInfo := match insT.find? (fun e => e.1 == y) with
  | some e => some e.2
  | none => none
theorem gT_ok {y : Nat} {g : cInfo} (h : gT y = some g) : oY y = g.1.1 ∧ iniY y = g.1.2.1 ∧ retY y = g.1.2.2.1 ∧ (mtab[y]?).map (fun q => q.2.2.1) = some g.1.2.2.2 ∧ ∀ z ∈ g.2, fetch y z.1 = some z.2 := by
  unfold gT at h
  split at h
  · rename_i e he
    cases h
    have h1 := List.find?_some he
    simp only [beq_iff_eq] at h1
    have h2 := insT_ok e (List.mem_of_find?_eq_some he)
    rw [h1] at h2
    exact h2
  · cases h
def fT (g : cInfo) (pc : Nat) : Option Instr := match g.2.find? (fun z => z.1 == pc) with
  | some z => some z.2
  | none => none
theorem fT_ok {y : Nat} {g : cInfo} (h : gT y = some g) {pc : Nat} {i : Instr} (hf : fT g pc = some i) : fetch y pc = some i := by
  unfold fT at hf
  split at hf
  · rename_i z hz
    cases hf
    have h1 := List.find?_some hz
    simp only [beq_iff_eq] at h1
    have h2 := (gT_ok h).2.2.2.2 z (List.mem_of_find?_eq_some hz)
    rw [h1] at h2
    exact h2
  · cases hf
def okB2 (h h1 : iH) (L : List (Option iV)) (rest : List iV) : Bool := decide (h.2 ≤ h1.2) && (h1.1.length == h.1.length || (vL h.1.length L && rest.all (vV h.1.length)))
/-- a constructor's run: the cells at its end -/
def ev : Nat → Nat → Nat → iF → iH → Option iH
  | 0, _, _, _, _ => none
  | n + 1, d, y, F, h => match gT y with
    | none => none
    | some g => match fT g F.1 with
      | none => none
      | some i => match rtn g.1.2.2.1 i F.2.2 with
        | some none => some h
        | some (some _) => none
        | none => if trapI i F.2.2 then none else match stp [] g.1.1 g.1.2.1 d i F h with
          | some (F', h') => ev n d y F' h'
          | none => match d with
            | 0 => none
            | d' + 1 => match rsv g.1.1 i F.2.2 h.1 with
              | none => none
              | some (y', av, rest, _) => match gT y' with
                | none => none
                | some g' => if y' < nCall ∧ (ent g'.1.2.2.2 av).length = g'.1.2.2.2 then (match ev n d' y' (0, ent g'.1.2.2.2 av, []) h with
                  | none => none
                  | some h1 => if okB2 h h1 F.2.1 rest then ev n (d' + 1) y (F.1 + 3, F.2.1, rest) h1 else none) else none
/-- so many steps of one frame -/
def evk (N : Nat) : Nat → Nat → Nat → iF → iH → Option (iF × iH)
  | 0, _, _, F, h => some (F, h)
  | n + 1, d, y, F, h => match gT y with
    | none => none
    | some g => match fT g F.1 with
      | none => none
      | some i => match rtn g.1.2.2.1 i F.2.2 with
        | some _ => none
        | none => if trapI i F.2.2 then none else match stp [] g.1.1 g.1.2.1 d i F h with
          | some (F', h') => evk N n d y F' h'
          | none => match d with
            | 0 => none
            | d' + 1 => match rsv g.1.1 i F.2.2 h.1 with
              | none => none
              | some (y', av, rest, _) => match gT y' with
                | none => none
                | some g' => if y' < nCall ∧ (ent g'.1.2.2.2 av).length = g'.1.2.2.2 then (match ev N d' y' (0, ent g'.1.2.2.2 av, []) h with
                  | none => none
                  | some h1 => if okB2 h h1 F.2.1 rest then evk N n (d' + 1) y (F.1 + 3, F.2.1, rest) h1 else none) else none
section EV
variable {sp : Nat → List iV → iH → Option (Option iV × iH)} {sc : List Int} {Q : Option iV → iH → Prop}
theorem stR_tr {o pc : Nat} {i : Instr} {st : List iV} {h : List iO} (ht : ¬ trapI i st = true) : stR [] o i pc st h = stR sc o i pc st h := by
  cases i <;> try rfl
  · rcases st with _ | ⟨(z | z | (_ | _ | n)), r⟩ <;> try rfl
    exact absurd rfl ht
  · rcases st with _ | ⟨(z | z | z), r⟩ <;> try rfl
    rcases r with _ | ⟨(y | y | (_ | _ | n)), r⟩ <;> try rfl
    exact absurd rfl ht
theorem stp_tr {o d : Nat} {ini : Bool} {i : Instr} {F : iF} {h : iH} (ht : ¬ trapI i F.2.2 = true) : stp [] o ini d i F h = stp sc o ini d i F h := by
  unfold stp
  rw [stR_tr (sc := sc) ht]
theorem okB2_ok {h h1 : iH} {L : List (Option iV)} {rest : List iV} (k : okB2 h h1 L rest = true) : back h h1 L rest := by
  unfold okB2 at k
  simp only [Bool.and_eq_true, Bool.or_eq_true, decide_eq_true_eq, beq_iff_eq] at k
  exact ⟨k.1, k.2.imp id (fun z => by rw [Bool.and_eq_true]; exact z)⟩
theorem ev_ok : ∀ (n d y : Nat) (F : iF) (h h' : iH) (Q : Option iV → iH → Prop), ev n d y F h = some h' → Q none h' → Run sp sc d y F.1 F.2.1 F.2.2 h Q := by
  intro n
  induction n with
  | zero => intro d y F h h' Q hx; cases hx
  | succ n ih =>
    intro d y F h h' Q hx hQ
    unfold ev at hx
    split at hx
    · cases hx
    · rename_i g hg
      have ok := gT_ok hg
      split at hx
      · cases hx
      · rename_i i hi
        rw [Run_unf]
        unfold RunI
        rw [fT_ok hg hi]
        dsimp only
        rw [ok.1, ok.2.1, ok.2.2.1]
        split at hx
        · rename_i hr
          cases hx
          rw [hr]
          exact hQ
        · cases hx
        · rename_i hr
          rw [hr]
          dsimp only
          split at hx
          · cases hx
          · rename_i ht
            rw [stp_tr (sc := sc) ht] at hx
            obtain ⟨pc, L, st⟩ := F
            dsimp only at hx ⊢
            split at hx
            · rename_i F' h2 hs
              rw [hs]
              exact ih d y F' h2 h' Q hx hQ
            · rename_i hs
              rw [hs]
              dsimp only
              cases d with
              | zero => cases hx
              | succ d' =>
                dsimp only at hx ⊢
                split at hx
                · cases hx
                · rename_i y' av rest kd hrs
                  rw [hrs]
                  dsimp only
                  split at hx
                  · cases hx
                  · rename_i g' hg'
                    have ok' := gT_ok hg'
                    split at hx
                    · rename_i hc
                      split at hx
                      · cases hx
                      · rename_i h1 h1x
                        split at hx
                        · rename_i hb
                          unfold Call
                          rw [if_pos hc.1]
                          cases hq : mtab[y']? with
                          | none => rw [hq] at ok'; cases ok'.2.2.2.1
                          | some q' =>
                            have em : q'.2.2.1 = g'.1.2.2.2 := by have := ok'.2.2.2.1; rw [hq] at this; exact Option.some.inj this
                            dsimp only
                            rw [em]
                            exact ⟨hc.2, ih d' y' _ h h1 _ h1x ⟨okB2_ok hb, ih (d' + 1) y _ h1 h' Q hx hQ⟩⟩
                        · cases hx
                    · cases hx
theorem evk_ok {N : Nat} : ∀ (n d y : Nat) (F : iF) (h : iH) (F1 : iF) (h1 : iH), evk N n d y F h = some (F1, h1) → Run sp sc d y F1.1 F1.2.1 F1.2.2 h1 Q → Run sp sc d y F.1 F.2.1 F.2.2 h Q := by
  intro n
  induction n with
  | zero => intro d y F h F1 h1 hx hQ; cases hx; exact hQ
  | succ n ih =>
    intro d y F h F1 h1 hx hQ
    unfold evk at hx
    split at hx
    · cases hx
    · rename_i g hg
      have ok := gT_ok hg
      split at hx
      · cases hx
      · rename_i i hi
        rw [Run_unf]
        unfold RunI
        rw [fT_ok hg hi]
        dsimp only
        rw [ok.1, ok.2.1, ok.2.2.1]
        split at hx
        · cases hx
        · rename_i hr
          rw [hr]
          dsimp only
          split at hx
          · cases hx
          · rename_i ht
            rw [stp_tr (sc := sc) ht] at hx
            obtain ⟨pc, L, st⟩ := F
            dsimp only at hx ⊢
            split at hx
            · rename_i F' h2 hs
              rw [hs]
              exact ih d y F' h2 F1 h1 hx hQ
            · rename_i hs
              rw [hs]
              dsimp only
              cases d with
              | zero => cases hx
              | succ d' =>
                dsimp only at hx ⊢
                split at hx
                · cases hx
                · rename_i y' av rest kd hrs
                  rw [hrs]
                  dsimp only
                  split at hx
                  · cases hx
                  · rename_i g' hg'
                    have ok' := gT_ok hg'
                    split at hx
                    · rename_i hc
                      split at hx
                      · cases hx
                      · rename_i h2 h2x
                        split at hx
                        · rename_i hb
                          unfold Call
                          rw [if_pos hc.1]
                          cases hq : mtab[y']? with
                          | none => rw [hq] at ok'; cases ok'.2.2.2.1
                          | some q' =>
                            have em : q'.2.2.1 = g'.1.2.2.2 := by have := ok'.2.2.2.1; rw [hq] at this; exact Option.some.inj this
                            dsimp only
                            rw [em]
                            exact ⟨hc.2, ev_ok N d' y' _ h h2 _ h2x ⟨okB2_ok hb, ih (d' + 1) y _ h2 F1 h1 hx hQ⟩⟩
                        · cases hx
                    · cases hx
end EV
