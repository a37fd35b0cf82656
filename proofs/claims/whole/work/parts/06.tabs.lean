def cns : List String := [RX0, RX1, RX2, RX3, RX4, RX5, RX6, RX7, RX8, RX9, RX10, RX11, RX12, RL, RJ9]
def cnm (o : Nat) : String := cns.getD o ""
/-- a method: its name, its code, its locals, what it returns, its class -/
abbrev mE : Type := MethodName × ByteArray × Nat × Option FieldType × Nat
def mtab : List mE := [
  (⟨RX0, "<init>", "(I)V"⟩, prog_2_method_1_code, 2, none, 0),
  (⟨RX0, "growth", "(Z)I"⟩, prog_2_method_3_code, 2, some Jvm.ClassFile.FieldType.int, 0),
  (⟨RX0, "sulking", "()I"⟩, prog_2_method_4_code, 1, some Jvm.ClassFile.FieldType.int, 0),
  (⟨RX0, "kind", "()I"⟩, prog_2_method_2_code, 1, some Jvm.ClassFile.FieldType.int, 0),
  (⟨RX0, "retold", "(I)I"⟩, prog_2_method_5_code, 2, some Jvm.ClassFile.FieldType.int, 0),
  (⟨RX0, "price", "()I"⟩, prog_2_method_6_code, 1, some Jvm.ClassFile.FieldType.int, 0),
  (⟨RX1, "<init>", "(I)V"⟩, prog_3_method_1_code, 2, none, 1),
  (⟨RX1, "growth", "(Z)I"⟩, prog_3_method_3_code, 2, some Jvm.ClassFile.FieldType.int, 1),
  (⟨RX1, "kind", "()I"⟩, prog_3_method_2_code, 1, some Jvm.ClassFile.FieldType.int, 1),
  (⟨RX1, "retold", "(I)I"⟩, prog_3_method_4_code, 2, some Jvm.ClassFile.FieldType.int, 1),
  (⟨RX1, "price", "()I"⟩, prog_3_method_5_code, 1, some Jvm.ClassFile.FieldType.int, 1),
  (⟨RX1, "fail", "()V"⟩, prog_3_method_6_code, 1, none, 1),
  (⟨RX2, "<init>", "()V"⟩, prog_4_method_1_code, 1, none, 2),
  (⟨RX2, "become", "(J)V"⟩, prog_4_method_2_code, 6, none, 2),
  (⟨RX2, "tell", "(I)I"⟩, prog_4_method_4_code, 3, some Jvm.ClassFile.FieldType.int, 2),
  (⟨RX2, "digit", "(I)I"⟩, prog_4_method_5_code, 5, some Jvm.ClassFile.FieldType.int, 2),
  (⟨RX2, "mix", "(ILEngagedByDeputy$Figure;I)V"⟩, prog_4_method_3_code, 7, none, 2),
  (⟨RX3, "<init>", "(I)V"⟩, prog_5_method_1_code, 2, none, 3),
  (⟨RX3, "sulking", "()I"⟩, prog_5_method_3_code, 1, some Jvm.ClassFile.FieldType.int, 3),
  (⟨RX3, "kind", "()I"⟩, prog_5_method_2_code, 1, some Jvm.ClassFile.FieldType.int, 3),
  (⟨RX3, "retold", "(I)I"⟩, prog_5_method_4_code, 2, some Jvm.ClassFile.FieldType.int, 3),
  (⟨RX3, "price", "()I"⟩, prog_5_method_5_code, 1, some Jvm.ClassFile.FieldType.int, 3),
  (⟨RX3, "fail", "()V"⟩, prog_5_method_6_code, 1, none, 3),
  (⟨RX4, "<init>", "(LEngagedByDeputy$Valley;)V"⟩, prog_6_method_1_code, 2, none, 4),
  (⟨RX4, "clear", "()V"⟩, prog_6_method_2_code, 2, none, 4),
  (⟨RX4, "joinFree", "(II)Z"⟩, prog_6_method_5_code, 3, some Jvm.ClassFile.FieldType.boolean, 4),
  (⟨RX4, "join", "(II)V"⟩, prog_6_method_3_code, 3, none, 4),
  (⟨RX4, "firstLeaving", "()I"⟩, prog_6_method_6_code, 3, some Jvm.ClassFile.FieldType.int, 4),
  (⟨RX4, "wouldLeave", "(IIII)Z"⟩, prog_6_method_7_code, 5, some Jvm.ClassFile.FieldType.boolean, 4),
  (⟨RX4, "askAll", "()V"⟩, prog_6_method_8_code, 3, none, 4),
  (⟨RX4, "askNext", "(I)V"⟩, prog_6_method_9_code, 4, none, 4),
  (⟨RX4, "keepsRather", "(III)Z"⟩, prog_6_method_10_code, 6, some Jvm.ClassFile.FieldType.boolean, 4),
  (⟨RX4, "part", "(II)V"⟩, prog_6_method_4_code, 3, none, 4),
  (⟨RX4, "survey", "()V"⟩, prog_6_method_11_code, 1, none, 4),
  (⟨RX4, "tryMan", "(LEngagedByDeputy$Matching;III)V"⟩, prog_6_method_12_code, 6, none, 4),
  (⟨RX4, "noteMatching", "(I)V"⟩, prog_6_method_14_code, 2, none, 4),
  (⟨RX4, "likingOfBoth", "(II)I"⟩, prog_6_method_13_code, 3, some Jvm.ClassFile.FieldType.int, 4),
  (⟨RX5, "<init>", "(LEngagedByDeputy$Steady;)V"⟩, prog_7_method_1_code, 2, none, 5),
  (⟨RX5, "byteAt", "(I)I"⟩, prog_7_method_11_code, 2, some Jvm.ClassFile.FieldType.int, 5),
  (⟨RX5, "hasPlace", "(I)Z"⟩, prog_7_method_6_code, 2, some Jvm.ClassFile.FieldType.boolean, 5),
  (⟨RX5, "digitAt", "(I)I"⟩, prog_7_method_12_code, 2, some Jvm.ClassFile.FieldType.int, 5),
  (⟨RX5, "refusalAsNature", "()I"⟩, prog_7_method_5_code, 1, some Jvm.ClassFile.FieldType.int, 5),
  (⟨RX5, "refusalAsRow", "()I"⟩, prog_7_method_4_code, 1, some Jvm.ClassFile.FieldType.int, 5),
  (⟨RX5, "isAll", "(I)Z"⟩, prog_7_method_10_code, 3, some Jvm.ClassFile.FieldType.boolean, 5),
  (⟨RX5, "leastOfSort", "()J"⟩, prog_7_method_9_code, 1, some Jvm.ClassFile.FieldType.long, 5),
  (⟨RX5, "holdNature", "(LEngagedByDeputy$Steady;)V"⟩, prog_7_method_2_code, 2, none, 5),
  (⟨RX5, "holdRow", "(II)V"⟩, prog_7_method_3_code, 4, none, 5),
  (⟨RX5, "store", "(II)V"⟩, prog_7_method_8_code, 3, none, 5),
  (⟨RX5, "hasPlaces", "(II)Z"⟩, prog_7_method_7_code, 3, some Jvm.ClassFile.FieldType.boolean, 5),
  (⟨RX6, "<init>", "(I)V"⟩, prog_8_method_1_code, 2, none, 6),
  (⟨RX6, "growth", "(Z)I"⟩, prog_8_method_3_code, 2, some Jvm.ClassFile.FieldType.int, 6),
  (⟨RX6, "sulking", "()I"⟩, prog_8_method_4_code, 1, some Jvm.ClassFile.FieldType.int, 6),
  (⟨RX6, "kind", "()I"⟩, prog_8_method_2_code, 1, some Jvm.ClassFile.FieldType.int, 6),
  (⟨RX6, "retold", "(I)I"⟩, prog_8_method_5_code, 2, some Jvm.ClassFile.FieldType.int, 6),
  (⟨RX6, "price", "()I"⟩, prog_8_method_6_code, 1, some Jvm.ClassFile.FieldType.int, 6),
  (⟨RX6, "fail", "()V"⟩, prog_8_method_7_code, 1, none, 6),
  (⟨RX7, "<init>", "(I)V"⟩, prog_9_method_1_code, 2, none, 7),
  (⟨RX7, "growth", "(Z)I"⟩, prog_9_method_3_code, 2, some Jvm.ClassFile.FieldType.int, 7),
  (⟨RX7, "sulking", "()I"⟩, prog_9_method_4_code, 1, some Jvm.ClassFile.FieldType.int, 7),
  (⟨RX7, "kind", "()I"⟩, prog_9_method_2_code, 1, some Jvm.ClassFile.FieldType.int, 7),
  (⟨RX7, "retold", "(I)I"⟩, prog_9_method_5_code, 2, some Jvm.ClassFile.FieldType.int, 7),
  (⟨RX7, "price", "()I"⟩, prog_9_method_6_code, 1, some Jvm.ClassFile.FieldType.int, 7),
  (⟨RX7, "fail", "()V"⟩, prog_9_method_7_code, 1, none, 7),
  (⟨RX8, "<init>", "(LEngagedByDeputy$Steady;)V"⟩, prog_10_method_1_code, 3, none, 8),
  (⟨RX8, "takeFrom", "(LEngagedByDeputy$Valley;)V"⟩, prog_10_method_21_code, 3, none, 8),
  (⟨RX8, nmA, "(ILEngagedByDeputy$Steady;)I"⟩, prog_10_method_12_code, 4, some Jvm.ClassFile.FieldType.int, 8),
  (⟨RX8, "place", "(II)I"⟩, prog_10_method_2_code, 2, some Jvm.ClassFile.FieldType.int, 8),
  (⟨RX8, "hasTwo", "(III)Z"⟩, prog_10_method_4_code, 4, some Jvm.ClassFile.FieldType.boolean, 8),
  (⟨RX8, "hasOne", "(II)Z"⟩, prog_10_method_3_code, 3, some Jvm.ClassFile.FieldType.boolean, 8),
  (⟨RX8, "setLiking", "(IIII)V"⟩, prog_10_method_9_code, 5, none, 8),
  (⟨RX8, "setDeputy", "(III)V"⟩, prog_10_method_11_code, 4, none, 8),
  (⟨RX8, "pair", "(II)I"⟩, prog_10_method_13_code, 4, some Jvm.ClassFile.FieldType.int, 8),
  (⟨RX8, "isBound", "(II)Z"⟩, prog_10_method_14_code, 3, some Jvm.ClassFile.FieldType.boolean, 8),
  (⟨RX8, "goesOn", "(I)Z"⟩, prog_10_method_6_code, 2, some Jvm.ClassFile.FieldType.boolean, 8),
  (⟨RX8, "doer", "(II)I"⟩, prog_10_method_18_code, 8, some Jvm.ClassFile.FieldType.int, 8),
  (⟨RX8, "areOwn", "(II)Z"⟩, prog_10_method_16_code, 4, some Jvm.ClassFile.FieldType.boolean, 8),
  (⟨RX8, "natureOf", "(II)LEngagedByDeputy$Steady;"⟩, prog_10_method_7_code, 3, some (Jvm.ClassFile.FieldType.object "EngagedByDeputy$Steady"), 8),
  (⟨RX8, "addLiking", "(IIII)V"⟩, prog_10_method_10_code, 5, none, 8),
  (⟨RX8, "liking", "(III)I"⟩, prog_10_method_8_code, 4, some Jvm.ClassFile.FieldType.int, 8),
  (⟨RX8, "likeAboveSlip", "(II)Z"⟩, prog_10_method_17_code, 3, some Jvm.ClassFile.FieldType.boolean, 8),
  (⟨RX8, "bind", "(II)V"⟩, prog_10_method_15_code, 3, none, 8),
  (⟨RX8, "hasCouple", "(I)Z"⟩, prog_10_method_5_code, 2, some Jvm.ClassFile.FieldType.boolean, 8),
  (⟨RX8, "howMany", "(I)I"⟩, prog_10_method_19_code, 4, some Jvm.ClassFile.FieldType.int, 8),
  (⟨RX8, "drawLikings", "(I)I"⟩, prog_10_method_20_code, 6, some Jvm.ClassFile.FieldType.int, 8),
  (⟨RX9, "<init>", "(I)V"⟩, prog_11_method_1_code, 2, none, 9),
  (⟨RX9, "growth", "(Z)I"⟩, prog_11_method_3_code, 2, some Jvm.ClassFile.FieldType.int, 9),
  (⟨RX9, "kind", "()I"⟩, prog_11_method_2_code, 1, some Jvm.ClassFile.FieldType.int, 9),
  (⟨RX9, "retold", "(I)I"⟩, prog_11_method_4_code, 2, some Jvm.ClassFile.FieldType.int, 9),
  (⟨RX9, "price", "()I"⟩, prog_11_method_5_code, 1, some Jvm.ClassFile.FieldType.int, 9),
  (⟨RX10, "<init>", "(LEngagedByDeputy$Valley;)V"⟩, prog_12_method_1_code, 2, none, 10),
  (⟨RX10, "begin", "(LEngagedByDeputy$Valley;)V"⟩, prog_12_method_2_code, 2, none, 10),
  (⟨RX10, "orderByNumbers", "()V"⟩, prog_12_method_4_code, 2, none, 10),
  (⟨RX10, "again", "(LEngagedByDeputy$Valley;)V"⟩, prog_12_method_3_code, 3, none, 10),
  (⟨RX10, "pass", "(I)V"⟩, prog_12_method_8_code, 5, none, 10),
  (⟨RX10, "takeTurn", "(I)Z"⟩, prog_12_method_10_code, 5, some Jvm.ClassFile.FieldType.boolean, 10),
  (⟨RX10, "isTaken", "(II)Z"⟩, prog_12_method_11_code, 3, some Jvm.ClassFile.FieldType.boolean, 10),
  (⟨RX10, "meet", "(II)V"⟩, prog_12_method_12_code, 4, none, 10),
  (⟨RX10, "sulkOver", "(II)V"⟩, prog_12_method_13_code, 6, none, 10),
  (⟨RX10, "bindBySlip", "(III)V"⟩, prog_12_method_14_code, 4, none, 10),
  (⟨RX10, "end", "(II)V"⟩, prog_12_method_16_code, 3, none, 10),
  (⟨RX10, "loseCouplesWith", "(II)V"⟩, prog_12_method_17_code, 4, none, 10),
  (⟨RX10, "doDeed", "(I)V"⟩, prog_12_method_15_code, 2, none, 10),
  (⟨RX10, "waitAll", "(I)V"⟩, prog_12_method_9_code, 3, none, 10),
  (⟨RX10, "orderDigits", "()I"⟩, prog_12_method_5_code, 3, some Jvm.ClassFile.FieldType.int, 10),
  (⟨RX10, "nextOrder", "()Z"⟩, prog_12_method_6_code, 6, some Jvm.ClassFile.FieldType.boolean, 10),
  (⟨RX10, "swap", "(II)V"⟩, prog_12_method_7_code, 4, none, 10),
  (⟨RX11, "<init>", "()V"⟩, prog_1_method_1_code, 4, none, 11),
  (⟨RX11, "valley", "(I)I"⟩, prog_1_method_2_code, 6, some Jvm.ClassFile.FieldType.int, 11),
  (⟨RX11, "isShelf", "(I)Z"⟩, prog_1_method_47_code, 1, some Jvm.ClassFile.FieldType.boolean, 11),
  (⟨RX11, "firstBadByte", "(LEngagedByDeputy$Shelf;)I"⟩, prog_1_method_54_code, 4, some Jvm.ClassFile.FieldType.int, 11),
  (⟨RX11, "digitsBehind", "(I)I"⟩, prog_1_method_53_code, 1, some Jvm.ClassFile.FieldType.int, 11),
  (⟨RX11, "isDigit", "(I)Z"⟩, prog_1_method_52_code, 1, some Jvm.ClassFile.FieldType.boolean, 11),
  (⟨RX11, "doStatement", "(LEngagedByDeputy$Shelf;I)Z"⟩, prog_1_method_55_code, 8, some Jvm.ClassFile.FieldType.boolean, 11),
  (⟨RX11, "isKind", "(I)Z"⟩, prog_1_method_49_code, 1, some Jvm.ClassFile.FieldType.boolean, 11),
  (⟨RX11, "isSide", "(I)Z"⟩, prog_1_method_46_code, 1, some Jvm.ClassFile.FieldType.boolean, 11),
  (⟨RX11, "isDeed", "(I)Z"⟩, prog_1_method_48_code, 1, some Jvm.ClassFile.FieldType.boolean, 11),
  (⟨RX11, "one", "(III)I"⟩, prog_1_method_3_code, 4, some Jvm.ClassFile.FieldType.int, 11),
  (⟨RX11, "orNone", "(I)I"⟩, prog_1_method_51_code, 1, some Jvm.ClassFile.FieldType.int, 11),
  (⟨RX11, "grows", "(III)I"⟩, prog_1_method_4_code, 4, some Jvm.ClassFile.FieldType.int, 11),
  (⟨RX11, "retells", "(III)I"⟩, prog_1_method_5_code, 4, some Jvm.ClassFile.FieldType.int, 11),
  (⟨RX11, "comes", "(II)I"⟩, prog_1_method_6_code, 4, some Jvm.ClassFile.FieldType.int, 11),
  (⟨RX11, "likes", "(III)I"⟩, prog_1_method_7_code, 4, some Jvm.ClassFile.FieldType.int, 11),
  (⟨RX11, "like", "(IIII)I"⟩, prog_1_method_8_code, 6, some Jvm.ClassFile.FieldType.int, 11),
  (⟨RX11, "sends", "(III)I"⟩, prog_1_method_9_code, 5, some Jvm.ClassFile.FieldType.int, 11),
  (⟨RX11, "couple", "(II)I"⟩, prog_1_method_10_code, 3, some Jvm.ClassFile.FieldType.int, 11),
  (⟨RX11, "about", "(II)I"⟩, prog_1_method_11_code, 3, some Jvm.ClassFile.FieldType.int, 11),
  (⟨RX11, "who", "(II)I"⟩, prog_1_method_12_code, 4, some Jvm.ClassFile.FieldType.int, 11),
  (⟨RX11, "slip", "(I)I"⟩, prog_1_method_13_code, 3, some Jvm.ClassFile.FieldType.int, 11),
  (⟨RX11, "days", "(I)I"⟩, prog_1_method_14_code, 2, some Jvm.ClassFile.FieldType.int, 11),
  (⟨RX11, "fate", "(III)I"⟩, prog_1_method_15_code, 4, some Jvm.ClassFile.FieldType.int, 11),
  (⟨RX11, "isMindSpan", "(I)Z"⟩, prog_1_method_50_code, 1, some Jvm.ClassFile.FieldType.boolean, 11),
  (⟨RX11, "then", "(IIII)I"⟩, prog_1_method_16_code, 5, some Jvm.ClassFile.FieldType.int, 11),
  (⟨RX11, "bound", "(III)I"⟩, prog_1_method_17_code, 4, some Jvm.ClassFile.FieldType.int, 11),
  (⟨RX11, "slips", "(II)I"⟩, prog_1_method_18_code, 3, some Jvm.ClassFile.FieldType.int, 11),
  (⟨RX11, "soonest", "()I"⟩, prog_1_method_19_code, 2, some Jvm.ClassFile.FieldType.int, 11),
  (⟨RX11, "orders", "(I)I"⟩, prog_1_method_20_code, 7, some Jvm.ClassFile.FieldType.int, 11),
  (⟨RX11, "daysTillWed", "()I"⟩, prog_1_method_56_code, 3, some Jvm.ClassFile.FieldType.int, 11),
  (⟨RX11, "deputies", "(II)I"⟩, prog_1_method_21_code, 10, some Jvm.ClassFile.FieldType.int, 11),
  (⟨RX11, "dayWedWith", "(III)I"⟩, prog_1_method_57_code, 6, some Jvm.ClassFile.FieldType.int, 11),
  (⟨RX11, "bestWho", "(I)I"⟩, prog_1_method_22_code, 6, some Jvm.ClassFile.FieldType.int, 11),
  (⟨RX11, "leave", "(I)I"⟩, prog_1_method_23_code, 7, some Jvm.ClassFile.FieldType.int, 11),
  (⟨RX11, "stable", "(I)I"⟩, prog_1_method_24_code, 2, some Jvm.ClassFile.FieldType.int, 11),
  (⟨RX11, "allStable", "()I"⟩, prog_1_method_25_code, 1, some Jvm.ClassFile.FieldType.int, 11),
  (⟨RX11, "most", "()I"⟩, prog_1_method_26_code, 1, some Jvm.ClassFile.FieldType.int, 11),
  (⟨RX11, "mostOf", "(I)I"⟩, prog_1_method_27_code, 2, some Jvm.ClassFile.FieldType.int, 11),
  (⟨RX11, "report", "(III)I"⟩, prog_1_method_28_code, 4, some Jvm.ClassFile.FieldType.int, 11),
  (⟨RX11, "reported", "(III)I"⟩, prog_1_method_58_code, 7, some Jvm.ClassFile.FieldType.int, 11),
  (⟨RX11, "said", "(IIII)I"⟩, prog_1_method_29_code, 8, some Jvm.ClassFile.FieldType.int, 11),
  (⟨RX11, "learnt", "(II)I"⟩, prog_1_method_30_code, 7, some Jvm.ClassFile.FieldType.int, 11),
  (⟨RX11, "chain", "(III)I"⟩, prog_1_method_31_code, 8, some Jvm.ClassFile.FieldType.int, 11),
  (⟨RX11, "ways", "(I)I"⟩, prog_1_method_32_code, 8, some Jvm.ClassFile.FieldType.int, 11),
  (⟨RX11, "thaw", "(IIII)I"⟩, prog_1_method_33_code, 8, some Jvm.ClassFile.FieldType.int, 11),
  (⟨RX11, "judge", "(IIII)I"⟩, prog_1_method_34_code, 10, some Jvm.ClassFile.FieldType.int, 11),
  (⟨RX11, "seeds", "(III)I"⟩, prog_1_method_35_code, 8, some Jvm.ClassFile.FieldType.int, 11),
  (⟨RX11, "image", "()I"⟩, prog_1_method_36_code, 1, some Jvm.ClassFile.FieldType.int, 11),
  (⟨RX11, "restore", "()I"⟩, prog_1_method_37_code, 1, some Jvm.ClassFile.FieldType.int, 11),
  (⟨RX11, "count", "(I)I"⟩, prog_1_method_38_code, 2, some Jvm.ClassFile.FieldType.int, 11),
  (⟨RX11, "keep", "(IIII)I"⟩, prog_1_method_39_code, 5, some Jvm.ClassFile.FieldType.int, 11),
  (⟨RX11, "row", "(III)I"⟩, prog_1_method_40_code, 4, some Jvm.ClassFile.FieldType.int, 11),
  (⟨RX11, "put", "(III)I"⟩, prog_1_method_41_code, 5, some Jvm.ClassFile.FieldType.int, 11),
  (⟨RX11, "copy", "(IIIII)I"⟩, prog_1_method_43_code, 8, some Jvm.ClassFile.FieldType.int, 11),
  (⟨RX11, "cost", "(I)I"⟩, prog_1_method_44_code, 3, some Jvm.ClassFile.FieldType.int, 11),
  (⟨RX11, "element", "(II)J"⟩, prog_1_method_42_code, 3, some Jvm.ClassFile.FieldType.long, 11),
  (⟨RX12, "<init>", "()V"⟩, prog_14_method_1_code, 2, none, 12),
  (⟨RX12, "valley", "(I)I"⟩, prog_14_method_35_code, 8, some Jvm.ClassFile.FieldType.int, 12),
  (⟨RX12, "wrongRow", "(II)I"⟩, prog_14_method_90_code, 3, some Jvm.ClassFile.FieldType.int, 12),
  (⟨RX12, "isShelf", "(I)Z"⟩, prog_14_method_89_code, 1, some Jvm.ClassFile.FieldType.boolean, 12),
  (⟨RX12, "isIn", "(III)Z"⟩, prog_14_method_2_code, 3, some Jvm.ClassFile.FieldType.boolean, 12),
  (⟨RX12, "readsStatement", "()Z"⟩, prog_14_method_30_code, 3, some Jvm.ClassFile.FieldType.boolean, 12),
  (⟨RX12, "here", "()I"⟩, prog_14_method_28_code, 1, some Jvm.ClassFile.FieldType.int, 12),
  (⟨RX12, "readsNumber", "(II)Z"⟩, prog_14_method_29_code, 4, some Jvm.ClassFile.FieldType.boolean, 12),
  (⟨RX12, "lays", "([I[I)V"⟩, prog_14_method_5_code, 3, none, 12),
  (⟨RX12, "isDone", "(I)Z"⟩, prog_14_method_34_code, 6, some Jvm.ClassFile.FieldType.boolean, 12),
  (⟨RX12, "addsOne", "(III)I"⟩, prog_14_method_31_code, 6, some Jvm.ClassFile.FieldType.int, 12),
  (⟨RX12, "atOne", "(III)I"⟩, prog_14_method_7_code, 3, some Jvm.ClassFile.FieldType.int, 12),
  (⟨RX12, "atLike", "(III)I"⟩, prog_14_method_8_code, 3, some Jvm.ClassFile.FieldType.int, 12),
  (⟨RX12, "isOne", "(II)Z"⟩, prog_14_method_10_code, 3, some Jvm.ClassFile.FieldType.boolean, 12),
  (⟨RX12, "canNotBe", "(II)Z"⟩, prog_14_method_32_code, 4, some Jvm.ClassFile.FieldType.boolean, 12),
  (⟨RX12, "atCouple", "(II)I"⟩, prog_14_method_9_code, 2, some Jvm.ClassFile.FieldType.int, 12),
  (⟨RX12, "addsCouple", "(II)I"⟩, prog_14_method_33_code, 4, some Jvm.ClassFile.FieldType.int, 12),
  (⟨RX12, "begins", "()V"⟩, prog_14_method_15_code, 2, none, 12),
  (⟨RX12, "goes", "([I)V"⟩, prog_14_method_25_code, 4, none, 12),
  (⟨RX12, "goesOn", "([II)Z"⟩, prog_14_method_17_code, 2, some Jvm.ClassFile.FieldType.boolean, 12),
  (⟨RX12, "turn", "([III)I"⟩, prog_14_method_24_code, 10, some Jvm.ClassFile.FieldType.int, 12),
  (⟨RX12, "doer", "([IIII)I"⟩, prog_14_method_16_code, 6, some Jvm.ClassFile.FieldType.int, 12),
  (⟨RX12, "has", "(II)Z"⟩, prog_14_method_6_code, 2, some Jvm.ClassFile.FieldType.boolean, 12),
  (⟨RX12, "meet", "([III)V"⟩, prog_14_method_21_code, 7, none, 12),
  (⟨RX12, "areOwn", "([III)Z"⟩, prog_14_method_18_code, 4, some Jvm.ClassFile.FieldType.boolean, 12),
  (⟨RX12, "growsBy", "(IIZ)I"⟩, prog_14_method_12_code, 3, some Jvm.ClassFile.FieldType.int, 12),
  (⟨RX12, "changesLike", "([III)V"⟩, prog_14_method_19_code, 3, none, 12),
  (⟨RX12, "least", "(II)I"⟩, prog_14_method_3_code, 2, some Jvm.ClassFile.FieldType.int, 12),
  (⟨RX12, "most", "(II)I"⟩, prog_14_method_4_code, 2, some Jvm.ClassFile.FieldType.int, 12),
  (⟨RX12, "sulksOf", "([III)I"⟩, prog_14_method_20_code, 3, some Jvm.ClassFile.FieldType.int, 12),
  (⟨RX12, "sulksBy", "(II)I"⟩, prog_14_method_13_code, 2, some Jvm.ClassFile.FieldType.int, 12),
  (⟨RX12, "bind", "([IIIII)V"⟩, prog_14_method_23_code, 7, none, 12),
  (⟨RX12, "ends", "([III)V"⟩, prog_14_method_22_code, 4, none, 12),
  (⟨RX12, "one", "(III)I"⟩, prog_14_method_37_code, 4, some Jvm.ClassFile.FieldType.int, 12),
  (⟨RX12, "orNone", "(I)I"⟩, prog_14_method_36_code, 1, some Jvm.ClassFile.FieldType.int, 12),
  (⟨RX12, "grows", "(III)I"⟩, prog_14_method_38_code, 4, some Jvm.ClassFile.FieldType.int, 12),
  (⟨RX12, "retells", "(III)I"⟩, prog_14_method_39_code, 4, some Jvm.ClassFile.FieldType.int, 12),
  (⟨RX12, "retellsBy", "(III)I"⟩, prog_14_method_14_code, 4, some Jvm.ClassFile.FieldType.int, 12),
  (⟨RX12, "comes", "(II)I"⟩, prog_14_method_40_code, 4, some Jvm.ClassFile.FieldType.int, 12),
  (⟨RX12, "wrongKept", "(I)I"⟩, prog_14_method_91_code, 2, some Jvm.ClassFile.FieldType.int, 12),
  (⟨RX12, "likes", "(III)I"⟩, prog_14_method_41_code, 4, some Jvm.ClassFile.FieldType.int, 12),
  (⟨RX12, "like", "(IIII)I"⟩, prog_14_method_42_code, 6, some Jvm.ClassFile.FieldType.int, 12),
  (⟨RX12, "sends", "(III)I"⟩, prog_14_method_43_code, 5, some Jvm.ClassFile.FieldType.int, 12),
  (⟨RX12, "couple", "(II)I"⟩, prog_14_method_44_code, 3, some Jvm.ClassFile.FieldType.int, 12),
  (⟨RX12, "about", "(II)I"⟩, prog_14_method_45_code, 3, some Jvm.ClassFile.FieldType.int, 12),
  (⟨RX12, "isCouple", "(I)Z"⟩, prog_14_method_11_code, 2, some Jvm.ClassFile.FieldType.boolean, 12),
  (⟨RX12, "who", "(II)I"⟩, prog_14_method_46_code, 4, some Jvm.ClassFile.FieldType.int, 12),
  (⟨RX12, "slip", "(I)I"⟩, prog_14_method_47_code, 3, some Jvm.ClassFile.FieldType.int, 12),
  (⟨RX12, "days", "(I)I"⟩, prog_14_method_48_code, 3, some Jvm.ClassFile.FieldType.int, 12),
  (⟨RX12, "fate", "(III)I"⟩, prog_14_method_49_code, 4, some Jvm.ClassFile.FieldType.int, 12),
  (⟨RX12, "inMind", "(I)V"⟩, prog_14_method_26_code, 3, none, 12),
  (⟨RX12, "then", "(IIII)I"⟩, prog_14_method_50_code, 5, some Jvm.ClassFile.FieldType.int, 12),
  (⟨RX12, "bound", "(III)I"⟩, prog_14_method_51_code, 4, some Jvm.ClassFile.FieldType.int, 12),
  (⟨RX12, "slips", "(II)I"⟩, prog_14_method_52_code, 3, some Jvm.ClassFile.FieldType.int, 12),
  (⟨RX12, "soonest", "()I"⟩, prog_14_method_53_code, 2, some Jvm.ClassFile.FieldType.int, 12),
  (⟨RX12, "manySuch", "([II)I"⟩, prog_14_method_27_code, 4, some Jvm.ClassFile.FieldType.int, 12),
  (⟨RX12, "orders", "(I)I"⟩, prog_14_method_56_code, 2, some Jvm.ClassFile.FieldType.int, 12),
  (⟨RX12, "eachOrder", "(III)V"⟩, prog_14_method_55_code, 7, none, 12),
  (⟨RX12, "daysTillWed", "(I)I"⟩, prog_14_method_54_code, 2, some Jvm.ClassFile.FieldType.int, 12),
  (⟨RX12, "deputies", "(II)I"⟩, prog_14_method_57_code, 11, some Jvm.ClassFile.FieldType.int, 12),
  (⟨RX12, "bestWho", "(I)I"⟩, prog_14_method_58_code, 6, some Jvm.ClassFile.FieldType.int, 12),
  (⟨RX12, "leave", "(I)I"⟩, prog_14_method_61_code, 6, some Jvm.ClassFile.FieldType.int, 12),
  (⟨RX12, "leaving", "()I"⟩, prog_14_method_60_code, 6, some Jvm.ClassFile.FieldType.int, 12),
  (⟨RX12, "manOf", "(I)I"⟩, prog_14_method_59_code, 3, some Jvm.ClassFile.FieldType.int, 12),
  (⟨RX12, "stable", "(I)I"⟩, prog_14_method_65_code, 3, some Jvm.ClassFile.FieldType.int, 12),
  (⟨RX12, "asksOnce", "()Z"⟩, prog_14_method_64_code, 4, some Jvm.ClassFile.FieldType.boolean, 12),
  (⟨RX12, "nextOf", "(II)I"⟩, prog_14_method_62_code, 5, some Jvm.ClassFile.FieldType.int, 12),
  (⟨RX12, "keepsMore", "(III)Z"⟩, prog_14_method_63_code, 6, some Jvm.ClassFile.FieldType.boolean, 12),
  (⟨RX12, "allStable", "()I"⟩, prog_14_method_69_code, 1, some Jvm.ClassFile.FieldType.int, 12),
  (⟨RX12, "allMatchings", "()V"⟩, prog_14_method_68_code, 2, none, 12),
  (⟨RX12, "eachMatching", "(III)V"⟩, prog_14_method_67_code, 5, none, 12),
  (⟨RX12, "looksAtMatching", "()V"⟩, prog_14_method_66_code, 3, none, 12),
  (⟨RX12, "most", "()I"⟩, prog_14_method_70_code, 1, some Jvm.ClassFile.FieldType.int, 12),
  (⟨RX12, "mostOf", "(I)I"⟩, prog_14_method_71_code, 2, some Jvm.ClassFile.FieldType.int, 12),
  (⟨RX12, "report", "(III)I"⟩, prog_14_method_73_code, 4, some Jvm.ClassFile.FieldType.int, 12),
  (⟨RX12, "told", "(III)I"⟩, prog_14_method_72_code, 7, some Jvm.ClassFile.FieldType.int, 12),
  (⟨RX12, "said", "(IIII)I"⟩, prog_14_method_74_code, 8, some Jvm.ClassFile.FieldType.int, 12),
  (⟨RX12, "learnt", "(II)I"⟩, prog_14_method_76_code, 7, some Jvm.ClassFile.FieldType.int, 12),
  (⟨RX12, "isLearnt", "(III)Z"⟩, prog_14_method_75_code, 5, some Jvm.ClassFile.FieldType.boolean, 12),
  (⟨RX12, "chain", "(III)I"⟩, prog_14_method_77_code, 7, some Jvm.ClassFile.FieldType.int, 12),
  (⟨RX12, "ways", "(I)I"⟩, prog_14_method_79_code, 7, some Jvm.ClassFile.FieldType.int, 12),
  (⟨RX12, "digitOf", "(JI)I"⟩, prog_14_method_78_code, 7, some Jvm.ClassFile.FieldType.int, 12),
  (⟨RX12, "thaw", "(IIII)I"⟩, prog_14_method_81_code, 8, some Jvm.ClassFile.FieldType.int, 12),
  (⟨RX12, "thaws", "(III)V"⟩, prog_14_method_80_code, 7, none, 12),
  (⟨RX12, "judge", "(IIII)I"⟩, prog_14_method_82_code, 9, some Jvm.ClassFile.FieldType.int, 12),
  (⟨RX12, "seeds", "(III)I"⟩, prog_14_method_84_code, 10, some Jvm.ClassFile.FieldType.int, 12),
  (⟨RX12, "drawn", "(I)I"⟩, prog_14_method_83_code, 2, some Jvm.ClassFile.FieldType.int, 12),
  (⟨RX12, "image", "()I"⟩, prog_14_method_85_code, 1, some Jvm.ClassFile.FieldType.int, 12),
  (⟨RX12, "restore", "()I"⟩, prog_14_method_86_code, 1, some Jvm.ClassFile.FieldType.int, 12),
  (⟨RX12, "count", "(I)I"⟩, prog_14_method_87_code, 2, some Jvm.ClassFile.FieldType.int, 12),
  (⟨RX12, "thrown", "()I"⟩, prog_14_method_88_code, 1, some Jvm.ClassFile.FieldType.int, 12),
  (⟨RX12, "keep", "(IIII)I"⟩, prog_14_method_92_code, 5, some Jvm.ClassFile.FieldType.int, 12),
  (⟨RX12, "row", "(III)I"⟩, prog_14_method_93_code, 5, some Jvm.ClassFile.FieldType.int, 12),
  (⟨RX12, "put", "(III)I"⟩, prog_14_method_94_code, 5, some Jvm.ClassFile.FieldType.int, 12),
  (⟨RX12, "element", "(II)J"⟩, prog_14_method_95_code, 3, some Jvm.ClassFile.FieldType.long, 12),
  (⟨RX12, "copy", "(IIIII)I"⟩, prog_14_method_96_code, 8, some Jvm.ClassFile.FieldType.int, 12),
  (⟨RX12, "cost", "(I)I"⟩, prog_14_method_98_code, 3, some Jvm.ClassFile.FieldType.int, 12),
  (⟨RX12, "costBy", "(II)I"⟩, prog_14_method_97_code, 2, some Jvm.ClassFile.FieldType.int, 12),
  (⟨RX12, "toss", "(I)I"⟩, prog_14_method_99_code, 5, some Jvm.ClassFile.FieldType.int, 12),
  (⟨RX11, "toss", "(I)I"⟩, cX11_toss, 5, some .int, 11),
  (⟨RL, "element", "(LEngagedByDeputy;II[J)I"⟩, cL_element, 5, some .int, 13),
  (⟨RL, "law", "([I)Z"⟩, code, 8, some .boolean, 13)]
def nCall : Nat := 262
abbrev mX0_init : Nat := 0
abbrev mX0_growth : Nat := 1
abbrev mX0_sulking : Nat := 2
abbrev mX0_kind : Nat := 3
abbrev mX0_retold : Nat := 4
abbrev mX0_price : Nat := 5
abbrev mX1_init : Nat := 6
abbrev mX1_growth : Nat := 7
abbrev mX1_kind : Nat := 8
abbrev mX1_retold : Nat := 9
abbrev mX1_price : Nat := 10
abbrev mX1_fail : Nat := 11
abbrev mX2_init : Nat := 12
abbrev mX2_become : Nat := 13
abbrev mX2_tell : Nat := 14
abbrev mX2_digit : Nat := 15
abbrev mX2_mix : Nat := 16
abbrev mX3_init : Nat := 17
abbrev mX3_sulking : Nat := 18
abbrev mX3_kind : Nat := 19
abbrev mX3_retold : Nat := 20
abbrev mX3_price : Nat := 21
abbrev mX3_fail : Nat := 22
abbrev mX4_init : Nat := 23
abbrev mX4_clear : Nat := 24
abbrev mX4_joinFree : Nat := 25
abbrev mX4_join : Nat := 26
abbrev mX4_firstLeaving : Nat := 27
abbrev mX4_wouldLeave : Nat := 28
abbrev mX4_askAll : Nat := 29
abbrev mX4_askNext : Nat := 30
abbrev mX4_keepsRather : Nat := 31
abbrev mX4_part : Nat := 32
abbrev mX4_survey : Nat := 33
abbrev mX4_tryMan : Nat := 34
abbrev mX4_noteMatching : Nat := 35
abbrev mX4_likingOfBoth : Nat := 36
abbrev mX5_init : Nat := 37
abbrev mX5_byteAt : Nat := 38
abbrev mX5_hasPlace : Nat := 39
abbrev mX5_digitAt : Nat := 40
abbrev mX5_refusalAsNature : Nat := 41
abbrev mX5_refusalAsRow : Nat := 42
abbrev mX5_isAll : Nat := 43
abbrev mX5_leastOfSort : Nat := 44
abbrev mX5_holdNature : Nat := 45
abbrev mX5_holdRow : Nat := 46
abbrev mX5_store : Nat := 47
abbrev mX5_hasPlaces : Nat := 48
abbrev mX6_init : Nat := 49
abbrev mX6_growth : Nat := 50
abbrev mX6_sulking : Nat := 51
abbrev mX6_kind : Nat := 52
abbrev mX6_retold : Nat := 53
abbrev mX6_price : Nat := 54
abbrev mX6_fail : Nat := 55
abbrev mX7_init : Nat := 56
abbrev mX7_growth : Nat := 57
abbrev mX7_sulking : Nat := 58
abbrev mX7_kind : Nat := 59
abbrev mX7_retold : Nat := 60
abbrev mX7_price : Nat := 61
abbrev mX7_fail : Nat := 62
abbrev mX8_init : Nat := 63
abbrev mX8_takeFrom : Nat := 64
abbrev mX8_admit : Nat := 65
abbrev mX8_place : Nat := 66
abbrev mX8_hasTwo : Nat := 67
abbrev mX8_hasOne : Nat := 68
abbrev mX8_setLiking : Nat := 69
abbrev mX8_setDeputy : Nat := 70
abbrev mX8_pair : Nat := 71
abbrev mX8_isBound : Nat := 72
abbrev mX8_goesOn : Nat := 73
abbrev mX8_doer : Nat := 74
abbrev mX8_areOwn : Nat := 75
abbrev mX8_natureOf : Nat := 76
abbrev mX8_addLiking : Nat := 77
abbrev mX8_liking : Nat := 78
abbrev mX8_likeAboveSlip : Nat := 79
abbrev mX8_bind : Nat := 80
abbrev mX8_hasCouple : Nat := 81
abbrev mX8_howMany : Nat := 82
abbrev mX8_drawLikings : Nat := 83
abbrev mX9_init : Nat := 84
abbrev mX9_growth : Nat := 85
abbrev mX9_kind : Nat := 86
abbrev mX9_retold : Nat := 87
abbrev mX9_price : Nat := 88
abbrev mX10_init : Nat := 89
abbrev mX10_begin : Nat := 90
abbrev mX10_orderByNumbers : Nat := 91
abbrev mX10_again : Nat := 92
abbrev mX10_pass : Nat := 93
abbrev mX10_takeTurn : Nat := 94
abbrev mX10_isTaken : Nat := 95
abbrev mX10_meet : Nat := 96
abbrev mX10_sulkOver : Nat := 97
abbrev mX10_bindBySlip : Nat := 98
abbrev mX10_end : Nat := 99
abbrev mX10_loseCouplesWith : Nat := 100
abbrev mX10_doDeed : Nat := 101
abbrev mX10_waitAll : Nat := 102
abbrev mX10_orderDigits : Nat := 103
abbrev mX10_nextOrder : Nat := 104
abbrev mX10_swap : Nat := 105
abbrev mX11_init : Nat := 106
abbrev mX11_valley : Nat := 107
abbrev mX11_isShelf : Nat := 108
abbrev mX11_firstBadByte : Nat := 109
abbrev mX11_digitsBehind : Nat := 110
abbrev mX11_isDigit : Nat := 111
abbrev mX11_doStatement : Nat := 112
abbrev mX11_isKind : Nat := 113
abbrev mX11_isSide : Nat := 114
abbrev mX11_isDeed : Nat := 115
abbrev mX11_one : Nat := 116
abbrev mX11_orNone : Nat := 117
abbrev mX11_grows : Nat := 118
abbrev mX11_retells : Nat := 119
abbrev mX11_comes : Nat := 120
abbrev mX11_likes : Nat := 121
abbrev mX11_like : Nat := 122
abbrev mX11_sends : Nat := 123
abbrev mX11_couple : Nat := 124
abbrev mX11_about : Nat := 125
abbrev mX11_who : Nat := 126
abbrev mX11_slip : Nat := 127
abbrev mX11_days : Nat := 128
abbrev mX11_fate : Nat := 129
abbrev mX11_isMindSpan : Nat := 130
abbrev mX11_then : Nat := 131
abbrev mX11_bound : Nat := 132
abbrev mX11_slips : Nat := 133
abbrev mX11_soonest : Nat := 134
abbrev mX11_orders : Nat := 135
abbrev mX11_daysTillWed : Nat := 136
abbrev mX11_deputies : Nat := 137
abbrev mX11_dayWedWith : Nat := 138
abbrev mX11_bestWho : Nat := 139
abbrev mX11_leave : Nat := 140
abbrev mX11_stable : Nat := 141
abbrev mX11_allStable : Nat := 142
abbrev mX11_most : Nat := 143
abbrev mX11_mostOf : Nat := 144
abbrev mX11_report : Nat := 145
abbrev mX11_reported : Nat := 146
abbrev mX11_said : Nat := 147
abbrev mX11_learnt : Nat := 148
abbrev mX11_chain : Nat := 149
abbrev mX11_ways : Nat := 150
abbrev mX11_thaw : Nat := 151
abbrev mX11_judge : Nat := 152
abbrev mX11_seeds : Nat := 153
abbrev mX11_image : Nat := 154
abbrev mX11_restore : Nat := 155
abbrev mX11_count : Nat := 156
abbrev mX11_keep : Nat := 157
abbrev mX11_row : Nat := 158
abbrev mX11_put : Nat := 159
abbrev mX11_copy : Nat := 160
abbrev mX11_cost : Nat := 161
abbrev mX11_element : Nat := 162
abbrev mX12_init : Nat := 163
abbrev mX12_valley : Nat := 164
abbrev mX12_wrongRow : Nat := 165
abbrev mX12_isShelf : Nat := 166
abbrev mX12_isIn : Nat := 167
abbrev mX12_readsStatement : Nat := 168
abbrev mX12_here : Nat := 169
abbrev mX12_readsNumber : Nat := 170
abbrev mX12_lays : Nat := 171
abbrev mX12_isDone : Nat := 172
abbrev mX12_addsOne : Nat := 173
abbrev mX12_atOne : Nat := 174
abbrev mX12_atLike : Nat := 175
abbrev mX12_isOne : Nat := 176
abbrev mX12_canNotBe : Nat := 177
abbrev mX12_atCouple : Nat := 178
abbrev mX12_addsCouple : Nat := 179
abbrev mX12_begins : Nat := 180
abbrev mX12_goes : Nat := 181
abbrev mX12_goesOn : Nat := 182
abbrev mX12_turn : Nat := 183
abbrev mX12_doer : Nat := 184
abbrev mX12_has : Nat := 185
abbrev mX12_meet : Nat := 186
abbrev mX12_areOwn : Nat := 187
abbrev mX12_growsBy : Nat := 188
abbrev mX12_changesLike : Nat := 189
abbrev mX12_least : Nat := 190
abbrev mX12_most_II : Nat := 191
abbrev mX12_sulksOf : Nat := 192
abbrev mX12_sulksBy : Nat := 193
abbrev mX12_bind : Nat := 194
abbrev mX12_ends : Nat := 195
abbrev mX12_one : Nat := 196
abbrev mX12_orNone : Nat := 197
abbrev mX12_grows : Nat := 198
abbrev mX12_retells : Nat := 199
abbrev mX12_retellsBy : Nat := 200
abbrev mX12_comes : Nat := 201
abbrev mX12_wrongKept : Nat := 202
abbrev mX12_likes : Nat := 203
abbrev mX12_like : Nat := 204
abbrev mX12_sends : Nat := 205
abbrev mX12_couple : Nat := 206
abbrev mX12_about : Nat := 207
abbrev mX12_isCouple : Nat := 208
abbrev mX12_who : Nat := 209
abbrev mX12_slip : Nat := 210
abbrev mX12_days : Nat := 211
abbrev mX12_fate : Nat := 212
abbrev mX12_inMind : Nat := 213
abbrev mX12_then : Nat := 214
abbrev mX12_bound : Nat := 215
abbrev mX12_slips : Nat := 216
abbrev mX12_soonest : Nat := 217
abbrev mX12_manySuch : Nat := 218
abbrev mX12_orders : Nat := 219
abbrev mX12_eachOrder : Nat := 220
abbrev mX12_daysTillWed : Nat := 221
abbrev mX12_deputies : Nat := 222
abbrev mX12_bestWho : Nat := 223
abbrev mX12_leave : Nat := 224
abbrev mX12_leaving : Nat := 225
abbrev mX12_manOf : Nat := 226
abbrev mX12_stable : Nat := 227
abbrev mX12_asksOnce : Nat := 228
abbrev mX12_nextOf : Nat := 229
abbrev mX12_keepsMore : Nat := 230
abbrev mX12_allStable : Nat := 231
abbrev mX12_allMatchings : Nat := 232
abbrev mX12_eachMatching : Nat := 233
abbrev mX12_looksAtMatching : Nat := 234
abbrev mX12_most : Nat := 235
abbrev mX12_mostOf : Nat := 236
abbrev mX12_report : Nat := 237
abbrev mX12_told : Nat := 238
abbrev mX12_said : Nat := 239
abbrev mX12_learnt : Nat := 240
abbrev mX12_isLearnt : Nat := 241
abbrev mX12_chain : Nat := 242
abbrev mX12_ways : Nat := 243
abbrev mX12_digitOf : Nat := 244
abbrev mX12_thaw : Nat := 245
abbrev mX12_thaws : Nat := 246
abbrev mX12_judge : Nat := 247
abbrev mX12_seeds : Nat := 248
abbrev mX12_drawn : Nat := 249
abbrev mX12_image : Nat := 250
abbrev mX12_restore : Nat := 251
abbrev mX12_count : Nat := 252
abbrev mX12_thrown : Nat := 253
abbrev mX12_keep : Nat := 254
abbrev mX12_row : Nat := 255
abbrev mX12_put : Nat := 256
abbrev mX12_element : Nat := 257
abbrev mX12_copy : Nat := 258
abbrev mX12_cost : Nat := 259
abbrev mX12_costBy : Nat := 260
abbrev mX12_toss : Nat := 261
abbrev mX11_toss : Nat := 262
abbrev mL_element : Nat := 263
abbrev mL_law : Nat := 264
def okM (e : mE) : Prop := Cond.code e.1 e.2.1 e.2.2.1 e.2.2.2.1 ∈ WSg ∧ Cond.initialized e.1.cls ∈ WSg ∧ plainName e.1.cls = true ∧ (e.1.cls ≠ "java/lang/invoke/MethodHandle" ∧ e.1.cls ≠ "java/lang/invoke/VarHandle") ∧ e.2.2.1 ≤ 40 ∧ e.1.cls = cnm e.2.2.2.2
def mtabC : List mE := mtab.take nCall
theorem okM_0 : ∀ e ∈ ((mtabC.drop 0).take 40), okM e := List.forall_mem_cons.mpr ⟨⟨wd_254, wd_62, by decide, ⟨by decide, by decide⟩, by decide, rfl⟩, List.forall_mem_cons.mpr ⟨⟨wd_488, wd_62, by decide, ⟨by decide, by decide⟩, by decide, rfl⟩, List.forall_mem_cons.mpr ⟨⟨wd_525, wd_62, by decide, ⟨by decide, by decide⟩, by decide, rfl⟩, List.forall_mem_cons.mpr ⟨⟨wd_580, wd_62, by decide, ⟨by decide, by decide⟩, by decide, rfl⟩, List.forall_mem_cons.mpr ⟨⟨wd_614, wd_62, by decide, ⟨by decide, by decide⟩, by decide, rfl⟩, List.forall_mem_cons.mpr ⟨⟨wd_952, wd_62, by decide, ⟨by decide, by decide⟩, by decide, rfl⟩, List.forall_mem_cons.mpr ⟨⟨wd_278, wd_65, by decide, ⟨by decide, by decide⟩, by decide, rfl⟩, List.forall_mem_cons.mpr ⟨⟨wd_492, wd_65, by decide, ⟨by decide, by decide⟩, by decide, rfl⟩, List.forall_mem_cons.mpr ⟨⟨wd_583, wd_65, by decide, ⟨by decide, by decide⟩, by decide, rfl⟩, List.forall_mem_cons.mpr ⟨⟨wd_618, wd_65, by decide, ⟨by decide, by decide⟩, by decide, rfl⟩, List.forall_mem_cons.mpr ⟨⟨wd_956, wd_65, by decide, ⟨by decide, by decide⟩, by decide, rfl⟩, List.forall_mem_cons.mpr ⟨⟨wd_986, wd_65, by decide, ⟨by decide, by decide⟩, by decide, rfl⟩, List.forall_mem_cons.mpr ⟨⟨wd_316, wd_67, by decide, ⟨by decide, by decide⟩, by decide, rfl⟩, List.forall_mem_cons.mpr ⟨⟨wd_855, wd_67, by decide, ⟨by decide, by decide⟩, by decide, rfl⟩, List.forall_mem_cons.mpr ⟨⟨wd_860, wd_67, by decide, ⟨by decide, by decide⟩, by decide, rfl⟩, List.forall_mem_cons.mpr ⟨⟨wd_864, wd_67, by decide, ⟨by decide, by decide⟩, by decide, rfl⟩, List.forall_mem_cons.mpr ⟨⟨wd_873, wd_67, by decide, ⟨by decide, by decide⟩, by decide, rfl⟩, List.forall_mem_cons.mpr ⟨⟨wd_262, wd_63, by decide, ⟨by decide, by decide⟩, by decide, rfl⟩, List.forall_mem_cons.mpr ⟨⟨wd_530, wd_63, by decide, ⟨by decide, by decide⟩, by decide, rfl⟩, List.forall_mem_cons.mpr ⟨⟨wd_586, wd_63, by decide, ⟨by decide, by decide⟩, by decide, rfl⟩, List.forall_mem_cons.mpr ⟨⟨wd_621, wd_63, by decide, ⟨by decide, by decide⟩, by decide, rfl⟩, List.forall_mem_cons.mpr ⟨⟨wd_960, wd_63, by decide, ⟨by decide, by decide⟩, by decide, rfl⟩, List.forall_mem_cons.mpr ⟨⟨wd_989, wd_63, by decide, ⟨by decide, by decide⟩, by decide, rfl⟩, List.forall_mem_cons.mpr ⟨⟨wd_173, wd_59, by decide, ⟨by decide, by decide⟩, by decide, rfl⟩, List.forall_mem_cons.mpr ⟨⟨wd_753, wd_59, by decide, ⟨by decide, by decide⟩, by decide, rfl⟩, List.forall_mem_cons.mpr ⟨⟨wd_758, wd_59, by decide, ⟨by decide, by decide⟩, by decide, rfl⟩, List.forall_mem_cons.mpr ⟨⟨wd_762, wd_59, by decide, ⟨by decide, by decide⟩, by decide, rfl⟩, List.forall_mem_cons.mpr ⟨⟨wd_766, wd_59, by decide, ⟨by decide, by decide⟩, by decide, rfl⟩, List.forall_mem_cons.mpr ⟨⟨wd_770, wd_59, by decide, ⟨by decide, by decide⟩, by decide, rfl⟩, List.forall_mem_cons.mpr ⟨⟨wd_779, wd_59, by decide, ⟨by decide, by decide⟩, by decide, rfl⟩, List.forall_mem_cons.mpr ⟨⟨wd_784, wd_59, by decide, ⟨by decide, by decide⟩, by decide, rfl⟩, List.forall_mem_cons.mpr ⟨⟨wd_788, wd_59, by decide, ⟨by decide, by decide⟩, by decide, rfl⟩, List.forall_mem_cons.mpr ⟨⟨wd_792, wd_59, by decide, ⟨by decide, by decide⟩, by decide, rfl⟩, List.forall_mem_cons.mpr ⟨⟨wd_800, wd_59, by decide, ⟨by decide, by decide⟩, by decide, rfl⟩, List.forall_mem_cons.mpr ⟨⟨wd_804, wd_59, by decide, ⟨by decide, by decide⟩, by decide, rfl⟩, List.forall_mem_cons.mpr ⟨⟨wd_808, wd_59, by decide, ⟨by decide, by decide⟩, by decide, rfl⟩, List.forall_mem_cons.mpr ⟨⟨wd_815, wd_59, by decide, ⟨by decide, by decide⟩, by decide, rfl⟩, List.forall_mem_cons.mpr ⟨⟨wd_287, wd_66, by decide, ⟨by decide, by decide⟩, by decide, rfl⟩, List.forall_mem_cons.mpr ⟨⟨wd_360, wd_66, by decide, ⟨by decide, by decide⟩, by decide, rfl⟩, List.forall_mem_cons.mpr ⟨⟨wd_364, wd_66, by decide, ⟨by decide, by decide⟩, by decide, rfl⟩, fun _ h => absurd h List.not_mem_nil⟩⟩⟩⟩⟩⟩⟩⟩⟩⟩⟩⟩⟩⟩⟩⟩⟩⟩⟩⟩⟩⟩⟩⟩⟩⟩⟩⟩⟩⟩⟩⟩⟩⟩⟩⟩⟩⟩⟩⟩
theorem okM_1 : ∀ e ∈ ((mtabC.drop 40).take 40), okM e := List.forall_mem_cons.mpr ⟨⟨wd_397, wd_66, by decide, ⟨by decide, by decide⟩, by decide, rfl⟩, List.forall_mem_cons.mpr ⟨⟨wd_641, wd_66, by decide, ⟨by decide, by decide⟩, by decide, rfl⟩, List.forall_mem_cons.mpr ⟨⟨wd_749, wd_66, by decide, ⟨by decide, by decide⟩, by decide, rfl⟩, List.forall_mem_cons.mpr ⟨⟨wd_843, wd_66, by decide, ⟨by decide, by decide⟩, by decide, rfl⟩, List.forall_mem_cons.mpr ⟨⟨wd_881, wd_66, by decide, ⟨by decide, by decide⟩, by decide, rfl⟩, List.forall_mem_cons.mpr ⟨⟨wd_915, wd_66, by decide, ⟨by decide, by decide⟩, by decide, rfl⟩, List.forall_mem_cons.mpr ⟨⟨wd_923, wd_66, by decide, ⟨by decide, by decide⟩, by decide, rfl⟩, List.forall_mem_cons.mpr ⟨⟨wd_932, wd_66, by decide, ⟨by decide, by decide⟩, by decide, rfl⟩, List.forall_mem_cons.mpr ⟨⟨wd_940, wd_66, by decide, ⟨by decide, by decide⟩, by decide, rfl⟩, List.forall_mem_cons.mpr ⟨⟨wd_89, wd_57, by decide, ⟨by decide, by decide⟩, by decide, rfl⟩, List.forall_mem_cons.mpr ⟨⟨wd_505, wd_57, by decide, ⟨by decide, by decide⟩, by decide, rfl⟩, List.forall_mem_cons.mpr ⟨⟨wd_539, wd_57, by decide, ⟨by decide, by decide⟩, by decide, rfl⟩, List.forall_mem_cons.mpr ⟨⟨wd_593, wd_57, by decide, ⟨by decide, by decide⟩, by decide, rfl⟩, List.forall_mem_cons.mpr ⟨⟨wd_632, wd_57, by decide, ⟨by decide, by decide⟩, by decide, rfl⟩, List.forall_mem_cons.mpr ⟨⟨wd_971, wd_57, by decide, ⟨by decide, by decide⟩, by decide, rfl⟩, List.forall_mem_cons.mpr ⟨⟨wd_1078, wd_57, by decide, ⟨by decide, by decide⟩, by decide, rfl⟩, List.forall_mem_cons.mpr ⟨⟨wd_270, wd_64, by decide, ⟨by decide, by decide⟩, by decide, rfl⟩, List.forall_mem_cons.mpr ⟨⟨wd_500, wd_64, by decide, ⟨by decide, by decide⟩, by decide, rfl⟩, List.forall_mem_cons.mpr ⟨⟨wd_536, wd_64, by decide, ⟨by decide, by decide⟩, by decide, rfl⟩, List.forall_mem_cons.mpr ⟨⟨wd_589, wd_64, by decide, ⟨by decide, by decide⟩, by decide, rfl⟩, List.forall_mem_cons.mpr ⟨⟨wd_629, wd_64, by decide, ⟨by decide, by decide⟩, by decide, rfl⟩, List.forall_mem_cons.mpr ⟨⟨wd_968, wd_64, by decide, ⟨by decide, by decide⟩, by decide, rfl⟩, List.forall_mem_cons.mpr ⟨⟨wd_1060, wd_64, by decide, ⟨by decide, by decide⟩, by decide, rfl⟩, List.forall_mem_cons.mpr ⟨⟨wd_106, wd_58, by decide, ⟨by decide, by decide⟩, by decide, rfl⟩, List.forall_mem_cons.mpr ⟨⟨wd_386, wd_58, by decide, ⟨by decide, by decide⟩, by decide, rfl⟩, List.forall_mem_cons.mpr ⟨⟨wd_405, wd_58, by decide, ⟨by decide, by decide⟩, by decide, rfl⟩, List.forall_mem_cons.mpr ⟨⟨wd_408, wd_58, by decide, ⟨by decide, by decide⟩, by decide, rfl⟩, List.forall_mem_cons.mpr ⟨⟨wd_412, wd_58, by decide, ⟨by decide, by decide⟩, by decide, rfl⟩, List.forall_mem_cons.mpr ⟨⟨wd_416, wd_58, by decide, ⟨by decide, by decide⟩, by decide, rfl⟩, List.forall_mem_cons.mpr ⟨⟨wd_423, wd_58, by decide, ⟨by decide, by decide⟩, by decide, rfl⟩, List.forall_mem_cons.mpr ⟨⟨wd_434, wd_58, by decide, ⟨by decide, by decide⟩, by decide, rfl⟩, List.forall_mem_cons.mpr ⟨⟨wd_438, wd_58, by decide, ⟨by decide, by decide⟩, by decide, rfl⟩, List.forall_mem_cons.mpr ⟨⟨wd_442, wd_58, by decide, ⟨by decide, by decide⟩, by decide, rfl⟩, List.forall_mem_cons.mpr ⟨⟨wd_453, wd_58, by decide, ⟨by decide, by decide⟩, by decide, rfl⟩, List.forall_mem_cons.mpr ⟨⟨wd_461, wd_58, by decide, ⟨by decide, by decide⟩, by decide, rfl⟩, List.forall_mem_cons.mpr ⟨⟨wd_476, wd_58, by decide, ⟨by decide, by decide⟩, by decide, rfl⟩, List.forall_mem_cons.mpr ⟨⟨wd_481, wd_58, by decide, ⟨by decide, by decide⟩, by decide, rfl⟩, List.forall_mem_cons.mpr ⟨⟨wd_509, wd_58, by decide, ⟨by decide, by decide⟩, by decide, rfl⟩, List.forall_mem_cons.mpr ⟨⟨wd_513, wd_58, by decide, ⟨by decide, by decide⟩, by decide, rfl⟩, List.forall_mem_cons.mpr ⟨⟨wd_543, wd_58, by decide, ⟨by decide, by decide⟩, by decide, rfl⟩, fun _ h => absurd h List.not_mem_nil⟩⟩⟩⟩⟩⟩⟩⟩⟩⟩⟩⟩⟩⟩⟩⟩⟩⟩⟩⟩⟩⟩⟩⟩⟩⟩⟩⟩⟩⟩⟩⟩⟩⟩⟩⟩⟩⟩⟩⟩
theorem okM_2 : ∀ e ∈ ((mtabC.drop 80).take 40), okM e := List.forall_mem_cons.mpr ⟨⟨wd_555, wd_58, by decide, ⟨by decide, by decide⟩, by decide, rfl⟩, List.forall_mem_cons.mpr ⟨⟨wd_666, wd_58, by decide, ⟨by decide, by decide⟩, by decide, rfl⟩, List.forall_mem_cons.mpr ⟨⟨wd_707, wd_58, by decide, ⟨by decide, by decide⟩, by decide, rfl⟩, List.forall_mem_cons.mpr ⟨⟨wd_892, wd_58, by decide, ⟨by decide, by decide⟩, by decide, rfl⟩, List.forall_mem_cons.mpr ⟨⟨wd_246, wd_61, by decide, ⟨by decide, by decide⟩, by decide, rfl⟩, List.forall_mem_cons.mpr ⟨⟨wd_496, wd_61, by decide, ⟨by decide, by decide⟩, by decide, rfl⟩, List.forall_mem_cons.mpr ⟨⟨wd_592, wd_61, by decide, ⟨by decide, by decide⟩, by decide, rfl⟩, List.forall_mem_cons.mpr ⟨⟨wd_624, wd_61, by decide, ⟨by decide, by decide⟩, by decide, rfl⟩, List.forall_mem_cons.mpr ⟨⟨wd_963, wd_61, by decide, ⟨by decide, by decide⟩, by decide, rfl⟩, List.forall_mem_cons.mpr ⟨⟨wd_206, wd_60, by decide, ⟨by decide, by decide⟩, by decide, rfl⟩, List.forall_mem_cons.mpr ⟨⟨wd_374, wd_60, by decide, ⟨by decide, by decide⟩, by decide, rfl⟩, List.forall_mem_cons.mpr ⟨⟨wd_378, wd_60, by decide, ⟨by decide, by decide⟩, by decide, rfl⟩, List.forall_mem_cons.mpr ⟨⟨wd_382, wd_60, by decide, ⟨by decide, by decide⟩, by decide, rfl⟩, List.forall_mem_cons.mpr ⟨⟨wd_449, wd_60, by decide, ⟨by decide, by decide⟩, by decide, rfl⟩, List.forall_mem_cons.mpr ⟨⟨wd_457, wd_60, by decide, ⟨by decide, by decide⟩, by decide, rfl⟩, List.forall_mem_cons.mpr ⟨⟨wd_466, wd_60, by decide, ⟨by decide, by decide⟩, by decide, rfl⟩, List.forall_mem_cons.mpr ⟨⟨wd_472, wd_60, by decide, ⟨by decide, by decide⟩, by decide, rfl⟩, List.forall_mem_cons.mpr ⟨⟨wd_518, wd_60, by decide, ⟨by decide, by decide⟩, by decide, rfl⟩, List.forall_mem_cons.mpr ⟨⟨wd_547, wd_60, by decide, ⟨by decide, by decide⟩, by decide, rfl⟩, List.forall_mem_cons.mpr ⟨⟨wd_551, wd_60, by decide, ⟨by decide, by decide⟩, by decide, rfl⟩, List.forall_mem_cons.mpr ⟨⟨wd_559, wd_60, by decide, ⟨by decide, by decide⟩, by decide, rfl⟩, List.forall_mem_cons.mpr ⟨⟨wd_563, wd_60, by decide, ⟨by decide, by decide⟩, by decide, rfl⟩, List.forall_mem_cons.mpr ⟨⟨wd_567, wd_60, by decide, ⟨by decide, by decide⟩, by decide, rfl⟩, List.forall_mem_cons.mpr ⟨⟨wd_721, wd_60, by decide, ⟨by decide, by decide⟩, by decide, rfl⟩, List.forall_mem_cons.mpr ⟨⟨wd_725, wd_60, by decide, ⟨by decide, by decide⟩, by decide, rfl⟩, List.forall_mem_cons.mpr ⟨⟨wd_729, wd_60, by decide, ⟨by decide, by decide⟩, by decide, rfl⟩, List.forall_mem_cons.mpr ⟨⟨wd_81, wd_56, by decide, ⟨by decide, by decide⟩, by decide, rfl⟩, List.forall_mem_cons.mpr ⟨⟨wd_350, wd_56, by decide, ⟨by decide, by decide⟩, by decide, rfl⟩, List.forall_mem_cons.mpr ⟨⟨wd_353, wd_56, by decide, ⟨by decide, by decide⟩, by decide, rfl⟩, List.forall_mem_cons.mpr ⟨⟨wd_356, wd_56, by decide, ⟨by decide, by decide⟩, by decide, rfl⟩, List.forall_mem_cons.mpr ⟨⟨wd_367, wd_56, by decide, ⟨by decide, by decide⟩, by decide, rfl⟩, List.forall_mem_cons.mpr ⟨⟨wd_370, wd_56, by decide, ⟨by decide, by decide⟩, by decide, rfl⟩, List.forall_mem_cons.mpr ⟨⟨wd_393, wd_56, by decide, ⟨by decide, by decide⟩, by decide, rfl⟩, List.forall_mem_cons.mpr ⟨⟨wd_401, wd_56, by decide, ⟨by decide, by decide⟩, by decide, rfl⟩, List.forall_mem_cons.mpr ⟨⟨wd_419, wd_56, by decide, ⟨by decide, by decide⟩, by decide, rfl⟩, List.forall_mem_cons.mpr ⟨⟨wd_445, wd_56, by decide, ⟨by decide, by decide⟩, by decide, rfl⟩, List.forall_mem_cons.mpr ⟨⟨wd_572, wd_56, by decide, ⟨by decide, by decide⟩, by decide, rfl⟩, List.forall_mem_cons.mpr ⟨⟨wd_597, wd_56, by decide, ⟨by decide, by decide⟩, by decide, rfl⟩, List.forall_mem_cons.mpr ⟨⟨wd_602, wd_56, by decide, ⟨by decide, by decide⟩, by decide, rfl⟩, List.forall_mem_cons.mpr ⟨⟨wd_607, wd_56, by decide, ⟨by decide, by decide⟩, by decide, rfl⟩, fun _ h => absurd h List.not_mem_nil⟩⟩⟩⟩⟩⟩⟩⟩⟩⟩⟩⟩⟩⟩⟩⟩⟩⟩⟩⟩⟩⟩⟩⟩⟩⟩⟩⟩⟩⟩⟩⟩⟩⟩⟩⟩⟩⟩⟩⟩
theorem okM_3 : ∀ e ∈ ((mtabC.drop 120).take 40), okM e := List.forall_mem_cons.mpr ⟨⟨wd_636, wd_56, by decide, ⟨by decide, by decide⟩, by decide, rfl⟩, List.forall_mem_cons.mpr ⟨⟨wd_645, wd_56, by decide, ⟨by decide, by decide⟩, by decide, rfl⟩, List.forall_mem_cons.mpr ⟨⟨wd_650, wd_56, by decide, ⟨by decide, by decide⟩, by decide, rfl⟩, List.forall_mem_cons.mpr ⟨⟨wd_654, wd_56, by decide, ⟨by decide, by decide⟩, by decide, rfl⟩, List.forall_mem_cons.mpr ⟨⟨wd_658, wd_56, by decide, ⟨by decide, by decide⟩, by decide, rfl⟩, List.forall_mem_cons.mpr ⟨⟨wd_662, wd_56, by decide, ⟨by decide, by decide⟩, by decide, rfl⟩, List.forall_mem_cons.mpr ⟨⟨wd_672, wd_56, by decide, ⟨by decide, by decide⟩, by decide, rfl⟩, List.forall_mem_cons.mpr ⟨⟨wd_676, wd_56, by decide, ⟨by decide, by decide⟩, by decide, rfl⟩, List.forall_mem_cons.mpr ⟨⟨wd_680, wd_56, by decide, ⟨by decide, by decide⟩, by decide, rfl⟩, List.forall_mem_cons.mpr ⟨⟨wd_684, wd_56, by decide, ⟨by decide, by decide⟩, by decide, rfl⟩, List.forall_mem_cons.mpr ⟨⟨wd_687, wd_56, by decide, ⟨by decide, by decide⟩, by decide, rfl⟩, List.forall_mem_cons.mpr ⟨⟨wd_691, wd_56, by decide, ⟨by decide, by decide⟩, by decide, rfl⟩, List.forall_mem_cons.mpr ⟨⟨wd_695, wd_56, by decide, ⟨by decide, by decide⟩, by decide, rfl⟩, List.forall_mem_cons.mpr ⟨⟨wd_699, wd_56, by decide, ⟨by decide, by decide⟩, by decide, rfl⟩, List.forall_mem_cons.mpr ⟨⟨wd_703, wd_56, by decide, ⟨by decide, by decide⟩, by decide, rfl⟩, List.forall_mem_cons.mpr ⟨⟨wd_711, wd_56, by decide, ⟨by decide, by decide⟩, by decide, rfl⟩, List.forall_mem_cons.mpr ⟨⟨wd_717, wd_56, by decide, ⟨by decide, by decide⟩, by decide, rfl⟩, List.forall_mem_cons.mpr ⟨⟨wd_733, wd_56, by decide, ⟨by decide, by decide⟩, by decide, rfl⟩, List.forall_mem_cons.mpr ⟨⟨wd_737, wd_56, by decide, ⟨by decide, by decide⟩, by decide, rfl⟩, List.forall_mem_cons.mpr ⟨⟨wd_741, wd_56, by decide, ⟨by decide, by decide⟩, by decide, rfl⟩, List.forall_mem_cons.mpr ⟨⟨wd_745, wd_56, by decide, ⟨by decide, by decide⟩, by decide, rfl⟩, List.forall_mem_cons.mpr ⟨⟨wd_775, wd_56, by decide, ⟨by decide, by decide⟩, by decide, rfl⟩, List.forall_mem_cons.mpr ⟨⟨wd_796, wd_56, by decide, ⟨by decide, by decide⟩, by decide, rfl⟩, List.forall_mem_cons.mpr ⟨⟨wd_819, wd_56, by decide, ⟨by decide, by decide⟩, by decide, rfl⟩, List.forall_mem_cons.mpr ⟨⟨wd_823, wd_56, by decide, ⟨by decide, by decide⟩, by decide, rfl⟩, List.forall_mem_cons.mpr ⟨⟨wd_827, wd_56, by decide, ⟨by decide, by decide⟩, by decide, rfl⟩, List.forall_mem_cons.mpr ⟨⟨wd_831, wd_56, by decide, ⟨by decide, by decide⟩, by decide, rfl⟩, List.forall_mem_cons.mpr ⟨⟨wd_835, wd_56, by decide, ⟨by decide, by decide⟩, by decide, rfl⟩, List.forall_mem_cons.mpr ⟨⟨wd_839, wd_56, by decide, ⟨by decide, by decide⟩, by decide, rfl⟩, List.forall_mem_cons.mpr ⟨⟨wd_847, wd_56, by decide, ⟨by decide, by decide⟩, by decide, rfl⟩, List.forall_mem_cons.mpr ⟨⟨wd_851, wd_56, by decide, ⟨by decide, by decide⟩, by decide, rfl⟩, List.forall_mem_cons.mpr ⟨⟨wd_869, wd_56, by decide, ⟨by decide, by decide⟩, by decide, rfl⟩, List.forall_mem_cons.mpr ⟨⟨wd_877, wd_56, by decide, ⟨by decide, by decide⟩, by decide, rfl⟩, List.forall_mem_cons.mpr ⟨⟨wd_888, wd_56, by decide, ⟨by decide, by decide⟩, by decide, rfl⟩, List.forall_mem_cons.mpr ⟨⟨wd_899, wd_56, by decide, ⟨by decide, by decide⟩, by decide, rfl⟩, List.forall_mem_cons.mpr ⟨⟨wd_903, wd_56, by decide, ⟨by decide, by decide⟩, by decide, rfl⟩, List.forall_mem_cons.mpr ⟨⟨wd_907, wd_56, by decide, ⟨by decide, by decide⟩, by decide, rfl⟩, List.forall_mem_cons.mpr ⟨⟨wd_911, wd_56, by decide, ⟨by decide, by decide⟩, by decide, rfl⟩, List.forall_mem_cons.mpr ⟨⟨wd_919, wd_56, by decide, ⟨by decide, by decide⟩, by decide, rfl⟩, List.forall_mem_cons.mpr ⟨⟨wd_927, wd_56, by decide, ⟨by decide, by decide⟩, by decide, rfl⟩, fun _ h => absurd h List.not_mem_nil⟩⟩⟩⟩⟩⟩⟩⟩⟩⟩⟩⟩⟩⟩⟩⟩⟩⟩⟩⟩⟩⟩⟩⟩⟩⟩⟩⟩⟩⟩⟩⟩⟩⟩⟩⟩⟩⟩⟩⟩
theorem okM_4 : ∀ e ∈ ((mtabC.drop 160).take 40), okM e := List.forall_mem_cons.mpr ⟨⟨wd_936, wd_56, by decide, ⟨by decide, by decide⟩, by decide, rfl⟩, List.forall_mem_cons.mpr ⟨⟨wd_945, wd_56, by decide, ⟨by decide, by decide⟩, by decide, rfl⟩, List.forall_mem_cons.mpr ⟨⟨wd_1103, wd_56, by decide, ⟨by decide, by decide⟩, by decide, rfl⟩, List.forall_mem_cons.mpr ⟨⟨wd_1112, wd_68, by decide, ⟨by decide, by decide⟩, by decide, rfl⟩, List.forall_mem_cons.mpr ⟨⟨wd_1217, wd_68, by decide, ⟨by decide, by decide⟩, by decide, rfl⟩, List.forall_mem_cons.mpr ⟨⟨wd_1221, wd_68, by decide, ⟨by decide, by decide⟩, by decide, rfl⟩, List.forall_mem_cons.mpr ⟨⟨wd_1224, wd_68, by decide, ⟨by decide, by decide⟩, by decide, rfl⟩, List.forall_mem_cons.mpr ⟨⟨wd_1227, wd_68, by decide, ⟨by decide, by decide⟩, by decide, rfl⟩, List.forall_mem_cons.mpr ⟨⟨wd_1231, wd_68, by decide, ⟨by decide, by decide⟩, by decide, rfl⟩, List.forall_mem_cons.mpr ⟨⟨wd_1235, wd_68, by decide, ⟨by decide, by decide⟩, by decide, rfl⟩, List.forall_mem_cons.mpr ⟨⟨wd_1239, wd_68, by decide, ⟨by decide, by decide⟩, by decide, rfl⟩, List.forall_mem_cons.mpr ⟨⟨wd_1242, wd_68, by decide, ⟨by decide, by decide⟩, by decide, rfl⟩, List.forall_mem_cons.mpr ⟨⟨wd_1246, wd_68, by decide, ⟨by decide, by decide⟩, by decide, rfl⟩, List.forall_mem_cons.mpr ⟨⟨wd_1250, wd_68, by decide, ⟨by decide, by decide⟩, by decide, rfl⟩, List.forall_mem_cons.mpr ⟨⟨wd_1253, wd_68, by decide, ⟨by decide, by decide⟩, by decide, rfl⟩, List.forall_mem_cons.mpr ⟨⟨wd_1256, wd_68, by decide, ⟨by decide, by decide⟩, by decide, rfl⟩, List.forall_mem_cons.mpr ⟨⟨wd_1260, wd_68, by decide, ⟨by decide, by decide⟩, by decide, rfl⟩, List.forall_mem_cons.mpr ⟨⟨wd_1264, wd_68, by decide, ⟨by decide, by decide⟩, by decide, rfl⟩, List.forall_mem_cons.mpr ⟨⟨wd_1267, wd_68, by decide, ⟨by decide, by decide⟩, by decide, rfl⟩, List.forall_mem_cons.mpr ⟨⟨wd_1271, wd_68, by decide, ⟨by decide, by decide⟩, by decide, rfl⟩, List.forall_mem_cons.mpr ⟨⟨wd_1275, wd_68, by decide, ⟨by decide, by decide⟩, by decide, rfl⟩, List.forall_mem_cons.mpr ⟨⟨wd_1279, wd_68, by decide, ⟨by decide, by decide⟩, by decide, rfl⟩, List.forall_mem_cons.mpr ⟨⟨wd_1282, wd_68, by decide, ⟨by decide, by decide⟩, by decide, rfl⟩, List.forall_mem_cons.mpr ⟨⟨wd_1286, wd_68, by decide, ⟨by decide, by decide⟩, by decide, rfl⟩, List.forall_mem_cons.mpr ⟨⟨wd_1289, wd_68, by decide, ⟨by decide, by decide⟩, by decide, rfl⟩, List.forall_mem_cons.mpr ⟨⟨wd_1292, wd_68, by decide, ⟨by decide, by decide⟩, by decide, rfl⟩, List.forall_mem_cons.mpr ⟨⟨wd_1295, wd_68, by decide, ⟨by decide, by decide⟩, by decide, rfl⟩, List.forall_mem_cons.mpr ⟨⟨wd_1298, wd_68, by decide, ⟨by decide, by decide⟩, by decide, rfl⟩, List.forall_mem_cons.mpr ⟨⟨wd_1301, wd_68, by decide, ⟨by decide, by decide⟩, by decide, rfl⟩, List.forall_mem_cons.mpr ⟨⟨wd_1304, wd_68, by decide, ⟨by decide, by decide⟩, by decide, rfl⟩, List.forall_mem_cons.mpr ⟨⟨wd_1307, wd_68, by decide, ⟨by decide, by decide⟩, by decide, rfl⟩, List.forall_mem_cons.mpr ⟨⟨wd_1310, wd_68, by decide, ⟨by decide, by decide⟩, by decide, rfl⟩, List.forall_mem_cons.mpr ⟨⟨wd_1313, wd_68, by decide, ⟨by decide, by decide⟩, by decide, rfl⟩, List.forall_mem_cons.mpr ⟨⟨wd_1316, wd_68, by decide, ⟨by decide, by decide⟩, by decide, rfl⟩, List.forall_mem_cons.mpr ⟨⟨wd_1320, wd_68, by decide, ⟨by decide, by decide⟩, by decide, rfl⟩, List.forall_mem_cons.mpr ⟨⟨wd_1324, wd_68, by decide, ⟨by decide, by decide⟩, by decide, rfl⟩, List.forall_mem_cons.mpr ⟨⟨wd_1328, wd_68, by decide, ⟨by decide, by decide⟩, by decide, rfl⟩, List.forall_mem_cons.mpr ⟨⟨wd_1331, wd_68, by decide, ⟨by decide, by decide⟩, by decide, rfl⟩, List.forall_mem_cons.mpr ⟨⟨wd_1335, wd_68, by decide, ⟨by decide, by decide⟩, by decide, rfl⟩, List.forall_mem_cons.mpr ⟨⟨wd_1339, wd_68, by decide, ⟨by decide, by decide⟩, by decide, rfl⟩, fun _ h => absurd h List.not_mem_nil⟩⟩⟩⟩⟩⟩⟩⟩⟩⟩⟩⟩⟩⟩⟩⟩⟩⟩⟩⟩⟩⟩⟩⟩⟩⟩⟩⟩⟩⟩⟩⟩⟩⟩⟩⟩⟩⟩⟩⟩
theorem okM_5 : ∀ e ∈ ((mtabC.drop 200).take 40), okM e := List.forall_mem_cons.mpr ⟨⟨wd_1342, wd_68, by decide, ⟨by decide, by decide⟩, by decide, rfl⟩, List.forall_mem_cons.mpr ⟨⟨wd_1346, wd_68, by decide, ⟨by decide, by decide⟩, by decide, rfl⟩, List.forall_mem_cons.mpr ⟨⟨wd_1350, wd_68, by decide, ⟨by decide, by decide⟩, by decide, rfl⟩, List.forall_mem_cons.mpr ⟨⟨wd_1354, wd_68, by decide, ⟨by decide, by decide⟩, by decide, rfl⟩, List.forall_mem_cons.mpr ⟨⟨wd_1358, wd_68, by decide, ⟨by decide, by decide⟩, by decide, rfl⟩, List.forall_mem_cons.mpr ⟨⟨wd_1362, wd_68, by decide, ⟨by decide, by decide⟩, by decide, rfl⟩, List.forall_mem_cons.mpr ⟨⟨wd_1366, wd_68, by decide, ⟨by decide, by decide⟩, by decide, rfl⟩, List.forall_mem_cons.mpr ⟨⟨wd_1370, wd_68, by decide, ⟨by decide, by decide⟩, by decide, rfl⟩, List.forall_mem_cons.mpr ⟨⟨wd_1374, wd_68, by decide, ⟨by decide, by decide⟩, by decide, rfl⟩, List.forall_mem_cons.mpr ⟨⟨wd_1378, wd_68, by decide, ⟨by decide, by decide⟩, by decide, rfl⟩, List.forall_mem_cons.mpr ⟨⟨wd_1382, wd_68, by decide, ⟨by decide, by decide⟩, by decide, rfl⟩, List.forall_mem_cons.mpr ⟨⟨wd_1386, wd_68, by decide, ⟨by decide, by decide⟩, by decide, rfl⟩, List.forall_mem_cons.mpr ⟨⟨wd_1390, wd_68, by decide, ⟨by decide, by decide⟩, by decide, rfl⟩, List.forall_mem_cons.mpr ⟨⟨wd_1394, wd_68, by decide, ⟨by decide, by decide⟩, by decide, rfl⟩, List.forall_mem_cons.mpr ⟨⟨wd_1398, wd_68, by decide, ⟨by decide, by decide⟩, by decide, rfl⟩, List.forall_mem_cons.mpr ⟨⟨wd_1402, wd_68, by decide, ⟨by decide, by decide⟩, by decide, rfl⟩, List.forall_mem_cons.mpr ⟨⟨wd_1406, wd_68, by decide, ⟨by decide, by decide⟩, by decide, rfl⟩, List.forall_mem_cons.mpr ⟨⟨wd_1410, wd_68, by decide, ⟨by decide, by decide⟩, by decide, rfl⟩, List.forall_mem_cons.mpr ⟨⟨wd_1413, wd_68, by decide, ⟨by decide, by decide⟩, by decide, rfl⟩, List.forall_mem_cons.mpr ⟨⟨wd_1417, wd_68, by decide, ⟨by decide, by decide⟩, by decide, rfl⟩, List.forall_mem_cons.mpr ⟨⟨wd_1422, wd_68, by decide, ⟨by decide, by decide⟩, by decide, rfl⟩, List.forall_mem_cons.mpr ⟨⟨wd_1426, wd_68, by decide, ⟨by decide, by decide⟩, by decide, rfl⟩, List.forall_mem_cons.mpr ⟨⟨wd_1430, wd_68, by decide, ⟨by decide, by decide⟩, by decide, rfl⟩, List.forall_mem_cons.mpr ⟨⟨wd_1434, wd_68, by decide, ⟨by decide, by decide⟩, by decide, rfl⟩, List.forall_mem_cons.mpr ⟨⟨wd_1438, wd_68, by decide, ⟨by decide, by decide⟩, by decide, rfl⟩, List.forall_mem_cons.mpr ⟨⟨wd_1442, wd_68, by decide, ⟨by decide, by decide⟩, by decide, rfl⟩, List.forall_mem_cons.mpr ⟨⟨wd_1446, wd_68, by decide, ⟨by decide, by decide⟩, by decide, rfl⟩, List.forall_mem_cons.mpr ⟨⟨wd_1450, wd_68, by decide, ⟨by decide, by decide⟩, by decide, rfl⟩, List.forall_mem_cons.mpr ⟨⟨wd_1454, wd_68, by decide, ⟨by decide, by decide⟩, by decide, rfl⟩, List.forall_mem_cons.mpr ⟨⟨wd_1458, wd_68, by decide, ⟨by decide, by decide⟩, by decide, rfl⟩, List.forall_mem_cons.mpr ⟨⟨wd_1462, wd_68, by decide, ⟨by decide, by decide⟩, by decide, rfl⟩, List.forall_mem_cons.mpr ⟨⟨wd_1466, wd_68, by decide, ⟨by decide, by decide⟩, by decide, rfl⟩, List.forall_mem_cons.mpr ⟨⟨wd_1470, wd_68, by decide, ⟨by decide, by decide⟩, by decide, rfl⟩, List.forall_mem_cons.mpr ⟨⟨wd_1474, wd_68, by decide, ⟨by decide, by decide⟩, by decide, rfl⟩, List.forall_mem_cons.mpr ⟨⟨wd_1478, wd_68, by decide, ⟨by decide, by decide⟩, by decide, rfl⟩, List.forall_mem_cons.mpr ⟨⟨wd_1482, wd_68, by decide, ⟨by decide, by decide⟩, by decide, rfl⟩, List.forall_mem_cons.mpr ⟨⟨wd_1486, wd_68, by decide, ⟨by decide, by decide⟩, by decide, rfl⟩, List.forall_mem_cons.mpr ⟨⟨wd_1490, wd_68, by decide, ⟨by decide, by decide⟩, by decide, rfl⟩, List.forall_mem_cons.mpr ⟨⟨wd_1494, wd_68, by decide, ⟨by decide, by decide⟩, by decide, rfl⟩, List.forall_mem_cons.mpr ⟨⟨wd_1498, wd_68, by decide, ⟨by decide, by decide⟩, by decide, rfl⟩, fun _ h => absurd h List.not_mem_nil⟩⟩⟩⟩⟩⟩⟩⟩⟩⟩⟩⟩⟩⟩⟩⟩⟩⟩⟩⟩⟩⟩⟩⟩⟩⟩⟩⟩⟩⟩⟩⟩⟩⟩⟩⟩⟩⟩⟩⟩
theorem okM_6 : ∀ e ∈ ((mtabC.drop 240).take 22), okM e := List.forall_mem_cons.mpr ⟨⟨wd_1502, wd_68, by decide, ⟨by decide, by decide⟩, by decide, rfl⟩, List.forall_mem_cons.mpr ⟨⟨wd_1506, wd_68, by decide, ⟨by decide, by decide⟩, by decide, rfl⟩, List.forall_mem_cons.mpr ⟨⟨wd_1510, wd_68, by decide, ⟨by decide, by decide⟩, by decide, rfl⟩, List.forall_mem_cons.mpr ⟨⟨wd_1514, wd_68, by decide, ⟨by decide, by decide⟩, by decide, rfl⟩, List.forall_mem_cons.mpr ⟨⟨wd_1518, wd_68, by decide, ⟨by decide, by decide⟩, by decide, rfl⟩, List.forall_mem_cons.mpr ⟨⟨wd_1523, wd_68, by decide, ⟨by decide, by decide⟩, by decide, rfl⟩, List.forall_mem_cons.mpr ⟨⟨wd_1527, wd_68, by decide, ⟨by decide, by decide⟩, by decide, rfl⟩, List.forall_mem_cons.mpr ⟨⟨wd_1531, wd_68, by decide, ⟨by decide, by decide⟩, by decide, rfl⟩, List.forall_mem_cons.mpr ⟨⟨wd_1536, wd_68, by decide, ⟨by decide, by decide⟩, by decide, rfl⟩, List.forall_mem_cons.mpr ⟨⟨wd_1540, wd_68, by decide, ⟨by decide, by decide⟩, by decide, rfl⟩, List.forall_mem_cons.mpr ⟨⟨wd_1547, wd_68, by decide, ⟨by decide, by decide⟩, by decide, rfl⟩, List.forall_mem_cons.mpr ⟨⟨wd_1551, wd_68, by decide, ⟨by decide, by decide⟩, by decide, rfl⟩, List.forall_mem_cons.mpr ⟨⟨wd_1555, wd_68, by decide, ⟨by decide, by decide⟩, by decide, rfl⟩, List.forall_mem_cons.mpr ⟨⟨wd_1559, wd_68, by decide, ⟨by decide, by decide⟩, by decide, rfl⟩, List.forall_mem_cons.mpr ⟨⟨wd_1563, wd_68, by decide, ⟨by decide, by decide⟩, by decide, rfl⟩, List.forall_mem_cons.mpr ⟨⟨wd_1567, wd_68, by decide, ⟨by decide, by decide⟩, by decide, rfl⟩, List.forall_mem_cons.mpr ⟨⟨wd_1571, wd_68, by decide, ⟨by decide, by decide⟩, by decide, rfl⟩, List.forall_mem_cons.mpr ⟨⟨wd_1575, wd_68, by decide, ⟨by decide, by decide⟩, by decide, rfl⟩, List.forall_mem_cons.mpr ⟨⟨wd_1579, wd_68, by decide, ⟨by decide, by decide⟩, by decide, rfl⟩, List.forall_mem_cons.mpr ⟨⟨wd_1583, wd_68, by decide, ⟨by decide, by decide⟩, by decide, rfl⟩, List.forall_mem_cons.mpr ⟨⟨wd_1586, wd_68, by decide, ⟨by decide, by decide⟩, by decide, rfl⟩, List.forall_mem_cons.mpr ⟨⟨wd_1590, wd_68, by decide, ⟨by decide, by decide⟩, by decide, rfl⟩, fun _ h => absurd h List.not_mem_nil⟩⟩⟩⟩⟩⟩⟩⟩⟩⟩⟩⟩⟩⟩⟩⟩⟩⟩⟩⟩⟩⟩
set_option maxRecDepth 100000 in
theorem okM_all : ∀ e ∈ mtabC, okM e := by
  intro e he
  obtain ⟨i, hi⟩ := List.getElem?_of_mem he
  have hl : i < 262 := by have := (List.getElem?_eq_some_iff.mp hi).1; exact this
  by_cases h0 : i < 40
  · refine okM_0 e (List.mem_of_getElem? (i := i - 0) ?_)
    rw [List.getElem?_take_of_lt (by omega), List.getElem?_drop, show 0 + (i - 0) = i by omega]
    exact hi
  by_cases h1 : i < 80
  · refine okM_1 e (List.mem_of_getElem? (i := i - 40) ?_)
    rw [List.getElem?_take_of_lt (by omega), List.getElem?_drop, show 40 + (i - 40) = i by omega]
    exact hi
  by_cases h2 : i < 120
  · refine okM_2 e (List.mem_of_getElem? (i := i - 80) ?_)
    rw [List.getElem?_take_of_lt (by omega), List.getElem?_drop, show 80 + (i - 80) = i by omega]
    exact hi
  by_cases h3 : i < 160
  · refine okM_3 e (List.mem_of_getElem? (i := i - 120) ?_)
    rw [List.getElem?_take_of_lt (by omega), List.getElem?_drop, show 120 + (i - 120) = i by omega]
    exact hi
  by_cases h4 : i < 200
  · refine okM_4 e (List.mem_of_getElem? (i := i - 160) ?_)
    rw [List.getElem?_take_of_lt (by omega), List.getElem?_drop, show 160 + (i - 160) = i by omega]
    exact hi
  by_cases h5 : i < 240
  · refine okM_5 e (List.mem_of_getElem? (i := i - 200) ?_)
    rw [List.getElem?_take_of_lt (by omega), List.getElem?_drop, show 200 + (i - 200) = i by omega]
    exact hi
  by_cases h6 : i < 262
  · refine okM_6 e (List.mem_of_getElem? (i := i - 240) ?_)
    rw [List.getElem?_take_of_lt (by omega), List.getElem?_drop, show 240 + (i - 240) = i by omega]
    exact hi
  omega
def okF (e : Nat × Nat × Nat × Nat) : Prop := ∃ r, vwCl[e.2.2.1]? = some r ∧ e.2.2.2 < r.2.2 ∧ ∃ ref : String, Cond.fieldLink (cnm e.1) e.2.1 ref (r.2.1 e.2.2.2).2.1 (r.2.1 e.2.2.2).2.2.1 ∈ WSg ∧ (ref = (r.2.1 e.2.2.2).1 ∨ Cond.sameField ref (r.2.1 e.2.2.2).1 (r.2.1 e.2.2.2).2.1 (r.2.1 e.2.2.2).2.2.1 ∈ WSg)
def fTab : List (Nat × Nat × Nat × Nat) := [(11, 17, 11, 2), (11, 28, 11, 6), (11, 32, 11, 3), (11, 38, 11, 5), (11, 42, 11, 0), (11, 63, 11, 1), (11, 70, 11, 7), (11, 79, 5, 0), (11, 83, 5, 2), (11, 93, 5, 3), (11, 107, 10, 0), (11, 125, 0, 0), (11, 125, 1, 0), (11, 125, 3, 0), (11, 125, 6, 0), (11, 125, 7, 0), (11, 125, 9, 0), (11, 128, 8, 2), (11, 142, 8, 3), (11, 158, 5, 1), (11, 188, 8, 6), (11, 191, 8, 7), (11, 194, 8, 8), (11, 197, 8, 9), (11, 209, 8, 10), (11, 212, 8, 11), (11, 215, 8, 12), (11, 221, 10, 6), (11, 227, 10, 3), (11, 230, 10, 4), (11, 233, 10, 7), (11, 236, 10, 8), (11, 242, 8, 5), (11, 261, 8, 0), (11, 273, 5, 4), (11, 288, 4, 1), (11, 294, 4, 5), (11, 297, 4, 6), (11, 300, 4, 3), (11, 327, 11, 4), (12, 9, 12, 0), (12, 13, 12, 1), (12, 16, 12, 2), (12, 19, 12, 3), (12, 22, 12, 5), (12, 25, 12, 6), (12, 28, 12, 7), (12, 31, 12, 15), (12, 34, 12, 18), (12, 37, 12, 19), (12, 40, 12, 20), (12, 43, 12, 23), (12, 46, 12, 24), (12, 49, 12, 26), (12, 52, 12, 27), (12, 55, 12, 28), (12, 58, 12, 29), (12, 61, 12, 30), (12, 64, 12, 31), (12, 75, 12, 8), (12, 79, 12, 9), (12, 82, 12, 10), (12, 85, 12, 11), (12, 156, 12, 12), (12, 159, 12, 14), (12, 162, 12, 13), (12, 222, 12, 16), (12, 225, 12, 17), (12, 248, 12, 21), (12, 251, 12, 22), (12, 279, 12, 25), (12, 288, 12, 4), (12, 292, 12, 32), (1, 15, 1, 0), (2, 7, 2, 0), (3, 11, 3, 0), (3, 11, 7, 0), (4, 9, 4, 1), (4, 15, 4, 2), (4, 18, 4, 3), (4, 21, 4, 4), (4, 25, 4, 0), (4, 33, 8, 0), (4, 60, 4, 5), (4, 64, 4, 6), (5, 9, 5, 0), (5, 15, 5, 4), (5, 19, 5, 1), (5, 23, 5, 2), (5, 26, 5, 3), (6, 7, 0, 0), (6, 7, 1, 0), (6, 7, 3, 0), (6, 7, 6, 0), (6, 7, 7, 0), (6, 7, 9, 0), (7, 11, 7, 0), (8, 9, 8, 0), (8, 17, 8, 1), (8, 21, 8, 2), (8, 24, 8, 3), (8, 27, 8, 4), (8, 30, 8, 6), (8, 33, 8, 7), (8, 36, 8, 8), (8, 39, 8, 9), (8, 42, 8, 10), (8, 45, 8, 11), (8, 57, 8, 5), (8, 98, 8, 12), (10, 9, 10, 1), (10, 15, 10, 2), (10, 19, 10, 3), (10, 22, 10, 4), (10, 25, 10, 0), (10, 41, 10, 5), (10, 45, 10, 6), (10, 48, 10, 7), (10, 51, 10, 8), (10, 54, 8, 5), (10, 61, 8, 12), (10, 92, 8, 6), (10, 95, 8, 7), (10, 141, 8, 9), (10, 144, 8, 8)]
theorem ok_fTab_0 : ∀ e ∈ ((fTab.drop 0).take 40), okF e := List.forall_mem_cons.mpr ⟨⟨_, rfl, by decide, "EngagedByDeputy", wd_324, Or.inl rfl⟩, List.forall_mem_cons.mpr ⟨⟨_, rfl, by decide, "EngagedByDeputy", wd_328, Or.inl rfl⟩, List.forall_mem_cons.mpr ⟨⟨_, rfl, by decide, "EngagedByDeputy", wd_325, Or.inl rfl⟩, List.forall_mem_cons.mpr ⟨⟨_, rfl, by decide, "EngagedByDeputy", wd_327, Or.inl rfl⟩, List.forall_mem_cons.mpr ⟨⟨_, rfl, by decide, "EngagedByDeputy", wd_322, Or.inl rfl⟩, List.forall_mem_cons.mpr ⟨⟨_, rfl, by decide, "EngagedByDeputy", wd_323, Or.inl rfl⟩, List.forall_mem_cons.mpr ⟨⟨_, rfl, by decide, "EngagedByDeputy", wd_329, Or.inl rfl⟩, List.forall_mem_cons.mpr ⟨⟨_, rfl, by decide, "EngagedByDeputy$Shelf", wd_290, Or.inl rfl⟩, List.forall_mem_cons.mpr ⟨⟨_, rfl, by decide, "EngagedByDeputy$Shelf", wd_293, Or.inl rfl⟩, List.forall_mem_cons.mpr ⟨⟨_, rfl, by decide, "EngagedByDeputy$Shelf", wd_295, Or.inl rfl⟩, List.forall_mem_cons.mpr ⟨⟨_, rfl, by decide, "EngagedByDeputy$Year", wd_209, Or.inl rfl⟩, List.forall_mem_cons.mpr ⟨⟨_, rfl, by decide, "EngagedByDeputy$Steady", wd_96, Or.inl rfl⟩, List.forall_mem_cons.mpr ⟨⟨_, rfl, by decide, "EngagedByDeputy$Steady", wd_96, Or.inl rfl⟩, List.forall_mem_cons.mpr ⟨⟨_, rfl, by decide, "EngagedByDeputy$Steady", wd_96, Or.inl rfl⟩, List.forall_mem_cons.mpr ⟨⟨_, rfl, by decide, "EngagedByDeputy$Steady", wd_96, Or.inl rfl⟩, List.forall_mem_cons.mpr ⟨⟨_, rfl, by decide, "EngagedByDeputy$Steady", wd_96, Or.inl rfl⟩, List.forall_mem_cons.mpr ⟨⟨_, rfl, by decide, "EngagedByDeputy$Steady", wd_96, Or.inl rfl⟩, List.forall_mem_cons.mpr ⟨⟨_, rfl, by decide, "EngagedByDeputy$Valley", wd_115, Or.inl rfl⟩, List.forall_mem_cons.mpr ⟨⟨_, rfl, by decide, "EngagedByDeputy$Valley", wd_117, Or.inl rfl⟩, List.forall_mem_cons.mpr ⟨⟨_, rfl, by decide, "EngagedByDeputy$Shelf", wd_292, Or.inl rfl⟩, List.forall_mem_cons.mpr ⟨⟨_, rfl, by decide, "EngagedByDeputy$Valley", wd_124, Or.inl rfl⟩, List.forall_mem_cons.mpr ⟨⟨_, rfl, by decide, "EngagedByDeputy$Valley", wd_127, Or.inl rfl⟩, List.forall_mem_cons.mpr ⟨⟨_, rfl, by decide, "EngagedByDeputy$Valley", wd_129, Or.inl rfl⟩, List.forall_mem_cons.mpr ⟨⟨_, rfl, by decide, "EngagedByDeputy$Valley", wd_132, Or.inl rfl⟩, List.forall_mem_cons.mpr ⟨⟨_, rfl, by decide, "EngagedByDeputy$Valley", wd_135, Or.inl rfl⟩, List.forall_mem_cons.mpr ⟨⟨_, rfl, by decide, "EngagedByDeputy$Valley", wd_137, Or.inl rfl⟩, List.forall_mem_cons.mpr ⟨⟨_, rfl, by decide, "EngagedByDeputy$Valley", wd_139, Or.inl rfl⟩, List.forall_mem_cons.mpr ⟨⟨_, rfl, by decide, "EngagedByDeputy$Year", wd_218, Or.inl rfl⟩, List.forall_mem_cons.mpr ⟨⟨_, rfl, by decide, "EngagedByDeputy$Year", wd_213, Or.inl rfl⟩, List.forall_mem_cons.mpr ⟨⟨_, rfl, by decide, "EngagedByDeputy$Year", wd_215, Or.inl rfl⟩, List.forall_mem_cons.mpr ⟨⟨_, rfl, by decide, "EngagedByDeputy$Year", wd_220, Or.inl rfl⟩, List.forall_mem_cons.mpr ⟨⟨_, rfl, by decide, "EngagedByDeputy$Year", wd_222, Or.inl rfl⟩, List.forall_mem_cons.mpr ⟨⟨_, rfl, by decide, "EngagedByDeputy$Valley", wd_121, Or.inl rfl⟩, List.forall_mem_cons.mpr ⟨⟨_, rfl, by decide, "EngagedByDeputy$Valley", wd_112, Or.inl rfl⟩, List.forall_mem_cons.mpr ⟨⟨_, rfl, by decide, "EngagedByDeputy$Shelf", wd_298, Or.inl rfl⟩, List.forall_mem_cons.mpr ⟨⟨_, rfl, by decide, "EngagedByDeputy$Matching", wd_177, Or.inl rfl⟩, List.forall_mem_cons.mpr ⟨⟨_, rfl, by decide, "EngagedByDeputy$Matching", wd_183, Or.inl rfl⟩, List.forall_mem_cons.mpr ⟨⟨_, rfl, by decide, "EngagedByDeputy$Matching", wd_185, Or.inl rfl⟩, List.forall_mem_cons.mpr ⟨⟨_, rfl, by decide, "EngagedByDeputy$Matching", wd_180, Or.inl rfl⟩, List.forall_mem_cons.mpr ⟨⟨_, rfl, by decide, "EngagedByDeputy", wd_326, Or.inl rfl⟩, fun _ h => absurd h List.not_mem_nil⟩⟩⟩⟩⟩⟩⟩⟩⟩⟩⟩⟩⟩⟩⟩⟩⟩⟩⟩⟩⟩⟩⟩⟩⟩⟩⟩⟩⟩⟩⟩⟩⟩⟩⟩⟩⟩⟩⟩⟩
theorem ok_fTab_1 : ∀ e ∈ ((fTab.drop 40).take 40), okF e := List.forall_mem_cons.mpr ⟨⟨_, rfl, by decide, "EngagedByDeputyModel", wd_1114, Or.inl rfl⟩, List.forall_mem_cons.mpr ⟨⟨_, rfl, by decide, "EngagedByDeputyModel", wd_1115, Or.inl rfl⟩, List.forall_mem_cons.mpr ⟨⟨_, rfl, by decide, "EngagedByDeputyModel", wd_1116, Or.inl rfl⟩, List.forall_mem_cons.mpr ⟨⟨_, rfl, by decide, "EngagedByDeputyModel", wd_1117, Or.inl rfl⟩, List.forall_mem_cons.mpr ⟨⟨_, rfl, by decide, "EngagedByDeputyModel", wd_1119, Or.inl rfl⟩, List.forall_mem_cons.mpr ⟨⟨_, rfl, by decide, "EngagedByDeputyModel", wd_1120, Or.inl rfl⟩, List.forall_mem_cons.mpr ⟨⟨_, rfl, by decide, "EngagedByDeputyModel", wd_1121, Or.inl rfl⟩, List.forall_mem_cons.mpr ⟨⟨_, rfl, by decide, "EngagedByDeputyModel", wd_1129, Or.inl rfl⟩, List.forall_mem_cons.mpr ⟨⟨_, rfl, by decide, "EngagedByDeputyModel", wd_1132, Or.inl rfl⟩, List.forall_mem_cons.mpr ⟨⟨_, rfl, by decide, "EngagedByDeputyModel", wd_1133, Or.inl rfl⟩, List.forall_mem_cons.mpr ⟨⟨_, rfl, by decide, "EngagedByDeputyModel", wd_1134, Or.inl rfl⟩, List.forall_mem_cons.mpr ⟨⟨_, rfl, by decide, "EngagedByDeputyModel", wd_1137, Or.inl rfl⟩, List.forall_mem_cons.mpr ⟨⟨_, rfl, by decide, "EngagedByDeputyModel", wd_1138, Or.inl rfl⟩, List.forall_mem_cons.mpr ⟨⟨_, rfl, by decide, "EngagedByDeputyModel", wd_1140, Or.inl rfl⟩, List.forall_mem_cons.mpr ⟨⟨_, rfl, by decide, "EngagedByDeputyModel", wd_1141, Or.inl rfl⟩, List.forall_mem_cons.mpr ⟨⟨_, rfl, by decide, "EngagedByDeputyModel", wd_1142, Or.inl rfl⟩, List.forall_mem_cons.mpr ⟨⟨_, rfl, by decide, "EngagedByDeputyModel", wd_1143, Or.inl rfl⟩, List.forall_mem_cons.mpr ⟨⟨_, rfl, by decide, "EngagedByDeputyModel", wd_1144, Or.inl rfl⟩, List.forall_mem_cons.mpr ⟨⟨_, rfl, by decide, "EngagedByDeputyModel", wd_1145, Or.inl rfl⟩, List.forall_mem_cons.mpr ⟨⟨_, rfl, by decide, "EngagedByDeputyModel", wd_1122, Or.inl rfl⟩, List.forall_mem_cons.mpr ⟨⟨_, rfl, by decide, "EngagedByDeputyModel", wd_1123, Or.inl rfl⟩, List.forall_mem_cons.mpr ⟨⟨_, rfl, by decide, "EngagedByDeputyModel", wd_1124, Or.inl rfl⟩, List.forall_mem_cons.mpr ⟨⟨_, rfl, by decide, "EngagedByDeputyModel", wd_1125, Or.inl rfl⟩, List.forall_mem_cons.mpr ⟨⟨_, rfl, by decide, "EngagedByDeputyModel", wd_1126, Or.inl rfl⟩, List.forall_mem_cons.mpr ⟨⟨_, rfl, by decide, "EngagedByDeputyModel", wd_1128, Or.inl rfl⟩, List.forall_mem_cons.mpr ⟨⟨_, rfl, by decide, "EngagedByDeputyModel", wd_1127, Or.inl rfl⟩, List.forall_mem_cons.mpr ⟨⟨_, rfl, by decide, "EngagedByDeputyModel", wd_1130, Or.inl rfl⟩, List.forall_mem_cons.mpr ⟨⟨_, rfl, by decide, "EngagedByDeputyModel", wd_1131, Or.inl rfl⟩, List.forall_mem_cons.mpr ⟨⟨_, rfl, by decide, "EngagedByDeputyModel", wd_1135, Or.inl rfl⟩, List.forall_mem_cons.mpr ⟨⟨_, rfl, by decide, "EngagedByDeputyModel", wd_1136, Or.inl rfl⟩, List.forall_mem_cons.mpr ⟨⟨_, rfl, by decide, "EngagedByDeputyModel", wd_1139, Or.inl rfl⟩, List.forall_mem_cons.mpr ⟨⟨_, rfl, by decide, "EngagedByDeputyModel", wd_1118, Or.inl rfl⟩, List.forall_mem_cons.mpr ⟨⟨_, rfl, by decide, "EngagedByDeputyModel", wd_1146, Or.inl rfl⟩, List.forall_mem_cons.mpr ⟨⟨_, rfl, by decide, "EngagedByDeputy$Faithful", wd_97, Or.inr wd_98⟩, List.forall_mem_cons.mpr ⟨⟨_, rfl, by decide, "EngagedByDeputy$Figure", wd_318, Or.inl rfl⟩, List.forall_mem_cons.mpr ⟨⟨_, rfl, by decide, "EngagedByDeputy$Jealous", wd_92, Or.inr wd_93⟩, List.forall_mem_cons.mpr ⟨⟨_, rfl, by decide, "EngagedByDeputy$Jealous", wd_92, Or.inr wd_93⟩, List.forall_mem_cons.mpr ⟨⟨_, rfl, by decide, "EngagedByDeputy$Matching", wd_176, Or.inl rfl⟩, List.forall_mem_cons.mpr ⟨⟨_, rfl, by decide, "EngagedByDeputy$Matching", wd_178, Or.inl rfl⟩, List.forall_mem_cons.mpr ⟨⟨_, rfl, by decide, "EngagedByDeputy$Matching", wd_179, Or.inl rfl⟩, fun _ h => absurd h List.not_mem_nil⟩⟩⟩⟩⟩⟩⟩⟩⟩⟩⟩⟩⟩⟩⟩⟩⟩⟩⟩⟩⟩⟩⟩⟩⟩⟩⟩⟩⟩⟩⟩⟩⟩⟩⟩⟩⟩⟩⟩⟩
theorem ok_fTab_2 : ∀ e ∈ ((fTab.drop 80).take 40), okF e := List.forall_mem_cons.mpr ⟨⟨_, rfl, by decide, "EngagedByDeputy$Matching", wd_181, Or.inl rfl⟩, List.forall_mem_cons.mpr ⟨⟨_, rfl, by decide, "EngagedByDeputy$Matching", wd_175, Or.inl rfl⟩, List.forall_mem_cons.mpr ⟨⟨_, rfl, by decide, "EngagedByDeputy$Valley", wd_111, Or.inl rfl⟩, List.forall_mem_cons.mpr ⟨⟨_, rfl, by decide, "EngagedByDeputy$Matching", wd_182, Or.inl rfl⟩, List.forall_mem_cons.mpr ⟨⟨_, rfl, by decide, "EngagedByDeputy$Matching", wd_184, Or.inl rfl⟩, List.forall_mem_cons.mpr ⟨⟨_, rfl, by decide, "EngagedByDeputy$Shelf", wd_289, Or.inl rfl⟩, List.forall_mem_cons.mpr ⟨⟨_, rfl, by decide, "EngagedByDeputy$Shelf", wd_297, Or.inl rfl⟩, List.forall_mem_cons.mpr ⟨⟨_, rfl, by decide, "EngagedByDeputy$Shelf", wd_291, Or.inl rfl⟩, List.forall_mem_cons.mpr ⟨⟨_, rfl, by decide, "EngagedByDeputy$Shelf", wd_294, Or.inl rfl⟩, List.forall_mem_cons.mpr ⟨⟨_, rfl, by decide, "EngagedByDeputy$Shelf", wd_296, Or.inl rfl⟩, List.forall_mem_cons.mpr ⟨⟨_, rfl, by decide, "EngagedByDeputy$Steady", wd_91, Or.inl rfl⟩, List.forall_mem_cons.mpr ⟨⟨_, rfl, by decide, "EngagedByDeputy$Steady", wd_91, Or.inl rfl⟩, List.forall_mem_cons.mpr ⟨⟨_, rfl, by decide, "EngagedByDeputy$Steady", wd_91, Or.inl rfl⟩, List.forall_mem_cons.mpr ⟨⟨_, rfl, by decide, "EngagedByDeputy$Steady", wd_91, Or.inl rfl⟩, List.forall_mem_cons.mpr ⟨⟨_, rfl, by decide, "EngagedByDeputy$Steady", wd_91, Or.inl rfl⟩, List.forall_mem_cons.mpr ⟨⟨_, rfl, by decide, "EngagedByDeputy$Steady", wd_91, Or.inl rfl⟩, List.forall_mem_cons.mpr ⟨⟨_, rfl, by decide, "EngagedByDeputy$Vain", wd_94, Or.inr wd_95⟩, List.forall_mem_cons.mpr ⟨⟨_, rfl, by decide, "EngagedByDeputy$Valley", wd_110, Or.inl rfl⟩, List.forall_mem_cons.mpr ⟨⟨_, rfl, by decide, "EngagedByDeputy$Valley", wd_113, Or.inl rfl⟩, List.forall_mem_cons.mpr ⟨⟨_, rfl, by decide, "EngagedByDeputy$Valley", wd_114, Or.inl rfl⟩, List.forall_mem_cons.mpr ⟨⟨_, rfl, by decide, "EngagedByDeputy$Valley", wd_116, Or.inl rfl⟩, List.forall_mem_cons.mpr ⟨⟨_, rfl, by decide, "EngagedByDeputy$Valley", wd_118, Or.inl rfl⟩, List.forall_mem_cons.mpr ⟨⟨_, rfl, by decide, "EngagedByDeputy$Valley", wd_122, Or.inl rfl⟩, List.forall_mem_cons.mpr ⟨⟨_, rfl, by decide, "EngagedByDeputy$Valley", wd_125, Or.inl rfl⟩, List.forall_mem_cons.mpr ⟨⟨_, rfl, by decide, "EngagedByDeputy$Valley", wd_128, Or.inl rfl⟩, List.forall_mem_cons.mpr ⟨⟨_, rfl, by decide, "EngagedByDeputy$Valley", wd_131, Or.inl rfl⟩, List.forall_mem_cons.mpr ⟨⟨_, rfl, by decide, "EngagedByDeputy$Valley", wd_134, Or.inl rfl⟩, List.forall_mem_cons.mpr ⟨⟨_, rfl, by decide, "EngagedByDeputy$Valley", wd_136, Or.inl rfl⟩, List.forall_mem_cons.mpr ⟨⟨_, rfl, by decide, "EngagedByDeputy$Valley", wd_119, Or.inl rfl⟩, List.forall_mem_cons.mpr ⟨⟨_, rfl, by decide, "EngagedByDeputy$Valley", wd_140, Or.inl rfl⟩, List.forall_mem_cons.mpr ⟨⟨_, rfl, by decide, "EngagedByDeputy$Year", wd_210, Or.inl rfl⟩, List.forall_mem_cons.mpr ⟨⟨_, rfl, by decide, "EngagedByDeputy$Year", wd_211, Or.inl rfl⟩, List.forall_mem_cons.mpr ⟨⟨_, rfl, by decide, "EngagedByDeputy$Year", wd_212, Or.inl rfl⟩, List.forall_mem_cons.mpr ⟨⟨_, rfl, by decide, "EngagedByDeputy$Year", wd_214, Or.inl rfl⟩, List.forall_mem_cons.mpr ⟨⟨_, rfl, by decide, "EngagedByDeputy$Year", wd_208, Or.inl rfl⟩, List.forall_mem_cons.mpr ⟨⟨_, rfl, by decide, "EngagedByDeputy$Year", wd_216, Or.inl rfl⟩, List.forall_mem_cons.mpr ⟨⟨_, rfl, by decide, "EngagedByDeputy$Year", wd_217, Or.inl rfl⟩, List.forall_mem_cons.mpr ⟨⟨_, rfl, by decide, "EngagedByDeputy$Year", wd_219, Or.inl rfl⟩, List.forall_mem_cons.mpr ⟨⟨_, rfl, by decide, "EngagedByDeputy$Year", wd_221, Or.inl rfl⟩, List.forall_mem_cons.mpr ⟨⟨_, rfl, by decide, "EngagedByDeputy$Valley", wd_120, Or.inl rfl⟩, fun _ h => absurd h List.not_mem_nil⟩⟩⟩⟩⟩⟩⟩⟩⟩⟩⟩⟩⟩⟩⟩⟩⟩⟩⟩⟩⟩⟩⟩⟩⟩⟩⟩⟩⟩⟩⟩⟩⟩⟩⟩⟩⟩⟩⟩⟩
theorem ok_fTab_3 : ∀ e ∈ ((fTab.drop 120).take 5), okF e := List.forall_mem_cons.mpr ⟨⟨_, rfl, by decide, "EngagedByDeputy$Valley", wd_138, Or.inl rfl⟩, List.forall_mem_cons.mpr ⟨⟨_, rfl, by decide, "EngagedByDeputy$Valley", wd_123, Or.inl rfl⟩, List.forall_mem_cons.mpr ⟨⟨_, rfl, by decide, "EngagedByDeputy$Valley", wd_126, Or.inl rfl⟩, List.forall_mem_cons.mpr ⟨⟨_, rfl, by decide, "EngagedByDeputy$Valley", wd_133, Or.inl rfl⟩, List.forall_mem_cons.mpr ⟨⟨_, rfl, by decide, "EngagedByDeputy$Valley", wd_130, Or.inl rfl⟩, fun _ h => absurd h List.not_mem_nil⟩⟩⟩⟩⟩
set_option maxRecDepth 100000 in
theorem ok_fTab_all : ∀ e ∈ fTab, okF e := by
  intro e he
  obtain ⟨i, hi⟩ := List.getElem?_of_mem he
  have hl : i < 125 := by have := (List.getElem?_eq_some_iff.mp hi).1; exact this
  by_cases h0 : i < 40
  · refine ok_fTab_0 e (List.mem_of_getElem? (i := i - 0) ?_)
    rw [List.getElem?_take_of_lt (by omega), List.getElem?_drop, show 0 + (i - 0) = i by omega]
    exact hi
  by_cases h1 : i < 80
  · refine ok_fTab_1 e (List.mem_of_getElem? (i := i - 40) ?_)
    rw [List.getElem?_take_of_lt (by omega), List.getElem?_drop, show 40 + (i - 40) = i by omega]
    exact hi
  by_cases h2 : i < 120
  · refine ok_fTab_2 e (List.mem_of_getElem? (i := i - 80) ?_)
    rw [List.getElem?_take_of_lt (by omega), List.getElem?_drop, show 80 + (i - 80) = i by omega]
    exact hi
  by_cases h3 : i < 125
  · refine ok_fTab_3 e (List.mem_of_getElem? (i := i - 120) ?_)
    rw [List.getElem?_take_of_lt (by omega), List.getElem?_drop, show 120 + (i - 120) = i by omega]
    exact hi
  omega
/-- words that do not keep by themselves: they ride with the world -/
def xW : List Jvm.Cond := [(Jvm.Cond.arrayOver (Jvm.ClassFile.FieldType.object "EngagedByDeputy$Steady")), (Jvm.Cond.arrayOver (Jvm.ClassFile.FieldType.object "EngagedByDeputy$Shelf")), (Jvm.Cond.arrayOver (Jvm.ClassFile.FieldType.object "EngagedByDeputy$Figure")), (Jvm.Cond.methodLinkNest "EngagedByDeputy" (74 : Nat) ({ cls := "EngagedByDeputy$Figure", name := "<init>", desc := "()V" } : Jvm.MethodName) "EngagedByDeputy"), (Jvm.Cond.methodLinkNest "EngagedByDeputy$Valley" (49 : Nat) ({ cls := "EngagedByDeputy", name := "isSide", desc := "(I)Z" } : Jvm.MethodName) "EngagedByDeputy"), (Jvm.Cond.methodLinkNest "EngagedByDeputy$Valley" (86 : Nat) ({ cls := "EngagedByDeputy", name := "isDeed", desc := "(I)Z" } : Jvm.MethodName) "EngagedByDeputy"), (Jvm.Cond.declares ({ cls := "EngagedByDeputy$Warm", name := "growth", desc := "(Z)I" } : Jvm.MethodName)), (Jvm.Cond.declares ({ cls := "EngagedByDeputy$Steady", name := "sulking", desc := "()I" } : Jvm.MethodName)), (Jvm.Cond.castable "EngagedByDeputy$Warm" "EngagedByDeputy$Steady"), (Jvm.Cond.castable "EngagedByDeputy$Cool" "EngagedByDeputy$Steady"), (Jvm.Cond.castable "EngagedByDeputy$Jealous" "EngagedByDeputy$Steady"), (Jvm.Cond.castable "EngagedByDeputy$Vain" "EngagedByDeputy$Steady"), (Jvm.Cond.castable "EngagedByDeputy$Faithful" "EngagedByDeputy$Steady")]
def nOf (d : String) : Option Nat := (parseMethodDescriptor d).map (fun d => d.parameters.length)
/-- a call: the class, the entry, the receiver's class (99: none), the method, how many arguments, the kind -/
abbrev cE : Type := Nat × Nat × Nat × Nat × Nat × Nat
def okS (e : cE) : Prop := ∃ q, mtabC[e.2.2.2.1]? = some q ∧ Cond.methodLink (cnm e.1) e.2.1 q.1 ∈ WSg ∧ Cond.static q.1 ∈ WSg ∧ nOf q.1.desc = some e.2.2.2.2.1
def okSN (e : cE) : Prop := ∃ q, mtabC[e.2.2.2.1]? = some q ∧ ∃ host : String, Cond.methodLinkNest (cnm e.1) e.2.1 q.1 host ∈ xW ∧ Cond.static q.1 ∈ WSg ∧ nOf q.1.desc = some e.2.2.2.2.1
def okV (e : cE) : Prop := ∃ q, mtabC[e.2.2.2.1]? = some q ∧ Cond.methodLink (cnm e.1) e.2.1 q.1 ∈ WSg ∧ Cond.instanceMethod q.1 ∈ WSg ∧ Cond.selects (cnm e.2.2.1) q.1 q.1 ∈ WSg ∧ q.1.cls = cnm e.2.2.1 ∧ nOf q.1.desc = some e.2.2.2.2.1
def okU (e : cE) : Prop := ∃ q, mtabC[e.2.2.2.1]? = some q ∧ ∃ (x : MethodName) (owner : String), Cond.methodLink (cnm e.1) e.2.1 x ∈ WSg ∧ Cond.sameMethod x.cls owner x.name x.desc ∈ WSg ∧ Cond.selects (cnm e.2.2.1) x q.1 ∈ WSg ∧ Cond.instanceMethod q.1 ∈ WSg ∧ owner ≠ "java/lang/invoke/MethodHandle" ∧ owner ≠ "java/lang/invoke/VarHandle" ∧ nOf x.desc = some e.2.2.2.2.1 ∧
  ((Cond.instanceMethod ⟨owner, x.name, x.desc⟩ ∈ WSg ∧ ∃ (b : ByteArray) (ml : Nat) (r : Option FieldType), Cond.code ⟨owner, x.name, x.desc⟩ b ml r ∈ WSg) ∨ Cond.declares ⟨owner, x.name, x.desc⟩ ∈ xW)
def okI (e : cE) : Prop := ∃ q, mtabC[e.2.2.2.1]? = some q ∧ Cond.methodLink (cnm e.1) e.2.1 q.1 ∈ WSg ∧ Cond.instanceMethod q.1 ∈ WSg ∧ q.1.name = "<init>" ∧ nOf q.1.desc = some e.2.2.2.2.1
def okIN (e : cE) : Prop := ∃ q, mtabC[e.2.2.2.1]? = some q ∧ ∃ host : String, Cond.methodLinkNest (cnm e.1) e.2.1 q.1 host ∈ xW ∧ Cond.instanceMethod q.1 ∈ WSg ∧ q.1.name = "<init>" ∧ nOf q.1.desc = some e.2.2.2.2.1
def okSu (e : cE) : Prop := ∃ q, mtabC[e.2.2.2.1]? = some q ∧ Cond.methodLink (cnm e.1) e.2.1 q.1 ∈ WSg ∧ Cond.sameMethod q.1.cls q.1.cls q.1.name q.1.desc ∈ WSg ∧ Cond.superclass (cnm e.1) q.1.cls ∈ WSg ∧ Cond.instanceMethod q.1 ∈ WSg ∧ q.1.name ≠ "<init>" ∧ nOf q.1.desc = some e.2.2.2.2.1
def okSU (e : cE) : Prop := ∃ q, mtabC[e.2.2.2.1]? = some q ∧ ∃ x : MethodName, q.1.name = x.name ∧ q.1.desc = x.desc ∧ Cond.methodLink (cnm e.1) e.2.1 x ∈ WSg ∧ Cond.sameMethod x.cls q.1.cls x.name x.desc ∈ WSg ∧ Cond.superclass (cnm e.1) x.cls ∈ WSg ∧ Cond.superclass x.cls q.1.cls ∈ WSg ∧ Cond.instanceMethod q.1 ∈ WSg ∧ x.name ≠ "<init>" ∧ nOf x.desc = some e.2.2.2.2.1
def okC (e : cE) : Prop := match e.2.2.2.2.2 with
  | 0 => okS e
  | 1 => okSN e
  | 2 => okV e
  | 3 => okU e
  | 4 => okI e
  | 5 => okIN e
  | 6 => okSu e
  | 7 => okSU e
  | _ => True
def cTab : List (cE) := [(11, 9, 99, 49, 1, 4), (11, 14, 99, 63, 1, 4), (11, 25, 99, 23, 1, 4), (11, 37, 99, 89, 1, 4), (11, 48, 99, 84, 1, 4), (11, 51, 99, 0, 1, 4), (11, 54, 99, 17, 1, 4), (11, 57, 99, 56, 1, 4), (11, 60, 99, 6, 1, 4), (11, 67, 99, 37, 1, 4), (11, 74, 99, 12, 0, 5), (11, 75, 99, 108, 1, 0), (11, 86, 99, 109, 1, 0), (11, 90, 10, 90, 1, 2), (11, 96, 5, 38, 1, 2), (11, 100, 99, 110, 1, 0), (11, 103, 11, 112, 2, 2), (11, 110, 8, 64, 1, 2), (11, 113, 8, 68, 2, 2), (11, 117, 8, 76, 2, 2), (11, 121, 0, 3, 0, 3), (11, 121, 1, 8, 0, 3), (11, 121, 3, 19, 0, 3), (11, 121, 6, 52, 0, 2), (11, 121, 7, 59, 0, 3), (11, 121, 9, 86, 0, 3), (11, 132, 99, 66, 2, 0), (11, 136, 99, 117, 1, 0), (11, 139, 0, 2, 0, 3), (11, 139, 1, 51, 0, 3), (11, 139, 3, 18, 0, 3), (11, 139, 6, 51, 0, 2), (11, 139, 7, 58, 0, 3), (11, 139, 9, 51, 0, 3), (11, 145, 0, 1, 1, 3), (11, 145, 1, 7, 1, 3), (11, 145, 3, 85, 1, 3), (11, 145, 6, 50, 1, 2), (11, 145, 7, 57, 1, 3), (11, 145, 9, 85, 1, 3), (11, 149, 0, 4, 1, 3), (11, 149, 1, 9, 1, 3), (11, 149, 3, 20, 1, 3), (11, 149, 6, 53, 1, 2), (11, 149, 7, 60, 1, 3), (11, 149, 9, 87, 1, 3), (11, 152, 99, 114, 1, 0), (11, 155, 5, 41, 0, 2), (11, 162, 8, 65, 2, 2), (11, 166, 8, 67, 3, 2), (11, 170, 8, 78, 3, 2), (11, 174, 8, 69, 4, 2), (11, 178, 8, 70, 3, 2), (11, 182, 8, 71, 2, 2), (11, 185, 8, 81, 1, 2), (11, 200, 8, 73, 1, 2), (11, 203, 8, 74, 2, 2), (11, 206, 99, 115, 1, 0), (11, 218, 10, 93, 1, 2), (11, 224, 99, 130, 1, 0), (11, 239, 8, 82, 1, 2), (11, 245, 10, 91, 0, 2), (11, 248, 10, 92, 1, 2), (11, 251, 11, 136, 0, 2), (11, 254, 10, 103, 0, 2), (11, 257, 10, 104, 0, 2), (11, 264, 11, 138, 3, 2), (11, 267, 5, 42, 0, 2), (11, 270, 4, 24, 0, 2), (11, 279, 4, 25, 2, 2), (11, 282, 4, 27, 0, 2), (11, 285, 4, 29, 0, 2), (11, 291, 4, 33, 0, 2), (11, 303, 11, 146, 3, 2), (11, 306, 5, 43, 1, 2), (11, 309, 2, 13, 1, 2), (11, 313, 2, 14, 1, 2), (11, 316, 2, 16, 3, 2), (11, 320, 5, 44, 0, 2), (11, 324, 8, 83, 1, 2), (11, 331, 99, 113, 1, 0), (11, 334, 5, 45, 1, 2), (11, 337, 5, 46, 2, 2), (11, 341, 5, 39, 1, 2), (11, 344, 5, 47, 2, 2), (11, 359, 5, 48, 2, 2), (11, 368, 0, 5, 0, 3), (11, 368, 1, 10, 0, 3), (11, 368, 3, 21, 0, 3), (11, 368, 6, 54, 0, 2), (11, 368, 7, 61, 0, 3), (11, 368, 9, 88, 0, 3), (11, 371, 0, 55, 0, 3), (11, 371, 1, 11, 0, 3), (11, 371, 3, 22, 0, 3), (11, 371, 6, 55, 0, 2), (11, 371, 7, 62, 0, 3), (11, 371, 9, 55, 0, 3), (11, 376, 99, 111, 1, 0), (11, 379, 5, 40, 1, 2), (12, 67, 99, 167, 3, 0), (12, 71, 99, 191, 2, 0), (12, 88, 99, 174, 3, 0), (12, 92, 99, 178, 2, 0), (12, 95, 99, 182, 2, 0), (12, 99, 99, 190, 2, 0), (12, 102, 99, 193, 2, 0), (12, 105, 99, 187, 3, 0), (12, 109, 99, 175, 3, 0), (12, 112, 99, 188, 3, 0), (12, 116, 99, 189, 3, 0), (12, 120, 99, 192, 3, 0), (12, 124, 12, 195, 3, 2), (12, 127, 99, 184, 4, 0), (12, 131, 99, 185, 2, 0), (12, 135, 99, 186, 3, 0), (12, 138, 12, 194, 5, 2), (12, 142, 12, 183, 3, 2), (12, 145, 99, 171, 2, 0), (12, 149, 12, 180, 0, 2), (12, 152, 12, 181, 1, 2), (12, 165, 12, 169, 0, 2), (12, 169, 12, 170, 2, 2), (12, 172, 12, 173, 3, 2), (12, 175, 12, 176, 2, 2), (12, 178, 12, 177, 2, 2), (12, 181, 12, 179, 2, 2), (12, 184, 12, 165, 2, 2), (12, 187, 12, 168, 0, 2), (12, 191, 12, 172, 1, 2), (12, 195, 99, 197, 1, 0), (12, 199, 99, 200, 3, 0), (12, 202, 99, 166, 1, 0), (12, 205, 12, 202, 1, 2), (12, 208, 12, 208, 1, 2), (12, 211, 12, 213, 1, 2), (12, 215, 99, 218, 2, 0), (12, 219, 12, 221, 1, 2), (12, 228, 12, 220, 3, 2), (12, 233, 12, 226, 1, 2), (12, 236, 12, 225, 0, 2), (12, 239, 12, 229, 2, 2), (12, 242, 12, 230, 3, 2), (12, 245, 12, 228, 0, 2), (12, 254, 12, 234, 0, 2), (12, 257, 12, 233, 3, 2), (12, 260, 12, 232, 0, 2), (12, 263, 12, 238, 3, 2), (12, 266, 12, 241, 3, 2), (12, 271, 12, 244, 2, 2), (12, 275, 12, 246, 3, 2), (12, 285, 12, 249, 1, 2), (12, 295, 99, 260, 2, 0), (0, 1, 99, 49, 1, 4), (0, 7, 99, 50, 1, 6), (0, 11, 99, 51, 0, 6), (0, 15, 99, 53, 1, 6), (0, 19, 99, 54, 0, 6), (1, 1, 99, 49, 1, 4), (1, 7, 99, 50, 1, 6), (1, 11, 99, 54, 0, 6), (2, 15, 2, 15, 1, 2), (3, 1, 99, 84, 1, 4), (3, 7, 99, 51, 0, 7), (3, 17, 99, 87, 1, 6), (3, 27, 99, 88, 0, 6), (3, 30, 3, 18, 0, 2), (3, 30, 7, 58, 0, 3), (4, 29, 4, 26, 2, 2), (4, 38, 4, 28, 4, 2), (4, 42, 8, 78, 3, 2), (4, 46, 4, 24, 0, 2), (4, 49, 4, 30, 1, 2), (4, 53, 4, 31, 3, 2), (4, 57, 4, 32, 2, 2), (4, 73, 99, 34, 4, 0), (4, 77, 4, 35, 1, 2), (4, 80, 4, 25, 2, 2), (4, 84, 4, 36, 2, 2), (4, 87, 4, 27, 0, 2), (5, 35, 5, 39, 1, 2), (5, 39, 5, 38, 1, 2), (7, 1, 99, 17, 1, 4), (7, 7, 99, 85, 1, 7), (7, 17, 99, 18, 0, 6), (7, 21, 99, 20, 1, 6), (7, 25, 99, 21, 0, 6), (8, 49, 99, 114, 1, 1), (8, 53, 8, 68, 2, 2), (8, 60, 99, 66, 2, 0), (8, 72, 8, 78, 3, 2), (8, 76, 8, 69, 4, 2), (8, 80, 8, 72, 2, 2), (8, 83, 8, 73, 1, 2), (8, 86, 99, 115, 1, 1), (9, 1, 99, 49, 1, 4), (9, 7, 99, 50, 1, 6), (9, 11, 99, 53, 1, 6), (9, 15, 99, 54, 0, 6), (10, 29, 10, 91, 0, 2), (10, 32, 10, 92, 1, 2), (10, 36, 8, 64, 1, 2), (10, 57, 10, 105, 2, 2), (10, 64, 8, 73, 1, 2), (10, 68, 10, 94, 1, 2), (10, 71, 10, 102, 1, 2), (10, 75, 8, 74, 2, 2), (10, 79, 10, 95, 2, 2), (10, 83, 99, 66, 2, 0), (10, 86, 10, 96, 2, 2), (10, 89, 10, 97, 2, 2), (10, 98, 8, 79, 2, 2), (10, 101, 10, 98, 3, 2), (10, 105, 10, 101, 1, 2), (10, 108, 8, 72, 2, 2), (10, 111, 8, 75, 2, 2), (10, 114, 8, 76, 2, 2), (10, 118, 0, 1, 1, 3), (10, 118, 1, 7, 1, 3), (10, 118, 3, 85, 1, 3), (10, 118, 6, 50, 1, 2), (10, 118, 7, 57, 1, 3), (10, 118, 9, 85, 1, 3), (10, 124, 8, 77, 4, 2), (10, 128, 0, 2, 0, 3), (10, 128, 1, 51, 0, 3), (10, 128, 3, 18, 0, 3), (10, 128, 6, 51, 0, 2), (10, 128, 7, 58, 0, 3), (10, 128, 9, 51, 0, 3), (10, 132, 10, 99, 2, 2), (10, 135, 8, 80, 2, 2), (10, 138, 10, 100, 2, 2), (13, 7, 11, 162, 2, 2), (13, 17, 99, 106, 0, 4), (13, 20, 99, 163, 0, 4), (13, 21, 11, 107, 1, 2), (13, 25, 12, 164, 1, 2), (13, 26, 11, 116, 3, 2), (13, 30, 12, 196, 3, 2), (13, 31, 11, 118, 3, 2), (13, 34, 12, 198, 3, 2), (13, 35, 11, 119, 3, 2), (13, 38, 12, 199, 3, 2), (13, 39, 11, 120, 2, 2), (13, 43, 12, 201, 2, 2), (13, 44, 11, 121, 3, 2), (13, 47, 12, 203, 3, 2), (13, 48, 11, 122, 4, 2), (13, 52, 12, 204, 4, 2), (13, 53, 11, 123, 3, 2), (13, 56, 12, 205, 3, 2), (13, 57, 11, 124, 2, 2), (13, 60, 12, 206, 2, 2), (13, 61, 11, 125, 2, 2), (13, 64, 12, 207, 2, 2), (13, 65, 11, 126, 2, 2), (13, 68, 12, 209, 2, 2), (13, 69, 11, 127, 1, 2), (13, 72, 12, 210, 1, 2), (13, 73, 11, 128, 1, 2), (13, 76, 12, 211, 1, 2), (13, 77, 11, 129, 3, 2), (13, 80, 12, 212, 3, 2), (13, 81, 11, 131, 4, 2), (13, 84, 12, 214, 4, 2), (13, 85, 11, 132, 3, 2), (13, 88, 12, 215, 3, 2), (13, 89, 11, 133, 2, 2), (13, 92, 12, 216, 2, 2), (13, 93, 11, 134, 0, 2), (13, 97, 12, 217, 0, 2), (13, 98, 11, 135, 1, 2), (13, 101, 12, 219, 1, 2), (13, 102, 11, 137, 2, 2), (13, 105, 12, 222, 2, 2), (13, 106, 11, 139, 1, 2), (13, 109, 12, 223, 1, 2), (13, 110, 11, 140, 1, 2), (13, 113, 12, 224, 1, 2), (13, 114, 11, 141, 1, 2), (13, 117, 12, 227, 1, 2), (13, 118, 11, 142, 0, 2), (13, 121, 12, 231, 0, 2), (13, 122, 11, 143, 0, 2), (13, 125, 12, 235, 0, 2), (13, 126, 11, 144, 1, 2), (13, 129, 12, 236, 1, 2), (13, 130, 11, 145, 3, 2), (13, 133, 12, 237, 3, 2), (13, 134, 11, 147, 4, 2), (13, 137, 12, 239, 4, 2), (13, 138, 11, 148, 2, 2), (13, 141, 12, 240, 2, 2), (13, 142, 11, 149, 3, 2), (13, 145, 12, 242, 3, 2), (13, 146, 11, 150, 1, 2), (13, 149, 12, 243, 1, 2), (13, 150, 11, 151, 4, 2), (13, 153, 12, 245, 4, 2), (13, 154, 11, 152, 4, 2), (13, 157, 12, 247, 4, 2), (13, 158, 11, 153, 3, 2), (13, 161, 12, 248, 3, 2), (13, 162, 11, 154, 0, 2), (13, 165, 12, 250, 0, 2), (13, 166, 11, 155, 0, 2), (13, 169, 12, 251, 0, 2), (13, 170, 11, 156, 1, 2), (13, 173, 12, 252, 1, 2), (13, 174, 11, 157, 4, 2), (13, 177, 12, 254, 4, 2), (13, 178, 11, 158, 3, 2), (13, 181, 12, 255, 3, 2), (13, 182, 11, 159, 3, 2), (13, 185, 12, 256, 3, 2), (13, 186, 99, 263, 4, 9), (13, 191, 12, 257, 2, 2), (13, 192, 12, 253, 0, 2), (13, 195, 11, 160, 5, 2), (13, 199, 12, 258, 5, 2), (13, 200, 11, 161, 1, 2), (13, 203, 12, 259, 1, 2), (13, 204, 11, 262, 1, 8), (13, 207, 12, 261, 1, 2)]
theorem ok_cTab_0 : ∀ e ∈ ((cTab.drop 0).take 40), okC e := List.forall_mem_cons.mpr ⟨⟨_, rfl, wd_87, wd_88, rfl, by decide +kernel⟩, List.forall_mem_cons.mpr ⟨⟨_, rfl, wd_104, wd_105, rfl, by decide +kernel⟩, List.forall_mem_cons.mpr ⟨⟨_, rfl, wd_171, wd_172, rfl, by decide +kernel⟩, List.forall_mem_cons.mpr ⟨⟨_, rfl, wd_204, wd_205, rfl, by decide +kernel⟩, List.forall_mem_cons.mpr ⟨⟨_, rfl, wd_244, wd_245, rfl, by decide +kernel⟩, List.forall_mem_cons.mpr ⟨⟨_, rfl, wd_252, wd_253, rfl, by decide +kernel⟩, List.forall_mem_cons.mpr ⟨⟨_, rfl, wd_260, wd_261, rfl, by decide +kernel⟩, List.forall_mem_cons.mpr ⟨⟨_, rfl, wd_268, wd_269, rfl, by decide +kernel⟩, List.forall_mem_cons.mpr ⟨⟨_, rfl, wd_276, wd_277, rfl, by decide +kernel⟩, List.forall_mem_cons.mpr ⟨⟨_, rfl, wd_285, wd_286, rfl, by decide +kernel⟩, List.forall_mem_cons.mpr ⟨⟨_, rfl, "EngagedByDeputy", by decide +kernel, wd_315, rfl, by decide +kernel⟩, List.forall_mem_cons.mpr ⟨⟨_, rfl, wd_351, wd_352, by decide +kernel⟩, List.forall_mem_cons.mpr ⟨⟨_, rfl, wd_354, wd_355, by decide +kernel⟩, List.forall_mem_cons.mpr ⟨⟨_, rfl, wd_371, wd_372, wd_373, rfl, by decide +kernel⟩, List.forall_mem_cons.mpr ⟨⟨_, rfl, wd_357, wd_358, wd_359, rfl, by decide +kernel⟩, List.forall_mem_cons.mpr ⟨⟨_, rfl, wd_365, wd_366, by decide +kernel⟩, List.forall_mem_cons.mpr ⟨⟨_, rfl, wd_390, wd_392, wd_0, rfl, by decide +kernel⟩, List.forall_mem_cons.mpr ⟨⟨_, rfl, wd_568, wd_384, wd_385, rfl, by decide +kernel⟩, List.forall_mem_cons.mpr ⟨⟨_, rfl, wd_430, wd_414, wd_415, rfl, by decide +kernel⟩, List.forall_mem_cons.mpr ⟨⟨_, rfl, wd_573, wd_479, wd_480, rfl, by decide +kernel⟩, List.forall_mem_cons.mpr ⟨⟨_, rfl, ⟨"EngagedByDeputy$Steady", "kind", "()I"⟩, "EngagedByDeputy$Steady", wd_574, wd_577, wd_578, wd_579, by decide, by decide, by decide +kernel, Or.inl ⟨wd_575, _, _, _, wd_593⟩⟩, List.forall_mem_cons.mpr ⟨⟨_, rfl, ⟨"EngagedByDeputy$Steady", "kind", "()I"⟩, "EngagedByDeputy$Steady", wd_574, wd_577, wd_581, wd_582, by decide, by decide, by decide +kernel, Or.inl ⟨wd_575, _, _, _, wd_593⟩⟩, List.forall_mem_cons.mpr ⟨⟨_, rfl, ⟨"EngagedByDeputy$Steady", "kind", "()I"⟩, "EngagedByDeputy$Steady", wd_574, wd_577, wd_584, wd_585, by decide, by decide, by decide +kernel, Or.inl ⟨wd_575, _, _, _, wd_593⟩⟩, List.forall_mem_cons.mpr ⟨⟨_, rfl, wd_574, wd_575, wd_576, rfl, by decide +kernel⟩, List.forall_mem_cons.mpr ⟨⟨_, rfl, ⟨"EngagedByDeputy$Steady", "kind", "()I"⟩, "EngagedByDeputy$Steady", wd_574, wd_577, wd_587, wd_588, by decide, by decide, by decide +kernel, Or.inl ⟨wd_575, _, _, _, wd_593⟩⟩, List.forall_mem_cons.mpr ⟨⟨_, rfl, ⟨"EngagedByDeputy$Steady", "kind", "()I"⟩, "EngagedByDeputy$Steady", wd_574, wd_577, wd_590, wd_591, by decide, by decide, by decide +kernel, Or.inl ⟨wd_575, _, _, _, wd_593⟩⟩, List.forall_mem_cons.mpr ⟨⟨_, rfl, wd_594, wd_407, by decide +kernel⟩, List.forall_mem_cons.mpr ⟨⟨_, rfl, wd_595, wd_596, by decide +kernel⟩, List.forall_mem_cons.mpr ⟨⟨_, rfl, ⟨"EngagedByDeputy$Steady", "sulking", "()I"⟩, "EngagedByDeputy$Steady", wd_598, wd_522, wd_523, wd_524, by decide, by decide, by decide +kernel, Or.inr (by decide +kernel)⟩, List.forall_mem_cons.mpr ⟨⟨_, rfl, ⟨"EngagedByDeputy$Steady", "sulking", "()I"⟩, "EngagedByDeputy$Steady", wd_598, wd_522, wd_527, wd_520, by decide, by decide, by decide +kernel, Or.inr (by decide +kernel)⟩, List.forall_mem_cons.mpr ⟨⟨_, rfl, ⟨"EngagedByDeputy$Steady", "sulking", "()I"⟩, "EngagedByDeputy$Steady", wd_598, wd_522, wd_528, wd_529, by decide, by decide, by decide +kernel, Or.inr (by decide +kernel)⟩, List.forall_mem_cons.mpr ⟨⟨_, rfl, wd_598, wd_520, wd_521, rfl, by decide +kernel⟩, List.forall_mem_cons.mpr ⟨⟨_, rfl, ⟨"EngagedByDeputy$Steady", "sulking", "()I"⟩, "EngagedByDeputy$Steady", wd_598, wd_522, wd_534, wd_535, by decide, by decide, by decide +kernel, Or.inr (by decide +kernel)⟩, List.forall_mem_cons.mpr ⟨⟨_, rfl, ⟨"EngagedByDeputy$Steady", "sulking", "()I"⟩, "EngagedByDeputy$Steady", wd_598, wd_522, wd_538, wd_520, by decide, by decide, by decide +kernel, Or.inr (by decide +kernel)⟩, List.forall_mem_cons.mpr ⟨⟨_, rfl, ⟨"EngagedByDeputy$Steady", "growth", "(Z)I"⟩, "EngagedByDeputy$Steady", wd_603, wd_485, wd_486, wd_487, by decide, by decide, by decide +kernel, Or.inl ⟨wd_483, _, _, _, wd_505⟩⟩, List.forall_mem_cons.mpr ⟨⟨_, rfl, ⟨"EngagedByDeputy$Steady", "growth", "(Z)I"⟩, "EngagedByDeputy$Steady", wd_603, wd_485, wd_490, wd_491, by decide, by decide, by decide +kernel, Or.inl ⟨wd_483, _, _, _, wd_505⟩⟩, List.forall_mem_cons.mpr ⟨⟨_, rfl, ⟨"EngagedByDeputy$Steady", "growth", "(Z)I"⟩, "EngagedByDeputy$Steady", wd_603, wd_485, wd_494, wd_495, by decide, by decide, by decide +kernel, Or.inl ⟨wd_483, _, _, _, wd_505⟩⟩, List.forall_mem_cons.mpr ⟨⟨_, rfl, wd_603, wd_483, wd_484, rfl, by decide +kernel⟩, List.forall_mem_cons.mpr ⟨⟨_, rfl, ⟨"EngagedByDeputy$Steady", "growth", "(Z)I"⟩, "EngagedByDeputy$Steady", wd_603, wd_485, wd_498, wd_499, by decide, by decide, by decide +kernel, Or.inl ⟨wd_483, _, _, _, wd_505⟩⟩, List.forall_mem_cons.mpr ⟨⟨_, rfl, ⟨"EngagedByDeputy$Steady", "growth", "(Z)I"⟩, "EngagedByDeputy$Steady", wd_603, wd_485, wd_504, wd_495, by decide, by decide, by decide +kernel, Or.inl ⟨wd_483, _, _, _, wd_505⟩⟩, fun _ h => absurd h List.not_mem_nil⟩⟩⟩⟩⟩⟩⟩⟩⟩⟩⟩⟩⟩⟩⟩⟩⟩⟩⟩⟩⟩⟩⟩⟩⟩⟩⟩⟩⟩⟩⟩⟩⟩⟩⟩⟩⟩⟩⟩⟩
theorem ok_cTab_1 : ∀ e ∈ ((cTab.drop 40).take 40), okC e := List.forall_mem_cons.mpr ⟨⟨_, rfl, ⟨"EngagedByDeputy$Steady", "retold", "(I)I"⟩, "EngagedByDeputy$Steady", wd_608, wd_611, wd_612, wd_613, by decide, by decide, by decide +kernel, Or.inl ⟨wd_609, _, _, _, wd_632⟩⟩, List.forall_mem_cons.mpr ⟨⟨_, rfl, ⟨"EngagedByDeputy$Steady", "retold", "(I)I"⟩, "EngagedByDeputy$Steady", wd_608, wd_611, wd_616, wd_617, by decide, by decide, by decide +kernel, Or.inl ⟨wd_609, _, _, _, wd_632⟩⟩, List.forall_mem_cons.mpr ⟨⟨_, rfl, ⟨"EngagedByDeputy$Steady", "retold", "(I)I"⟩, "EngagedByDeputy$Steady", wd_608, wd_611, wd_619, wd_620, by decide, by decide, by decide +kernel, Or.inl ⟨wd_609, _, _, _, wd_632⟩⟩, List.forall_mem_cons.mpr ⟨⟨_, rfl, wd_608, wd_609, wd_610, rfl, by decide +kernel⟩, List.forall_mem_cons.mpr ⟨⟨_, rfl, ⟨"EngagedByDeputy$Steady", "retold", "(I)I"⟩, "EngagedByDeputy$Steady", wd_608, wd_611, wd_627, wd_628, by decide, by decide, by decide +kernel, Or.inl ⟨wd_609, _, _, _, wd_632⟩⟩, List.forall_mem_cons.mpr ⟨⟨_, rfl, ⟨"EngagedByDeputy$Steady", "retold", "(I)I"⟩, "EngagedByDeputy$Steady", wd_608, wd_611, wd_631, wd_623, by decide, by decide, by decide +kernel, Or.inl ⟨wd_609, _, _, _, wd_632⟩⟩, List.forall_mem_cons.mpr ⟨⟨_, rfl, wd_637, wd_418, by decide +kernel⟩, List.forall_mem_cons.mpr ⟨⟨_, rfl, wd_638, wd_639, wd_640, rfl, by decide +kernel⟩, List.forall_mem_cons.mpr ⟨⟨_, rfl, wd_402, wd_403, wd_404, rfl, by decide +kernel⟩, List.forall_mem_cons.mpr ⟨⟨_, rfl, wd_409, wd_410, wd_411, rfl, by decide +kernel⟩, List.forall_mem_cons.mpr ⟨⟨_, rfl, wd_646, wd_511, wd_512, rfl, by decide +kernel⟩, List.forall_mem_cons.mpr ⟨⟨_, rfl, wd_420, wd_421, wd_422, rfl, by decide +kernel⟩, List.forall_mem_cons.mpr ⟨⟨_, rfl, wd_431, wd_432, wd_433, rfl, by decide +kernel⟩, List.forall_mem_cons.mpr ⟨⟨_, rfl, wd_435, wd_436, wd_437, rfl, by decide +kernel⟩, List.forall_mem_cons.mpr ⟨⟨_, rfl, wd_663, wd_664, wd_665, rfl, by decide +kernel⟩, List.forall_mem_cons.mpr ⟨⟨_, rfl, wd_667, wd_451, wd_452, rfl, by decide +kernel⟩, List.forall_mem_cons.mpr ⟨⟨_, rfl, wd_668, wd_459, wd_460, rfl, by decide +kernel⟩, List.forall_mem_cons.mpr ⟨⟨_, rfl, wd_443, wd_444, by decide +kernel⟩, List.forall_mem_cons.mpr ⟨⟨_, rfl, wd_446, wd_447, wd_448, rfl, by decide +kernel⟩, List.forall_mem_cons.mpr ⟨⟨_, rfl, wd_685, wd_686, by decide +kernel⟩, List.forall_mem_cons.mpr ⟨⟨_, rfl, wd_704, wd_705, wd_706, rfl, by decide +kernel⟩, List.forall_mem_cons.mpr ⟨⟨_, rfl, wd_712, wd_376, wd_377, rfl, by decide +kernel⟩, List.forall_mem_cons.mpr ⟨⟨_, rfl, wd_713, wd_380, wd_381, rfl, by decide +kernel⟩, List.forall_mem_cons.mpr ⟨⟨_, rfl, wd_714, wd_716, wd_10, rfl, by decide +kernel⟩, List.forall_mem_cons.mpr ⟨⟨_, rfl, wd_718, wd_719, wd_720, rfl, by decide +kernel⟩, List.forall_mem_cons.mpr ⟨⟨_, rfl, wd_722, wd_723, wd_724, rfl, by decide +kernel⟩, List.forall_mem_cons.mpr ⟨⟨_, rfl, wd_734, wd_736, wd_12, rfl, by decide +kernel⟩, List.forall_mem_cons.mpr ⟨⟨_, rfl, wd_746, wd_747, wd_748, rfl, by decide +kernel⟩, List.forall_mem_cons.mpr ⟨⟨_, rfl, wd_750, wd_751, wd_752, rfl, by decide +kernel⟩, List.forall_mem_cons.mpr ⟨⟨_, rfl, wd_755, wd_756, wd_757, rfl, by decide +kernel⟩, List.forall_mem_cons.mpr ⟨⟨_, rfl, wd_763, wd_764, wd_765, rfl, by decide +kernel⟩, List.forall_mem_cons.mpr ⟨⟨_, rfl, wd_776, wd_777, wd_778, rfl, by decide +kernel⟩, List.forall_mem_cons.mpr ⟨⟨_, rfl, wd_797, wd_798, wd_799, rfl, by decide +kernel⟩, List.forall_mem_cons.mpr ⟨⟨_, rfl, wd_828, wd_830, wd_20, rfl, by decide +kernel⟩, List.forall_mem_cons.mpr ⟨⟨_, rfl, wd_840, wd_841, wd_842, rfl, by decide +kernel⟩, List.forall_mem_cons.mpr ⟨⟨_, rfl, wd_852, wd_853, wd_854, rfl, by decide +kernel⟩, List.forall_mem_cons.mpr ⟨⟨_, rfl, wd_857, wd_858, wd_859, rfl, by decide +kernel⟩, List.forall_mem_cons.mpr ⟨⟨_, rfl, wd_870, wd_871, wd_872, rfl, by decide +kernel⟩, List.forall_mem_cons.mpr ⟨⟨_, rfl, wd_878, wd_879, wd_880, rfl, by decide +kernel⟩, List.forall_mem_cons.mpr ⟨⟨_, rfl, wd_889, wd_890, wd_891, rfl, by decide +kernel⟩, fun _ h => absurd h List.not_mem_nil⟩⟩⟩⟩⟩⟩⟩⟩⟩⟩⟩⟩⟩⟩⟩⟩⟩⟩⟩⟩⟩⟩⟩⟩⟩⟩⟩⟩⟩⟩⟩⟩⟩⟩⟩⟩⟩⟩⟩⟩
theorem ok_cTab_2 : ∀ e ∈ ((cTab.drop 80).take 40), okC e := List.forall_mem_cons.mpr ⟨⟨_, rfl, wd_399, wd_400, by decide +kernel⟩, List.forall_mem_cons.mpr ⟨⟨_, rfl, wd_912, wd_913, wd_914, rfl, by decide +kernel⟩, List.forall_mem_cons.mpr ⟨⟨_, rfl, wd_920, wd_921, wd_922, rfl, by decide +kernel⟩, List.forall_mem_cons.mpr ⟨⟨_, rfl, wd_928, wd_362, wd_363, rfl, by decide +kernel⟩, List.forall_mem_cons.mpr ⟨⟨_, rfl, wd_929, wd_930, wd_931, rfl, by decide +kernel⟩, List.forall_mem_cons.mpr ⟨⟨_, rfl, wd_937, wd_938, wd_939, rfl, by decide +kernel⟩, List.forall_mem_cons.mpr ⟨⟨_, rfl, ⟨"EngagedByDeputy$Steady", "price", "()I"⟩, "EngagedByDeputy$Steady", wd_946, wd_949, wd_950, wd_951, by decide, by decide, by decide +kernel, Or.inl ⟨wd_947, _, _, _, wd_971⟩⟩, List.forall_mem_cons.mpr ⟨⟨_, rfl, ⟨"EngagedByDeputy$Steady", "price", "()I"⟩, "EngagedByDeputy$Steady", wd_946, wd_949, wd_954, wd_955, by decide, by decide, by decide +kernel, Or.inl ⟨wd_947, _, _, _, wd_971⟩⟩, List.forall_mem_cons.mpr ⟨⟨_, rfl, ⟨"EngagedByDeputy$Steady", "price", "()I"⟩, "EngagedByDeputy$Steady", wd_946, wd_949, wd_958, wd_959, by decide, by decide, by decide +kernel, Or.inl ⟨wd_947, _, _, _, wd_971⟩⟩, List.forall_mem_cons.mpr ⟨⟨_, rfl, wd_946, wd_947, wd_948, rfl, by decide +kernel⟩, List.forall_mem_cons.mpr ⟨⟨_, rfl, ⟨"EngagedByDeputy$Steady", "price", "()I"⟩, "EngagedByDeputy$Steady", wd_946, wd_949, wd_966, wd_967, by decide, by decide, by decide +kernel, Or.inl ⟨wd_947, _, _, _, wd_971⟩⟩, List.forall_mem_cons.mpr ⟨⟨_, rfl, ⟨"EngagedByDeputy$Steady", "price", "()I"⟩, "EngagedByDeputy$Steady", wd_946, wd_949, wd_970, wd_962, by decide, by decide, by decide +kernel, Or.inl ⟨wd_947, _, _, _, wd_971⟩⟩, List.forall_mem_cons.mpr ⟨⟨_, rfl, ⟨"EngagedByDeputy$Steady", "fail", "()V"⟩, "EngagedByDeputy$Steady", wd_979, wd_982, wd_983, wd_980, by decide, by decide, by decide +kernel, Or.inl ⟨wd_980, _, _, _, wd_1078⟩⟩, List.forall_mem_cons.mpr ⟨⟨_, rfl, ⟨"EngagedByDeputy$Steady", "fail", "()V"⟩, "EngagedByDeputy$Steady", wd_979, wd_982, wd_984, wd_985, by decide, by decide, by decide +kernel, Or.inl ⟨wd_980, _, _, _, wd_1078⟩⟩, List.forall_mem_cons.mpr ⟨⟨_, rfl, ⟨"EngagedByDeputy$Steady", "fail", "()V"⟩, "EngagedByDeputy$Steady", wd_979, wd_982, wd_987, wd_988, by decide, by decide, by decide +kernel, Or.inl ⟨wd_980, _, _, _, wd_1078⟩⟩, List.forall_mem_cons.mpr ⟨⟨_, rfl, wd_979, wd_980, wd_981, rfl, by decide +kernel⟩, List.forall_mem_cons.mpr ⟨⟨_, rfl, ⟨"EngagedByDeputy$Steady", "fail", "()V"⟩, "EngagedByDeputy$Steady", wd_979, wd_982, wd_1058, wd_1059, by decide, by decide, by decide +kernel, Or.inl ⟨wd_980, _, _, _, wd_1078⟩⟩, List.forall_mem_cons.mpr ⟨⟨_, rfl, ⟨"EngagedByDeputy$Steady", "fail", "()V"⟩, "EngagedByDeputy$Steady", wd_979, wd_982, wd_1077, wd_980, by decide, by decide, by decide +kernel, Or.inl ⟨wd_980, _, _, _, wd_1078⟩⟩, List.forall_mem_cons.mpr ⟨⟨_, rfl, wd_368, wd_369, by decide +kernel⟩, List.forall_mem_cons.mpr ⟨⟨_, rfl, wd_394, wd_395, wd_396, rfl, by decide +kernel⟩, List.forall_mem_cons.mpr ⟨⟨_, rfl, wd_1225, wd_1226, by decide +kernel⟩, List.forall_mem_cons.mpr ⟨⟨_, rfl, wd_1308, wd_1309, by decide +kernel⟩, List.forall_mem_cons.mpr ⟨⟨_, rfl, wd_1251, wd_1252, by decide +kernel⟩, List.forall_mem_cons.mpr ⟨⟨_, rfl, wd_1265, wd_1266, by decide +kernel⟩, List.forall_mem_cons.mpr ⟨⟨_, rfl, wd_1280, wd_1281, by decide +kernel⟩, List.forall_mem_cons.mpr ⟨⟨_, rfl, wd_1305, wd_1306, by decide +kernel⟩, List.forall_mem_cons.mpr ⟨⟨_, rfl, wd_1314, wd_1315, by decide +kernel⟩, List.forall_mem_cons.mpr ⟨⟨_, rfl, wd_1296, wd_1297, by decide +kernel⟩, List.forall_mem_cons.mpr ⟨⟨_, rfl, wd_1254, wd_1255, by decide +kernel⟩, List.forall_mem_cons.mpr ⟨⟨_, rfl, wd_1299, wd_1300, by decide +kernel⟩, List.forall_mem_cons.mpr ⟨⟨_, rfl, wd_1302, wd_1303, by decide +kernel⟩, List.forall_mem_cons.mpr ⟨⟨_, rfl, wd_1311, wd_1312, by decide +kernel⟩, List.forall_mem_cons.mpr ⟨⟨_, rfl, wd_1321, wd_1323, wd_36, rfl, by decide +kernel⟩, List.forall_mem_cons.mpr ⟨⟨_, rfl, wd_1287, wd_1288, by decide +kernel⟩, List.forall_mem_cons.mpr ⟨⟨_, rfl, wd_1290, wd_1291, by decide +kernel⟩, List.forall_mem_cons.mpr ⟨⟨_, rfl, wd_1293, wd_1294, by decide +kernel⟩, List.forall_mem_cons.mpr ⟨⟨_, rfl, wd_1317, wd_1319, wd_35, rfl, by decide +kernel⟩, List.forall_mem_cons.mpr ⟨⟨_, rfl, wd_1283, wd_1285, wd_34, rfl, by decide +kernel⟩, List.forall_mem_cons.mpr ⟨⟨_, rfl, wd_1240, wd_1241, by decide +kernel⟩, List.forall_mem_cons.mpr ⟨⟨_, rfl, wd_1272, wd_1274, wd_32, rfl, by decide +kernel⟩, fun _ h => absurd h List.not_mem_nil⟩⟩⟩⟩⟩⟩⟩⟩⟩⟩⟩⟩⟩⟩⟩⟩⟩⟩⟩⟩⟩⟩⟩⟩⟩⟩⟩⟩⟩⟩⟩⟩⟩⟩⟩⟩⟩⟩⟩⟩
theorem ok_cTab_3 : ∀ e ∈ ((cTab.drop 120).take 40), okC e := List.forall_mem_cons.mpr ⟨⟨_, rfl, wd_1276, wd_1278, wd_33, rfl, by decide +kernel⟩, List.forall_mem_cons.mpr ⟨⟨_, rfl, wd_1232, wd_1234, wd_25, rfl, by decide +kernel⟩, List.forall_mem_cons.mpr ⟨⟨_, rfl, wd_1236, wd_1238, wd_26, rfl, by decide +kernel⟩, List.forall_mem_cons.mpr ⟨⟨_, rfl, wd_1247, wd_1249, wd_28, rfl, by decide +kernel⟩, List.forall_mem_cons.mpr ⟨⟨_, rfl, wd_1257, wd_1259, wd_29, rfl, by decide +kernel⟩, List.forall_mem_cons.mpr ⟨⟨_, rfl, wd_1261, wd_1263, wd_30, rfl, by decide +kernel⟩, List.forall_mem_cons.mpr ⟨⟨_, rfl, wd_1268, wd_1270, wd_31, rfl, by decide +kernel⟩, List.forall_mem_cons.mpr ⟨⟨_, rfl, wd_1218, wd_1220, wd_23, rfl, by decide +kernel⟩, List.forall_mem_cons.mpr ⟨⟨_, rfl, wd_1228, wd_1230, wd_24, rfl, by decide +kernel⟩, List.forall_mem_cons.mpr ⟨⟨_, rfl, wd_1243, wd_1245, wd_27, rfl, by decide +kernel⟩, List.forall_mem_cons.mpr ⟨⟨_, rfl, wd_1329, wd_1330, by decide +kernel⟩, List.forall_mem_cons.mpr ⟨⟨_, rfl, wd_1340, wd_1341, by decide +kernel⟩, List.forall_mem_cons.mpr ⟨⟨_, rfl, wd_1222, wd_1223, by decide +kernel⟩, List.forall_mem_cons.mpr ⟨⟨_, rfl, wd_1347, wd_1349, wd_37, rfl, by decide +kernel⟩, List.forall_mem_cons.mpr ⟨⟨_, rfl, wd_1371, wd_1373, wd_38, rfl, by decide +kernel⟩, List.forall_mem_cons.mpr ⟨⟨_, rfl, wd_1391, wd_1393, wd_39, rfl, by decide +kernel⟩, List.forall_mem_cons.mpr ⟨⟨_, rfl, wd_1411, wd_1412, by decide +kernel⟩, List.forall_mem_cons.mpr ⟨⟨_, rfl, wd_1423, wd_1425, wd_41, rfl, by decide +kernel⟩, List.forall_mem_cons.mpr ⟨⟨_, rfl, wd_1419, wd_1421, wd_40, rfl, by decide +kernel⟩, List.forall_mem_cons.mpr ⟨⟨_, rfl, wd_1443, wd_1445, wd_43, rfl, by decide +kernel⟩, List.forall_mem_cons.mpr ⟨⟨_, rfl, wd_1439, wd_1441, wd_42, rfl, by decide +kernel⟩, List.forall_mem_cons.mpr ⟨⟨_, rfl, wd_1455, wd_1457, wd_45, rfl, by decide +kernel⟩, List.forall_mem_cons.mpr ⟨⟨_, rfl, wd_1459, wd_1461, wd_46, rfl, by decide +kernel⟩, List.forall_mem_cons.mpr ⟨⟨_, rfl, wd_1451, wd_1453, wd_44, rfl, by decide +kernel⟩, List.forall_mem_cons.mpr ⟨⟨_, rfl, wd_1475, wd_1477, wd_49, rfl, by decide +kernel⟩, List.forall_mem_cons.mpr ⟨⟨_, rfl, wd_1471, wd_1473, wd_48, rfl, by decide +kernel⟩, List.forall_mem_cons.mpr ⟨⟨_, rfl, wd_1467, wd_1469, wd_47, rfl, by decide +kernel⟩, List.forall_mem_cons.mpr ⟨⟨_, rfl, wd_1491, wd_1493, wd_50, rfl, by decide +kernel⟩, List.forall_mem_cons.mpr ⟨⟨_, rfl, wd_1503, wd_1505, wd_51, rfl, by decide +kernel⟩, List.forall_mem_cons.mpr ⟨⟨_, rfl, wd_1515, wd_1517, wd_52, rfl, by decide +kernel⟩, List.forall_mem_cons.mpr ⟨⟨_, rfl, wd_1524, wd_1526, wd_53, rfl, by decide +kernel⟩, List.forall_mem_cons.mpr ⟨⟨_, rfl, wd_1537, wd_1539, wd_54, rfl, by decide +kernel⟩, List.forall_mem_cons.mpr ⟨⟨_, rfl, wd_1584, wd_1585, by decide +kernel⟩, List.forall_mem_cons.mpr ⟨⟨_, rfl, wd_255, wd_88, rfl, by decide +kernel⟩, List.forall_mem_cons.mpr ⟨⟨_, rfl, wd_489, wd_485, wd_257, wd_483, by decide, by decide +kernel⟩, List.forall_mem_cons.mpr ⟨⟨_, rfl, wd_526, wd_522, wd_257, wd_520, by decide, by decide +kernel⟩, List.forall_mem_cons.mpr ⟨⟨_, rfl, wd_615, wd_611, wd_257, wd_609, by decide, by decide +kernel⟩, List.forall_mem_cons.mpr ⟨⟨_, rfl, wd_953, wd_949, wd_257, wd_947, by decide, by decide +kernel⟩, List.forall_mem_cons.mpr ⟨⟨_, rfl, wd_279, wd_88, rfl, by decide +kernel⟩, List.forall_mem_cons.mpr ⟨⟨_, rfl, wd_493, wd_485, wd_281, wd_483, by decide, by decide +kernel⟩, fun _ h => absurd h List.not_mem_nil⟩⟩⟩⟩⟩⟩⟩⟩⟩⟩⟩⟩⟩⟩⟩⟩⟩⟩⟩⟩⟩⟩⟩⟩⟩⟩⟩⟩⟩⟩⟩⟩⟩⟩⟩⟩⟩⟩⟩⟩
theorem ok_cTab_4 : ∀ e ∈ ((cTab.drop 160).take 40), okC e := List.forall_mem_cons.mpr ⟨⟨_, rfl, wd_957, wd_949, wd_281, wd_947, by decide, by decide +kernel⟩, List.forall_mem_cons.mpr ⟨⟨_, rfl, wd_861, wd_863, wd_21, rfl, by decide +kernel⟩, List.forall_mem_cons.mpr ⟨⟨_, rfl, wd_263, wd_245, rfl, by decide +kernel⟩, List.forall_mem_cons.mpr ⟨⟨_, rfl, ⟨"EngagedByDeputy$Warm", "sulking", "()I"⟩, rfl, rfl, wd_531, wd_532, wd_265, wd_249, wd_520, by decide, by decide +kernel⟩, List.forall_mem_cons.mpr ⟨⟨_, rfl, wd_622, wd_1592, wd_265, wd_623, by decide, by decide +kernel⟩, List.forall_mem_cons.mpr ⟨⟨_, rfl, wd_961, wd_1594, wd_265, wd_962, by decide, by decide +kernel⟩, List.forall_mem_cons.mpr ⟨⟨_, rfl, wd_965, wd_529, wd_1595, rfl, by decide +kernel⟩, List.forall_mem_cons.mpr ⟨⟨_, rfl, ⟨"EngagedByDeputy$Jealous", "sulking", "()I"⟩, "EngagedByDeputy$Jealous", wd_965, wd_1591, wd_1596, wd_535, by decide, by decide, by decide +kernel, Or.inl ⟨wd_529, _, _, _, wd_530⟩⟩, List.forall_mem_cons.mpr ⟨⟨_, rfl, wd_759, wd_761, wd_13, rfl, by decide +kernel⟩, List.forall_mem_cons.mpr ⟨⟨_, rfl, wd_767, wd_769, wd_14, rfl, by decide +kernel⟩, List.forall_mem_cons.mpr ⟨⟨_, rfl, wd_771, wd_511, wd_512, rfl, by decide +kernel⟩, List.forall_mem_cons.mpr ⟨⟨_, rfl, wd_780, wd_751, wd_752, rfl, by decide +kernel⟩, List.forall_mem_cons.mpr ⟨⟨_, rfl, wd_781, wd_783, wd_15, rfl, by decide +kernel⟩, List.forall_mem_cons.mpr ⟨⟨_, rfl, wd_785, wd_787, wd_16, rfl, by decide +kernel⟩, List.forall_mem_cons.mpr ⟨⟨_, rfl, wd_789, wd_791, wd_17, rfl, by decide +kernel⟩, List.forall_mem_cons.mpr ⟨⟨_, rfl, wd_802, wd_803, by decide +kernel⟩, List.forall_mem_cons.mpr ⟨⟨_, rfl, wd_805, wd_807, wd_18, rfl, by decide +kernel⟩, List.forall_mem_cons.mpr ⟨⟨_, rfl, wd_811, wd_756, wd_757, rfl, by decide +kernel⟩, List.forall_mem_cons.mpr ⟨⟨_, rfl, wd_812, wd_814, wd_19, rfl, by decide +kernel⟩, List.forall_mem_cons.mpr ⟨⟨_, rfl, wd_809, wd_764, wd_765, rfl, by decide +kernel⟩, List.forall_mem_cons.mpr ⟨⟨_, rfl, wd_361, wd_362, wd_363, rfl, by decide +kernel⟩, List.forall_mem_cons.mpr ⟨⟨_, rfl, wd_398, wd_358, wd_359, rfl, by decide +kernel⟩, List.forall_mem_cons.mpr ⟨⟨_, rfl, wd_271, wd_261, rfl, by decide +kernel⟩, List.forall_mem_cons.mpr ⟨⟨_, rfl, ⟨"EngagedByDeputy$Jealous", "growth", "(Z)I"⟩, rfl, rfl, wd_501, wd_502, wd_273, wd_265, wd_495, by decide, by decide +kernel⟩, List.forall_mem_cons.mpr ⟨⟨_, rfl, wd_537, wd_1591, wd_273, wd_529, by decide, by decide +kernel⟩, List.forall_mem_cons.mpr ⟨⟨_, rfl, wd_630, wd_1593, wd_273, wd_620, by decide, by decide +kernel⟩, List.forall_mem_cons.mpr ⟨⟨_, rfl, wd_969, wd_1597, wd_273, wd_959, by decide, by decide +kernel⟩, List.forall_mem_cons.mpr ⟨⟨_, rfl, "EngagedByDeputy", by decide +kernel, wd_418, by decide +kernel⟩, List.forall_mem_cons.mpr ⟨⟨_, rfl, wd_413, wd_414, wd_415, rfl, by decide +kernel⟩, List.forall_mem_cons.mpr ⟨⟨_, rfl, wd_406, wd_407, by decide +kernel⟩, List.forall_mem_cons.mpr ⟨⟨_, rfl, wd_510, wd_511, wd_512, rfl, by decide +kernel⟩, List.forall_mem_cons.mpr ⟨⟨_, rfl, wd_514, wd_421, wd_422, rfl, by decide +kernel⟩, List.forall_mem_cons.mpr ⟨⟨_, rfl, wd_439, wd_440, wd_441, rfl, by decide +kernel⟩, List.forall_mem_cons.mpr ⟨⟨_, rfl, wd_477, wd_451, wd_452, rfl, by decide +kernel⟩, List.forall_mem_cons.mpr ⟨⟨_, rfl, "EngagedByDeputy", by decide +kernel, wd_444, by decide +kernel⟩, List.forall_mem_cons.mpr ⟨⟨_, rfl, wd_247, wd_88, rfl, by decide +kernel⟩, List.forall_mem_cons.mpr ⟨⟨_, rfl, wd_497, wd_485, wd_249, wd_483, by decide, by decide +kernel⟩, List.forall_mem_cons.mpr ⟨⟨_, rfl, wd_625, wd_611, wd_249, wd_609, by decide, by decide +kernel⟩, List.forall_mem_cons.mpr ⟨⟨_, rfl, wd_964, wd_949, wd_249, wd_947, by decide, by decide +kernel⟩, List.forall_mem_cons.mpr ⟨⟨_, rfl, wd_375, wd_376, wd_377, rfl, by decide +kernel⟩, fun _ h => absurd h List.not_mem_nil⟩⟩⟩⟩⟩⟩⟩⟩⟩⟩⟩⟩⟩⟩⟩⟩⟩⟩⟩⟩⟩⟩⟩⟩⟩⟩⟩⟩⟩⟩⟩⟩⟩⟩⟩⟩⟩⟩⟩⟩
theorem ok_cTab_5 : ∀ e ∈ ((cTab.drop 200).take 40), okC e := List.forall_mem_cons.mpr ⟨⟨_, rfl, wd_379, wd_380, wd_381, rfl, by decide +kernel⟩, List.forall_mem_cons.mpr ⟨⟨_, rfl, wd_383, wd_384, wd_385, rfl, by decide +kernel⟩, List.forall_mem_cons.mpr ⟨⟨_, rfl, wd_726, wd_728, wd_11, rfl, by decide +kernel⟩, List.forall_mem_cons.mpr ⟨⟨_, rfl, wd_450, wd_451, wd_452, rfl, by decide +kernel⟩, List.forall_mem_cons.mpr ⟨⟨_, rfl, wd_454, wd_456, wd_1, rfl, by decide +kernel⟩, List.forall_mem_cons.mpr ⟨⟨_, rfl, wd_564, wd_566, wd_9, rfl, by decide +kernel⟩, List.forall_mem_cons.mpr ⟨⟨_, rfl, wd_458, wd_459, wd_460, rfl, by decide +kernel⟩, List.forall_mem_cons.mpr ⟨⟨_, rfl, wd_463, wd_465, wd_2, rfl, by decide +kernel⟩, List.forall_mem_cons.mpr ⟨⟨_, rfl, wd_468, wd_407, by decide +kernel⟩, List.forall_mem_cons.mpr ⟨⟨_, rfl, wd_469, wd_471, wd_3, rfl, by decide +kernel⟩, List.forall_mem_cons.mpr ⟨⟨_, rfl, wd_515, wd_517, wd_4, rfl, by decide +kernel⟩, List.forall_mem_cons.mpr ⟨⟨_, rfl, wd_540, wd_541, wd_542, rfl, by decide +kernel⟩, List.forall_mem_cons.mpr ⟨⟨_, rfl, wd_544, wd_546, wd_5, rfl, by decide +kernel⟩, List.forall_mem_cons.mpr ⟨⟨_, rfl, wd_560, wd_562, wd_8, rfl, by decide +kernel⟩, List.forall_mem_cons.mpr ⟨⟨_, rfl, wd_467, wd_440, wd_441, rfl, by decide +kernel⟩, List.forall_mem_cons.mpr ⟨⟨_, rfl, wd_473, wd_474, wd_475, rfl, by decide +kernel⟩, List.forall_mem_cons.mpr ⟨⟨_, rfl, wd_478, wd_479, wd_480, rfl, by decide +kernel⟩, List.forall_mem_cons.mpr ⟨⟨_, rfl, ⟨"EngagedByDeputy$Steady", "growth", "(Z)I"⟩, "EngagedByDeputy$Steady", wd_482, wd_485, wd_486, wd_487, by decide, by decide, by decide +kernel, Or.inl ⟨wd_483, _, _, _, wd_505⟩⟩, List.forall_mem_cons.mpr ⟨⟨_, rfl, ⟨"EngagedByDeputy$Steady", "growth", "(Z)I"⟩, "EngagedByDeputy$Steady", wd_482, wd_485, wd_490, wd_491, by decide, by decide, by decide +kernel, Or.inl ⟨wd_483, _, _, _, wd_505⟩⟩, List.forall_mem_cons.mpr ⟨⟨_, rfl, ⟨"EngagedByDeputy$Steady", "growth", "(Z)I"⟩, "EngagedByDeputy$Steady", wd_482, wd_485, wd_494, wd_495, by decide, by decide, by decide +kernel, Or.inl ⟨wd_483, _, _, _, wd_505⟩⟩, List.forall_mem_cons.mpr ⟨⟨_, rfl, wd_482, wd_483, wd_484, rfl, by decide +kernel⟩, List.forall_mem_cons.mpr ⟨⟨_, rfl, ⟨"EngagedByDeputy$Steady", "growth", "(Z)I"⟩, "EngagedByDeputy$Steady", wd_482, wd_485, wd_498, wd_499, by decide, by decide, by decide +kernel, Or.inl ⟨wd_483, _, _, _, wd_505⟩⟩, List.forall_mem_cons.mpr ⟨⟨_, rfl, ⟨"EngagedByDeputy$Steady", "growth", "(Z)I"⟩, "EngagedByDeputy$Steady", wd_482, wd_485, wd_504, wd_495, by decide, by decide, by decide +kernel, Or.inl ⟨wd_483, _, _, _, wd_505⟩⟩, List.forall_mem_cons.mpr ⟨⟨_, rfl, wd_506, wd_507, wd_508, rfl, by decide +kernel⟩, List.forall_mem_cons.mpr ⟨⟨_, rfl, ⟨"EngagedByDeputy$Steady", "sulking", "()I"⟩, "EngagedByDeputy$Steady", wd_519, wd_522, wd_523, wd_524, by decide, by decide, by decide +kernel, Or.inr (by decide +kernel)⟩, List.forall_mem_cons.mpr ⟨⟨_, rfl, ⟨"EngagedByDeputy$Steady", "sulking", "()I"⟩, "EngagedByDeputy$Steady", wd_519, wd_522, wd_527, wd_520, by decide, by decide, by decide +kernel, Or.inr (by decide +kernel)⟩, List.forall_mem_cons.mpr ⟨⟨_, rfl, ⟨"EngagedByDeputy$Steady", "sulking", "()I"⟩, "EngagedByDeputy$Steady", wd_519, wd_522, wd_528, wd_529, by decide, by decide, by decide +kernel, Or.inr (by decide +kernel)⟩, List.forall_mem_cons.mpr ⟨⟨_, rfl, wd_519, wd_520, wd_521, rfl, by decide +kernel⟩, List.forall_mem_cons.mpr ⟨⟨_, rfl, ⟨"EngagedByDeputy$Steady", "sulking", "()I"⟩, "EngagedByDeputy$Steady", wd_519, wd_522, wd_534, wd_535, by decide, by decide, by decide +kernel, Or.inr (by decide +kernel)⟩, List.forall_mem_cons.mpr ⟨⟨_, rfl, ⟨"EngagedByDeputy$Steady", "sulking", "()I"⟩, "EngagedByDeputy$Steady", wd_519, wd_522, wd_538, wd_520, by decide, by decide, by decide +kernel, Or.inr (by decide +kernel)⟩, List.forall_mem_cons.mpr ⟨⟨_, rfl, wd_548, wd_550, wd_6, rfl, by decide +kernel⟩, List.forall_mem_cons.mpr ⟨⟨_, rfl, wd_552, wd_553, wd_554, rfl, by decide +kernel⟩, List.forall_mem_cons.mpr ⟨⟨_, rfl, wd_556, wd_558, wd_7, rfl, by decide +kernel⟩, List.forall_mem_cons.mpr ⟨⟨_, rfl, wd_1100, wd_1101, wd_1102, rfl, by decide +kernel⟩, List.forall_mem_cons.mpr ⟨⟨_, rfl, wd_79, wd_80, rfl, by decide +kernel⟩, List.forall_mem_cons.mpr ⟨⟨_, rfl, wd_1110, wd_1111, rfl, by decide +kernel⟩, List.forall_mem_cons.mpr ⟨⟨_, rfl, wd_347, wd_348, wd_349, rfl, by decide +kernel⟩, List.forall_mem_cons.mpr ⟨⟨_, rfl, wd_1214, wd_1215, wd_1216, rfl, by decide +kernel⟩, List.forall_mem_cons.mpr ⟨⟨_, rfl, wd_569, wd_570, wd_571, rfl, by decide +kernel⟩, List.forall_mem_cons.mpr ⟨⟨_, rfl, wd_1325, wd_1326, wd_1327, rfl, by decide +kernel⟩, fun _ h => absurd h List.not_mem_nil⟩⟩⟩⟩⟩⟩⟩⟩⟩⟩⟩⟩⟩⟩⟩⟩⟩⟩⟩⟩⟩⟩⟩⟩⟩⟩⟩⟩⟩⟩⟩⟩⟩⟩⟩⟩⟩⟩⟩⟩
theorem ok_cTab_6 : ∀ e ∈ ((cTab.drop 240).take 40), okC e := List.forall_mem_cons.mpr ⟨⟨_, rfl, wd_599, wd_600, wd_601, rfl, by decide +kernel⟩, List.forall_mem_cons.mpr ⟨⟨_, rfl, wd_1332, wd_1333, wd_1334, rfl, by decide +kernel⟩, List.forall_mem_cons.mpr ⟨⟨_, rfl, wd_604, wd_605, wd_606, rfl, by decide +kernel⟩, List.forall_mem_cons.mpr ⟨⟨_, rfl, wd_1336, wd_1337, wd_1338, rfl, by decide +kernel⟩, List.forall_mem_cons.mpr ⟨⟨_, rfl, wd_633, wd_634, wd_635, rfl, by decide +kernel⟩, List.forall_mem_cons.mpr ⟨⟨_, rfl, wd_1343, wd_1344, wd_1345, rfl, by decide +kernel⟩, List.forall_mem_cons.mpr ⟨⟨_, rfl, wd_642, wd_643, wd_644, rfl, by decide +kernel⟩, List.forall_mem_cons.mpr ⟨⟨_, rfl, wd_1351, wd_1352, wd_1353, rfl, by decide +kernel⟩, List.forall_mem_cons.mpr ⟨⟨_, rfl, wd_647, wd_648, wd_649, rfl, by decide +kernel⟩, List.forall_mem_cons.mpr ⟨⟨_, rfl, wd_1355, wd_1356, wd_1357, rfl, by decide +kernel⟩, List.forall_mem_cons.mpr ⟨⟨_, rfl, wd_651, wd_652, wd_653, rfl, by decide +kernel⟩, List.forall_mem_cons.mpr ⟨⟨_, rfl, wd_1359, wd_1360, wd_1361, rfl, by decide +kernel⟩, List.forall_mem_cons.mpr ⟨⟨_, rfl, wd_655, wd_656, wd_657, rfl, by decide +kernel⟩, List.forall_mem_cons.mpr ⟨⟨_, rfl, wd_1363, wd_1364, wd_1365, rfl, by decide +kernel⟩, List.forall_mem_cons.mpr ⟨⟨_, rfl, wd_659, wd_660, wd_661, rfl, by decide +kernel⟩, List.forall_mem_cons.mpr ⟨⟨_, rfl, wd_1367, wd_1368, wd_1369, rfl, by decide +kernel⟩, List.forall_mem_cons.mpr ⟨⟨_, rfl, wd_669, wd_670, wd_671, rfl, by decide +kernel⟩, List.forall_mem_cons.mpr ⟨⟨_, rfl, wd_1375, wd_1376, wd_1377, rfl, by decide +kernel⟩, List.forall_mem_cons.mpr ⟨⟨_, rfl, wd_673, wd_674, wd_675, rfl, by decide +kernel⟩, List.forall_mem_cons.mpr ⟨⟨_, rfl, wd_1379, wd_1380, wd_1381, rfl, by decide +kernel⟩, List.forall_mem_cons.mpr ⟨⟨_, rfl, wd_677, wd_678, wd_679, rfl, by decide +kernel⟩, List.forall_mem_cons.mpr ⟨⟨_, rfl, wd_1383, wd_1384, wd_1385, rfl, by decide +kernel⟩, List.forall_mem_cons.mpr ⟨⟨_, rfl, wd_681, wd_682, wd_683, rfl, by decide +kernel⟩, List.forall_mem_cons.mpr ⟨⟨_, rfl, wd_1387, wd_1388, wd_1389, rfl, by decide +kernel⟩, List.forall_mem_cons.mpr ⟨⟨_, rfl, wd_688, wd_689, wd_690, rfl, by decide +kernel⟩, List.forall_mem_cons.mpr ⟨⟨_, rfl, wd_1395, wd_1396, wd_1397, rfl, by decide +kernel⟩, List.forall_mem_cons.mpr ⟨⟨_, rfl, wd_692, wd_693, wd_694, rfl, by decide +kernel⟩, List.forall_mem_cons.mpr ⟨⟨_, rfl, wd_1399, wd_1400, wd_1401, rfl, by decide +kernel⟩, List.forall_mem_cons.mpr ⟨⟨_, rfl, wd_696, wd_697, wd_698, rfl, by decide +kernel⟩, List.forall_mem_cons.mpr ⟨⟨_, rfl, wd_1403, wd_1404, wd_1405, rfl, by decide +kernel⟩, List.forall_mem_cons.mpr ⟨⟨_, rfl, wd_700, wd_701, wd_702, rfl, by decide +kernel⟩, List.forall_mem_cons.mpr ⟨⟨_, rfl, wd_1407, wd_1408, wd_1409, rfl, by decide +kernel⟩, List.forall_mem_cons.mpr ⟨⟨_, rfl, wd_708, wd_709, wd_710, rfl, by decide +kernel⟩, List.forall_mem_cons.mpr ⟨⟨_, rfl, wd_1414, wd_1415, wd_1416, rfl, by decide +kernel⟩, List.forall_mem_cons.mpr ⟨⟨_, rfl, wd_730, wd_731, wd_732, rfl, by decide +kernel⟩, List.forall_mem_cons.mpr ⟨⟨_, rfl, wd_1427, wd_1428, wd_1429, rfl, by decide +kernel⟩, List.forall_mem_cons.mpr ⟨⟨_, rfl, wd_738, wd_739, wd_740, rfl, by decide +kernel⟩, List.forall_mem_cons.mpr ⟨⟨_, rfl, wd_1431, wd_1432, wd_1433, rfl, by decide +kernel⟩, List.forall_mem_cons.mpr ⟨⟨_, rfl, wd_742, wd_743, wd_744, rfl, by decide +kernel⟩, List.forall_mem_cons.mpr ⟨⟨_, rfl, wd_1435, wd_1436, wd_1437, rfl, by decide +kernel⟩, fun _ h => absurd h List.not_mem_nil⟩⟩⟩⟩⟩⟩⟩⟩⟩⟩⟩⟩⟩⟩⟩⟩⟩⟩⟩⟩⟩⟩⟩⟩⟩⟩⟩⟩⟩⟩⟩⟩⟩⟩⟩⟩⟩⟩⟩⟩
theorem ok_cTab_7 : ∀ e ∈ ((cTab.drop 280).take 40), okC e := List.forall_mem_cons.mpr ⟨⟨_, rfl, wd_772, wd_773, wd_774, rfl, by decide +kernel⟩, List.forall_mem_cons.mpr ⟨⟨_, rfl, wd_1447, wd_1448, wd_1449, rfl, by decide +kernel⟩, List.forall_mem_cons.mpr ⟨⟨_, rfl, wd_793, wd_794, wd_795, rfl, by decide +kernel⟩, List.forall_mem_cons.mpr ⟨⟨_, rfl, wd_1463, wd_1464, wd_1465, rfl, by decide +kernel⟩, List.forall_mem_cons.mpr ⟨⟨_, rfl, wd_816, wd_817, wd_818, rfl, by decide +kernel⟩, List.forall_mem_cons.mpr ⟨⟨_, rfl, wd_1479, wd_1480, wd_1481, rfl, by decide +kernel⟩, List.forall_mem_cons.mpr ⟨⟨_, rfl, wd_820, wd_821, wd_822, rfl, by decide +kernel⟩, List.forall_mem_cons.mpr ⟨⟨_, rfl, wd_1483, wd_1484, wd_1485, rfl, by decide +kernel⟩, List.forall_mem_cons.mpr ⟨⟨_, rfl, wd_824, wd_825, wd_826, rfl, by decide +kernel⟩, List.forall_mem_cons.mpr ⟨⟨_, rfl, wd_1487, wd_1488, wd_1489, rfl, by decide +kernel⟩, List.forall_mem_cons.mpr ⟨⟨_, rfl, wd_832, wd_833, wd_834, rfl, by decide +kernel⟩, List.forall_mem_cons.mpr ⟨⟨_, rfl, wd_1495, wd_1496, wd_1497, rfl, by decide +kernel⟩, List.forall_mem_cons.mpr ⟨⟨_, rfl, wd_836, wd_837, wd_838, rfl, by decide +kernel⟩, List.forall_mem_cons.mpr ⟨⟨_, rfl, wd_1499, wd_1500, wd_1501, rfl, by decide +kernel⟩, List.forall_mem_cons.mpr ⟨⟨_, rfl, wd_844, wd_845, wd_846, rfl, by decide +kernel⟩, List.forall_mem_cons.mpr ⟨⟨_, rfl, wd_1507, wd_1508, wd_1509, rfl, by decide +kernel⟩, List.forall_mem_cons.mpr ⟨⟨_, rfl, wd_848, wd_849, wd_850, rfl, by decide +kernel⟩, List.forall_mem_cons.mpr ⟨⟨_, rfl, wd_1511, wd_1512, wd_1513, rfl, by decide +kernel⟩, List.forall_mem_cons.mpr ⟨⟨_, rfl, wd_866, wd_867, wd_868, rfl, by decide +kernel⟩, List.forall_mem_cons.mpr ⟨⟨_, rfl, wd_1520, wd_1521, wd_1522, rfl, by decide +kernel⟩, List.forall_mem_cons.mpr ⟨⟨_, rfl, wd_874, wd_875, wd_876, rfl, by decide +kernel⟩, List.forall_mem_cons.mpr ⟨⟨_, rfl, wd_1528, wd_1529, wd_1530, rfl, by decide +kernel⟩, List.forall_mem_cons.mpr ⟨⟨_, rfl, wd_885, wd_886, wd_887, rfl, by decide +kernel⟩, List.forall_mem_cons.mpr ⟨⟨_, rfl, wd_1533, wd_1534, wd_1535, rfl, by decide +kernel⟩, List.forall_mem_cons.mpr ⟨⟨_, rfl, wd_896, wd_897, wd_898, rfl, by decide +kernel⟩, List.forall_mem_cons.mpr ⟨⟨_, rfl, wd_1544, wd_1545, wd_1546, rfl, by decide +kernel⟩, List.forall_mem_cons.mpr ⟨⟨_, rfl, wd_900, wd_901, wd_902, rfl, by decide +kernel⟩, List.forall_mem_cons.mpr ⟨⟨_, rfl, wd_1548, wd_1549, wd_1550, rfl, by decide +kernel⟩, List.forall_mem_cons.mpr ⟨⟨_, rfl, wd_904, wd_905, wd_906, rfl, by decide +kernel⟩, List.forall_mem_cons.mpr ⟨⟨_, rfl, wd_1552, wd_1553, wd_1554, rfl, by decide +kernel⟩, List.forall_mem_cons.mpr ⟨⟨_, rfl, wd_908, wd_909, wd_910, rfl, by decide +kernel⟩, List.forall_mem_cons.mpr ⟨⟨_, rfl, wd_1560, wd_1561, wd_1562, rfl, by decide +kernel⟩, List.forall_mem_cons.mpr ⟨⟨_, rfl, wd_916, wd_917, wd_918, rfl, by decide +kernel⟩, List.forall_mem_cons.mpr ⟨⟨_, rfl, wd_1564, wd_1565, wd_1566, rfl, by decide +kernel⟩, List.forall_mem_cons.mpr ⟨⟨_, rfl, wd_924, wd_925, wd_926, rfl, by decide +kernel⟩, List.forall_mem_cons.mpr ⟨⟨_, rfl, wd_1568, wd_1569, wd_1570, rfl, by decide +kernel⟩, List.forall_mem_cons.mpr ⟨trivial, List.forall_mem_cons.mpr ⟨⟨_, rfl, wd_1572, wd_1573, wd_1574, rfl, by decide +kernel⟩, List.forall_mem_cons.mpr ⟨⟨_, rfl, wd_1556, wd_1557, wd_1558, rfl, by decide +kernel⟩, List.forall_mem_cons.mpr ⟨⟨_, rfl, wd_933, wd_934, wd_935, rfl, by decide +kernel⟩, fun _ h => absurd h List.not_mem_nil⟩⟩⟩⟩⟩⟩⟩⟩⟩⟩⟩⟩⟩⟩⟩⟩⟩⟩⟩⟩⟩⟩⟩⟩⟩⟩⟩⟩⟩⟩⟩⟩⟩⟩⟩⟩⟩⟩⟩⟩
theorem ok_cTab_8 : ∀ e ∈ ((cTab.drop 320).take 5), okC e := List.forall_mem_cons.mpr ⟨⟨_, rfl, wd_1576, wd_1577, wd_1578, rfl, by decide +kernel⟩, List.forall_mem_cons.mpr ⟨⟨_, rfl, wd_942, wd_943, wd_944, rfl, by decide +kernel⟩, List.forall_mem_cons.mpr ⟨⟨_, rfl, wd_1580, wd_1581, wd_1582, rfl, by decide +kernel⟩, List.forall_mem_cons.mpr ⟨trivial, List.forall_mem_cons.mpr ⟨⟨_, rfl, wd_1587, wd_1588, wd_1589, rfl, by decide +kernel⟩, fun _ h => absurd h List.not_mem_nil⟩⟩⟩⟩⟩
set_option maxRecDepth 100000 in
theorem ok_cTab_all : ∀ e ∈ cTab, okC e := by
  intro e he
  obtain ⟨i, hi⟩ := List.getElem?_of_mem he
  have hl : i < 325 := by have := (List.getElem?_eq_some_iff.mp hi).1; exact this
  by_cases h0 : i < 40
  · refine ok_cTab_0 e (List.mem_of_getElem? (i := i - 0) ?_)
    rw [List.getElem?_take_of_lt (by omega), List.getElem?_drop, show 0 + (i - 0) = i by omega]
    exact hi
  by_cases h1 : i < 80
  · refine ok_cTab_1 e (List.mem_of_getElem? (i := i - 40) ?_)
    rw [List.getElem?_take_of_lt (by omega), List.getElem?_drop, show 40 + (i - 40) = i by omega]
    exact hi
  by_cases h2 : i < 120
  · refine ok_cTab_2 e (List.mem_of_getElem? (i := i - 80) ?_)
    rw [List.getElem?_take_of_lt (by omega), List.getElem?_drop, show 80 + (i - 80) = i by omega]
    exact hi
  by_cases h3 : i < 160
  · refine ok_cTab_3 e (List.mem_of_getElem? (i := i - 120) ?_)
    rw [List.getElem?_take_of_lt (by omega), List.getElem?_drop, show 120 + (i - 120) = i by omega]
    exact hi
  by_cases h4 : i < 200
  · refine ok_cTab_4 e (List.mem_of_getElem? (i := i - 160) ?_)
    rw [List.getElem?_take_of_lt (by omega), List.getElem?_drop, show 160 + (i - 160) = i by omega]
    exact hi
  by_cases h5 : i < 240
  · refine ok_cTab_5 e (List.mem_of_getElem? (i := i - 200) ?_)
    rw [List.getElem?_take_of_lt (by omega), List.getElem?_drop, show 200 + (i - 200) = i by omega]
    exact hi
  by_cases h6 : i < 280
  · refine ok_cTab_6 e (List.mem_of_getElem? (i := i - 240) ?_)
    rw [List.getElem?_take_of_lt (by omega), List.getElem?_drop, show 240 + (i - 240) = i by omega]
    exact hi
  by_cases h7 : i < 320
  · refine ok_cTab_7 e (List.mem_of_getElem? (i := i - 280) ?_)
    rw [List.getElem?_take_of_lt (by omega), List.getElem?_drop, show 280 + (i - 280) = i by omega]
    exact hi
  by_cases h8 : i < 325
  · refine ok_cTab_8 e (List.mem_of_getElem? (i := i - 320) ?_)
    rw [List.getElem?_take_of_lt (by omega), List.getElem?_drop, show 320 + (i - 320) = i by omega]
    exact hi
  omega
def okO (e : Nat × Nat) : Prop := Cond.methodLink (cnm e.1) e.2 Lib.objectInit ∈ WSg
def oTab : List (Nat × Nat) := [(11, 1), (12, 1), (2, 1), (4, 3), (5, 3), (6, 1), (8, 3), (10, 3)]
theorem ok_oTab_0 : ∀ e ∈ ((oTab.drop 0).take 8), okO e := List.forall_mem_cons.mpr ⟨wd_82, List.forall_mem_cons.mpr ⟨wd_1113, List.forall_mem_cons.mpr ⟨wd_317, List.forall_mem_cons.mpr ⟨wd_174, List.forall_mem_cons.mpr ⟨wd_288, List.forall_mem_cons.mpr ⟨wd_90, List.forall_mem_cons.mpr ⟨wd_107, List.forall_mem_cons.mpr ⟨wd_207, fun _ h => absurd h List.not_mem_nil⟩⟩⟩⟩⟩⟩⟩⟩
set_option maxRecDepth 100000 in
theorem ok_oTab_all : ∀ e ∈ oTab, okO e := by
  intro e he
  obtain ⟨i, hi⟩ := List.getElem?_of_mem he
  have hl : i < 8 := by have := (List.getElem?_eq_some_iff.mp hi).1; exact this
  by_cases h0 : i < 8
  · refine ok_oTab_0 e (List.mem_of_getElem? (i := i - 0) ?_)
    rw [List.getElem?_take_of_lt (by omega), List.getElem?_drop, show 0 + (i - 0) = i by omega]
    exact hi
  omega
def okY (e : Nat × Nat) : Prop := Cond.methodLink (cnm e.1) e.2 arraycopyName ∈ WSg
def yTab : List (Nat × Nat) := [(11, 362), (4, 91), (8, 92)]
theorem ok_yTab_0 : ∀ e ∈ ((yTab.drop 0).take 3), okY e := List.forall_mem_cons.mpr ⟨wd_941, List.forall_mem_cons.mpr ⟨wd_810, List.forall_mem_cons.mpr ⟨wd_387, fun _ h => absurd h List.not_mem_nil⟩⟩⟩
set_option maxRecDepth 100000 in
theorem ok_yTab_all : ∀ e ∈ yTab, okY e := by
  intro e he
  obtain ⟨i, hi⟩ := List.getElem?_of_mem he
  have hl : i < 3 := by have := (List.getElem?_eq_some_iff.mp hi).1; exact this
  by_cases h0 : i < 3
  · refine ok_yTab_0 e (List.mem_of_getElem? (i := i - 0) ?_)
    rw [List.getElem?_take_of_lt (by omega), List.getElem?_drop, show 0 + (i - 0) = i by omega]
    exact hi
  omega
def okX (e : Nat × Nat × Nat) : Prop := Cond.methodLink (cnm e.1) e.2.1 (if e.2.2 = 1 then Lib.Math.max.name else Lib.Math.min.name) ∈ WSg
def xTab : List (Nat × Nat × Nat) := [(3, 21, 1), (4, 67, 1), (8, 64, 0), (8, 69, 1)]
theorem ok_xTab_0 : ∀ e ∈ ((xTab.drop 0).take 4), okX e := List.forall_mem_cons.mpr ⟨wd_626, List.forall_mem_cons.mpr ⟨wd_801, List.forall_mem_cons.mpr ⟨wd_424, List.forall_mem_cons.mpr ⟨wd_427, fun _ h => absurd h List.not_mem_nil⟩⟩⟩⟩
set_option maxRecDepth 100000 in
theorem ok_xTab_all : ∀ e ∈ xTab, okX e := by
  intro e he
  obtain ⟨i, hi⟩ := List.getElem?_of_mem he
  have hl : i < 4 := by have := (List.getElem?_eq_some_iff.mp hi).1; exact this
  by_cases h0 : i < 4
  · refine ok_xTab_0 e (List.mem_of_getElem? (i := i - 0) ?_)
    rw [List.getElem?_take_of_lt (by omega), List.getElem?_drop, show 0 + (i - 0) = i by omega]
    exact hi
  omega
def okN (e : Nat × Nat × Nat) : Prop := ∃ r, vwCl[e.2.2]? = some r ∧ Cond.classLink (cnm e.1) e.2.1 r.1 ∈ WSg
def nTab : List (Nat × Nat × Nat) := [(11, 7, 6), (11, 12, 8), (11, 23, 4), (11, 35, 10), (11, 46, 9), (11, 49, 0), (11, 52, 3), (11, 55, 7), (11, 58, 1), (11, 61, 5), (11, 68, 2), (13, 8, 11), (13, 18, 12)]
theorem ok_nTab_0 : ∀ e ∈ ((nTab.drop 0).take 13), okN e := List.forall_mem_cons.mpr ⟨⟨_, rfl, wd_85⟩, List.forall_mem_cons.mpr ⟨⟨_, rfl, wd_102⟩, List.forall_mem_cons.mpr ⟨⟨_, rfl, wd_169⟩, List.forall_mem_cons.mpr ⟨⟨_, rfl, wd_202⟩, List.forall_mem_cons.mpr ⟨⟨_, rfl, wd_242⟩, List.forall_mem_cons.mpr ⟨⟨_, rfl, wd_250⟩, List.forall_mem_cons.mpr ⟨⟨_, rfl, wd_258⟩, List.forall_mem_cons.mpr ⟨⟨_, rfl, wd_266⟩, List.forall_mem_cons.mpr ⟨⟨_, rfl, wd_274⟩, List.forall_mem_cons.mpr ⟨⟨_, rfl, wd_282⟩, List.forall_mem_cons.mpr ⟨⟨_, rfl, wd_311⟩, List.forall_mem_cons.mpr ⟨⟨_, rfl, wd_77⟩, List.forall_mem_cons.mpr ⟨⟨_, rfl, wd_1108⟩, fun _ h => absurd h List.not_mem_nil⟩⟩⟩⟩⟩⟩⟩⟩⟩⟩⟩⟩⟩
set_option maxRecDepth 100000 in
theorem ok_nTab_all : ∀ e ∈ nTab, okN e := by
  intro e he
  obtain ⟨i, hi⟩ := List.getElem?_of_mem he
  have hl : i < 13 := by have := (List.getElem?_eq_some_iff.mp hi).1; exact this
  by_cases h0 : i < 13
  · refine ok_nTab_0 e (List.mem_of_getElem? (i := i - 0) ?_)
    rw [List.getElem?_take_of_lt (by omega), List.getElem?_drop, show 0 + (i - 0) = i by omega]
    exact hi
  omega
def ak : Nat → FieldType := fun t => match t with
  | 0 => .int
  | 1 => .long
  | 2 => .boolean
  | 3 => .object "EngagedByDeputy$Steady"
  | 4 => .object "EngagedByDeputy$Shelf"
  | _ => .object "EngagedByDeputy$Figure"
def okA (e : Nat × Nat × Nat) : Prop := ∃ C : String, ak e.2.2 = .object C ∧ Cond.classLink (cnm e.1) e.2.1 C ∈ WSg ∧ Cond.arrayOver (.object C) ∈ xW
def aTab : List (Nat × Nat × Nat) := [(11, 7, 3), (11, 61, 4), (11, 68, 5), (8, 15, 3)]
theorem ok_aTab_0 : ∀ e ∈ ((aTab.drop 0).take 4), okA e := List.forall_mem_cons.mpr ⟨⟨"EngagedByDeputy$Steady", rfl, wd_85, by decide +kernel⟩, List.forall_mem_cons.mpr ⟨⟨"EngagedByDeputy$Shelf", rfl, wd_282, by decide +kernel⟩, List.forall_mem_cons.mpr ⟨⟨"EngagedByDeputy$Figure", rfl, wd_311, by decide +kernel⟩, List.forall_mem_cons.mpr ⟨⟨"EngagedByDeputy$Steady", rfl, wd_108, by decide +kernel⟩, fun _ h => absurd h List.not_mem_nil⟩⟩⟩⟩
set_option maxRecDepth 100000 in
theorem ok_aTab_all : ∀ e ∈ aTab, okA e := by
  intro e he
  obtain ⟨i, hi⟩ := List.getElem?_of_mem he
  have hl : i < 4 := by have := (List.getElem?_eq_some_iff.mp hi).1; exact this
  by_cases h0 : i < 4
  · refine ok_aTab_0 e (List.mem_of_getElem? (i := i - 0) ?_)
    rw [List.getElem?_take_of_lt (by omega), List.getElem?_drop, show 0 + (i - 0) = i by omega]
    exact hi
  omega
def okK (e : Nat × Nat × Int) : Prop := Cond.constant (cnm e.1) e.2.1 (Int32.ofInt e.2.2) ∈ WSg
def kTab : List (Nat × Nat × Int) := [(12, 232, 1000000000), (12, 278, (-2147483648)), (12, 282, 1103515245), (12, 283, 2147483647), (12, 284, 65536), (8, 89, 1103515245), (8, 90, 2147483647), (8, 91, 65536)]
theorem ok_kTab_0 : ∀ e ∈ ((kTab.drop 0).take 8), okK e := List.forall_mem_cons.mpr ⟨wd_1418, List.forall_mem_cons.mpr ⟨wd_1532, List.forall_mem_cons.mpr ⟨wd_1541, List.forall_mem_cons.mpr ⟨wd_1542, List.forall_mem_cons.mpr ⟨wd_1543, List.forall_mem_cons.mpr ⟨wd_893, List.forall_mem_cons.mpr ⟨wd_894, List.forall_mem_cons.mpr ⟨wd_895, fun _ h => absurd h List.not_mem_nil⟩⟩⟩⟩⟩⟩⟩⟩
set_option maxRecDepth 100000 in
theorem ok_kTab_all : ∀ e ∈ kTab, okK e := by
  intro e he
  obtain ⟨i, hi⟩ := List.getElem?_of_mem he
  have hl : i < 8 := by have := (List.getElem?_eq_some_iff.mp hi).1; exact this
  by_cases h0 : i < 8
  · refine ok_kTab_0 e (List.mem_of_getElem? (i := i - 0) ?_)
    rw [List.getElem?_take_of_lt (by omega), List.getElem?_drop, show 0 + (i - 0) = i by omega]
    exact hi
  omega
def okJ (e : Nat × Nat × Int) : Prop := Cond.constantLong (cnm e.1) e.2.1 (Int64.ofInt e.2.2) ∈ WSg
def jTab : List (Nat × Nat × Int) := [(11, 277, (-1)), (12, 269, 10), (2, 13, 1000000000), (2, 19, 10), (5, 29, (-128)), (5, 31, (-2147483648)), (5, 33, (-9223372036854775808))]
theorem ok_jTab_0 : ∀ e ∈ ((jTab.drop 0).take 7), okJ e := List.forall_mem_cons.mpr ⟨wd_754, List.forall_mem_cons.mpr ⟨wd_1519, List.forall_mem_cons.mpr ⟨wd_856, List.forall_mem_cons.mpr ⟨wd_865, List.forall_mem_cons.mpr ⟨wd_882, List.forall_mem_cons.mpr ⟨wd_883, List.forall_mem_cons.mpr ⟨wd_884, fun _ h => absurd h List.not_mem_nil⟩⟩⟩⟩⟩⟩⟩
set_option maxRecDepth 100000 in
theorem ok_jTab_all : ∀ e ∈ jTab, okJ e := by
  intro e he
  obtain ⟨i, hi⟩ := List.getElem?_of_mem he
  have hl : i < 7 := by have := (List.getElem?_eq_some_iff.mp hi).1; exact this
  by_cases h0 : i < 7
  · refine ok_jTab_0 e (List.mem_of_getElem? (i := i - 0) ?_)
    rw [List.getElem?_take_of_lt (by omega), List.getElem?_drop, show 0 + (i - 0) = i by omega]
    exact hi
  omega
theorem inW0 : ∀ w ∈ u_ws RX0 TX0 1, w ∈ WSg := List.forall_mem_cons.mpr ⟨wd_256, fun _ h => absurd h List.not_mem_nil⟩
theorem inW1 : ∀ w ∈ u_ws RX1 TX1 1, w ∈ WSg := List.forall_mem_cons.mpr ⟨wd_280, fun _ h => absurd h List.not_mem_nil⟩
theorem inW2 : ∀ w ∈ u_ws RX2 TX2 1, w ∈ WSg := List.forall_mem_cons.mpr ⟨wd_319, fun _ h => absurd h List.not_mem_nil⟩
theorem inW3 : ∀ w ∈ u_ws RX3 TX3 1, w ∈ WSg := List.forall_mem_cons.mpr ⟨wd_264, fun _ h => absurd h List.not_mem_nil⟩
theorem inW4 : ∀ w ∈ u_ws RX4 TX4 7, w ∈ WSg := List.forall_mem_cons.mpr ⟨wd_186, List.forall_mem_cons.mpr ⟨wd_188, List.forall_mem_cons.mpr ⟨wd_190, List.forall_mem_cons.mpr ⟨wd_192, List.forall_mem_cons.mpr ⟨wd_194, List.forall_mem_cons.mpr ⟨wd_196, List.forall_mem_cons.mpr ⟨wd_198, fun _ h => absurd h List.not_mem_nil⟩⟩⟩⟩⟩⟩⟩
theorem inW5 : ∀ w ∈ u_ws RX5 TX5 5, w ∈ WSg := List.forall_mem_cons.mpr ⟨wd_299, List.forall_mem_cons.mpr ⟨wd_301, List.forall_mem_cons.mpr ⟨wd_303, List.forall_mem_cons.mpr ⟨wd_305, List.forall_mem_cons.mpr ⟨wd_307, fun _ h => absurd h List.not_mem_nil⟩⟩⟩⟩⟩
theorem inW6 : ∀ w ∈ u_ws RX6 TX6 1, w ∈ WSg := List.forall_mem_cons.mpr ⟨wd_99, fun _ h => absurd h List.not_mem_nil⟩
theorem inW7 : ∀ w ∈ u_ws RX7 TX7 1, w ∈ WSg := List.forall_mem_cons.mpr ⟨wd_272, fun _ h => absurd h List.not_mem_nil⟩
theorem inW8 : ∀ w ∈ u_ws RX8 TX8 13, w ∈ WSg := List.forall_mem_cons.mpr ⟨wd_141, List.forall_mem_cons.mpr ⟨wd_143, List.forall_mem_cons.mpr ⟨wd_145, List.forall_mem_cons.mpr ⟨wd_147, List.forall_mem_cons.mpr ⟨wd_149, List.forall_mem_cons.mpr ⟨wd_151, List.forall_mem_cons.mpr ⟨wd_153, List.forall_mem_cons.mpr ⟨wd_155, List.forall_mem_cons.mpr ⟨wd_157, List.forall_mem_cons.mpr ⟨wd_159, List.forall_mem_cons.mpr ⟨wd_161, List.forall_mem_cons.mpr ⟨wd_163, List.forall_mem_cons.mpr ⟨wd_165, fun _ h => absurd h List.not_mem_nil⟩⟩⟩⟩⟩⟩⟩⟩⟩⟩⟩⟩⟩
theorem inW9 : ∀ w ∈ u_ws RX9 TX9 1, w ∈ WSg := List.forall_mem_cons.mpr ⟨wd_248, fun _ h => absurd h List.not_mem_nil⟩
theorem inW10 : ∀ w ∈ u_ws RX10 TX10 9, w ∈ WSg := List.forall_mem_cons.mpr ⟨wd_223, List.forall_mem_cons.mpr ⟨wd_225, List.forall_mem_cons.mpr ⟨wd_227, List.forall_mem_cons.mpr ⟨wd_229, List.forall_mem_cons.mpr ⟨wd_231, List.forall_mem_cons.mpr ⟨wd_233, List.forall_mem_cons.mpr ⟨wd_235, List.forall_mem_cons.mpr ⟨wd_237, List.forall_mem_cons.mpr ⟨wd_239, fun _ h => absurd h List.not_mem_nil⟩⟩⟩⟩⟩⟩⟩⟩⟩
theorem inW11 : ∀ w ∈ u_ws RX11 TX11 8, w ∈ WSg := List.forall_mem_cons.mpr ⟨wd_330, List.forall_mem_cons.mpr ⟨wd_332, List.forall_mem_cons.mpr ⟨wd_334, List.forall_mem_cons.mpr ⟨wd_336, List.forall_mem_cons.mpr ⟨wd_338, List.forall_mem_cons.mpr ⟨wd_340, List.forall_mem_cons.mpr ⟨wd_342, List.forall_mem_cons.mpr ⟨wd_344, fun _ h => absurd h List.not_mem_nil⟩⟩⟩⟩⟩⟩⟩⟩
theorem inW12 : ∀ w ∈ u_ws RX12 TX12 33, w ∈ WSg := List.forall_mem_cons.mpr ⟨wd_1147, List.forall_mem_cons.mpr ⟨wd_1149, List.forall_mem_cons.mpr ⟨wd_1151, List.forall_mem_cons.mpr ⟨wd_1153, List.forall_mem_cons.mpr ⟨wd_1155, List.forall_mem_cons.mpr ⟨wd_1157, List.forall_mem_cons.mpr ⟨wd_1159, List.forall_mem_cons.mpr ⟨wd_1161, List.forall_mem_cons.mpr ⟨wd_1163, List.forall_mem_cons.mpr ⟨wd_1165, List.forall_mem_cons.mpr ⟨wd_1167, List.forall_mem_cons.mpr ⟨wd_1169, List.forall_mem_cons.mpr ⟨wd_1171, List.forall_mem_cons.mpr ⟨wd_1173, List.forall_mem_cons.mpr ⟨wd_1175, List.forall_mem_cons.mpr ⟨wd_1177, List.forall_mem_cons.mpr ⟨wd_1179, List.forall_mem_cons.mpr ⟨wd_1181, List.forall_mem_cons.mpr ⟨wd_1183, List.forall_mem_cons.mpr ⟨wd_1185, List.forall_mem_cons.mpr ⟨wd_1187, List.forall_mem_cons.mpr ⟨wd_1189, List.forall_mem_cons.mpr ⟨wd_1191, List.forall_mem_cons.mpr ⟨wd_1193, List.forall_mem_cons.mpr ⟨wd_1195, List.forall_mem_cons.mpr ⟨wd_1197, List.forall_mem_cons.mpr ⟨wd_1199, List.forall_mem_cons.mpr ⟨wd_1201, List.forall_mem_cons.mpr ⟨wd_1203, List.forall_mem_cons.mpr ⟨wd_1205, List.forall_mem_cons.mpr ⟨wd_1207, List.forall_mem_cons.mpr ⟨wd_1209, List.forall_mem_cons.mpr ⟨wd_1211, fun _ h => absurd h List.not_mem_nil⟩⟩⟩⟩⟩⟩⟩⟩⟩⟩⟩⟩⟩⟩⟩⟩⟩⟩⟩⟩⟩⟩⟩⟩⟩⟩⟩⟩⟩⟩⟩⟩⟩
def tyT (ci : Nat) : Nat → FieldType := ([tyX0, tyX1, tyX2, tyX3, tyX4, tyX5, tyX6, tyX7, tyX8, tyX9, tyX10, tyX11, tyX12] : List (Nat → FieldType)).getD ci (fun _ => .int)
def dfT (ci : Nat) : List iV := ([[.inl 0], [.inl 0], [.inr (.inr 0)], [.inl 0], [.inr (.inr 0), .inr (.inr 0), .inr (.inr 0), .inr (.inr 0), .inr (.inr 0), .inl 0, .inl 0], [.inl 0, .inr (.inr 0), .inl 0, .inl 0, .inr (.inr 0)], [.inl 0], [.inl 0], [.inr (.inr 0), .inr (.inr 0), .inr (.inr 0), .inr (.inr 0), .inr (.inr 0), .inl 0, .inr (.inr 0), .inr (.inr 0), .inr (.inr 0), .inr (.inr 0), .inr (.inr 0), .inl 0, .inl 0], [.inl 0], [.inr (.inr 0), .inr (.inr 0), .inr (.inr 0), .inr (.inr 0), .inr (.inr 0), .inl 0, .inl 0, .inl 0, .inl 0], [.inr (.inr 0), .inr (.inr 0), .inr (.inr 0), .inr (.inr 0), .inl 0, .inr (.inr 0), .inr (.inr 0), .inr (.inr 0)], [.inr (.inr 0), .inr (.inr 0), .inr (.inr 0), .inr (.inr 0), .inl 0, .inr (.inr 0), .inr (.inr 0), .inr (.inr 0), .inl 0, .inl 0, .inl 0, .inl 0, .inl 0, .inl 0, .inl 0, .inr (.inr 0), .inl 0, .inl 0, .inr (.inr 0), .inr (.inr 0), .inr (.inr 0), .inl 0, .inl 0, .inr (.inr 0), .inr (.inr 0), .inl 0, .inr (.inr 0), .inr (.inr 0), .inr (.inr 0), .inr (.inr 0), .inr (.inr 0), .inr (.inr 0), .inl 0]] : List (List iV)).getD ci []
def okCl (ci : Nat) (r : vw_C) : Prop := (∀ k, k < r.2.2 → parseFieldDescriptor (r.2.1 k).2.2.1 = some (tyT ci k)) ∧ (∀ a, a < r.2.2 → ∀ b, b < r.2.2 → a ≠ b → (r.2.1 a).2.1 ≠ (r.2.1 b).2.1) ∧ (∀ w ∈ u_ws r.1 r.2.1 r.2.2, w ∈ WSg) ∧ Cond.instantiable r.1 r.2.2 ∈ WSg ∧ Cond.initialized r.1 ∈ WSg ∧ r.2.2 ≤ 1000 ∧ (dfT ci).length = r.2.2 ∧ (∀ as b j, j < r.2.2 → defaultValue (tyT ci j) = vp_V ((dfT ci).map (tr as b)) j) ∧ cnm ci = r.1
theorem okCl_0 : okCl 0 (RX0, TX0, 1) := ⟨tyX0_ok, nmX0, inW0, wd_251, wd_62, by decide, rfl, fun as b j hj => match j, hj with
  | 0, _ => rfl
  | j + 1, hj => absurd hj (by show ¬ j + 1 < 1; omega), rfl⟩
theorem okCl_1 : okCl 1 (RX1, TX1, 1) := ⟨tyX1_ok, nmX1, inW1, wd_275, wd_65, by decide, rfl, fun as b j hj => match j, hj with
  | 0, _ => rfl
  | j + 1, hj => absurd hj (by show ¬ j + 1 < 1; omega), rfl⟩
theorem okCl_2 : okCl 2 (RX2, TX2, 1) := ⟨tyX2_ok, nmX2, inW2, wd_313, wd_67, by decide, rfl, fun as b j hj => match j, hj with
  | 0, _ => rfl
  | j + 1, hj => absurd hj (by show ¬ j + 1 < 1; omega), rfl⟩
theorem okCl_3 : okCl 3 (RX3, TX3, 1) := ⟨tyX3_ok, nmX3, inW3, wd_259, wd_63, by decide, rfl, fun as b j hj => match j, hj with
  | 0, _ => rfl
  | j + 1, hj => absurd hj (by show ¬ j + 1 < 1; omega), rfl⟩
theorem okCl_4 : okCl 4 (RX4, TX4, 7) := ⟨tyX4_ok, nmX4, inW4, wd_170, wd_59, by decide, rfl, fun as b j hj => match j, hj with
  | 0, _ => rfl
  | 1, _ => rfl
  | 2, _ => rfl
  | 3, _ => rfl
  | 4, _ => rfl
  | 5, _ => rfl
  | 6, _ => rfl
  | j + 7, hj => absurd hj (by show ¬ j + 7 < 7; omega), rfl⟩
theorem okCl_5 : okCl 5 (RX5, TX5, 5) := ⟨tyX5_ok, nmX5, inW5, wd_284, wd_66, by decide, rfl, fun as b j hj => match j, hj with
  | 0, _ => rfl
  | 1, _ => rfl
  | 2, _ => rfl
  | 3, _ => rfl
  | 4, _ => rfl
  | j + 5, hj => absurd hj (by show ¬ j + 5 < 5; omega), rfl⟩
theorem okCl_6 : okCl 6 (RX6, TX6, 1) := ⟨tyX6_ok, nmX6, inW6, wd_86, wd_57, by decide, rfl, fun as b j hj => match j, hj with
  | 0, _ => rfl
  | j + 1, hj => absurd hj (by show ¬ j + 1 < 1; omega), rfl⟩
theorem okCl_7 : okCl 7 (RX7, TX7, 1) := ⟨tyX7_ok, nmX7, inW7, wd_267, wd_64, by decide, rfl, fun as b j hj => match j, hj with
  | 0, _ => rfl
  | j + 1, hj => absurd hj (by show ¬ j + 1 < 1; omega), rfl⟩
theorem okCl_8 : okCl 8 (RX8, TX8, 13) := ⟨tyX8_ok, nmX8, inW8, wd_103, wd_58, by decide, rfl, fun as b j hj => match j, hj with
  | 0, _ => rfl
  | 1, _ => rfl
  | 2, _ => rfl
  | 3, _ => rfl
  | 4, _ => rfl
  | 5, _ => rfl
  | 6, _ => rfl
  | 7, _ => rfl
  | 8, _ => rfl
  | 9, _ => rfl
  | 10, _ => rfl
  | 11, _ => rfl
  | 12, _ => rfl
  | j + 13, hj => absurd hj (by show ¬ j + 13 < 13; omega), rfl⟩
theorem okCl_9 : okCl 9 (RX9, TX9, 1) := ⟨tyX9_ok, nmX9, inW9, wd_243, wd_61, by decide, rfl, fun as b j hj => match j, hj with
  | 0, _ => rfl
  | j + 1, hj => absurd hj (by show ¬ j + 1 < 1; omega), rfl⟩
theorem okCl_10 : okCl 10 (RX10, TX10, 9) := ⟨tyX10_ok, nmX10, inW10, wd_203, wd_60, by decide, rfl, fun as b j hj => match j, hj with
  | 0, _ => rfl
  | 1, _ => rfl
  | 2, _ => rfl
  | 3, _ => rfl
  | 4, _ => rfl
  | 5, _ => rfl
  | 6, _ => rfl
  | 7, _ => rfl
  | 8, _ => rfl
  | j + 9, hj => absurd hj (by show ¬ j + 9 < 9; omega), rfl⟩
theorem okCl_11 : okCl 11 (RX11, TX11, 8) := ⟨tyX11_ok, nmX11, inW11, wd_78, wd_56, by decide, rfl, fun as b j hj => match j, hj with
  | 0, _ => rfl
  | 1, _ => rfl
  | 2, _ => rfl
  | 3, _ => rfl
  | 4, _ => rfl
  | 5, _ => rfl
  | 6, _ => rfl
  | 7, _ => rfl
  | j + 8, hj => absurd hj (by show ¬ j + 8 < 8; omega), rfl⟩
theorem okCl_12 : okCl 12 (RX12, TX12, 33) := ⟨tyX12_ok, nmX12, inW12, wd_1109, wd_68, by decide, rfl, fun as b j hj => match j, hj with
  | 0, _ => rfl
  | 1, _ => rfl
  | 2, _ => rfl
  | 3, _ => rfl
  | 4, _ => rfl
  | 5, _ => rfl
  | 6, _ => rfl
  | 7, _ => rfl
  | 8, _ => rfl
  | 9, _ => rfl
  | 10, _ => rfl
  | 11, _ => rfl
  | 12, _ => rfl
  | 13, _ => rfl
  | 14, _ => rfl
  | 15, _ => rfl
  | 16, _ => rfl
  | 17, _ => rfl
  | 18, _ => rfl
  | 19, _ => rfl
  | 20, _ => rfl
  | 21, _ => rfl
  | 22, _ => rfl
  | 23, _ => rfl
  | 24, _ => rfl
  | 25, _ => rfl
  | 26, _ => rfl
  | 27, _ => rfl
  | 28, _ => rfl
  | 29, _ => rfl
  | 30, _ => rfl
  | 31, _ => rfl
  | 32, _ => rfl
  | j + 33, hj => absurd hj (by show ¬ j + 33 < 33; omega), rfl⟩
theorem okCl_all {ci : Nat} {r : vw_C} (h : vwCl[ci]? = some r) : okCl ci r := by
  match ci, h with
  | 0, h => cases h; exact okCl_0
  | 1, h => cases h; exact okCl_1
  | 2, h => cases h; exact okCl_2
  | 3, h => cases h; exact okCl_3
  | 4, h => cases h; exact okCl_4
  | 5, h => cases h; exact okCl_5
  | 6, h => cases h; exact okCl_6
  | 7, h => cases h; exact okCl_7
  | 8, h => cases h; exact okCl_8
  | 9, h => cases h; exact okCl_9
  | 10, h => cases h; exact okCl_10
  | 11, h => cases h; exact okCl_11
  | 12, h => cases h; exact okCl_12
  | n + 13, h => cases h
theorem wd_obj1 : Cond.instanceMethod Lib.objectInit ∈ WSg := wd_83
theorem wd_obj2 : Cond.code Lib.objectInit ⟨#[0xb1]⟩ 1 none ∈ WSg := wd_84
theorem wd_max1 : Cond.static Lib.Math.max.name ∈ WSg := wd_428
theorem wd_max2 : Cond.code Lib.Math.max.name Lib.Math.max.code 2 (some .int) ∈ WSg := wd_429
theorem wd_min1 : Cond.static Lib.Math.min.name ∈ WSg := wd_425
theorem wd_min2 : Cond.code Lib.Math.min.name Lib.Math.min.code 2 (some .int) ∈ WSg := wd_426
theorem wd_math : Cond.initialized "java/lang/Math" ∈ WSg := wd_70
theorem wd_cp1 : Cond.native arraycopyName ∈ WSg := wd_389
theorem wd_cp2 : Cond.static arraycopyName ∈ WSg := wd_388
theorem wd_cp3 : Cond.initialized "java/lang/System" ∈ WSg := wd_69
theorem wd_ar0 : Cond.arrayClass .int ∈ WSg := wd_168
theorem wd_ar1 : Cond.arrayClass .long ∈ WSg := wd_310
theorem wd_ar2 : Cond.arrayClass .boolean ∈ WSg := wd_201
