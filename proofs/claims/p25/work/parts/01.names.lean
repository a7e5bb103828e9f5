-- ===== PART A: goes FIRST, ahead of the names: the tables' words, and 'selects' of the private methods out of them =====
/-- a private method of a class that the tables say can be made, by its rows of tables_1 -/
def lw_okq (q : MethodName × Nat) : Prop := (q.1.cls ≠ "java/lang/invoke/MethodHandle" ∧ q.1.cls ≠ "java/lang/invoke/VarHandle") ∧ Cond.instantiable q.1.cls q.2 ∈ tables_1 ∧ Cond.privateMethod q.1 ∈ tables_1 ∧ Cond.instanceMethod q.1 ∈ tables_1
theorem lw_p0 : lw_okq (⟨"PackedBits", "record", "(I)V"⟩, 5) := ⟨⟨by decide +kernel, by decide +kernel⟩, List.mem_of_getElem? (i := 11) (by decide +kernel), List.mem_of_getElem? (i := 136) (by decide +kernel), List.mem_of_getElem? (i := 137) (by decide +kernel)⟩
theorem lw_p1 : lw_okq (⟨"PackedBits$History", "dropOldest", "()V"⟩, 2) := ⟨⟨by decide +kernel, by decide +kernel⟩, List.mem_of_getElem? (i := 21) (by decide +kernel), List.mem_of_getElem? (i := 144) (by decide +kernel), List.mem_of_getElem? (i := 145) (by decide +kernel)⟩
theorem lw_p2 : lw_okq (⟨"PackedBits", "isRow", "(I)Z"⟩, 5) := ⟨⟨by decide +kernel, by decide +kernel⟩, List.mem_of_getElem? (i := 11) (by decide +kernel), List.mem_of_getElem? (i := 172) (by decide +kernel), List.mem_of_getElem? (i := 173) (by decide +kernel)⟩
theorem lw_p3 : lw_okq (⟨"PackedBits$Expression", "readSum", "(II)Z"⟩, 10) := ⟨⟨by decide +kernel, by decide +kernel⟩, List.mem_of_getElem? (i := 71) (by decide +kernel), List.mem_of_getElem? (i := 216) (by decide +kernel), List.mem_of_getElem? (i := 217) (by decide +kernel)⟩
theorem lw_p4 : lw_okq (⟨"PackedBits$Expression", "readProduct", "(II)Z"⟩, 10) := ⟨⟨by decide +kernel, by decide +kernel⟩, List.mem_of_getElem? (i := 71) (by decide +kernel), List.mem_of_getElem? (i := 220) (by decide +kernel), List.mem_of_getElem? (i := 221) (by decide +kernel)⟩
theorem lw_p5 : lw_okq (⟨"PackedBits$Expression", "readFactor", "(II)Z"⟩, 10) := ⟨⟨by decide +kernel, by decide +kernel⟩, List.mem_of_getElem? (i := 71) (by decide +kernel), List.mem_of_getElem? (i := 224) (by decide +kernel), List.mem_of_getElem? (i := 225) (by decide +kernel)⟩
theorem lw_p6 : lw_okq (⟨"PackedBits$Expression", "nextSign", "()C"⟩, 10) := ⟨⟨by decide +kernel, by decide +kernel⟩, List.mem_of_getElem? (i := 71) (by decide +kernel), List.mem_of_getElem? (i := 228) (by decide +kernel), List.mem_of_getElem? (i := 229) (by decide +kernel)⟩
theorem lw_p7 : lw_okq (⟨"PackedBits$Expression", "signHere", "()C"⟩, 10) := ⟨⟨by decide +kernel, by decide +kernel⟩, List.mem_of_getElem? (i := 71) (by decide +kernel), List.mem_of_getElem? (i := 232) (by decide +kernel), List.mem_of_getElem? (i := 233) (by decide +kernel)⟩
theorem lw_p8 : lw_okq (⟨"PackedBits$Expression", "readRow", "(II)Z"⟩, 10) := ⟨⟨by decide +kernel, by decide +kernel⟩, List.mem_of_getElem? (i := 71) (by decide +kernel), List.mem_of_getElem? (i := 236) (by decide +kernel), List.mem_of_getElem? (i := 237) (by decide +kernel)⟩
theorem lw_p9 : lw_okq (⟨"PackedBits$Expression", "readNumber", "(II)I"⟩, 10) := ⟨⟨by decide +kernel, by decide +kernel⟩, List.mem_of_getElem? (i := 71) (by decide +kernel), List.mem_of_getElem? (i := 240) (by decide +kernel), List.mem_of_getElem? (i := 241) (by decide +kernel)⟩
theorem lw_p10 : lw_okq (⟨"PackedBits$Expression", "breakOff", "(I)Z"⟩, 10) := ⟨⟨by decide +kernel, by decide +kernel⟩, List.mem_of_getElem? (i := 71) (by decide +kernel), List.mem_of_getElem? (i := 247) (by decide +kernel), List.mem_of_getElem? (i := 248) (by decide +kernel)⟩
theorem lw_p11 : lw_okq (⟨"PackedBits$Expression", "fail", "(III)V"⟩, 10) := ⟨⟨by decide +kernel, by decide +kernel⟩, List.mem_of_getElem? (i := 71) (by decide +kernel), List.mem_of_getElem? (i := 251) (by decide +kernel), List.mem_of_getElem? (i := 252) (by decide +kernel)⟩
theorem lw_p12 : lw_okq (⟨"PackedBits$Expression", "readBracket", "(II)Z"⟩, 10) := ⟨⟨by decide +kernel, by decide +kernel⟩, List.mem_of_getElem? (i := 71) (by decide +kernel), List.mem_of_getElem? (i := 269) (by decide +kernel), List.mem_of_getElem? (i := 270) (by decide +kernel)⟩
theorem lw_p13 : lw_okq (⟨"PackedBits$Expression", "combineAt", "(II)V"⟩, 10) := ⟨⟨by decide +kernel, by decide +kernel⟩, List.mem_of_getElem? (i := 71) (by decide +kernel), List.mem_of_getElem? (i := 277) (by decide +kernel), List.mem_of_getElem? (i := 278) (by decide +kernel)⟩
theorem lw_p14 : lw_okq (⟨"PackedBits", "sum", "(I)I"⟩, 5) := ⟨⟨by decide +kernel, by decide +kernel⟩, List.mem_of_getElem? (i := 11) (by decide +kernel), List.mem_of_getElem? (i := 321) (by decide +kernel), List.mem_of_getElem? (i := 322) (by decide +kernel)⟩
theorem lw_p15 : lw_okq (⟨"PackedBits", "isPlace", "(II)Z"⟩, 5) := ⟨⟨by decide +kernel, by decide +kernel⟩, List.mem_of_getElem? (i := 11) (by decide +kernel), List.mem_of_getElem? (i := 401) (by decide +kernel), List.mem_of_getElem? (i := 402) (by decide +kernel)⟩
def lw_privs_1 : List (MethodName × Nat) := [(⟨"PackedBits", "record", "(I)V"⟩, 5), (⟨"PackedBits$History", "dropOldest", "()V"⟩, 2), (⟨"PackedBits", "isRow", "(I)Z"⟩, 5), (⟨"PackedBits$Expression", "readSum", "(II)Z"⟩, 10), (⟨"PackedBits$Expression", "readProduct", "(II)Z"⟩, 10), (⟨"PackedBits$Expression", "readFactor", "(II)Z"⟩, 10), (⟨"PackedBits$Expression", "nextSign", "()C"⟩, 10), (⟨"PackedBits$Expression", "signHere", "()C"⟩, 10), (⟨"PackedBits$Expression", "readRow", "(II)Z"⟩, 10), (⟨"PackedBits$Expression", "readNumber", "(II)I"⟩, 10), (⟨"PackedBits$Expression", "breakOff", "(I)Z"⟩, 10), (⟨"PackedBits$Expression", "fail", "(III)V"⟩, 10), (⟨"PackedBits$Expression", "readBracket", "(II)Z"⟩, 10), (⟨"PackedBits$Expression", "combineAt", "(II)V"⟩, 10), (⟨"PackedBits", "sum", "(I)I"⟩, 5), (⟨"PackedBits", "isPlace", "(II)Z"⟩, 5)]
theorem lw_r1 : ∀ q ∈ lw_privs_1, lw_okq q := List.forall_mem_cons.mpr ⟨lw_p0, List.forall_mem_cons.mpr ⟨lw_p1, List.forall_mem_cons.mpr ⟨lw_p2, List.forall_mem_cons.mpr ⟨lw_p3, List.forall_mem_cons.mpr ⟨lw_p4, List.forall_mem_cons.mpr ⟨lw_p5, List.forall_mem_cons.mpr ⟨lw_p6, List.forall_mem_cons.mpr ⟨lw_p7, List.forall_mem_cons.mpr ⟨lw_p8, List.forall_mem_cons.mpr ⟨lw_p9, List.forall_mem_cons.mpr ⟨lw_p10, List.forall_mem_cons.mpr ⟨lw_p11, List.forall_mem_cons.mpr ⟨lw_p12, List.forall_mem_cons.mpr ⟨lw_p13, List.forall_mem_cons.mpr ⟨lw_p14, List.forall_mem_cons.mpr ⟨lw_p15, fun _ h => absurd h List.not_mem_nil⟩⟩⟩⟩⟩⟩⟩⟩⟩⟩⟩⟩⟩⟩⟩⟩
def lw_privs : List (MethodName × Nat) := lw_privs_1
def lw_tbl : List Cond := k2_sels lw_privs ++ tables_1
theorem lw_privs_ok : ∀ q ∈ lw_privs, lw_okq q := lw_r1
def RX0 : String := "PackedBits$Bits"
def TX0 : u_T := fun k => match k with
  | 0 => ("PackedBits$Bits", "groups", "[I", true)
  | _ => ("PackedBits$Bits", "length", "I", false)
def tyX0 : Nat → FieldType := fun k => match k with
  | 0 => .array .int
  | _ => .int
abbrev wsX00 : List Cond := u_ws RX0 TX0 2
theorem nmX0 : ∀ a, a < 2 → ∀ b, b < 2 → a ≠ b → (TX0 a).2.1 ≠ (TX0 b).2.1 := by decide +kernel
theorem tyX0_ok : ∀ k, k < 2 → parseFieldDescriptor (TX0 k).2.2.1 = some (tyX0 k) := by decide +kernel
abbrev cX0_init : ByteArray := prog_2_method_1_code
def yX0_init : MethodName := ⟨RX0, "<init>", "()V"⟩
abbrev cX0_groupCount : ByteArray := prog_2_method_2_code
def yX0_groupCount : MethodName := ⟨RX0, "groupCount", "()I"⟩
abbrev cX0_groupAt : ByteArray := prog_2_method_3_code
def yX0_groupAt : MethodName := ⟨RX0, "groupAt", "(I)I"⟩
abbrev cX0_valueAt : ByteArray := prog_2_method_4_code
def yX0_valueAt : MethodName := ⟨RX0, "valueAt", "(I)I"⟩
abbrev cX0_putAt : ByteArray := prog_2_method_5_code
def yX0_putAt : MethodName := ⟨RX0, "putAt", "(II)V"⟩
abbrev cX0_copyFrom : ByteArray := prog_2_method_6_code
def yX0_copyFrom : MethodName := ⟨RX0, "copyFrom", "(LPackedBits$Bits;)V"⟩
abbrev cX0_cutTo : ByteArray := prog_2_method_7_code
def yX0_cutTo : MethodName := ⟨RX0, "cutTo", "(I)V"⟩
abbrev cX0_addRun : ByteArray := prog_2_method_8_code
def yX0_addRun : MethodName := ⟨RX0, "addRun", "(II)V"⟩
abbrev cX0_addNumber : ByteArray := prog_2_method_9_code
def yX0_addNumber : MethodName := ⟨RX0, "addNumber", "(II)V"⟩
abbrev cX0_invert : ByteArray := prog_2_method_10_code
def yX0_invert : MethodName := ⟨RX0, "invert", "()V"⟩
abbrev cX0_combine : ByteArray := prog_2_method_11_code
def yX0_combine : MethodName := ⟨RX0, "combine", "(ILPackedBits$Bits;LPackedBits$Bits;)V"⟩
abbrev cX0_combined : ByteArray := prog_2_method_12_code
def yX0_combined : MethodName := ⟨RX0, "combined", "(III)I"⟩
abbrev cX0_moveFrom : ByteArray := prog_2_method_13_code
def yX0_moveFrom : MethodName := ⟨RX0, "moveFrom", "(LPackedBits$Bits;I)V"⟩
abbrev cX0_ones : ByteArray := prog_2_method_14_code
def yX0_ones : MethodName := ⟨RX0, "ones", "()I"⟩
abbrev cX0_onesBefore : ByteArray := prog_2_method_15_code
def yX0_onesBefore : MethodName := ⟨RX0, "onesBefore", "(I)I"⟩
abbrev cX0_placeOfOne : ByteArray := prog_2_method_16_code
def yX0_placeOfOne : MethodName := ⟨RX0, "placeOfOne", "(I)I"⟩
abbrev cX0_placeInGroup : ByteArray := prog_2_method_17_code
def yX0_placeInGroup : MethodName := ⟨RX0, "placeInGroup", "(II)I"⟩
abbrev cX0_matches : ByteArray := prog_2_method_18_code
def yX0_matches : MethodName := ⟨RX0, "matches", "(LPackedBits$Bits;)Z"⟩
abbrev cX0_maskBefore : ByteArray := prog_2_method_19_code
def yX0_maskBefore : MethodName := ⟨RX0, "maskBefore", "(II)I"⟩
def RX1 : String := "PackedBits$Change"
def TX1 : u_T := fun k => match k with
  | 0 => ("PackedBits$Change", "before", "LPackedBits$Bits;", true)
  | 1 => ("PackedBits$Change", "made", "I", false)
  | _ => ("PackedBits$Change", "number", "I", false)
def tyX1 : Nat → FieldType := fun k => match k with
  | 0 => .object "PackedBits$Bits"
  | 1 => .int
  | _ => .int
abbrev wsX10 : List Cond := u_ws RX1 TX1 3
theorem nmX1 : ∀ a, a < 3 → ∀ b, b < 3 → a ≠ b → (TX1 a).2.1 ≠ (TX1 b).2.1 := by decide +kernel
theorem tyX1_ok : ∀ k, k < 3 → parseFieldDescriptor (TX1 k).2.2.1 = some (tyX1 k) := by decide +kernel
abbrev cX1_init : ByteArray := prog_3_method_1_code
def yX1_init : MethodName := ⟨RX1, "<init>", "()V"⟩
def RX2 : String := "PackedBits$Expression"
def TX2 : u_T := fun k => match k with
  | 0 => ("PackedBits$Expression", "signs", "[C", true)
  | 1 => ("PackedBits$Expression", "length", "I", false)
  | 2 => ("PackedBits$Expression", "kind", "I", false)
  | 3 => ("PackedBits$Expression", "place", "I", false)
  | 4 => ("PackedBits$Expression", "within", "I", false)
  | 5 => ("PackedBits$Expression", "values", "[LPackedBits$Bits;", true)
  | 6 => ("PackedBits$Expression", "rows", "[LPackedBits$Bits;", false)
  | 7 => ("PackedBits$Expression", "made", "I", false)
  | 8 => ("PackedBits$Expression", "at", "I", false)
  | _ => ("PackedBits$Expression", "failed", "Z", false)
def tyX2 : Nat → FieldType := fun k => match k with
  | 0 => .array .char
  | 1 => .int
  | 2 => .int
  | 3 => .int
  | 4 => .int
  | 5 => .array (.object "PackedBits$Bits")
  | 6 => .array (.object "PackedBits$Bits")
  | 7 => .int
  | 8 => .int
  | _ => .boolean
abbrev wsX20 : List Cond := u_ws RX2 TX2 10
theorem nmX2 : ∀ a, a < 10 → ∀ b, b < 10 → a ≠ b → (TX2 a).2.1 ≠ (TX2 b).2.1 := by decide +kernel
theorem tyX2_ok : ∀ k, k < 10 → parseFieldDescriptor (TX2 k).2.2.1 = some (tyX2 k) := by decide +kernel
abbrev cX2_init : ByteArray := prog_4_method_1_code
def yX2_init : MethodName := ⟨RX2, "<init>", "()V"⟩
abbrev cX2_addSign : ByteArray := prog_4_method_2_code
def yX2_addSign : MethodName := ⟨RX2, "addSign", "(C)V"⟩
abbrev cX2_result : ByteArray := prog_4_method_3_code
def yX2_result : MethodName := ⟨RX2, "result", "()LPackedBits$Bits;"⟩
abbrev cX2_read : ByteArray := prog_4_method_4_code
def yX2_read : MethodName := ⟨RX2, "read", "([LPackedBits$Bits;I)Z"⟩
abbrev cX2_readSum : ByteArray := prog_4_method_5_code
def yX2_readSum : MethodName := ⟨RX2, "readSum", "(II)Z"⟩
abbrev cX2_readProduct : ByteArray := prog_4_method_6_code
def yX2_readProduct : MethodName := ⟨RX2, "readProduct", "(II)Z"⟩
abbrev cX2_combineAt : ByteArray := prog_4_method_7_code
def yX2_combineAt : MethodName := ⟨RX2, "combineAt", "(II)V"⟩
abbrev cX2_readFactor : ByteArray := prog_4_method_8_code
def yX2_readFactor : MethodName := ⟨RX2, "readFactor", "(II)Z"⟩
abbrev cX2_readBracket : ByteArray := prog_4_method_9_code
def yX2_readBracket : MethodName := ⟨RX2, "readBracket", "(II)Z"⟩
abbrev cX2_readRow : ByteArray := prog_4_method_10_code
def yX2_readRow : MethodName := ⟨RX2, "readRow", "(II)Z"⟩
abbrev cX2_readNumber : ByteArray := prog_4_method_11_code
def yX2_readNumber : MethodName := ⟨RX2, "readNumber", "(II)I"⟩
abbrev cX2_nextSign : ByteArray := prog_4_method_12_code
def yX2_nextSign : MethodName := ⟨RX2, "nextSign", "()C"⟩
abbrev cX2_signHere : ByteArray := prog_4_method_13_code
def yX2_signHere : MethodName := ⟨RX2, "signHere", "()C"⟩
abbrev cX2_isDigit : ByteArray := prog_4_method_14_code
def yX2_isDigit : MethodName := ⟨RX2, "isDigit", "(C)Z"⟩
abbrev cX2_breakOff : ByteArray := prog_4_method_15_code
def yX2_breakOff : MethodName := ⟨RX2, "breakOff", "(I)Z"⟩
abbrev cX2_fail : ByteArray := prog_4_method_16_code
def yX2_fail : MethodName := ⟨RX2, "fail", "(III)V"⟩
def RX3 : String := "PackedBits$History"
def TX3 : u_T := fun k => match k with
  | 0 => ("PackedBits$History", "changes", "[LPackedBits$Change;", true)
  | _ => ("PackedBits$History", "kept", "I", false)
def tyX3 : Nat → FieldType := fun k => match k with
  | 0 => .array (.object "PackedBits$Change")
  | _ => .int
abbrev wsX30 : List Cond := u_ws RX3 TX3 2
theorem nmX3 : ∀ a, a < 2 → ∀ b, b < 2 → a ≠ b → (TX3 a).2.1 ≠ (TX3 b).2.1 := by decide +kernel
theorem tyX3_ok : ∀ k, k < 2 → parseFieldDescriptor (TX3 k).2.2.1 = some (tyX3 k) := by decide +kernel
abbrev cX3_init : ByteArray := prog_5_method_1_code
def yX3_init : MethodName := ⟨RX3, "<init>", "()V"⟩
abbrev cX3_add : ByteArray := prog_5_method_2_code
def yX3_add : MethodName := ⟨RX3, "add", "(IILPackedBits$Bits;)V"⟩
abbrev cX3_dropOldest : ByteArray := prog_5_method_3_code
def yX3_dropOldest : MethodName := ⟨RX3, "dropOldest", "()V"⟩
abbrev cX3_removeLatest : ByteArray := prog_5_method_4_code
def yX3_removeLatest : MethodName := ⟨RX3, "removeLatest", "()LPackedBits$Change;"⟩
def RX4 : String := "PackedBits$Words"
def TX4 : u_T := fun k => match k with
  | _ => ("", "", "", false)
def tyX4 : Nat → FieldType := fun k => match k with
  | _ => .int
abbrev wsX40 : List Cond := u_ws RX4 TX4 0
theorem nmX4 : ∀ a, a < 0 → ∀ b, b < 0 → a ≠ b → (TX4 a).2.1 ≠ (TX4 b).2.1 := by decide +kernel
theorem tyX4_ok : ∀ k, k < 0 → parseFieldDescriptor (TX4 k).2.2.1 = some (tyX4 k) := by decide +kernel
abbrev cX4_isLiteral : ByteArray := prog_6_method_2_code
def yX4_isLiteral : MethodName := ⟨RX4, "isLiteral", "(I)Z"⟩
abbrev cX4_endOf : ByteArray := prog_6_method_3_code
def yX4_endOf : MethodName := ⟨RX4, "endOf", "(LPackedBits$Bits;I)I"⟩
abbrev cX4_size : ByteArray := prog_6_method_4_code
def yX4_size : MethodName := ⟨RX4, "size", "(LPackedBits$Bits;)I"⟩
abbrev cX4_literals : ByteArray := prog_6_method_5_code
def yX4_literals : MethodName := ⟨RX4, "literals", "(LPackedBits$Bits;)I"⟩
abbrev cX4_fillsOf : ByteArray := prog_6_method_6_code
def yX4_fillsOf : MethodName := ⟨RX4, "fillsOf", "(LPackedBits$Bits;I)I"⟩
abbrev cX4_codeOf : ByteArray := prog_6_method_7_code
def yX4_codeOf : MethodName := ⟨RX4, "codeOf", "(LPackedBits$Bits;I)I"⟩
abbrev cX4_code : ByteArray := prog_6_method_8_code
def yX4_code : MethodName := ⟨RX4, "code", "(II)I"⟩
abbrev cX4_work : ByteArray := prog_6_method_9_code
def yX4_work : MethodName := ⟨RX4, "work", "(LPackedBits$Bits;LPackedBits$Bits;)I"⟩
def RX5 : String := "PackedBits"
def TX5 : u_T := fun k => match k with
  | 0 => ("PackedBits", "rows", "[LPackedBits$Bits;", true)
  | 1 => ("PackedBits", "made", "I", false)
  | 2 => ("PackedBits", "history", "LPackedBits$History;", true)
  | 3 => ("PackedBits", "text", "LPackedBits$Expression;", true)
  | _ => ("PackedBits", "spare", "LPackedBits$Bits;", true)
def tyX5 : Nat → FieldType := fun k => match k with
  | 0 => .array (.object "PackedBits$Bits")
  | 1 => .int
  | 2 => .object "PackedBits$History"
  | 3 => .object "PackedBits$Expression"
  | _ => .object "PackedBits$Bits"
abbrev wsX50 : List Cond := u_ws RX5 TX5 5
theorem nmX5 : ∀ a, a < 5 → ∀ b, b < 5 → a ≠ b → (TX5 a).2.1 ≠ (TX5 b).2.1 := by decide +kernel
theorem tyX5_ok : ∀ k, k < 5 → parseFieldDescriptor (TX5 k).2.2.1 = some (tyX5 k) := by decide +kernel
abbrev cX5_init : ByteArray := prog_1_method_1_code
def yX5_init : MethodName := ⟨RX5, "<init>", "()V"⟩
abbrev cX5_make : ByteArray := prog_1_method_2_code
def yX5_make : MethodName := ⟨RX5, "make", "()I"⟩
abbrev cX5_append : ByteArray := prog_1_method_3_code
def yX5_append : MethodName := ⟨RX5, "append", "(III)I"⟩
abbrev cX5_write : ByteArray := prog_1_method_4_code
def yX5_write : MethodName := ⟨RX5, "write", "(III)I"⟩
abbrev cX5_set : ByteArray := prog_1_method_5_code
def yX5_set : MethodName := ⟨RX5, "set", "(III)I"⟩
abbrev cX5_resize : ByteArray := prog_1_method_6_code
def yX5_resize : MethodName := ⟨RX5, "resize", "(II)I"⟩
abbrev cX5_operate : ByteArray := prog_1_method_7_code
def yX5_operate : MethodName := ⟨RX5, "operate", "(IIII)I"⟩
abbrev cX5_not : ByteArray := prog_1_method_8_code
def yX5_not : MethodName := ⟨RX5, "not", "(I)I"⟩
abbrev cX5_shift : ByteArray := prog_1_method_9_code
def yX5_shift : MethodName := ⟨RX5, "shift", "(II)I"⟩
abbrev cX5_undo : ByteArray := prog_1_method_10_code
def yX5_undo : MethodName := ⟨RX5, "undo", "()I"⟩
abbrev cX5_type : ByteArray := prog_1_method_11_code
def yX5_type : MethodName := ⟨RX5, "type", "(I)I"⟩
abbrev cX5_clearText : ByteArray := prog_1_method_12_code
def yX5_clearText : MethodName := ⟨RX5, "clearText", "()I"⟩
abbrev cX5_evaluate : ByteArray := prog_1_method_13_code
def yX5_evaluate : MethodName := ⟨RX5, "evaluate", "(I)I"⟩
abbrev cX5_failure : ByteArray := prog_1_method_14_code
def yX5_failure : MethodName := ⟨RX5, "failure", "(I)I"⟩
abbrev cX5_count : ByteArray := prog_1_method_15_code
def yX5_count : MethodName := ⟨RX5, "count", "(I)I"⟩
abbrev cX5_row : ByteArray := prog_1_method_16_code
def yX5_row : MethodName := ⟨RX5, "row", "(II)I"⟩
abbrev cX5_word : ByteArray := prog_1_method_17_code
def yX5_word : MethodName := ⟨RX5, "word", "(II)I"⟩
abbrev cX5_bit : ByteArray := prog_1_method_18_code
def yX5_bit : MethodName := ⟨RX5, "bit", "(II)I"⟩
abbrev cX5_rank : ByteArray := prog_1_method_19_code
def yX5_rank : MethodName := ⟨RX5, "rank", "(II)I"⟩
abbrev cX5_select : ByteArray := prog_1_method_20_code
def yX5_select : MethodName := ⟨RX5, "select", "(II)I"⟩
abbrev cX5_would : ByteArray := prog_1_method_21_code
def yX5_would : MethodName := ⟨RX5, "would", "(IIII)I"⟩
abbrev cX5_same : ByteArray := prog_1_method_22_code
def yX5_same : MethodName := ⟨RX5, "same", "(I)I"⟩
abbrev cX5_bestShift : ByteArray := prog_1_method_23_code
def yX5_bestShift : MethodName := ⟨RX5, "bestShift", "(I)I"⟩
abbrev cX5_record : ByteArray := prog_1_method_24_code
def yX5_record : MethodName := ⟨RX5, "record", "(I)V"⟩
abbrev cX5_sum : ByteArray := prog_1_method_25_code
def yX5_sum : MethodName := ⟨RX5, "sum", "(I)I"⟩
abbrev cX5_property : ByteArray := prog_1_method_26_code
def yX5_property : MethodName := ⟨RX5, "property", "(LPackedBits$Bits;I)I"⟩
abbrev cX5_isRow : ByteArray := prog_1_method_27_code
def yX5_isRow : MethodName := ⟨RX5, "isRow", "(I)Z"⟩
abbrev cX5_isPlace : ByteArray := prog_1_method_28_code
def yX5_isPlace : MethodName := ⟨RX5, "isPlace", "(II)Z"⟩
abbrev cX5_isBit : ByteArray := prog_1_method_29_code
def yX5_isBit : MethodName := ⟨RX5, "isBit", "(I)Z"⟩
abbrev cX5_isOperation : ByteArray := prog_1_method_30_code
def yX5_isOperation : MethodName := ⟨RX5, "isOperation", "(I)Z"⟩
abbrev cX5_isWithin : ByteArray := prog_1_method_31_code
def yX5_isWithin : MethodName := ⟨RX5, "isWithin", "(III)Z"⟩
def RX6 : String := "PackedBitsModel"
def TX6 : u_T := fun k => match k with
  | _ => ("", "", "", false)
def tyX6 : Nat → FieldType := fun k => match k with
  | _ => .int
abbrev wsX60 : List Cond := u_ws RX6 TX6 0
theorem nmX6 : ∀ a, a < 0 → ∀ b, b < 0 → a ≠ b → (TX6 a).2.1 ≠ (TX6 b).2.1 := by decide +kernel
theorem tyX6_ok : ∀ k, k < 0 → parseFieldDescriptor (TX6 k).2.2.1 = some (tyX6 k) := by decide +kernel
def RJ6 : String := "java/lang/Integer"
abbrev cJ6_bitCount_0f7a4 : ByteArray := prog_9_method_49_code
def yJ6_bitCount_0f7a4 : MethodName := ⟨RJ6, "bitCount", "(I)I"⟩
def RJ9 : String := "java/lang/Math"
abbrev cJ9_floorDiv_7cf53 : ByteArray := prog_10_method_47_code
def yJ9_floorDiv_7cf53 : MethodName := ⟨RJ9, "floorDiv", "(II)I"⟩
abbrev cJ9_floorMod_7cf53 : ByteArray := prog_10_method_50_code
def yJ9_floorMod_7cf53 : MethodName := ⟨RJ9, "floorMod", "(II)I"⟩
abbrev cJ9_max_7cf53 : ByteArray := prog_10_method_65_code
def yJ9_max_7cf53 : MethodName := ⟨RJ9, "max", "(II)I"⟩
abbrev cJ9_min_7cf53 : ByteArray := prog_10_method_69_code
def yJ9_min_7cf53 : MethodName := ⟨RJ9, "min", "(II)I"⟩
def RJ10 : String := "java/lang/System"
def RL : String := "PackedBitsLaw"
abbrev cL_cell : ByteArray := method_2_code
def yL_cell : MethodName := ⟨RL, "cell", "([II)I"⟩
abbrev cL_low : ByteArray := method_3_code
def yL_low : MethodName := ⟨RL, "low", "(II)I"⟩
abbrev cL_all : ByteArray := method_4_code
def yL_all : MethodName := ⟨RL, "all", "(LPackedBits;)J"⟩
abbrev cL_isPacked : ByteArray := method_5_code
def yL_isPacked : MethodName := ⟨RL, "isPacked", "(LPackedBits;I)Z"⟩
abbrev cL_isSound : ByteArray := method_6_code
def yL_isSound : MethodName := ⟨RL, "isSound", "(LPackedBits;II)Z"⟩
abbrev cL_isBest : ByteArray := method_7_code
def yL_isBest : MethodName := ⟨RL, "isBest", "(LPackedBits;II)Z"⟩
abbrev cL_acts : ByteArray := method_8_code
def yL_acts : MethodName := ⟨RL, "acts", "(LPackedBits;I)I"⟩
abbrev cL_law : ByteArray := code
def yL_law : MethodName := ⟨RL, "law", "([I)Z"⟩
abbrev vwCl : List vw_C := [(RX0, TX0, 2), (RX1, TX1, 3), (RX2, TX2, 10), (RX3, TX3, 2), (RX5, TX5, 5)]
