section
-- ===== PART A: goes FIRST, ahead of the names: the tables' words, and 'selects' of the private methods out of them =====
/-- a private method of a class that the tables say can be made, by its rows of tables_1 -/
def lw_okq (q : MethodName × Nat) : Prop := (q.1.cls ≠ "java/lang/invoke/MethodHandle" ∧ q.1.cls ≠ "java/lang/invoke/VarHandle") ∧ Cond.instantiable q.1.cls q.2 ∈ tables_1 ∧ Cond.privateMethod q.1 ∈ tables_1 ∧ Cond.instanceMethod q.1 ∈ tables_1
theorem lw_p0 : lw_okq (⟨"PackedBits", "record", "(I)V"⟩, 5) := ⟨⟨by decide +kernel, by decide +kernel⟩, List.mem_of_getElem? (i := 11) (by decide +kernel), List.mem_of_getElem? (i := 136) (by decide +kernel), List.mem_of_getElem? (i := 137) (by decide +kernel)⟩
theorem lw_p1 : lw_okq (⟨"PackedBits$History", "dropOldest", "()V"⟩, 2) := ⟨⟨by decide +kernel, by decide +kernel⟩, List.mem_of_getElem? (i := 21) (by decide +kernel), List.mem_of_getElem? (i := 144) (by decide +kernel), List.mem_of_getElem? (i := 145) (by decide +kernel)⟩
theorem lw_p2 : lw_okq (⟨"PackedBits", "isRow", "(I)Z"⟩, 5) := ⟨⟨by decide +kernel, by decide +kernel⟩, List.mem_of_getElem? (i := 11) (by decide +kernel), List.mem_of_getElem? (i := 172) (by decide +kernel), List.mem_of_getElem? (i := 173) (by decide +kernel)⟩
theorem lw_p3 : lw_okq (⟨"PackedBits$Expression", "readSum", "(II)Z"⟩, 10) := ⟨⟨by decide +kernel, by decide +kernel⟩, List.mem_of_getElem? (i := 71) (by decide +kernel), List.mem_of_getElem? (i := 216) (by decide +kernel), List.mem_of_getElem? (i := 217) (by decide +kernel)⟩
theorem lw_p4 : lw_okq (⟨"PackedBits$Expression", "readProduct", "(II)Z"⟩, 10) := ⟨⟨by decide +kernel, by decide +kernel⟩, List.mem_of_getElem? (i := 71) (by decide +kernel), List.mem_of_getElem? (i := 220) (by decide +kernel), List.mem_of_getElem? (i := 221) (by decide +kernel)⟩
theorem lw_p5 : lw_okq (⟨"PackedBits$Expression", "readFactor", "(II)Z"⟩, 10) := ⟨⟨by decide +kernel, by decide +kernel⟩, List.mem_of_getElem? (i := 71) (by decide +kernel), List.mem_of_getElem? (i := 224) (by decide +kernel), List.mem_of_getElem? (i := 225) (by decide +kernel)⟩
theorem lw_p6 : lw_okq (⟨"PackedBits$Expression", "nextSign", "()C"⟩, 10) := ⟨⟨by decide +kernel, by decide +kernel⟩, List.mem_of_getElem? (i := 71) (by decide +kernel), List.mem_of_getElem? (i := 228) (by decide +kernel), List.mem_of_getElem? (i := 229) (by decide +kernel)⟩
theorem lw_p7 : lw_okq (⟨"PackedBits$Expression", "signHere", "()C"⟩, 10) := ⟨⟨by decide +kernel, by decide +kernel⟩, List.mem_of_getElem? (i := 71) (by decide +kernel), List.mem_of_getElem? (i := 232) (by decide +kernel), List.mem_of_getElem? (i := 233) (by decide +kernel)⟩
theorem lw_p8 : lw_okq (⟨"PackedBits$Expression", "readRow", "(II)Z"⟩, 10) := ⟨⟨by decide +kernel, by decide +kernel⟩, List.mem_of_getElem? (i := 71) (by decide +kernel), List.mem_of_getElem? (i := 236) (by decide +kernel), List.mem_of_getElem? (i := 237) (by decide +kernel)⟩
theorem lw_p9 : lw_okq (⟨"PackedBits$Expression", "readNumber", "(II)I"⟩, 10) := ⟨⟨by decide +kernel, by decide +kernel⟩, List.mem_of_getElem? (i := 71) (by decide +kernel), List.mem_of_getElem? (i := 240) (by decide +kernel), List.mem_of_getElem? (i := 241) (by decide +kernel)⟩
theorem lw_p10 : lw_okq (⟨"PackedBits$Expression", "breakOff", "(I)Z"⟩, 10) := ⟨⟨by decide +kernel, by decide +kernel⟩, List.mem_of_getElem? (i := 71) (by decide +kernel), List.mem_of_getElem? (i := 247) (by decide +kernel), List.mem_of_getElem? (i := 248) (by decide +kernel)⟩
theorem lw_p11 : lw_okq (⟨"PackedBits$Expression", "fail", "(III)V"⟩, 10) := ⟨⟨by decide +kernel, by decide +kernel⟩, List.mem_of_getElem? (i := 71) (by decide +kernel), List.mem_of_getElem? (i := 251) (by decide +kernel), List.mem_of_getElem? (i := 252) (by decide +kernel)⟩
theorem lw_p12 : lw_okq (⟨"PackedBits$Expression", "readBracket", "(II)Z"⟩, 10) := ⟨⟨by decide +kernel, by decide +kernel⟩, List.mem_of_getElem? (i := 71) (by decide +kernel), List.mem_of_getElem? (i := 269) (by decide +kernel), List.mem_of_getElem? (i := 270) (by decide +kernel)⟩
theorem lw_p13 : lw_okq (⟨"PackedBits$Expression", "combineAt", "(II)V"⟩, 10) := ⟨⟨by decide +kernel, by decide +kernel⟩, List.mem_of_getElem? (i := 71) (by decide +kernel), List.mem_of_getElem? (i := 277) (by decide +kernel), List.mem_of_getElem? (i := 278) (by decide +kernel)⟩
theorem lw_p14 : lw_okq (⟨"PackedBits", "sum", "(I)I"⟩, 5) := ⟨⟨by decide +kernel, by decide +kernel⟩, List.mem_of_getElem? (i := 11) (by decide +kernel), List.mem_of_getElem? (i := 321) (by decide +kernel), List.mem_of_getElem? (i := 322) (by decide +kernel)⟩
theorem lw_p15 : lw_okq (⟨"PackedBits", "isPlace", "(II)Z"⟩, 5) := ⟨⟨by decide +kernel, by decide +kernel⟩, List.mem_of_getElem? (i := 11) (by decide +kernel), List.mem_of_getElem? (i := 401) (by decide +kernel), List.mem_of_getElem? (i := 402) (by decide +kernel)⟩
def lw_privs_1 : List (MethodName × Nat) := [(⟨"PackedBits", "record", "(I)V"⟩, 5), (⟨"PackedBits$History", "dropOldest", "()V"⟩, 2), (⟨"PackedBits", "isRow", "(I)Z"⟩, 5), (⟨"PackedBits$Expression", "readSum", "(II)Z"⟩, 10), (⟨"PackedBits$Expression", "readProduct", "(II)Z"⟩, 10), (⟨"PackedBits$Expression", "readFactor", "(II)Z"⟩, 10), (⟨"PackedBits$Expression", "nextSign", "()C"⟩, 10), (⟨"PackedBits$Expression", "signHere", "()C"⟩, 10), (⟨"PackedBits$Expression", "readRow", "(II)Z"⟩, 10), (⟨"PackedBits$Expression", "readNumber", "(II)I"⟩, 10), (⟨"PackedBits$Expression", "breakOff", "(I)Z"⟩, 10), (⟨"PackedBits$Expression", "fail", "(III)V"⟩, 10), (⟨"PackedBits$Expression", "readBracket", "(II)Z"⟩, 10), (⟨"PackedBits$Expression", "combineAt", "(II)V"⟩, 10), (⟨"PackedBits", "sum", "(I)I"⟩, 5), (⟨"PackedBits", "isPlace", "(II)Z"⟩, 5)]
theorem lw_r1 : ∀ q ∈ lw_privs_1, lw_okq q := List.forall_mem_cons.mpr ⟨lw_p0, List.forall_mem_cons.mpr ⟨lw_p1, List.forall_mem_cons.mpr ⟨lw_p2, List.forall_mem_cons.mpr ⟨lw_p3, List.forall_mem_cons.mpr ⟨lw_p4, List.forall_mem_cons.mpr ⟨lw_p5, List.forall_mem_cons.mpr ⟨lw_p6, List.forall_mem_cons.mpr ⟨lw_p7, List.forall_mem_cons.mpr ⟨lw_p8, List.forall_mem_cons.mpr ⟨lw_p9, List.forall_mem_cons.mpr ⟨lw_p10, List.forall_mem_cons.mpr ⟨lw_p11, List.forall_mem_cons.mpr ⟨lw_p12, List.forall_mem_cons.mpr ⟨lw_p13, List.forall_mem_cons.mpr ⟨lw_p14, List.forall_mem_cons.mpr ⟨lw_p15, fun _ h => absurd h List.not_mem_nil⟩⟩⟩⟩⟩⟩⟩⟩⟩⟩⟩⟩⟩⟩⟩⟩
def lw_privs : List (MethodName × Nat) := lw_privs_1
def lw_tbl : List Cond := k2_sels lw_privs ++ tables_1
theorem lw_privs_ok : ∀ q ∈ lw_privs, lw_okq q := lw_r1
def RX0 : String := "PackedBits$Bits"
def TX0 : u_T := fun k => match k with
  | 0 => ("PackedBits$Bits", "groups", "[I", true)
  | _ => ("PackedBits$Bits", "length", "I", false)
def tyX0 : Nat → FieldType := fun k => match k with
  | 0 => .array .int
  | _ => .int
abbrev wsX00 : List Cond := u_ws RX0 TX0 2
theorem nmX0 : ∀ a, a < 2 → ∀ b, b < 2 → a ≠ b → (TX0 a).2.1 ≠ (TX0 b).2.1 := by decide +kernel
theorem tyX0_ok : ∀ k, k < 2 → parseFieldDescriptor (TX0 k).2.2.1 = some (tyX0 k) := by decide +kernel
abbrev cX0_init : ByteArray := prog_2_method_1_code
def yX0_init : MethodName := ⟨RX0, "<init>", "()V"⟩
abbrev cX0_groupCount : ByteArray := prog_2_method_2_code
def yX0_groupCount : MethodName := ⟨RX0, "groupCount", "()I"⟩
abbrev cX0_groupAt : ByteArray := prog_2_method_3_code
def yX0_groupAt : MethodName := ⟨RX0, "groupAt", "(I)I"⟩
abbrev cX0_valueAt : ByteArray := prog_2_method_4_code
def yX0_valueAt : MethodName := ⟨RX0, "valueAt", "(I)I"⟩
abbrev cX0_putAt : ByteArray := prog_2_method_5_code
def yX0_putAt : MethodName := ⟨RX0, "putAt", "(II)V"⟩
abbrev cX0_copyFrom : ByteArray := prog_2_method_6_code
def yX0_copyFrom : MethodName := ⟨RX0, "copyFrom", "(LPackedBits$Bits;)V"⟩
abbrev cX0_cutTo : ByteArray := prog_2_method_7_code
def yX0_cutTo : MethodName := ⟨RX0, "cutTo", "(I)V"⟩
abbrev cX0_addRun : ByteArray := prog_2_method_8_code
def yX0_addRun : MethodName := ⟨RX0, "addRun", "(II)V"⟩
abbrev cX0_addNumber : ByteArray := prog_2_method_9_code
def yX0_addNumber : MethodName := ⟨RX0, "addNumber", "(II)V"⟩
abbrev cX0_invert : ByteArray := prog_2_method_10_code
def yX0_invert : MethodName := ⟨RX0, "invert", "()V"⟩
abbrev cX0_combine : ByteArray := prog_2_method_11_code
def yX0_combine : MethodName := ⟨RX0, "combine", "(ILPackedBits$Bits;LPackedBits$Bits;)V"⟩
abbrev cX0_combined : ByteArray := prog_2_method_12_code
def yX0_combined : MethodName := ⟨RX0, "combined", "(III)I"⟩
abbrev cX0_moveFrom : ByteArray := prog_2_method_13_code
def yX0_moveFrom : MethodName := ⟨RX0, "moveFrom", "(LPackedBits$Bits;I)V"⟩
abbrev cX0_ones : ByteArray := prog_2_method_14_code
def yX0_ones : MethodName := ⟨RX0, "ones", "()I"⟩
abbrev cX0_onesBefore : ByteArray := prog_2_method_15_code
def yX0_onesBefore : MethodName := ⟨RX0, "onesBefore", "(I)I"⟩
abbrev cX0_placeOfOne : ByteArray := prog_2_method_16_code
def yX0_placeOfOne : MethodName := ⟨RX0, "placeOfOne", "(I)I"⟩
abbrev cX0_placeInGroup : ByteArray := prog_2_method_17_code
def yX0_placeInGroup : MethodName := ⟨RX0, "placeInGroup", "(II)I"⟩
abbrev cX0_matches : ByteArray := prog_2_method_18_code
def yX0_matches : MethodName := ⟨RX0, "matches", "(LPackedBits$Bits;)Z"⟩
abbrev cX0_maskBefore : ByteArray := prog_2_method_19_code
def yX0_maskBefore : MethodName := ⟨RX0, "maskBefore", "(II)I"⟩
def RX1 : String := "PackedBits$Change"
def TX1 : u_T := fun k => match k with
  | 0 => ("PackedBits$Change", "before", "LPackedBits$Bits;", true)
  | 1 => ("PackedBits$Change", "made", "I", false)
  | _ => ("PackedBits$Change", "number", "I", false)
def tyX1 : Nat → FieldType := fun k => match k with
  | 0 => .object "PackedBits$Bits"
  | 1 => .int
  | _ => .int
abbrev wsX10 : List Cond := u_ws RX1 TX1 3
theorem nmX1 : ∀ a, a < 3 → ∀ b, b < 3 → a ≠ b → (TX1 a).2.1 ≠ (TX1 b).2.1 := by decide +kernel
theorem tyX1_ok : ∀ k, k < 3 → parseFieldDescriptor (TX1 k).2.2.1 = some (tyX1 k) := by decide +kernel
abbrev cX1_init : ByteArray := prog_3_method_1_code
def yX1_init : MethodName := ⟨RX1, "<init>", "()V"⟩
def RX2 : String := "PackedBits$Expression"
def TX2 : u_T := fun k => match k with
  | 0 => ("PackedBits$Expression", "signs", "[C", true)
  | 1 => ("PackedBits$Expression", "length", "I", false)
  | 2 => ("PackedBits$Expression", "kind", "I", false)
  | 3 => ("PackedBits$Expression", "place", "I", false)
  | 4 => ("PackedBits$Expression", "within", "I", false)
  | 5 => ("PackedBits$Expression", "values", "[LPackedBits$Bits;", true)
  | 6 => ("PackedBits$Expression", "rows", "[LPackedBits$Bits;", false)
  | 7 => ("PackedBits$Expression", "made", "I", false)
  | 8 => ("PackedBits$Expression", "at", "I", false)
  | _ => ("PackedBits$Expression", "failed", "Z", false)
def tyX2 : Nat → FieldType := fun k => match k with
  | 0 => .array .char
  | 1 => .int
  | 2 => .int
  | 3 => .int
  | 4 => .int
  | 5 => .array (.object "PackedBits$Bits")
  | 6 => .array (.object "PackedBits$Bits")
  | 7 => .int
  | 8 => .int
  | _ => .boolean
abbrev wsX20 : List Cond := u_ws RX2 TX2 10
theorem nmX2 : ∀ a, a < 10 → ∀ b, b < 10 → a ≠ b → (TX2 a).2.1 ≠ (TX2 b).2.1 := by decide +kernel
theorem tyX2_ok : ∀ k, k < 10 → parseFieldDescriptor (TX2 k).2.2.1 = some (tyX2 k) := by decide +kernel
abbrev cX2_init : ByteArray := prog_4_method_1_code
def yX2_init : MethodName := ⟨RX2, "<init>", "()V"⟩
abbrev cX2_addSign : ByteArray := prog_4_method_2_code
def yX2_addSign : MethodName := ⟨RX2, "addSign", "(C)V"⟩
abbrev cX2_result : ByteArray := prog_4_method_3_code
def yX2_result : MethodName := ⟨RX2, "result", "()LPackedBits$Bits;"⟩
abbrev cX2_read : ByteArray := prog_4_method_4_code
def yX2_read : MethodName := ⟨RX2, "read", "([LPackedBits$Bits;I)Z"⟩
abbrev cX2_readSum : ByteArray := prog_4_method_5_code
def yX2_readSum : MethodName := ⟨RX2, "readSum", "(II)Z"⟩
abbrev cX2_readProduct : ByteArray := prog_4_method_6_code
def yX2_readProduct : MethodName := ⟨RX2, "readProduct", "(II)Z"⟩
abbrev cX2_combineAt : ByteArray := prog_4_method_7_code
def yX2_combineAt : MethodName := ⟨RX2, "combineAt", "(II)V"⟩
abbrev cX2_readFactor : ByteArray := prog_4_method_8_code
def yX2_readFactor : MethodName := ⟨RX2, "readFactor", "(II)Z"⟩
abbrev cX2_readBracket : ByteArray := prog_4_method_9_code
def yX2_readBracket : MethodName := ⟨RX2, "readBracket", "(II)Z"⟩
abbrev cX2_readRow : ByteArray := prog_4_method_10_code
def yX2_readRow : MethodName := ⟨RX2, "readRow", "(II)Z"⟩
abbrev cX2_readNumber : ByteArray := prog_4_method_11_code
def yX2_readNumber : MethodName := ⟨RX2, "readNumber", "(II)I"⟩
abbrev cX2_nextSign : ByteArray := prog_4_method_12_code
def yX2_nextSign : MethodName := ⟨RX2, "nextSign", "()C"⟩
abbrev cX2_signHere : ByteArray := prog_4_method_13_code
def yX2_signHere : MethodName := ⟨RX2, "signHere", "()C"⟩
abbrev cX2_isDigit : ByteArray := prog_4_method_14_code
def yX2_isDigit : MethodName := ⟨RX2, "isDigit", "(C)Z"⟩
abbrev cX2_breakOff : ByteArray := prog_4_method_15_code
def yX2_breakOff : MethodName := ⟨RX2, "breakOff", "(I)Z"⟩
abbrev cX2_fail : ByteArray := prog_4_method_16_code
def yX2_fail : MethodName := ⟨RX2, "fail", "(III)V"⟩
def RX3 : String := "PackedBits$History"
def TX3 : u_T := fun k => match k with
  | 0 => ("PackedBits$History", "changes", "[LPackedBits$Change;", true)
  | _ => ("PackedBits$History", "kept", "I", false)
def tyX3 : Nat → FieldType := fun k => match k with
  | 0 => .array (.object "PackedBits$Change")
  | _ => .int
abbrev wsX30 : List Cond := u_ws RX3 TX3 2
theorem nmX3 : ∀ a, a < 2 → ∀ b, b < 2 → a ≠ b → (TX3 a).2.1 ≠ (TX3 b).2.1 := by decide +kernel
theorem tyX3_ok : ∀ k, k < 2 → parseFieldDescriptor (TX3 k).2.2.1 = some (tyX3 k) := by decide +kernel
abbrev cX3_init : ByteArray := prog_5_method_1_code
def yX3_init : MethodName := ⟨RX3, "<init>", "()V"⟩
abbrev cX3_add : ByteArray := prog_5_method_2_code
def yX3_add : MethodName := ⟨RX3, "add", "(IILPackedBits$Bits;)V"⟩
abbrev cX3_dropOldest : ByteArray := prog_5_method_3_code
def yX3_dropOldest : MethodName := ⟨RX3, "dropOldest", "()V"⟩
abbrev cX3_removeLatest : ByteArray := prog_5_method_4_code
def yX3_removeLatest : MethodName := ⟨RX3, "removeLatest", "()LPackedBits$Change;"⟩
def RX4 : String := "PackedBits$Words"
def TX4 : u_T := fun k => match k with
  | _ => ("", "", "", false)
def tyX4 : Nat → FieldType := fun k => match k with
  | _ => .int
abbrev wsX40 : List Cond := u_ws RX4 TX4 0
theorem nmX4 : ∀ a, a < 0 → ∀ b, b < 0 → a ≠ b → (TX4 a).2.1 ≠ (TX4 b).2.1 := by decide +kernel
theorem tyX4_ok : ∀ k, k < 0 → parseFieldDescriptor (TX4 k).2.2.1 = some (tyX4 k) := by decide +kernel
abbrev cX4_isLiteral : ByteArray := prog_6_method_2_code
def yX4_isLiteral : MethodName := ⟨RX4, "isLiteral", "(I)Z"⟩
abbrev cX4_endOf : ByteArray := prog_6_method_3_code
def yX4_endOf : MethodName := ⟨RX4, "endOf", "(LPackedBits$Bits;I)I"⟩
abbrev cX4_size : ByteArray := prog_6_method_4_code
def yX4_size : MethodName := ⟨RX4, "size", "(LPackedBits$Bits;)I"⟩
abbrev cX4_literals : ByteArray := prog_6_method_5_code
def yX4_literals : MethodName := ⟨RX4, "literals", "(LPackedBits$Bits;)I"⟩
abbrev cX4_fillsOf : ByteArray := prog_6_method_6_code
def yX4_fillsOf : MethodName := ⟨RX4, "fillsOf", "(LPackedBits$Bits;I)I"⟩
abbrev cX4_codeOf : ByteArray := prog_6_method_7_code
def yX4_codeOf : MethodName := ⟨RX4, "codeOf", "(LPackedBits$Bits;I)I"⟩
abbrev cX4_code : ByteArray := prog_6_method_8_code
def yX4_code : MethodName := ⟨RX4, "code", "(II)I"⟩
abbrev cX4_work : ByteArray := prog_6_method_9_code
def yX4_work : MethodName := ⟨RX4, "work", "(LPackedBits$Bits;LPackedBits$Bits;)I"⟩
def RX5 : String := "PackedBits"
def TX5 : u_T := fun k => match k with
  | 0 => ("PackedBits", "rows", "[LPackedBits$Bits;", true)
  | 1 => ("PackedBits", "made", "I", false)
  | 2 => ("PackedBits", "history", "LPackedBits$History;", true)
  | 3 => ("PackedBits", "text", "LPackedBits$Expression;", true)
  | _ => ("PackedBits", "spare", "LPackedBits$Bits;", true)
def tyX5 : Nat → FieldType := fun k => match k with
  | 0 => .array (.object "PackedBits$Bits")
  | 1 => .int
  | 2 => .object "PackedBits$History"
  | 3 => .object "PackedBits$Expression"
  | _ => .object "PackedBits$Bits"
abbrev wsX50 : List Cond := u_ws RX5 TX5 5
theorem nmX5 : ∀ a, a < 5 → ∀ b, b < 5 → a ≠ b → (TX5 a).2.1 ≠ (TX5 b).2.1 := by decide +kernel
theorem tyX5_ok : ∀ k, k < 5 → parseFieldDescriptor (TX5 k).2.2.1 = some (tyX5 k) := by decide +kernel
abbrev cX5_init : ByteArray := prog_1_method_1_code
def yX5_init : MethodName := ⟨RX5, "<init>", "()V"⟩
abbrev cX5_make : ByteArray := prog_1_method_2_code
def yX5_make : MethodName := ⟨RX5, "make", "()I"⟩
abbrev cX5_append : ByteArray := prog_1_method_3_code
def yX5_append : MethodName := ⟨RX5, "append", "(III)I"⟩
abbrev cX5_write : ByteArray := prog_1_method_4_code
def yX5_write : MethodName := ⟨RX5, "write", "(III)I"⟩
abbrev cX5_set : ByteArray := prog_1_method_5_code
def yX5_set : MethodName := ⟨RX5, "set", "(III)I"⟩
abbrev cX5_resize : ByteArray := prog_1_method_6_code
def yX5_resize : MethodName := ⟨RX5, "resize", "(II)I"⟩
abbrev cX5_operate : ByteArray := prog_1_method_7_code
def yX5_operate : MethodName := ⟨RX5, "operate", "(IIII)I"⟩
abbrev cX5_not : ByteArray := prog_1_method_8_code
def yX5_not : MethodName := ⟨RX5, "not", "(I)I"⟩
abbrev cX5_shift : ByteArray := prog_1_method_9_code
def yX5_shift : MethodName := ⟨RX5, "shift", "(II)I"⟩
abbrev cX5_undo : ByteArray := prog_1_method_10_code
def yX5_undo : MethodName := ⟨RX5, "undo", "()I"⟩
abbrev cX5_type : ByteArray := prog_1_method_11_code
def yX5_type : MethodName := ⟨RX5, "type", "(I)I"⟩
abbrev cX5_clearText : ByteArray := prog_1_method_12_code
def yX5_clearText : MethodName := ⟨RX5, "clearText", "()I"⟩
abbrev cX5_evaluate : ByteArray := prog_1_method_13_code
def yX5_evaluate : MethodName := ⟨RX5, "evaluate", "(I)I"⟩
abbrev cX5_failure : ByteArray := prog_1_method_14_code
def yX5_failure : MethodName := ⟨RX5, "failure", "(I)I"⟩
abbrev cX5_count : ByteArray := prog_1_method_15_code
def yX5_count : MethodName := ⟨RX5, "count", "(I)I"⟩
abbrev cX5_row : ByteArray := prog_1_method_16_code
def yX5_row : MethodName := ⟨RX5, "row", "(II)I"⟩
abbrev cX5_word : ByteArray := prog_1_method_17_code
def yX5_word : MethodName := ⟨RX5, "word", "(II)I"⟩
abbrev cX5_bit : ByteArray := prog_1_method_18_code
def yX5_bit : MethodName := ⟨RX5, "bit", "(II)I"⟩
abbrev cX5_rank : ByteArray := prog_1_method_19_code
def yX5_rank : MethodName := ⟨RX5, "rank", "(II)I"⟩
abbrev cX5_select : ByteArray := prog_1_method_20_code
def yX5_select : MethodName := ⟨RX5, "select", "(II)I"⟩
abbrev cX5_would : ByteArray := prog_1_method_21_code
def yX5_would : MethodName := ⟨RX5, "would", "(IIII)I"⟩
abbrev cX5_same : ByteArray := prog_1_method_22_code
def yX5_same : MethodName := ⟨RX5, "same", "(I)I"⟩
abbrev cX5_bestShift : ByteArray := prog_1_method_23_code
def yX5_bestShift : MethodName := ⟨RX5, "bestShift", "(I)I"⟩
abbrev cX5_record : ByteArray := prog_1_method_24_code
def yX5_record : MethodName := ⟨RX5, "record", "(I)V"⟩
abbrev cX5_sum : ByteArray := prog_1_method_25_code
def yX5_sum : MethodName := ⟨RX5, "sum", "(I)I"⟩
abbrev cX5_property : ByteArray := prog_1_method_26_code
def yX5_property : MethodName := ⟨RX5, "property", "(LPackedBits$Bits;I)I"⟩
abbrev cX5_isRow : ByteArray := prog_1_method_27_code
def yX5_isRow : MethodName := ⟨RX5, "isRow", "(I)Z"⟩
abbrev cX5_isPlace : ByteArray := prog_1_method_28_code
def yX5_isPlace : MethodName := ⟨RX5, "isPlace", "(II)Z"⟩
abbrev cX5_isBit : ByteArray := prog_1_method_29_code
def yX5_isBit : MethodName := ⟨RX5, "isBit", "(I)Z"⟩
abbrev cX5_isOperation : ByteArray := prog_1_method_30_code
def yX5_isOperation : MethodName := ⟨RX5, "isOperation", "(I)Z"⟩
abbrev cX5_isWithin : ByteArray := prog_1_method_31_code
def yX5_isWithin : MethodName := ⟨RX5, "isWithin", "(III)Z"⟩
def RX6 : String := "PackedBitsModel"
def TX6 : u_T := fun k => match k with
  | _ => ("", "", "", false)
def tyX6 : Nat → FieldType := fun k => match k with
  | _ => .int
abbrev wsX60 : List Cond := u_ws RX6 TX6 0
theorem nmX6 : ∀ a, a < 0 → ∀ b, b < 0 → a ≠ b → (TX6 a).2.1 ≠ (TX6 b).2.1 := by decide +kernel
theorem tyX6_ok : ∀ k, k < 0 → parseFieldDescriptor (TX6 k).2.2.1 = some (tyX6 k) := by decide +kernel
def RJ6 : String := "java/lang/Integer"
abbrev cJ6_bitCount_0f7a4 : ByteArray := prog_9_method_49_code
def yJ6_bitCount_0f7a4 : MethodName := ⟨RJ6, "bitCount", "(I)I"⟩
def RJ9 : String := "java/lang/Math"
abbrev cJ9_floorDiv_7cf53 : ByteArray := prog_10_method_47_code
def yJ9_floorDiv_7cf53 : MethodName := ⟨RJ9, "floorDiv", "(II)I"⟩
abbrev cJ9_floorMod_7cf53 : ByteArray := prog_10_method_50_code
def yJ9_floorMod_7cf53 : MethodName := ⟨RJ9, "floorMod", "(II)I"⟩
abbrev cJ9_max_7cf53 : ByteArray := prog_10_method_65_code
def yJ9_max_7cf53 : MethodName := ⟨RJ9, "max", "(II)I"⟩
abbrev cJ9_min_7cf53 : ByteArray := prog_10_method_69_code
def yJ9_min_7cf53 : MethodName := ⟨RJ9, "min", "(II)I"⟩
def RJ10 : String := "java/lang/System"
def RL : String := "PackedBitsLaw"
abbrev cL_cell : ByteArray := method_2_code
def yL_cell : MethodName := ⟨RL, "cell", "([II)I"⟩
abbrev cL_low : ByteArray := method_3_code
def yL_low : MethodName := ⟨RL, "low", "(II)I"⟩
abbrev cL_all : ByteArray := method_4_code
def yL_all : MethodName := ⟨RL, "all", "(LPackedBits;)J"⟩
abbrev cL_isPacked : ByteArray := method_5_code
def yL_isPacked : MethodName := ⟨RL, "isPacked", "(LPackedBits;I)Z"⟩
abbrev cL_isSound : ByteArray := method_6_code
def yL_isSound : MethodName := ⟨RL, "isSound", "(LPackedBits;II)Z"⟩
abbrev cL_isBest : ByteArray := method_7_code
def yL_isBest : MethodName := ⟨RL, "isBest", "(LPackedBits;II)Z"⟩
abbrev cL_acts : ByteArray := method_8_code
def yL_acts : MethodName := ⟨RL, "acts", "(LPackedBits;I)I"⟩
abbrev cL_law : ByteArray := code
def yL_law : MethodName := ⟨RL, "law", "([I)Z"⟩
abbrev vwCl : List vw_C := [(RX0, TX0, 2), (RX1, TX1, 3), (RX2, TX2, 10), (RX3, TX3, 2), (RX5, TX5, 5)]
end
section
theorem dX0_init_0 : decode cX0_init 0 = .ok (.aload_n 0, 1) := by decide +kernel
theorem dX0_init_1 : decode cX0_init 1 = .ok (.invokespecial 3, 3) := by decide +kernel
theorem dX0_init_4 : decode cX0_init 4 = .ok (.aload_n 0, 1) := by decide +kernel
theorem dX0_init_5 : decode cX0_init 5 = .ok (.bipush 40, 2) := by decide +kernel
theorem dX0_init_7 : decode cX0_init 7 = .ok (.newarray .int, 2) := by decide +kernel
theorem dX0_init_9 : decode cX0_init 9 = .ok (.putfield 9, 3) := by decide +kernel
theorem dX0_init_12 : decode cX0_init 12 = .ok (.return_, 1) := by decide +kernel
theorem dX0_groupCount_0 : decode cX0_groupCount 0 = .ok (.aload_n 0, 1) := by decide +kernel
theorem dX0_groupCount_1 : decode cX0_groupCount 1 = .ok (.getfield 15, 3) := by decide +kernel
theorem dX0_groupCount_4 : decode cX0_groupCount 4 = .ok (.bipush 15, 2) := by decide +kernel
theorem dX0_groupCount_6 : decode cX0_groupCount 6 = .ok (.iadd, 1) := by decide +kernel
theorem dX0_groupCount_7 : decode cX0_groupCount 7 = .ok (.iconst 1, 1) := by decide +kernel
theorem dX0_groupCount_8 : decode cX0_groupCount 8 = .ok (.isub, 1) := by decide +kernel
theorem dX0_groupCount_9 : decode cX0_groupCount 9 = .ok (.bipush 15, 2) := by decide +kernel
theorem dX0_groupCount_11 : decode cX0_groupCount 11 = .ok (.idiv, 1) := by decide +kernel
theorem dX0_groupCount_12 : decode cX0_groupCount 12 = .ok (.ireturn, 1) := by decide +kernel
theorem dX0_groupAt_0 : decode cX0_groupAt 0 = .ok (.iload_n 1, 1) := by decide +kernel
theorem dX0_groupAt_1 : decode cX0_groupAt 1 = .ok (.ifCond .lt 21, 3) := by decide +kernel
theorem dX0_groupAt_4 : decode cX0_groupAt 4 = .ok (.iload_n 1, 1) := by decide +kernel
theorem dX0_groupAt_5 : decode cX0_groupAt 5 = .ok (.aload_n 0, 1) := by decide +kernel
theorem dX0_groupAt_6 : decode cX0_groupAt 6 = .ok (.getfield 9, 3) := by decide +kernel
theorem dX0_groupAt_9 : decode cX0_groupAt 9 = .ok (.arraylength, 1) := by decide +kernel
theorem dX0_groupAt_10 : decode cX0_groupAt 10 = .ok (.if_icmp .ge 12, 3) := by decide +kernel
theorem dX0_groupAt_13 : decode cX0_groupAt 13 = .ok (.aload_n 0, 1) := by decide +kernel
theorem dX0_groupAt_14 : decode cX0_groupAt 14 = .ok (.getfield 9, 3) := by decide +kernel
theorem dX0_groupAt_17 : decode cX0_groupAt 17 = .ok (.iload_n 1, 1) := by decide +kernel
theorem dX0_groupAt_18 : decode cX0_groupAt 18 = .ok (.iaload, 1) := by decide +kernel
theorem dX0_groupAt_19 : decode cX0_groupAt 19 = .ok (.goto 4, 3) := by decide +kernel
theorem dX0_groupAt_22 : decode cX0_groupAt 22 = .ok (.iconst 0, 1) := by decide +kernel
theorem dX0_groupAt_23 : decode cX0_groupAt 23 = .ok (.ireturn, 1) := by decide +kernel
theorem dX0_valueAt_0 : decode cX0_valueAt 0 = .ok (.aload_n 0, 1) := by decide +kernel
theorem dX0_valueAt_1 : decode cX0_valueAt 1 = .ok (.iload_n 1, 1) := by decide +kernel
theorem dX0_valueAt_2 : decode cX0_valueAt 2 = .ok (.bipush 15, 2) := by decide +kernel
theorem dX0_valueAt_4 : decode cX0_valueAt 4 = .ok (.idiv, 1) := by decide +kernel
theorem dX0_valueAt_5 : decode cX0_valueAt 5 = .ok (.invokevirtual 19, 3) := by decide +kernel
theorem dX0_valueAt_8 : decode cX0_valueAt 8 = .ok (.iload_n 1, 1) := by decide +kernel
theorem dX0_valueAt_9 : decode cX0_valueAt 9 = .ok (.bipush 15, 2) := by decide +kernel
theorem dX0_valueAt_11 : decode cX0_valueAt 11 = .ok (.irem, 1) := by decide +kernel
theorem dX0_valueAt_12 : decode cX0_valueAt 12 = .ok (.ishr, 1) := by decide +kernel
theorem dX0_valueAt_13 : decode cX0_valueAt 13 = .ok (.iconst 1, 1) := by decide +kernel
theorem dX0_valueAt_14 : decode cX0_valueAt 14 = .ok (.iand, 1) := by decide +kernel
theorem dX0_valueAt_15 : decode cX0_valueAt 15 = .ok (.ireturn, 1) := by decide +kernel
theorem dX0_putAt_0 : decode cX0_putAt 0 = .ok (.iload_n 1, 1) := by decide +kernel
theorem dX0_putAt_1 : decode cX0_putAt 1 = .ok (.bipush 15, 2) := by decide +kernel
theorem dX0_putAt_3 : decode cX0_putAt 3 = .ok (.idiv, 1) := by decide +kernel
theorem dX0_putAt_4 : decode cX0_putAt 4 = .ok (.istore_n 3, 1) := by decide +kernel
theorem dX0_putAt_5 : decode cX0_putAt 5 = .ok (.iload_n 1, 1) := by decide +kernel
theorem dX0_putAt_6 : decode cX0_putAt 6 = .ok (.ifCond .lt 12, 3) := by decide +kernel
theorem dX0_putAt_9 : decode cX0_putAt 9 = .ok (.iload_n 3, 1) := by decide +kernel
theorem dX0_putAt_10 : decode cX0_putAt 10 = .ok (.aload_n 0, 1) := by decide +kernel
theorem dX0_putAt_11 : decode cX0_putAt 11 = .ok (.getfield 9, 3) := by decide +kernel
theorem dX0_putAt_14 : decode cX0_putAt 14 = .ok (.arraylength, 1) := by decide +kernel
theorem dX0_putAt_15 : decode cX0_putAt 15 = .ok (.if_icmp .lt 4, 3) := by decide +kernel
theorem dX0_putAt_18 : decode cX0_putAt 18 = .ok (.return_, 1) := by decide +kernel
theorem dX0_putAt_19 : decode cX0_putAt 19 = .ok (.iconst 1, 1) := by decide +kernel
theorem dX0_putAt_20 : decode cX0_putAt 20 = .ok (.iload_n 1, 1) := by decide +kernel
theorem dX0_putAt_21 : decode cX0_putAt 21 = .ok (.bipush 15, 2) := by decide +kernel
theorem dX0_putAt_23 : decode cX0_putAt 23 = .ok (.irem, 1) := by decide +kernel
theorem dX0_putAt_24 : decode cX0_putAt 24 = .ok (.ishl, 1) := by decide +kernel
theorem dX0_putAt_25 : decode cX0_putAt 25 = .ok (.istore 4, 2) := by decide +kernel
theorem dX0_putAt_27 : decode cX0_putAt 27 = .ok (.aload_n 0, 1) := by decide +kernel
theorem dX0_putAt_28 : decode cX0_putAt 28 = .ok (.getfield 9, 3) := by decide +kernel
theorem dX0_putAt_31 : decode cX0_putAt 31 = .ok (.iload_n 3, 1) := by decide +kernel
theorem dX0_putAt_32 : decode cX0_putAt 32 = .ok (.iload_n 2, 1) := by decide +kernel
theorem dX0_putAt_33 : decode cX0_putAt 33 = .ok (.iconst 1, 1) := by decide +kernel
theorem dX0_putAt_34 : decode cX0_putAt 34 = .ok (.if_icmp .ne 15, 3) := by decide +kernel
theorem dX0_putAt_37 : decode cX0_putAt 37 = .ok (.aload_n 0, 1) := by decide +kernel
theorem dX0_putAt_38 : decode cX0_putAt 38 = .ok (.getfield 9, 3) := by decide +kernel
theorem dX0_putAt_41 : decode cX0_putAt 41 = .ok (.iload_n 3, 1) := by decide +kernel
theorem dX0_putAt_42 : decode cX0_putAt 42 = .ok (.iaload, 1) := by decide +kernel
theorem dX0_putAt_43 : decode cX0_putAt 43 = .ok (.iload 4, 2) := by decide +kernel
theorem dX0_putAt_45 : decode cX0_putAt 45 = .ok (.ior, 1) := by decide +kernel
theorem dX0_putAt_46 : decode cX0_putAt 46 = .ok (.goto 14, 3) := by decide +kernel
theorem dX0_putAt_49 : decode cX0_putAt 49 = .ok (.aload_n 0, 1) := by decide +kernel
theorem dX0_putAt_50 : decode cX0_putAt 50 = .ok (.getfield 9, 3) := by decide +kernel
theorem dX0_putAt_53 : decode cX0_putAt 53 = .ok (.iload_n 3, 1) := by decide +kernel
theorem dX0_putAt_54 : decode cX0_putAt 54 = .ok (.iaload, 1) := by decide +kernel
theorem dX0_putAt_55 : decode cX0_putAt 55 = .ok (.iload 4, 2) := by decide +kernel
theorem dX0_putAt_57 : decode cX0_putAt 57 = .ok (.iconst (-1), 1) := by decide +kernel
theorem dX0_putAt_58 : decode cX0_putAt 58 = .ok (.ixor, 1) := by decide +kernel
theorem dX0_putAt_59 : decode cX0_putAt 59 = .ok (.iand, 1) := by decide +kernel
theorem dX0_putAt_60 : decode cX0_putAt 60 = .ok (.iastore, 1) := by decide +kernel
theorem dX0_putAt_61 : decode cX0_putAt 61 = .ok (.return_, 1) := by decide +kernel
theorem dX0_copyFrom_0 : decode cX0_copyFrom 0 = .ok (.aload_n 1, 1) := by decide +kernel
theorem dX0_copyFrom_1 : decode cX0_copyFrom 1 = .ok (.getfield 9, 3) := by decide +kernel
theorem dX0_copyFrom_4 : decode cX0_copyFrom 4 = .ok (.iconst 0, 1) := by decide +kernel
theorem dX0_copyFrom_5 : decode cX0_copyFrom 5 = .ok (.aload_n 0, 1) := by decide +kernel
theorem dX0_copyFrom_6 : decode cX0_copyFrom 6 = .ok (.getfield 9, 3) := by decide +kernel
theorem dX0_copyFrom_9 : decode cX0_copyFrom 9 = .ok (.iconst 0, 1) := by decide +kernel
theorem dX0_copyFrom_10 : decode cX0_copyFrom 10 = .ok (.bipush 40, 2) := by decide +kernel
theorem dX0_copyFrom_12 : decode cX0_copyFrom 12 = .ok (.invokestatic 23, 3) := by decide +kernel
theorem dX0_copyFrom_15 : decode cX0_copyFrom 15 = .ok (.aload_n 0, 1) := by decide +kernel
theorem dX0_copyFrom_16 : decode cX0_copyFrom 16 = .ok (.aload_n 1, 1) := by decide +kernel
theorem dX0_copyFrom_17 : decode cX0_copyFrom 17 = .ok (.getfield 15, 3) := by decide +kernel
theorem dX0_copyFrom_20 : decode cX0_copyFrom 20 = .ok (.putfield 15, 3) := by decide +kernel
theorem dX0_copyFrom_23 : decode cX0_copyFrom 23 = .ok (.return_, 1) := by decide +kernel
theorem dX0_cutTo_0 : decode cX0_cutTo 0 = .ok (.iconst 0, 1) := by decide +kernel
theorem dX0_cutTo_1 : decode cX0_cutTo 1 = .ok (.istore_n 2, 1) := by decide +kernel
theorem dX0_cutTo_2 : decode cX0_cutTo 2 = .ok (.iload_n 2, 1) := by decide +kernel
theorem dX0_cutTo_3 : decode cX0_cutTo 3 = .ok (.aload_n 0, 1) := by decide +kernel
theorem dX0_cutTo_4 : decode cX0_cutTo 4 = .ok (.getfield 9, 3) := by decide +kernel
theorem dX0_cutTo_7 : decode cX0_cutTo 7 = .ok (.arraylength, 1) := by decide +kernel
theorem dX0_cutTo_8 : decode cX0_cutTo 8 = .ok (.if_icmp .ge 23, 3) := by decide +kernel
theorem dX0_cutTo_11 : decode cX0_cutTo 11 = .ok (.aload_n 0, 1) := by decide +kernel
theorem dX0_cutTo_12 : decode cX0_cutTo 12 = .ok (.getfield 9, 3) := by decide +kernel
theorem dX0_cutTo_15 : decode cX0_cutTo 15 = .ok (.iload_n 2, 1) := by decide +kernel
theorem dX0_cutTo_16 : decode cX0_cutTo 16 = .ok (.dup2, 1) := by decide +kernel
theorem dX0_cutTo_17 : decode cX0_cutTo 17 = .ok (.iaload, 1) := by decide +kernel
theorem dX0_cutTo_18 : decode cX0_cutTo 18 = .ok (.iload_n 1, 1) := by decide +kernel
theorem dX0_cutTo_19 : decode cX0_cutTo 19 = .ok (.iload_n 2, 1) := by decide +kernel
theorem dX0_cutTo_20 : decode cX0_cutTo 20 = .ok (.invokestatic 29, 3) := by decide +kernel
theorem dX0_cutTo_23 : decode cX0_cutTo 23 = .ok (.iand, 1) := by decide +kernel
theorem dX0_cutTo_24 : decode cX0_cutTo 24 = .ok (.iastore, 1) := by decide +kernel
theorem dX0_cutTo_25 : decode cX0_cutTo 25 = .ok (.iinc 2 1, 3) := by decide +kernel
theorem dX0_cutTo_28 : decode cX0_cutTo 28 = .ok (.goto (-26), 3) := by decide +kernel
theorem dX0_cutTo_31 : decode cX0_cutTo 31 = .ok (.aload_n 0, 1) := by decide +kernel
theorem dX0_cutTo_32 : decode cX0_cutTo 32 = .ok (.iload_n 1, 1) := by decide +kernel
theorem dX0_cutTo_33 : decode cX0_cutTo 33 = .ok (.putfield 15, 3) := by decide +kernel
theorem dX0_cutTo_36 : decode cX0_cutTo 36 = .ok (.return_, 1) := by decide +kernel
theorem dX0_addRun_0 : decode cX0_addRun 0 = .ok (.aload_n 0, 1) := by decide +kernel
theorem dX0_addRun_1 : decode cX0_addRun 1 = .ok (.getfield 15, 3) := by decide +kernel
theorem dX0_addRun_4 : decode cX0_addRun 4 = .ok (.iload_n 2, 1) := by decide +kernel
theorem dX0_addRun_5 : decode cX0_addRun 5 = .ok (.iadd, 1) := by decide +kernel
theorem dX0_addRun_6 : decode cX0_addRun 6 = .ok (.istore_n 3, 1) := by decide +kernel
theorem dX0_addRun_7 : decode cX0_addRun 7 = .ok (.iload_n 1, 1) := by decide +kernel
theorem dX0_addRun_8 : decode cX0_addRun 8 = .ok (.iconst 1, 1) := by decide +kernel
theorem dX0_addRun_9 : decode cX0_addRun 9 = .ok (.if_icmp .ne 50, 3) := by decide +kernel
theorem dX0_addRun_12 : decode cX0_addRun 12 = .ok (.iconst 0, 1) := by decide +kernel
theorem dX0_addRun_13 : decode cX0_addRun 13 = .ok (.istore 4, 2) := by decide +kernel
theorem dX0_addRun_15 : decode cX0_addRun 15 = .ok (.iload 4, 2) := by decide +kernel
theorem dX0_addRun_17 : decode cX0_addRun 17 = .ok (.aload_n 0, 1) := by decide +kernel
theorem dX0_addRun_18 : decode cX0_addRun 18 = .ok (.getfield 9, 3) := by decide +kernel
theorem dX0_addRun_21 : decode cX0_addRun 21 = .ok (.arraylength, 1) := by decide +kernel
theorem dX0_addRun_22 : decode cX0_addRun 22 = .ok (.if_icmp .ge 37, 3) := by decide +kernel
theorem dX0_addRun_25 : decode cX0_addRun 25 = .ok (.aload_n 0, 1) := by decide +kernel
theorem dX0_addRun_26 : decode cX0_addRun 26 = .ok (.getfield 9, 3) := by decide +kernel
theorem dX0_addRun_29 : decode cX0_addRun 29 = .ok (.iload 4, 2) := by decide +kernel
theorem dX0_addRun_31 : decode cX0_addRun 31 = .ok (.dup2, 1) := by decide +kernel
theorem dX0_addRun_32 : decode cX0_addRun 32 = .ok (.iaload, 1) := by decide +kernel
theorem dX0_addRun_33 : decode cX0_addRun 33 = .ok (.iload_n 3, 1) := by decide +kernel
theorem dX0_addRun_34 : decode cX0_addRun 34 = .ok (.iload 4, 2) := by decide +kernel
theorem dX0_addRun_36 : decode cX0_addRun 36 = .ok (.invokestatic 29, 3) := by decide +kernel
theorem dX0_addRun_39 : decode cX0_addRun 39 = .ok (.aload_n 0, 1) := by decide +kernel
theorem dX0_addRun_40 : decode cX0_addRun 40 = .ok (.getfield 15, 3) := by decide +kernel
theorem dX0_addRun_43 : decode cX0_addRun 43 = .ok (.iload 4, 2) := by decide +kernel
theorem dX0_addRun_45 : decode cX0_addRun 45 = .ok (.invokestatic 29, 3) := by decide +kernel
theorem dX0_addRun_48 : decode cX0_addRun 48 = .ok (.iconst (-1), 1) := by decide +kernel
theorem dX0_addRun_49 : decode cX0_addRun 49 = .ok (.ixor, 1) := by decide +kernel
theorem dX0_addRun_50 : decode cX0_addRun 50 = .ok (.iand, 1) := by decide +kernel
theorem dX0_addRun_51 : decode cX0_addRun 51 = .ok (.ior, 1) := by decide +kernel
theorem dX0_addRun_52 : decode cX0_addRun 52 = .ok (.iastore, 1) := by decide +kernel
theorem dX0_addRun_53 : decode cX0_addRun 53 = .ok (.iinc 4 1, 3) := by decide +kernel
theorem dX0_addRun_56 : decode cX0_addRun 56 = .ok (.goto (-41), 3) := by decide +kernel
theorem dX0_addRun_59 : decode cX0_addRun 59 = .ok (.aload_n 0, 1) := by decide +kernel
theorem dX0_addRun_60 : decode cX0_addRun 60 = .ok (.iload_n 3, 1) := by decide +kernel
theorem dX0_addRun_61 : decode cX0_addRun 61 = .ok (.putfield 15, 3) := by decide +kernel
theorem dX0_addRun_64 : decode cX0_addRun 64 = .ok (.return_, 1) := by decide +kernel
theorem dX0_addNumber_0 : decode cX0_addNumber 0 = .ok (.iconst 0, 1) := by decide +kernel
theorem dX0_addNumber_1 : decode cX0_addNumber 1 = .ok (.istore_n 3, 1) := by decide +kernel
theorem dX0_addNumber_2 : decode cX0_addNumber 2 = .ok (.iload_n 3, 1) := by decide +kernel
theorem dX0_addNumber_3 : decode cX0_addNumber 3 = .ok (.iload_n 2, 1) := by decide +kernel
theorem dX0_addNumber_4 : decode cX0_addNumber 4 = .ok (.if_icmp .ge 24, 3) := by decide +kernel
theorem dX0_addNumber_7 : decode cX0_addNumber 7 = .ok (.aload_n 0, 1) := by decide +kernel
theorem dX0_addNumber_8 : decode cX0_addNumber 8 = .ok (.aload_n 0, 1) := by decide +kernel
theorem dX0_addNumber_9 : decode cX0_addNumber 9 = .ok (.getfield 15, 3) := by decide +kernel
theorem dX0_addNumber_12 : decode cX0_addNumber 12 = .ok (.iload_n 3, 1) := by decide +kernel
theorem dX0_addNumber_13 : decode cX0_addNumber 13 = .ok (.iadd, 1) := by decide +kernel
theorem dX0_addNumber_14 : decode cX0_addNumber 14 = .ok (.iload_n 1, 1) := by decide +kernel
theorem dX0_addNumber_15 : decode cX0_addNumber 15 = .ok (.iload_n 3, 1) := by decide +kernel
theorem dX0_addNumber_16 : decode cX0_addNumber 16 = .ok (.ishr, 1) := by decide +kernel
theorem dX0_addNumber_17 : decode cX0_addNumber 17 = .ok (.iconst 1, 1) := by decide +kernel
theorem dX0_addNumber_18 : decode cX0_addNumber 18 = .ok (.iand, 1) := by decide +kernel
theorem dX0_addNumber_19 : decode cX0_addNumber 19 = .ok (.invokevirtual 33, 3) := by decide +kernel
theorem dX0_addNumber_22 : decode cX0_addNumber 22 = .ok (.iinc 3 1, 3) := by decide +kernel
theorem dX0_addNumber_25 : decode cX0_addNumber 25 = .ok (.goto (-23), 3) := by decide +kernel
theorem dX0_addNumber_28 : decode cX0_addNumber 28 = .ok (.aload_n 0, 1) := by decide +kernel
theorem dX0_addNumber_29 : decode cX0_addNumber 29 = .ok (.dup, 1) := by decide +kernel
theorem dX0_addNumber_30 : decode cX0_addNumber 30 = .ok (.getfield 15, 3) := by decide +kernel
theorem dX0_addNumber_33 : decode cX0_addNumber 33 = .ok (.iload_n 2, 1) := by decide +kernel
theorem dX0_addNumber_34 : decode cX0_addNumber 34 = .ok (.iadd, 1) := by decide +kernel
theorem dX0_addNumber_35 : decode cX0_addNumber 35 = .ok (.putfield 15, 3) := by decide +kernel
theorem dX0_addNumber_38 : decode cX0_addNumber 38 = .ok (.return_, 1) := by decide +kernel
theorem dX0_invert_0 : decode cX0_invert 0 = .ok (.iconst 0, 1) := by decide +kernel
theorem dX0_invert_1 : decode cX0_invert 1 = .ok (.istore_n 1, 1) := by decide +kernel
theorem dX0_invert_2 : decode cX0_invert 2 = .ok (.iload_n 1, 1) := by decide +kernel
theorem dX0_invert_3 : decode cX0_invert 3 = .ok (.aload_n 0, 1) := by decide +kernel
theorem dX0_invert_4 : decode cX0_invert 4 = .ok (.getfield 9, 3) := by decide +kernel
theorem dX0_invert_7 : decode cX0_invert 7 = .ok (.arraylength, 1) := by decide +kernel
theorem dX0_invert_8 : decode cX0_invert 8 = .ok (.if_icmp .ge 26, 3) := by decide +kernel
theorem dX0_invert_11 : decode cX0_invert 11 = .ok (.aload_n 0, 1) := by decide +kernel
theorem dX0_invert_12 : decode cX0_invert 12 = .ok (.getfield 9, 3) := by decide +kernel
theorem dX0_invert_15 : decode cX0_invert 15 = .ok (.iload_n 1, 1) := by decide +kernel
theorem dX0_invert_16 : decode cX0_invert 16 = .ok (.dup2, 1) := by decide +kernel
theorem dX0_invert_17 : decode cX0_invert 17 = .ok (.iaload, 1) := by decide +kernel
theorem dX0_invert_18 : decode cX0_invert 18 = .ok (.aload_n 0, 1) := by decide +kernel
theorem dX0_invert_19 : decode cX0_invert 19 = .ok (.getfield 15, 3) := by decide +kernel
theorem dX0_invert_22 : decode cX0_invert 22 = .ok (.iload_n 1, 1) := by decide +kernel
theorem dX0_invert_23 : decode cX0_invert 23 = .ok (.invokestatic 29, 3) := by decide +kernel
theorem dX0_invert_26 : decode cX0_invert 26 = .ok (.ixor, 1) := by decide +kernel
theorem dX0_invert_27 : decode cX0_invert 27 = .ok (.iastore, 1) := by decide +kernel
theorem dX0_invert_28 : decode cX0_invert 28 = .ok (.iinc 1 1, 3) := by decide +kernel
theorem dX0_invert_31 : decode cX0_invert 31 = .ok (.goto (-29), 3) := by decide +kernel
theorem dX0_invert_34 : decode cX0_invert 34 = .ok (.return_, 1) := by decide +kernel
theorem dX0_combine_0 : decode cX0_combine 0 = .ok (.iconst 0, 1) := by decide +kernel
theorem dX0_combine_1 : decode cX0_combine 1 = .ok (.istore 4, 2) := by decide +kernel
theorem dX0_combine_3 : decode cX0_combine 3 = .ok (.iload 4, 2) := by decide +kernel
theorem dX0_combine_5 : decode cX0_combine 5 = .ok (.aload_n 0, 1) := by decide +kernel
theorem dX0_combine_6 : decode cX0_combine 6 = .ok (.getfield 9, 3) := by decide +kernel
theorem dX0_combine_9 : decode cX0_combine 9 = .ok (.arraylength, 1) := by decide +kernel
theorem dX0_combine_10 : decode cX0_combine 10 = .ok (.if_icmp .ge 32, 3) := by decide +kernel
theorem dX0_combine_13 : decode cX0_combine 13 = .ok (.aload_n 0, 1) := by decide +kernel
theorem dX0_combine_14 : decode cX0_combine 14 = .ok (.getfield 9, 3) := by decide +kernel
theorem dX0_combine_17 : decode cX0_combine 17 = .ok (.iload 4, 2) := by decide +kernel
theorem dX0_combine_19 : decode cX0_combine 19 = .ok (.iload_n 1, 1) := by decide +kernel
theorem dX0_combine_20 : decode cX0_combine 20 = .ok (.aload_n 2, 1) := by decide +kernel
theorem dX0_combine_21 : decode cX0_combine 21 = .ok (.iload 4, 2) := by decide +kernel
theorem dX0_combine_23 : decode cX0_combine 23 = .ok (.invokevirtual 19, 3) := by decide +kernel
theorem dX0_combine_26 : decode cX0_combine 26 = .ok (.aload_n 3, 1) := by decide +kernel
theorem dX0_combine_27 : decode cX0_combine 27 = .ok (.iload 4, 2) := by decide +kernel
theorem dX0_combine_29 : decode cX0_combine 29 = .ok (.invokevirtual 19, 3) := by decide +kernel
theorem dX0_combine_32 : decode cX0_combine 32 = .ok (.invokestatic 37, 3) := by decide +kernel
theorem dX0_combine_35 : decode cX0_combine 35 = .ok (.iastore, 1) := by decide +kernel
theorem dX0_combine_36 : decode cX0_combine 36 = .ok (.iinc 4 1, 3) := by decide +kernel
theorem dX0_combine_39 : decode cX0_combine 39 = .ok (.goto (-36), 3) := by decide +kernel
theorem dX0_combine_42 : decode cX0_combine 42 = .ok (.aload_n 0, 1) := by decide +kernel
theorem dX0_combine_43 : decode cX0_combine 43 = .ok (.aload_n 2, 1) := by decide +kernel
theorem dX0_combine_44 : decode cX0_combine 44 = .ok (.getfield 15, 3) := by decide +kernel
theorem dX0_combine_47 : decode cX0_combine 47 = .ok (.aload_n 3, 1) := by decide +kernel
theorem dX0_combine_48 : decode cX0_combine 48 = .ok (.getfield 15, 3) := by decide +kernel
theorem dX0_combine_51 : decode cX0_combine 51 = .ok (.invokestatic 41, 3) := by decide +kernel
theorem dX0_combine_54 : decode cX0_combine 54 = .ok (.putfield 15, 3) := by decide +kernel
theorem dX0_combine_57 : decode cX0_combine 57 = .ok (.return_, 1) := by decide +kernel
theorem dX0_combined_0 : decode cX0_combined 0 = .ok (.iload_n 0, 1) := by decide +kernel
theorem dX0_combined_1 : decode cX0_combined 1 = .ok (.tableswitch 41 0 2 #[27, 31, 35], 27) := by decide +kernel
theorem dX0_combined_28 : decode cX0_combined 28 = .ok (.iload_n 1, 1) := by decide +kernel
theorem dX0_combined_29 : decode cX0_combined 29 = .ok (.iload_n 2, 1) := by decide +kernel
theorem dX0_combined_30 : decode cX0_combined 30 = .ok (.iand, 1) := by decide +kernel
theorem dX0_combined_31 : decode cX0_combined 31 = .ok (.ireturn, 1) := by decide +kernel
theorem dX0_combined_32 : decode cX0_combined 32 = .ok (.iload_n 1, 1) := by decide +kernel
theorem dX0_combined_33 : decode cX0_combined 33 = .ok (.iload_n 2, 1) := by decide +kernel
theorem dX0_combined_34 : decode cX0_combined 34 = .ok (.ior, 1) := by decide +kernel
theorem dX0_combined_35 : decode cX0_combined 35 = .ok (.ireturn, 1) := by decide +kernel
theorem dX0_combined_36 : decode cX0_combined 36 = .ok (.iload_n 1, 1) := by decide +kernel
theorem dX0_combined_37 : decode cX0_combined 37 = .ok (.iload_n 2, 1) := by decide +kernel
theorem dX0_combined_38 : decode cX0_combined 38 = .ok (.iconst (-1), 1) := by decide +kernel
theorem dX0_combined_39 : decode cX0_combined 39 = .ok (.ixor, 1) := by decide +kernel
theorem dX0_combined_40 : decode cX0_combined 40 = .ok (.iand, 1) := by decide +kernel
theorem dX0_combined_41 : decode cX0_combined 41 = .ok (.ireturn, 1) := by decide +kernel
theorem dX0_combined_42 : decode cX0_combined 42 = .ok (.iload_n 1, 1) := by decide +kernel
theorem dX0_combined_43 : decode cX0_combined 43 = .ok (.iload_n 2, 1) := by decide +kernel
theorem dX0_combined_44 : decode cX0_combined 44 = .ok (.ixor, 1) := by decide +kernel
theorem dX0_combined_45 : decode cX0_combined 45 = .ok (.ireturn, 1) := by decide +kernel
theorem dX0_moveFrom_0 : decode cX0_moveFrom 0 = .ok (.iload_n 2, 1) := by decide +kernel
theorem dX0_moveFrom_1 : decode cX0_moveFrom 1 = .ok (.bipush 15, 2) := by decide +kernel
theorem dX0_moveFrom_3 : decode cX0_moveFrom 3 = .ok (.invokestatic 46, 3) := by decide +kernel
theorem dX0_moveFrom_6 : decode cX0_moveFrom 6 = .ok (.istore_n 3, 1) := by decide +kernel
theorem dX0_moveFrom_7 : decode cX0_moveFrom 7 = .ok (.iload_n 2, 1) := by decide +kernel
theorem dX0_moveFrom_8 : decode cX0_moveFrom 8 = .ok (.bipush 15, 2) := by decide +kernel
theorem dX0_moveFrom_10 : decode cX0_moveFrom 10 = .ok (.invokestatic 49, 3) := by decide +kernel
theorem dX0_moveFrom_13 : decode cX0_moveFrom 13 = .ok (.istore 4, 2) := by decide +kernel
theorem dX0_moveFrom_15 : decode cX0_moveFrom 15 = .ok (.iconst 0, 1) := by decide +kernel
theorem dX0_moveFrom_16 : decode cX0_moveFrom 16 = .ok (.istore 5, 2) := by decide +kernel
theorem dX0_moveFrom_18 : decode cX0_moveFrom 18 = .ok (.iload 5, 2) := by decide +kernel
theorem dX0_moveFrom_20 : decode cX0_moveFrom 20 = .ok (.aload_n 0, 1) := by decide +kernel
theorem dX0_moveFrom_21 : decode cX0_moveFrom 21 = .ok (.getfield 9, 3) := by decide +kernel
theorem dX0_moveFrom_24 : decode cX0_moveFrom 24 = .ok (.arraylength, 1) := by decide +kernel
theorem dX0_moveFrom_25 : decode cX0_moveFrom 25 = .ok (.if_icmp .ge 56, 3) := by decide +kernel
theorem dX0_moveFrom_28 : decode cX0_moveFrom 28 = .ok (.aload_n 1, 1) := by decide +kernel
theorem dX0_moveFrom_29 : decode cX0_moveFrom 29 = .ok (.iload 5, 2) := by decide +kernel
theorem dX0_moveFrom_31 : decode cX0_moveFrom 31 = .ok (.iload_n 3, 1) := by decide +kernel
theorem dX0_moveFrom_32 : decode cX0_moveFrom 32 = .ok (.isub, 1) := by decide +kernel
theorem dX0_moveFrom_33 : decode cX0_moveFrom 33 = .ok (.invokevirtual 19, 3) := by decide +kernel
theorem dX0_moveFrom_36 : decode cX0_moveFrom 36 = .ok (.iload 4, 2) := by decide +kernel
theorem dX0_moveFrom_38 : decode cX0_moveFrom 38 = .ok (.ishl, 1) := by decide +kernel
theorem dX0_moveFrom_39 : decode cX0_moveFrom 39 = .ok (.istore 6, 2) := by decide +kernel
theorem dX0_moveFrom_41 : decode cX0_moveFrom 41 = .ok (.aload_n 1, 1) := by decide +kernel
theorem dX0_moveFrom_42 : decode cX0_moveFrom 42 = .ok (.iload 5, 2) := by decide +kernel
theorem dX0_moveFrom_44 : decode cX0_moveFrom 44 = .ok (.iload_n 3, 1) := by decide +kernel
theorem dX0_moveFrom_45 : decode cX0_moveFrom 45 = .ok (.isub, 1) := by decide +kernel
theorem dX0_moveFrom_46 : decode cX0_moveFrom 46 = .ok (.iconst 1, 1) := by decide +kernel
theorem dX0_moveFrom_47 : decode cX0_moveFrom 47 = .ok (.isub, 1) := by decide +kernel
theorem dX0_moveFrom_48 : decode cX0_moveFrom 48 = .ok (.invokevirtual 19, 3) := by decide +kernel
theorem dX0_moveFrom_51 : decode cX0_moveFrom 51 = .ok (.bipush 15, 2) := by decide +kernel
theorem dX0_moveFrom_53 : decode cX0_moveFrom 53 = .ok (.iload 4, 2) := by decide +kernel
theorem dX0_moveFrom_55 : decode cX0_moveFrom 55 = .ok (.isub, 1) := by decide +kernel
theorem dX0_moveFrom_56 : decode cX0_moveFrom 56 = .ok (.ishr, 1) := by decide +kernel
theorem dX0_moveFrom_57 : decode cX0_moveFrom 57 = .ok (.istore 7, 2) := by decide +kernel
theorem dX0_moveFrom_59 : decode cX0_moveFrom 59 = .ok (.aload_n 0, 1) := by decide +kernel
theorem dX0_moveFrom_60 : decode cX0_moveFrom 60 = .ok (.getfield 9, 3) := by decide +kernel
theorem dX0_moveFrom_63 : decode cX0_moveFrom 63 = .ok (.iload 5, 2) := by decide +kernel
theorem dX0_moveFrom_65 : decode cX0_moveFrom 65 = .ok (.iload 6, 2) := by decide +kernel
theorem dX0_moveFrom_67 : decode cX0_moveFrom 67 = .ok (.iload 7, 2) := by decide +kernel
theorem dX0_moveFrom_69 : decode cX0_moveFrom 69 = .ok (.ior, 1) := by decide +kernel
theorem dX0_moveFrom_70 : decode cX0_moveFrom 70 = .ok (.sipush 32767, 3) := by decide +kernel
theorem dX0_moveFrom_73 : decode cX0_moveFrom 73 = .ok (.iand, 1) := by decide +kernel
theorem dX0_moveFrom_74 : decode cX0_moveFrom 74 = .ok (.iastore, 1) := by decide +kernel
theorem dX0_moveFrom_75 : decode cX0_moveFrom 75 = .ok (.iinc 5 1, 3) := by decide +kernel
theorem dX0_moveFrom_78 : decode cX0_moveFrom 78 = .ok (.goto (-60), 3) := by decide +kernel
theorem dX0_moveFrom_81 : decode cX0_moveFrom 81 = .ok (.aload_n 0, 1) := by decide +kernel
theorem dX0_moveFrom_82 : decode cX0_moveFrom 82 = .ok (.iconst 0, 1) := by decide +kernel
theorem dX0_moveFrom_83 : decode cX0_moveFrom 83 = .ok (.sipush 600, 3) := by decide +kernel
theorem dX0_moveFrom_86 : decode cX0_moveFrom 86 = .ok (.aload_n 1, 1) := by decide +kernel
theorem dX0_moveFrom_87 : decode cX0_moveFrom 87 = .ok (.getfield 15, 3) := by decide +kernel
theorem dX0_moveFrom_90 : decode cX0_moveFrom 90 = .ok (.iload_n 2, 1) := by decide +kernel
theorem dX0_moveFrom_91 : decode cX0_moveFrom 91 = .ok (.iadd, 1) := by decide +kernel
theorem dX0_moveFrom_92 : decode cX0_moveFrom 92 = .ok (.invokestatic 52, 3) := by decide +kernel
theorem dX0_moveFrom_95 : decode cX0_moveFrom 95 = .ok (.invokestatic 41, 3) := by decide +kernel
theorem dX0_moveFrom_98 : decode cX0_moveFrom 98 = .ok (.putfield 15, 3) := by decide +kernel
theorem dX0_moveFrom_101 : decode cX0_moveFrom 101 = .ok (.return_, 1) := by decide +kernel
theorem dX0_ones_0 : decode cX0_ones 0 = .ok (.aload_n 0, 1) := by decide +kernel
theorem dX0_ones_1 : decode cX0_ones 1 = .ok (.aload_n 0, 1) := by decide +kernel
theorem dX0_ones_2 : decode cX0_ones 2 = .ok (.getfield 15, 3) := by decide +kernel
theorem dX0_ones_5 : decode cX0_ones 5 = .ok (.invokevirtual 55, 3) := by decide +kernel
theorem dX0_ones_8 : decode cX0_ones 8 = .ok (.ireturn, 1) := by decide +kernel
theorem dX0_onesBefore_0 : decode cX0_onesBefore 0 = .ok (.iconst 0, 1) := by decide +kernel
theorem dX0_onesBefore_1 : decode cX0_onesBefore 1 = .ok (.istore_n 2, 1) := by decide +kernel
theorem dX0_onesBefore_2 : decode cX0_onesBefore 2 = .ok (.iconst 0, 1) := by decide +kernel
theorem dX0_onesBefore_3 : decode cX0_onesBefore 3 = .ok (.istore_n 3, 1) := by decide +kernel
theorem dX0_onesBefore_4 : decode cX0_onesBefore 4 = .ok (.iload_n 3, 1) := by decide +kernel
theorem dX0_onesBefore_5 : decode cX0_onesBefore 5 = .ok (.aload_n 0, 1) := by decide +kernel
theorem dX0_onesBefore_6 : decode cX0_onesBefore 6 = .ok (.getfield 9, 3) := by decide +kernel
theorem dX0_onesBefore_9 : decode cX0_onesBefore 9 = .ok (.arraylength, 1) := by decide +kernel
theorem dX0_onesBefore_10 : decode cX0_onesBefore 10 = .ok (.if_icmp .ge 27, 3) := by decide +kernel
theorem dX0_onesBefore_13 : decode cX0_onesBefore 13 = .ok (.iload_n 2, 1) := by decide +kernel
theorem dX0_onesBefore_14 : decode cX0_onesBefore 14 = .ok (.aload_n 0, 1) := by decide +kernel
theorem dX0_onesBefore_15 : decode cX0_onesBefore 15 = .ok (.getfield 9, 3) := by decide +kernel
theorem dX0_onesBefore_18 : decode cX0_onesBefore 18 = .ok (.iload_n 3, 1) := by decide +kernel
theorem dX0_onesBefore_19 : decode cX0_onesBefore 19 = .ok (.iaload, 1) := by decide +kernel
theorem dX0_onesBefore_20 : decode cX0_onesBefore 20 = .ok (.iload_n 1, 1) := by decide +kernel
theorem dX0_onesBefore_21 : decode cX0_onesBefore 21 = .ok (.iload_n 3, 1) := by decide +kernel
theorem dX0_onesBefore_22 : decode cX0_onesBefore 22 = .ok (.invokestatic 29, 3) := by decide +kernel
theorem dX0_onesBefore_25 : decode cX0_onesBefore 25 = .ok (.iand, 1) := by decide +kernel
theorem dX0_onesBefore_26 : decode cX0_onesBefore 26 = .ok (.invokestatic 58, 3) := by decide +kernel
theorem dX0_onesBefore_29 : decode cX0_onesBefore 29 = .ok (.iadd, 1) := by decide +kernel
theorem dX0_onesBefore_30 : decode cX0_onesBefore 30 = .ok (.istore_n 2, 1) := by decide +kernel
theorem dX0_onesBefore_31 : decode cX0_onesBefore 31 = .ok (.iinc 3 1, 3) := by decide +kernel
theorem dX0_onesBefore_34 : decode cX0_onesBefore 34 = .ok (.goto (-30), 3) := by decide +kernel
theorem dX0_onesBefore_37 : decode cX0_onesBefore 37 = .ok (.iload_n 2, 1) := by decide +kernel
theorem dX0_onesBefore_38 : decode cX0_onesBefore 38 = .ok (.ireturn, 1) := by decide +kernel
theorem dX0_placeOfOne_0 : decode cX0_placeOfOne 0 = .ok (.iload_n 1, 1) := by decide +kernel
theorem dX0_placeOfOne_1 : decode cX0_placeOfOne 1 = .ok (.ifCond .ge 6, 3) := by decide +kernel
theorem dX0_placeOfOne_4 : decode cX0_placeOfOne 4 = .ok (.bipush (-9), 2) := by decide +kernel
theorem dX0_placeOfOne_6 : decode cX0_placeOfOne 6 = .ok (.ireturn, 1) := by decide +kernel
theorem dX0_placeOfOne_7 : decode cX0_placeOfOne 7 = .ok (.iload_n 1, 1) := by decide +kernel
theorem dX0_placeOfOne_8 : decode cX0_placeOfOne 8 = .ok (.istore_n 2, 1) := by decide +kernel
theorem dX0_placeOfOne_9 : decode cX0_placeOfOne 9 = .ok (.iconst 0, 1) := by decide +kernel
theorem dX0_placeOfOne_10 : decode cX0_placeOfOne 10 = .ok (.istore_n 3, 1) := by decide +kernel
theorem dX0_placeOfOne_11 : decode cX0_placeOfOne 11 = .ok (.iload_n 3, 1) := by decide +kernel
theorem dX0_placeOfOne_12 : decode cX0_placeOfOne 12 = .ok (.aload_n 0, 1) := by decide +kernel
theorem dX0_placeOfOne_13 : decode cX0_placeOfOne 13 = .ok (.getfield 9, 3) := by decide +kernel
theorem dX0_placeOfOne_16 : decode cX0_placeOfOne 16 = .ok (.arraylength, 1) := by decide +kernel
theorem dX0_placeOfOne_17 : decode cX0_placeOfOne 17 = .ok (.if_icmp .ge 47, 3) := by decide +kernel
theorem dX0_placeOfOne_20 : decode cX0_placeOfOne 20 = .ok (.aload_n 0, 1) := by decide +kernel
theorem dX0_placeOfOne_21 : decode cX0_placeOfOne 21 = .ok (.getfield 9, 3) := by decide +kernel
theorem dX0_placeOfOne_24 : decode cX0_placeOfOne 24 = .ok (.iload_n 3, 1) := by decide +kernel
theorem dX0_placeOfOne_25 : decode cX0_placeOfOne 25 = .ok (.iaload, 1) := by decide +kernel
theorem dX0_placeOfOne_26 : decode cX0_placeOfOne 26 = .ok (.invokestatic 58, 3) := by decide +kernel
theorem dX0_placeOfOne_29 : decode cX0_placeOfOne 29 = .ok (.istore 4, 2) := by decide +kernel
theorem dX0_placeOfOne_31 : decode cX0_placeOfOne 31 = .ok (.iload_n 2, 1) := by decide +kernel
theorem dX0_placeOfOne_32 : decode cX0_placeOfOne 32 = .ok (.iload 4, 2) := by decide +kernel
theorem dX0_placeOfOne_34 : decode cX0_placeOfOne 34 = .ok (.if_icmp .ge 19, 3) := by decide +kernel
theorem dX0_placeOfOne_37 : decode cX0_placeOfOne 37 = .ok (.iload_n 3, 1) := by decide +kernel
theorem dX0_placeOfOne_38 : decode cX0_placeOfOne 38 = .ok (.bipush 15, 2) := by decide +kernel
theorem dX0_placeOfOne_40 : decode cX0_placeOfOne 40 = .ok (.imul, 1) := by decide +kernel
theorem dX0_placeOfOne_41 : decode cX0_placeOfOne 41 = .ok (.aload_n 0, 1) := by decide +kernel
theorem dX0_placeOfOne_42 : decode cX0_placeOfOne 42 = .ok (.getfield 9, 3) := by decide +kernel
theorem dX0_placeOfOne_45 : decode cX0_placeOfOne 45 = .ok (.iload_n 3, 1) := by decide +kernel
theorem dX0_placeOfOne_46 : decode cX0_placeOfOne 46 = .ok (.iaload, 1) := by decide +kernel
theorem dX0_placeOfOne_47 : decode cX0_placeOfOne 47 = .ok (.iload_n 2, 1) := by decide +kernel
theorem dX0_placeOfOne_48 : decode cX0_placeOfOne 48 = .ok (.invokestatic 63, 3) := by decide +kernel
theorem dX0_placeOfOne_51 : decode cX0_placeOfOne 51 = .ok (.iadd, 1) := by decide +kernel
theorem dX0_placeOfOne_52 : decode cX0_placeOfOne 52 = .ok (.ireturn, 1) := by decide +kernel
theorem dX0_placeOfOne_53 : decode cX0_placeOfOne 53 = .ok (.iload_n 2, 1) := by decide +kernel
theorem dX0_placeOfOne_54 : decode cX0_placeOfOne 54 = .ok (.iload 4, 2) := by decide +kernel
theorem dX0_placeOfOne_56 : decode cX0_placeOfOne 56 = .ok (.isub, 1) := by decide +kernel
theorem dX0_placeOfOne_57 : decode cX0_placeOfOne 57 = .ok (.istore_n 2, 1) := by decide +kernel
theorem dX0_placeOfOne_58 : decode cX0_placeOfOne 58 = .ok (.iinc 3 1, 3) := by decide +kernel
theorem dX0_placeOfOne_61 : decode cX0_placeOfOne 61 = .ok (.goto (-50), 3) := by decide +kernel
theorem dX0_placeOfOne_64 : decode cX0_placeOfOne 64 = .ok (.bipush (-9), 2) := by decide +kernel
theorem dX0_placeOfOne_66 : decode cX0_placeOfOne 66 = .ok (.ireturn, 1) := by decide +kernel
theorem dX0_placeInGroup_0 : decode cX0_placeInGroup 0 = .ok (.iload_n 1, 1) := by decide +kernel
theorem dX0_placeInGroup_1 : decode cX0_placeInGroup 1 = .ok (.istore_n 2, 1) := by decide +kernel
theorem dX0_placeInGroup_2 : decode cX0_placeInGroup 2 = .ok (.iconst 0, 1) := by decide +kernel
theorem dX0_placeInGroup_3 : decode cX0_placeInGroup 3 = .ok (.istore_n 3, 1) := by decide +kernel
theorem dX0_placeInGroup_4 : decode cX0_placeInGroup 4 = .ok (.iload_n 3, 1) := by decide +kernel
theorem dX0_placeInGroup_5 : decode cX0_placeInGroup 5 = .ok (.bipush 15, 2) := by decide +kernel
theorem dX0_placeInGroup_7 : decode cX0_placeInGroup 7 = .ok (.if_icmp .ge 27, 3) := by decide +kernel
theorem dX0_placeInGroup_10 : decode cX0_placeInGroup 10 = .ok (.iload_n 0, 1) := by decide +kernel
theorem dX0_placeInGroup_11 : decode cX0_placeInGroup 11 = .ok (.iload_n 3, 1) := by decide +kernel
theorem dX0_placeInGroup_12 : decode cX0_placeInGroup 12 = .ok (.ishr, 1) := by decide +kernel
theorem dX0_placeInGroup_13 : decode cX0_placeInGroup 13 = .ok (.iconst 1, 1) := by decide +kernel
theorem dX0_placeInGroup_14 : decode cX0_placeInGroup 14 = .ok (.iand, 1) := by decide +kernel
theorem dX0_placeInGroup_15 : decode cX0_placeInGroup 15 = .ok (.iconst 1, 1) := by decide +kernel
theorem dX0_placeInGroup_16 : decode cX0_placeInGroup 16 = .ok (.if_icmp .ne 12, 3) := by decide +kernel
theorem dX0_placeInGroup_19 : decode cX0_placeInGroup 19 = .ok (.iload_n 2, 1) := by decide +kernel
theorem dX0_placeInGroup_20 : decode cX0_placeInGroup 20 = .ok (.ifCond .ne 5, 3) := by decide +kernel
theorem dX0_placeInGroup_23 : decode cX0_placeInGroup 23 = .ok (.iload_n 3, 1) := by decide +kernel
theorem dX0_placeInGroup_24 : decode cX0_placeInGroup 24 = .ok (.ireturn, 1) := by decide +kernel
theorem dX0_placeInGroup_25 : decode cX0_placeInGroup 25 = .ok (.iinc 2 (-1), 3) := by decide +kernel
theorem dX0_placeInGroup_28 : decode cX0_placeInGroup 28 = .ok (.iinc 3 1, 3) := by decide +kernel
theorem dX0_placeInGroup_31 : decode cX0_placeInGroup 31 = .ok (.goto (-27), 3) := by decide +kernel
theorem dX0_placeInGroup_34 : decode cX0_placeInGroup 34 = .ok (.bipush (-9), 2) := by decide +kernel
theorem dX0_placeInGroup_36 : decode cX0_placeInGroup 36 = .ok (.ireturn, 1) := by decide +kernel
theorem dX0_matches_0 : decode cX0_matches 0 = .ok (.aload_n 0, 1) := by decide +kernel
theorem dX0_matches_1 : decode cX0_matches 1 = .ok (.getfield 15, 3) := by decide +kernel
theorem dX0_matches_4 : decode cX0_matches 4 = .ok (.aload_n 1, 1) := by decide +kernel
theorem dX0_matches_5 : decode cX0_matches 5 = .ok (.getfield 15, 3) := by decide +kernel
theorem dX0_matches_8 : decode cX0_matches 8 = .ok (.if_icmp .eq 5, 3) := by decide +kernel
theorem dX0_matches_11 : decode cX0_matches 11 = .ok (.iconst 0, 1) := by decide +kernel
theorem dX0_matches_12 : decode cX0_matches 12 = .ok (.ireturn, 1) := by decide +kernel
theorem dX0_matches_13 : decode cX0_matches 13 = .ok (.iconst 0, 1) := by decide +kernel
theorem dX0_matches_14 : decode cX0_matches 14 = .ok (.istore_n 2, 1) := by decide +kernel
theorem dX0_matches_15 : decode cX0_matches 15 = .ok (.iload_n 2, 1) := by decide +kernel
theorem dX0_matches_16 : decode cX0_matches 16 = .ok (.aload_n 0, 1) := by decide +kernel
theorem dX0_matches_17 : decode cX0_matches 17 = .ok (.getfield 9, 3) := by decide +kernel
theorem dX0_matches_20 : decode cX0_matches 20 = .ok (.arraylength, 1) := by decide +kernel
theorem dX0_matches_21 : decode cX0_matches 21 = .ok (.if_icmp .ge 25, 3) := by decide +kernel
theorem dX0_matches_24 : decode cX0_matches 24 = .ok (.aload_n 0, 1) := by decide +kernel
theorem dX0_matches_25 : decode cX0_matches 25 = .ok (.getfield 9, 3) := by decide +kernel
theorem dX0_matches_28 : decode cX0_matches 28 = .ok (.iload_n 2, 1) := by decide +kernel
theorem dX0_matches_29 : decode cX0_matches 29 = .ok (.iaload, 1) := by decide +kernel
theorem dX0_matches_30 : decode cX0_matches 30 = .ok (.aload_n 1, 1) := by decide +kernel
theorem dX0_matches_31 : decode cX0_matches 31 = .ok (.iload_n 2, 1) := by decide +kernel
theorem dX0_matches_32 : decode cX0_matches 32 = .ok (.invokevirtual 19, 3) := by decide +kernel
theorem dX0_matches_35 : decode cX0_matches 35 = .ok (.if_icmp .eq 5, 3) := by decide +kernel
theorem dX0_matches_38 : decode cX0_matches 38 = .ok (.iconst 0, 1) := by decide +kernel
theorem dX0_matches_39 : decode cX0_matches 39 = .ok (.ireturn, 1) := by decide +kernel
theorem dX0_matches_40 : decode cX0_matches 40 = .ok (.iinc 2 1, 3) := by decide +kernel
theorem dX0_matches_43 : decode cX0_matches 43 = .ok (.goto (-28), 3) := by decide +kernel
theorem dX0_matches_46 : decode cX0_matches 46 = .ok (.iconst 1, 1) := by decide +kernel
theorem dX0_matches_47 : decode cX0_matches 47 = .ok (.ireturn, 1) := by decide +kernel
theorem dX0_maskBefore_0 : decode cX0_maskBefore 0 = .ok (.iconst 0, 1) := by decide +kernel
theorem dX0_maskBefore_1 : decode cX0_maskBefore 1 = .ok (.bipush 15, 2) := by decide +kernel
theorem dX0_maskBefore_3 : decode cX0_maskBefore 3 = .ok (.iload_n 0, 1) := by decide +kernel
theorem dX0_maskBefore_4 : decode cX0_maskBefore 4 = .ok (.iload_n 1, 1) := by decide +kernel
theorem dX0_maskBefore_5 : decode cX0_maskBefore 5 = .ok (.bipush 15, 2) := by decide +kernel
theorem dX0_maskBefore_7 : decode cX0_maskBefore 7 = .ok (.imul, 1) := by decide +kernel
theorem dX0_maskBefore_8 : decode cX0_maskBefore 8 = .ok (.isub, 1) := by decide +kernel
theorem dX0_maskBefore_9 : decode cX0_maskBefore 9 = .ok (.invokestatic 52, 3) := by decide +kernel
theorem dX0_maskBefore_12 : decode cX0_maskBefore 12 = .ok (.invokestatic 41, 3) := by decide +kernel
theorem dX0_maskBefore_15 : decode cX0_maskBefore 15 = .ok (.istore_n 2, 1) := by decide +kernel
theorem dX0_maskBefore_16 : decode cX0_maskBefore 16 = .ok (.iconst 1, 1) := by decide +kernel
theorem dX0_maskBefore_17 : decode cX0_maskBefore 17 = .ok (.iload_n 2, 1) := by decide +kernel
theorem dX0_maskBefore_18 : decode cX0_maskBefore 18 = .ok (.ishl, 1) := by decide +kernel
theorem dX0_maskBefore_19 : decode cX0_maskBefore 19 = .ok (.iconst 1, 1) := by decide +kernel
theorem dX0_maskBefore_20 : decode cX0_maskBefore 20 = .ok (.isub, 1) := by decide +kernel
theorem dX0_maskBefore_21 : decode cX0_maskBefore 21 = .ok (.ireturn, 1) := by decide +kernel
theorem dX1_init_0 : decode cX1_init 0 = .ok (.aload_n 0, 1) := by decide +kernel
theorem dX1_init_1 : decode cX1_init 1 = .ok (.invokespecial 1, 3) := by decide +kernel
theorem dX1_init_4 : decode cX1_init 4 = .ok (.aload_n 0, 1) := by decide +kernel
theorem dX1_init_5 : decode cX1_init 5 = .ok (.new 7, 3) := by decide +kernel
theorem dX1_init_8 : decode cX1_init 8 = .ok (.dup, 1) := by decide +kernel
theorem dX1_init_9 : decode cX1_init 9 = .ok (.invokespecial 9, 3) := by decide +kernel
theorem dX1_init_12 : decode cX1_init 12 = .ok (.putfield 10, 3) := by decide +kernel
theorem dX1_init_15 : decode cX1_init 15 = .ok (.return_, 1) := by decide +kernel
theorem dX2_init_0 : decode cX2_init 0 = .ok (.aload_n 0, 1) := by decide +kernel
theorem dX2_init_1 : decode cX2_init 1 = .ok (.invokespecial 3, 3) := by decide +kernel
theorem dX2_init_4 : decode cX2_init 4 = .ok (.aload_n 0, 1) := by decide +kernel
theorem dX2_init_5 : decode cX2_init 5 = .ok (.bipush 100, 2) := by decide +kernel
theorem dX2_init_7 : decode cX2_init 7 = .ok (.newarray .char, 2) := by decide +kernel
theorem dX2_init_9 : decode cX2_init 9 = .ok (.putfield 9, 3) := by decide +kernel
theorem dX2_init_12 : decode cX2_init 12 = .ok (.aload_n 0, 1) := by decide +kernel
theorem dX2_init_13 : decode cX2_init 13 = .ok (.bipush 19, 2) := by decide +kernel
theorem dX2_init_15 : decode cX2_init 15 = .ok (.anewarray 15, 3) := by decide +kernel
theorem dX2_init_18 : decode cX2_init 18 = .ok (.putfield 17, 3) := by decide +kernel
theorem dX2_init_21 : decode cX2_init 21 = .ok (.aload_n 0, 1) := by decide +kernel
theorem dX2_init_22 : decode cX2_init 22 = .ok (.iconst 0, 1) := by decide +kernel
theorem dX2_init_23 : decode cX2_init 23 = .ok (.anewarray 15, 3) := by decide +kernel
theorem dX2_init_26 : decode cX2_init 26 = .ok (.putfield 21, 3) := by decide +kernel
theorem dX2_init_29 : decode cX2_init 29 = .ok (.iconst 0, 1) := by decide +kernel
theorem dX2_init_30 : decode cX2_init 30 = .ok (.istore_n 1, 1) := by decide +kernel
theorem dX2_init_31 : decode cX2_init 31 = .ok (.iload_n 1, 1) := by decide +kernel
theorem dX2_init_32 : decode cX2_init 32 = .ok (.aload_n 0, 1) := by decide +kernel
theorem dX2_init_33 : decode cX2_init 33 = .ok (.getfield 17, 3) := by decide +kernel
theorem dX2_init_36 : decode cX2_init 36 = .ok (.arraylength, 1) := by decide +kernel
theorem dX2_init_37 : decode cX2_init 37 = .ok (.if_icmp .ge 22, 3) := by decide +kernel
theorem dX2_init_40 : decode cX2_init 40 = .ok (.aload_n 0, 1) := by decide +kernel
theorem dX2_init_41 : decode cX2_init 41 = .ok (.getfield 17, 3) := by decide +kernel
theorem dX2_init_44 : decode cX2_init 44 = .ok (.iload_n 1, 1) := by decide +kernel
theorem dX2_init_45 : decode cX2_init 45 = .ok (.new 15, 3) := by decide +kernel
theorem dX2_init_48 : decode cX2_init 48 = .ok (.dup, 1) := by decide +kernel
theorem dX2_init_49 : decode cX2_init 49 = .ok (.invokespecial 24, 3) := by decide +kernel
theorem dX2_init_52 : decode cX2_init 52 = .ok (.aastore, 1) := by decide +kernel
theorem dX2_init_53 : decode cX2_init 53 = .ok (.iinc 1 1, 3) := by decide +kernel
theorem dX2_init_56 : decode cX2_init 56 = .ok (.goto (-25), 3) := by decide +kernel
theorem dX2_init_59 : decode cX2_init 59 = .ok (.return_, 1) := by decide +kernel
theorem dX2_addSign_0 : decode cX2_addSign 0 = .ok (.aload_n 0, 1) := by decide +kernel
theorem dX2_addSign_1 : decode cX2_addSign 1 = .ok (.getfield 25, 3) := by decide +kernel
theorem dX2_addSign_4 : decode cX2_addSign 4 = .ok (.aload_n 0, 1) := by decide +kernel
theorem dX2_addSign_5 : decode cX2_addSign 5 = .ok (.getfield 9, 3) := by decide +kernel
theorem dX2_addSign_8 : decode cX2_addSign 8 = .ok (.arraylength, 1) := by decide +kernel
theorem dX2_addSign_9 : decode cX2_addSign 9 = .ok (.if_icmp .ge 23, 3) := by decide +kernel
theorem dX2_addSign_12 : decode cX2_addSign 12 = .ok (.aload_n 0, 1) := by decide +kernel
theorem dX2_addSign_13 : decode cX2_addSign 13 = .ok (.getfield 9, 3) := by decide +kernel
theorem dX2_addSign_16 : decode cX2_addSign 16 = .ok (.aload_n 0, 1) := by decide +kernel
theorem dX2_addSign_17 : decode cX2_addSign 17 = .ok (.getfield 25, 3) := by decide +kernel
theorem dX2_addSign_20 : decode cX2_addSign 20 = .ok (.iload_n 1, 1) := by decide +kernel
theorem dX2_addSign_21 : decode cX2_addSign 21 = .ok (.castore, 1) := by decide +kernel
theorem dX2_addSign_22 : decode cX2_addSign 22 = .ok (.aload_n 0, 1) := by decide +kernel
theorem dX2_addSign_23 : decode cX2_addSign 23 = .ok (.dup, 1) := by decide +kernel
theorem dX2_addSign_24 : decode cX2_addSign 24 = .ok (.getfield 25, 3) := by decide +kernel
theorem dX2_addSign_27 : decode cX2_addSign 27 = .ok (.iconst 1, 1) := by decide +kernel
theorem dX2_addSign_28 : decode cX2_addSign 28 = .ok (.iadd, 1) := by decide +kernel
theorem dX2_addSign_29 : decode cX2_addSign 29 = .ok (.putfield 25, 3) := by decide +kernel
theorem dX2_addSign_32 : decode cX2_addSign 32 = .ok (.return_, 1) := by decide +kernel
theorem dX2_result_0 : decode cX2_result 0 = .ok (.aload_n 0, 1) := by decide +kernel
theorem dX2_result_1 : decode cX2_result 1 = .ok (.getfield 17, 3) := by decide +kernel
theorem dX2_result_4 : decode cX2_result 4 = .ok (.iconst 0, 1) := by decide +kernel
theorem dX2_result_5 : decode cX2_result 5 = .ok (.aaload, 1) := by decide +kernel
theorem dX2_result_6 : decode cX2_result 6 = .ok (.areturn, 1) := by decide +kernel
theorem dX2_read_0 : decode cX2_read 0 = .ok (.aload_n 0, 1) := by decide +kernel
theorem dX2_read_1 : decode cX2_read 1 = .ok (.aload_n 1, 1) := by decide +kernel
theorem dX2_read_2 : decode cX2_read 2 = .ok (.putfield 21, 3) := by decide +kernel
theorem dX2_read_5 : decode cX2_read 5 = .ok (.aload_n 0, 1) := by decide +kernel
theorem dX2_read_6 : decode cX2_read 6 = .ok (.iload_n 2, 1) := by decide +kernel
theorem dX2_read_7 : decode cX2_read 7 = .ok (.putfield 29, 3) := by decide +kernel
theorem dX2_read_10 : decode cX2_read 10 = .ok (.aload_n 0, 1) := by decide +kernel
theorem dX2_read_11 : decode cX2_read 11 = .ok (.iconst 0, 1) := by decide +kernel
theorem dX2_read_12 : decode cX2_read 12 = .ok (.putfield 32, 3) := by decide +kernel
theorem dX2_read_15 : decode cX2_read 15 = .ok (.aload_n 0, 1) := by decide +kernel
theorem dX2_read_16 : decode cX2_read 16 = .ok (.iconst 0, 1) := by decide +kernel
theorem dX2_read_17 : decode cX2_read 17 = .ok (.putfield 35, 3) := by decide +kernel
theorem dX2_read_20 : decode cX2_read 20 = .ok (.aload_n 0, 1) := by decide +kernel
theorem dX2_read_21 : decode cX2_read 21 = .ok (.iconst 0, 1) := by decide +kernel
theorem dX2_read_22 : decode cX2_read 22 = .ok (.iconst 0, 1) := by decide +kernel
theorem dX2_read_23 : decode cX2_read 23 = .ok (.invokevirtual 39, 3) := by decide +kernel
theorem dX2_read_26 : decode cX2_read 26 = .ok (.ifCond .eq 16, 3) := by decide +kernel
theorem dX2_read_29 : decode cX2_read 29 = .ok (.aload_n 0, 1) := by decide +kernel
theorem dX2_read_30 : decode cX2_read 30 = .ok (.invokevirtual 43, 3) := by decide +kernel
theorem dX2_read_33 : decode cX2_read 33 = .ok (.ifCond .eq 9, 3) := by decide +kernel
theorem dX2_read_36 : decode cX2_read 36 = .ok (.aload_n 0, 1) := by decide +kernel
theorem dX2_read_37 : decode cX2_read 37 = .ok (.iconst 0, 1) := by decide +kernel
theorem dX2_read_38 : decode cX2_read 38 = .ok (.invokevirtual 47, 3) := by decide +kernel
theorem dX2_read_41 : decode cX2_read 41 = .ok (.pop, 1) := by decide +kernel
theorem dX2_read_42 : decode cX2_read 42 = .ok (.aload_n 0, 1) := by decide +kernel
theorem dX2_read_43 : decode cX2_read 43 = .ok (.getfield 35, 3) := by decide +kernel
theorem dX2_read_46 : decode cX2_read 46 = .ok (.ifCond .ne 7, 3) := by decide +kernel
theorem dX2_read_49 : decode cX2_read 49 = .ok (.iconst 1, 1) := by decide +kernel
theorem dX2_read_50 : decode cX2_read 50 = .ok (.goto 4, 3) := by decide +kernel
theorem dX2_read_53 : decode cX2_read 53 = .ok (.iconst 0, 1) := by decide +kernel
theorem dX2_read_54 : decode cX2_read 54 = .ok (.ireturn, 1) := by decide +kernel
theorem dX2_readSum_0 : decode cX2_readSum 0 = .ok (.aload_n 0, 1) := by decide +kernel
theorem dX2_readSum_1 : decode cX2_readSum 1 = .ok (.iload_n 1, 1) := by decide +kernel
theorem dX2_readSum_2 : decode cX2_readSum 2 = .ok (.iload_n 2, 1) := by decide +kernel
theorem dX2_readSum_3 : decode cX2_readSum 3 = .ok (.invokevirtual 51, 3) := by decide +kernel
theorem dX2_readSum_6 : decode cX2_readSum 6 = .ok (.ifCond .ne 5, 3) := by decide +kernel
theorem dX2_readSum_9 : decode cX2_readSum 9 = .ok (.iconst 0, 1) := by decide +kernel
theorem dX2_readSum_10 : decode cX2_readSum 10 = .ok (.ireturn, 1) := by decide +kernel
theorem dX2_readSum_11 : decode cX2_readSum 11 = .ok (.iconst 1, 1) := by decide +kernel
theorem dX2_readSum_12 : decode cX2_readSum 12 = .ok (.istore_n 3, 1) := by decide +kernel
theorem dX2_readSum_13 : decode cX2_readSum 13 = .ok (.iload_n 3, 1) := by decide +kernel
theorem dX2_readSum_14 : decode cX2_readSum 14 = .ok (.bipush 100, 2) := by decide +kernel
theorem dX2_readSum_16 : decode cX2_readSum 16 = .ok (.if_icmp .gt 71, 3) := by decide +kernel
theorem dX2_readSum_19 : decode cX2_readSum 19 = .ok (.aload_n 0, 1) := by decide +kernel
theorem dX2_readSum_20 : decode cX2_readSum 20 = .ok (.invokevirtual 43, 3) := by decide +kernel
theorem dX2_readSum_23 : decode cX2_readSum 23 = .ok (.istore 4, 2) := by decide +kernel
theorem dX2_readSum_25 : decode cX2_readSum 25 = .ok (.iload 4, 2) := by decide +kernel
theorem dX2_readSum_27 : decode cX2_readSum 27 = .ok (.bipush 124, 2) := by decide +kernel
theorem dX2_readSum_29 : decode cX2_readSum 29 = .ok (.if_icmp .eq 12, 3) := by decide +kernel
theorem dX2_readSum_32 : decode cX2_readSum 32 = .ok (.iload 4, 2) := by decide +kernel
theorem dX2_readSum_34 : decode cX2_readSum 34 = .ok (.bipush 94, 2) := by decide +kernel
theorem dX2_readSum_36 : decode cX2_readSum 36 = .ok (.if_icmp .eq 5, 3) := by decide +kernel
theorem dX2_readSum_39 : decode cX2_readSum 39 = .ok (.iconst 1, 1) := by decide +kernel
theorem dX2_readSum_40 : decode cX2_readSum 40 = .ok (.ireturn, 1) := by decide +kernel
theorem dX2_readSum_41 : decode cX2_readSum 41 = .ok (.aload_n 0, 1) := by decide +kernel
theorem dX2_readSum_42 : decode cX2_readSum 42 = .ok (.dup, 1) := by decide +kernel
theorem dX2_readSum_43 : decode cX2_readSum 43 = .ok (.getfield 32, 3) := by decide +kernel
theorem dX2_readSum_46 : decode cX2_readSum 46 = .ok (.iconst 1, 1) := by decide +kernel
theorem dX2_readSum_47 : decode cX2_readSum 47 = .ok (.iadd, 1) := by decide +kernel
theorem dX2_readSum_48 : decode cX2_readSum 48 = .ok (.putfield 32, 3) := by decide +kernel
theorem dX2_readSum_51 : decode cX2_readSum 51 = .ok (.aload_n 0, 1) := by decide +kernel
theorem dX2_readSum_52 : decode cX2_readSum 52 = .ok (.iload_n 1, 1) := by decide +kernel
theorem dX2_readSum_53 : decode cX2_readSum 53 = .ok (.iconst 1, 1) := by decide +kernel
theorem dX2_readSum_54 : decode cX2_readSum 54 = .ok (.iadd, 1) := by decide +kernel
theorem dX2_readSum_55 : decode cX2_readSum 55 = .ok (.iload_n 2, 1) := by decide +kernel
theorem dX2_readSum_56 : decode cX2_readSum 56 = .ok (.invokevirtual 51, 3) := by decide +kernel
theorem dX2_readSum_59 : decode cX2_readSum 59 = .ok (.ifCond .ne 5, 3) := by decide +kernel
theorem dX2_readSum_62 : decode cX2_readSum 62 = .ok (.iconst 0, 1) := by decide +kernel
theorem dX2_readSum_63 : decode cX2_readSum 63 = .ok (.ireturn, 1) := by decide +kernel
theorem dX2_readSum_64 : decode cX2_readSum 64 = .ok (.aload_n 0, 1) := by decide +kernel
theorem dX2_readSum_65 : decode cX2_readSum 65 = .ok (.iload_n 1, 1) := by decide +kernel
theorem dX2_readSum_66 : decode cX2_readSum 66 = .ok (.iload 4, 2) := by decide +kernel
theorem dX2_readSum_68 : decode cX2_readSum 68 = .ok (.bipush 124, 2) := by decide +kernel
theorem dX2_readSum_70 : decode cX2_readSum 70 = .ok (.if_icmp .ne 7, 3) := by decide +kernel
theorem dX2_readSum_73 : decode cX2_readSum 73 = .ok (.iconst 1, 1) := by decide +kernel
theorem dX2_readSum_74 : decode cX2_readSum 74 = .ok (.goto 4, 3) := by decide +kernel
theorem dX2_readSum_77 : decode cX2_readSum 77 = .ok (.iconst 3, 1) := by decide +kernel
theorem dX2_readSum_78 : decode cX2_readSum 78 = .ok (.invokevirtual 54, 3) := by decide +kernel
theorem dX2_readSum_81 : decode cX2_readSum 81 = .ok (.iinc 3 1, 3) := by decide +kernel
theorem dX2_readSum_84 : decode cX2_readSum 84 = .ok (.goto (-71), 3) := by decide +kernel
theorem dX2_readSum_87 : decode cX2_readSum 87 = .ok (.iconst 1, 1) := by decide +kernel
theorem dX2_readSum_88 : decode cX2_readSum 88 = .ok (.ireturn, 1) := by decide +kernel
theorem dX2_readProduct_0 : decode cX2_readProduct 0 = .ok (.aload_n 0, 1) := by decide +kernel
theorem dX2_readProduct_1 : decode cX2_readProduct 1 = .ok (.iload_n 1, 1) := by decide +kernel
theorem dX2_readProduct_2 : decode cX2_readProduct 2 = .ok (.iload_n 2, 1) := by decide +kernel
theorem dX2_readProduct_3 : decode cX2_readProduct 3 = .ok (.invokevirtual 58, 3) := by decide +kernel
theorem dX2_readProduct_6 : decode cX2_readProduct 6 = .ok (.ifCond .ne 5, 3) := by decide +kernel
theorem dX2_readProduct_9 : decode cX2_readProduct 9 = .ok (.iconst 0, 1) := by decide +kernel
theorem dX2_readProduct_10 : decode cX2_readProduct 10 = .ok (.ireturn, 1) := by decide +kernel
theorem dX2_readProduct_11 : decode cX2_readProduct 11 = .ok (.iconst 1, 1) := by decide +kernel
theorem dX2_readProduct_12 : decode cX2_readProduct 12 = .ok (.istore_n 3, 1) := by decide +kernel
theorem dX2_readProduct_13 : decode cX2_readProduct 13 = .ok (.iload_n 3, 1) := by decide +kernel
theorem dX2_readProduct_14 : decode cX2_readProduct 14 = .ok (.bipush 100, 2) := by decide +kernel
theorem dX2_readProduct_16 : decode cX2_readProduct 16 = .ok (.if_icmp .gt 71, 3) := by decide +kernel
theorem dX2_readProduct_19 : decode cX2_readProduct 19 = .ok (.aload_n 0, 1) := by decide +kernel
theorem dX2_readProduct_20 : decode cX2_readProduct 20 = .ok (.invokevirtual 43, 3) := by decide +kernel
theorem dX2_readProduct_23 : decode cX2_readProduct 23 = .ok (.istore 4, 2) := by decide +kernel
theorem dX2_readProduct_25 : decode cX2_readProduct 25 = .ok (.iload 4, 2) := by decide +kernel
theorem dX2_readProduct_27 : decode cX2_readProduct 27 = .ok (.bipush 38, 2) := by decide +kernel
theorem dX2_readProduct_29 : decode cX2_readProduct 29 = .ok (.if_icmp .eq 12, 3) := by decide +kernel
theorem dX2_readProduct_32 : decode cX2_readProduct 32 = .ok (.iload 4, 2) := by decide +kernel
theorem dX2_readProduct_34 : decode cX2_readProduct 34 = .ok (.bipush 45, 2) := by decide +kernel
theorem dX2_readProduct_36 : decode cX2_readProduct 36 = .ok (.if_icmp .eq 5, 3) := by decide +kernel
theorem dX2_readProduct_39 : decode cX2_readProduct 39 = .ok (.iconst 1, 1) := by decide +kernel
theorem dX2_readProduct_40 : decode cX2_readProduct 40 = .ok (.ireturn, 1) := by decide +kernel
theorem dX2_readProduct_41 : decode cX2_readProduct 41 = .ok (.aload_n 0, 1) := by decide +kernel
theorem dX2_readProduct_42 : decode cX2_readProduct 42 = .ok (.dup, 1) := by decide +kernel
theorem dX2_readProduct_43 : decode cX2_readProduct 43 = .ok (.getfield 32, 3) := by decide +kernel
theorem dX2_readProduct_46 : decode cX2_readProduct 46 = .ok (.iconst 1, 1) := by decide +kernel
theorem dX2_readProduct_47 : decode cX2_readProduct 47 = .ok (.iadd, 1) := by decide +kernel
theorem dX2_readProduct_48 : decode cX2_readProduct 48 = .ok (.putfield 32, 3) := by decide +kernel
theorem dX2_readProduct_51 : decode cX2_readProduct 51 = .ok (.aload_n 0, 1) := by decide +kernel
theorem dX2_readProduct_52 : decode cX2_readProduct 52 = .ok (.iload_n 1, 1) := by decide +kernel
theorem dX2_readProduct_53 : decode cX2_readProduct 53 = .ok (.iconst 1, 1) := by decide +kernel
theorem dX2_readProduct_54 : decode cX2_readProduct 54 = .ok (.iadd, 1) := by decide +kernel
theorem dX2_readProduct_55 : decode cX2_readProduct 55 = .ok (.iload_n 2, 1) := by decide +kernel
theorem dX2_readProduct_56 : decode cX2_readProduct 56 = .ok (.invokevirtual 58, 3) := by decide +kernel
theorem dX2_readProduct_59 : decode cX2_readProduct 59 = .ok (.ifCond .ne 5, 3) := by decide +kernel
theorem dX2_readProduct_62 : decode cX2_readProduct 62 = .ok (.iconst 0, 1) := by decide +kernel
theorem dX2_readProduct_63 : decode cX2_readProduct 63 = .ok (.ireturn, 1) := by decide +kernel
theorem dX2_readProduct_64 : decode cX2_readProduct 64 = .ok (.aload_n 0, 1) := by decide +kernel
theorem dX2_readProduct_65 : decode cX2_readProduct 65 = .ok (.iload_n 1, 1) := by decide +kernel
theorem dX2_readProduct_66 : decode cX2_readProduct 66 = .ok (.iload 4, 2) := by decide +kernel
theorem dX2_readProduct_68 : decode cX2_readProduct 68 = .ok (.bipush 38, 2) := by decide +kernel
theorem dX2_readProduct_70 : decode cX2_readProduct 70 = .ok (.if_icmp .ne 7, 3) := by decide +kernel
theorem dX2_readProduct_73 : decode cX2_readProduct 73 = .ok (.iconst 0, 1) := by decide +kernel
theorem dX2_readProduct_74 : decode cX2_readProduct 74 = .ok (.goto 4, 3) := by decide +kernel
theorem dX2_readProduct_77 : decode cX2_readProduct 77 = .ok (.iconst 2, 1) := by decide +kernel
theorem dX2_readProduct_78 : decode cX2_readProduct 78 = .ok (.invokevirtual 54, 3) := by decide +kernel
theorem dX2_readProduct_81 : decode cX2_readProduct 81 = .ok (.iinc 3 1, 3) := by decide +kernel
theorem dX2_readProduct_84 : decode cX2_readProduct 84 = .ok (.goto (-71), 3) := by decide +kernel
theorem dX2_readProduct_87 : decode cX2_readProduct 87 = .ok (.iconst 1, 1) := by decide +kernel
theorem dX2_readProduct_88 : decode cX2_readProduct 88 = .ok (.ireturn, 1) := by decide +kernel
theorem dX2_combineAt_0 : decode cX2_combineAt 0 = .ok (.iload_n 1, 1) := by decide +kernel
theorem dX2_combineAt_1 : decode cX2_combineAt 1 = .ok (.ifCond .lt 38, 3) := by decide +kernel
theorem dX2_combineAt_4 : decode cX2_combineAt 4 = .ok (.iload_n 1, 1) := by decide +kernel
theorem dX2_combineAt_5 : decode cX2_combineAt 5 = .ok (.iconst 1, 1) := by decide +kernel
theorem dX2_combineAt_6 : decode cX2_combineAt 6 = .ok (.iadd, 1) := by decide +kernel
theorem dX2_combineAt_7 : decode cX2_combineAt 7 = .ok (.aload_n 0, 1) := by decide +kernel
theorem dX2_combineAt_8 : decode cX2_combineAt 8 = .ok (.getfield 17, 3) := by decide +kernel
theorem dX2_combineAt_11 : decode cX2_combineAt 11 = .ok (.arraylength, 1) := by decide +kernel
theorem dX2_combineAt_12 : decode cX2_combineAt 12 = .ok (.if_icmp .ge 27, 3) := by decide +kernel
theorem dX2_combineAt_15 : decode cX2_combineAt 15 = .ok (.aload_n 0, 1) := by decide +kernel
theorem dX2_combineAt_16 : decode cX2_combineAt 16 = .ok (.getfield 17, 3) := by decide +kernel
theorem dX2_combineAt_19 : decode cX2_combineAt 19 = .ok (.iload_n 1, 1) := by decide +kernel
theorem dX2_combineAt_20 : decode cX2_combineAt 20 = .ok (.aaload, 1) := by decide +kernel
theorem dX2_combineAt_21 : decode cX2_combineAt 21 = .ok (.iload_n 2, 1) := by decide +kernel
theorem dX2_combineAt_22 : decode cX2_combineAt 22 = .ok (.aload_n 0, 1) := by decide +kernel
theorem dX2_combineAt_23 : decode cX2_combineAt 23 = .ok (.getfield 17, 3) := by decide +kernel
theorem dX2_combineAt_26 : decode cX2_combineAt 26 = .ok (.iload_n 1, 1) := by decide +kernel
theorem dX2_combineAt_27 : decode cX2_combineAt 27 = .ok (.aaload, 1) := by decide +kernel
theorem dX2_combineAt_28 : decode cX2_combineAt 28 = .ok (.aload_n 0, 1) := by decide +kernel
theorem dX2_combineAt_29 : decode cX2_combineAt 29 = .ok (.getfield 17, 3) := by decide +kernel
theorem dX2_combineAt_32 : decode cX2_combineAt 32 = .ok (.iload_n 1, 1) := by decide +kernel
theorem dX2_combineAt_33 : decode cX2_combineAt 33 = .ok (.iconst 1, 1) := by decide +kernel
theorem dX2_combineAt_34 : decode cX2_combineAt 34 = .ok (.iadd, 1) := by decide +kernel
theorem dX2_combineAt_35 : decode cX2_combineAt 35 = .ok (.aaload, 1) := by decide +kernel
theorem dX2_combineAt_36 : decode cX2_combineAt 36 = .ok (.invokevirtual 61, 3) := by decide +kernel
theorem dX2_combineAt_39 : decode cX2_combineAt 39 = .ok (.return_, 1) := by decide +kernel
theorem dX2_readFactor_0 : decode cX2_readFactor 0 = .ok (.aload_n 0, 1) := by decide +kernel
theorem dX2_readFactor_1 : decode cX2_readFactor 1 = .ok (.invokevirtual 43, 3) := by decide +kernel
theorem dX2_readFactor_4 : decode cX2_readFactor 4 = .ok (.istore_n 3, 1) := by decide +kernel
theorem dX2_readFactor_5 : decode cX2_readFactor 5 = .ok (.iload_n 3, 1) := by decide +kernel
theorem dX2_readFactor_6 : decode cX2_readFactor 6 = .ok (.bipush 126, 2) := by decide +kernel
theorem dX2_readFactor_8 : decode cX2_readFactor 8 = .ok (.if_icmp .eq 16, 3) := by decide +kernel
theorem dX2_readFactor_11 : decode cX2_readFactor 11 = .ok (.iload_n 3, 1) := by decide +kernel
theorem dX2_readFactor_12 : decode cX2_readFactor 12 = .ok (.bipush 40, 2) := by decide +kernel
theorem dX2_readFactor_14 : decode cX2_readFactor 14 = .ok (.if_icmp .eq 10, 3) := by decide +kernel
theorem dX2_readFactor_17 : decode cX2_readFactor 17 = .ok (.aload_n 0, 1) := by decide +kernel
theorem dX2_readFactor_18 : decode cX2_readFactor 18 = .ok (.iload_n 1, 1) := by decide +kernel
theorem dX2_readFactor_19 : decode cX2_readFactor 19 = .ok (.iload_n 2, 1) := by decide +kernel
theorem dX2_readFactor_20 : decode cX2_readFactor 20 = .ok (.invokevirtual 65, 3) := by decide +kernel
theorem dX2_readFactor_23 : decode cX2_readFactor 23 = .ok (.ireturn, 1) := by decide +kernel
theorem dX2_readFactor_24 : decode cX2_readFactor 24 = .ok (.iload_n 2, 1) := by decide +kernel
theorem dX2_readFactor_25 : decode cX2_readFactor 25 = .ok (.bipush 8, 2) := by decide +kernel
theorem dX2_readFactor_27 : decode cX2_readFactor 27 = .ok (.if_icmp .ge 12, 3) := by decide +kernel
theorem dX2_readFactor_30 : decode cX2_readFactor 30 = .ok (.iload_n 1, 1) := by decide +kernel
theorem dX2_readFactor_31 : decode cX2_readFactor 31 = .ok (.aload_n 0, 1) := by decide +kernel
theorem dX2_readFactor_32 : decode cX2_readFactor 32 = .ok (.getfield 17, 3) := by decide +kernel
theorem dX2_readFactor_35 : decode cX2_readFactor 35 = .ok (.arraylength, 1) := by decide +kernel
theorem dX2_readFactor_36 : decode cX2_readFactor 36 = .ok (.if_icmp .lt 9, 3) := by decide +kernel
theorem dX2_readFactor_39 : decode cX2_readFactor 39 = .ok (.aload_n 0, 1) := by decide +kernel
theorem dX2_readFactor_40 : decode cX2_readFactor 40 = .ok (.iload_n 2, 1) := by decide +kernel
theorem dX2_readFactor_41 : decode cX2_readFactor 41 = .ok (.invokevirtual 47, 3) := by decide +kernel
theorem dX2_readFactor_44 : decode cX2_readFactor 44 = .ok (.ireturn, 1) := by decide +kernel
theorem dX2_readFactor_45 : decode cX2_readFactor 45 = .ok (.aload_n 0, 1) := by decide +kernel
theorem dX2_readFactor_46 : decode cX2_readFactor 46 = .ok (.dup, 1) := by decide +kernel
theorem dX2_readFactor_47 : decode cX2_readFactor 47 = .ok (.getfield 32, 3) := by decide +kernel
theorem dX2_readFactor_50 : decode cX2_readFactor 50 = .ok (.iconst 1, 1) := by decide +kernel
theorem dX2_readFactor_51 : decode cX2_readFactor 51 = .ok (.iadd, 1) := by decide +kernel
theorem dX2_readFactor_52 : decode cX2_readFactor 52 = .ok (.putfield 32, 3) := by decide +kernel
theorem dX2_readFactor_55 : decode cX2_readFactor 55 = .ok (.iload_n 3, 1) := by decide +kernel
theorem dX2_readFactor_56 : decode cX2_readFactor 56 = .ok (.bipush 40, 2) := by decide +kernel
theorem dX2_readFactor_58 : decode cX2_readFactor 58 = .ok (.if_icmp .ne 12, 3) := by decide +kernel
theorem dX2_readFactor_61 : decode cX2_readFactor 61 = .ok (.aload_n 0, 1) := by decide +kernel
theorem dX2_readFactor_62 : decode cX2_readFactor 62 = .ok (.iload_n 1, 1) := by decide +kernel
theorem dX2_readFactor_63 : decode cX2_readFactor 63 = .ok (.iload_n 2, 1) := by decide +kernel
theorem dX2_readFactor_64 : decode cX2_readFactor 64 = .ok (.iconst 1, 1) := by decide +kernel
theorem dX2_readFactor_65 : decode cX2_readFactor 65 = .ok (.iadd, 1) := by decide +kernel
theorem dX2_readFactor_66 : decode cX2_readFactor 66 = .ok (.invokevirtual 68, 3) := by decide +kernel
theorem dX2_readFactor_69 : decode cX2_readFactor 69 = .ok (.ireturn, 1) := by decide +kernel
theorem dX2_readFactor_70 : decode cX2_readFactor 70 = .ok (.aload_n 0, 1) := by decide +kernel
theorem dX2_readFactor_71 : decode cX2_readFactor 71 = .ok (.iload_n 1, 1) := by decide +kernel
theorem dX2_readFactor_72 : decode cX2_readFactor 72 = .ok (.iload_n 2, 1) := by decide +kernel
theorem dX2_readFactor_73 : decode cX2_readFactor 73 = .ok (.iconst 1, 1) := by decide +kernel
theorem dX2_readFactor_74 : decode cX2_readFactor 74 = .ok (.iadd, 1) := by decide +kernel
theorem dX2_readFactor_75 : decode cX2_readFactor 75 = .ok (.invokevirtual 58, 3) := by decide +kernel
theorem dX2_readFactor_78 : decode cX2_readFactor 78 = .ok (.ifCond .ne 5, 3) := by decide +kernel
theorem dX2_readFactor_81 : decode cX2_readFactor 81 = .ok (.iconst 0, 1) := by decide +kernel
theorem dX2_readFactor_82 : decode cX2_readFactor 82 = .ok (.ireturn, 1) := by decide +kernel
theorem dX2_readFactor_83 : decode cX2_readFactor 83 = .ok (.aload_n 0, 1) := by decide +kernel
theorem dX2_readFactor_84 : decode cX2_readFactor 84 = .ok (.getfield 17, 3) := by decide +kernel
theorem dX2_readFactor_87 : decode cX2_readFactor 87 = .ok (.iload_n 1, 1) := by decide +kernel
theorem dX2_readFactor_88 : decode cX2_readFactor 88 = .ok (.aaload, 1) := by decide +kernel
theorem dX2_readFactor_89 : decode cX2_readFactor 89 = .ok (.invokevirtual 71, 3) := by decide +kernel
theorem dX2_readFactor_92 : decode cX2_readFactor 92 = .ok (.iconst 1, 1) := by decide +kernel
theorem dX2_readFactor_93 : decode cX2_readFactor 93 = .ok (.ireturn, 1) := by decide +kernel
theorem dX2_readBracket_0 : decode cX2_readBracket 0 = .ok (.aload_n 0, 1) := by decide +kernel
theorem dX2_readBracket_1 : decode cX2_readBracket 1 = .ok (.iload_n 1, 1) := by decide +kernel
theorem dX2_readBracket_2 : decode cX2_readBracket 2 = .ok (.iload_n 2, 1) := by decide +kernel
theorem dX2_readBracket_3 : decode cX2_readBracket 3 = .ok (.invokevirtual 39, 3) := by decide +kernel
theorem dX2_readBracket_6 : decode cX2_readBracket 6 = .ok (.ifCond .ne 5, 3) := by decide +kernel
theorem dX2_readBracket_9 : decode cX2_readBracket 9 = .ok (.iconst 0, 1) := by decide +kernel
theorem dX2_readBracket_10 : decode cX2_readBracket 10 = .ok (.ireturn, 1) := by decide +kernel
theorem dX2_readBracket_11 : decode cX2_readBracket 11 = .ok (.aload_n 0, 1) := by decide +kernel
theorem dX2_readBracket_12 : decode cX2_readBracket 12 = .ok (.invokevirtual 43, 3) := by decide +kernel
theorem dX2_readBracket_15 : decode cX2_readBracket 15 = .ok (.bipush 41, 2) := by decide +kernel
theorem dX2_readBracket_17 : decode cX2_readBracket 17 = .ok (.if_icmp .eq 9, 3) := by decide +kernel
theorem dX2_readBracket_20 : decode cX2_readBracket 20 = .ok (.aload_n 0, 1) := by decide +kernel
theorem dX2_readBracket_21 : decode cX2_readBracket 21 = .ok (.iload_n 2, 1) := by decide +kernel
theorem dX2_readBracket_22 : decode cX2_readBracket 22 = .ok (.invokevirtual 47, 3) := by decide +kernel
theorem dX2_readBracket_25 : decode cX2_readBracket 25 = .ok (.ireturn, 1) := by decide +kernel
theorem dX2_readBracket_26 : decode cX2_readBracket 26 = .ok (.aload_n 0, 1) := by decide +kernel
theorem dX2_readBracket_27 : decode cX2_readBracket 27 = .ok (.dup, 1) := by decide +kernel
theorem dX2_readBracket_28 : decode cX2_readBracket 28 = .ok (.getfield 32, 3) := by decide +kernel
theorem dX2_readBracket_31 : decode cX2_readBracket 31 = .ok (.iconst 1, 1) := by decide +kernel
theorem dX2_readBracket_32 : decode cX2_readBracket 32 = .ok (.iadd, 1) := by decide +kernel
theorem dX2_readBracket_33 : decode cX2_readBracket 33 = .ok (.putfield 32, 3) := by decide +kernel
theorem dX2_readBracket_36 : decode cX2_readBracket 36 = .ok (.iconst 1, 1) := by decide +kernel
theorem dX2_readBracket_37 : decode cX2_readBracket 37 = .ok (.ireturn, 1) := by decide +kernel
theorem dX2_readRow_0 : decode cX2_readRow 0 = .ok (.aload_n 0, 1) := by decide +kernel
theorem dX2_readRow_1 : decode cX2_readRow 1 = .ok (.iload_n 2, 1) := by decide +kernel
theorem dX2_readRow_2 : decode cX2_readRow 2 = .ok (.aload_n 0, 1) := by decide +kernel
theorem dX2_readRow_3 : decode cX2_readRow 3 = .ok (.getfield 29, 3) := by decide +kernel
theorem dX2_readRow_6 : decode cX2_readRow 6 = .ok (.iconst 1, 1) := by decide +kernel
theorem dX2_readRow_7 : decode cX2_readRow 7 = .ok (.isub, 1) := by decide +kernel
theorem dX2_readRow_8 : decode cX2_readRow 8 = .ok (.invokevirtual 74, 3) := by decide +kernel
theorem dX2_readRow_11 : decode cX2_readRow 11 = .ok (.istore_n 3, 1) := by decide +kernel
theorem dX2_readRow_12 : decode cX2_readRow 12 = .ok (.iload_n 3, 1) := by decide +kernel
theorem dX2_readRow_13 : decode cX2_readRow 13 = .ok (.ifCond .ge 5, 3) := by decide +kernel
theorem dX2_readRow_16 : decode cX2_readRow 16 = .ok (.iconst 0, 1) := by decide +kernel
theorem dX2_readRow_17 : decode cX2_readRow 17 = .ok (.ireturn, 1) := by decide +kernel
theorem dX2_readRow_18 : decode cX2_readRow 18 = .ok (.aload_n 0, 1) := by decide +kernel
theorem dX2_readRow_19 : decode cX2_readRow 19 = .ok (.invokevirtual 43, 3) := by decide +kernel
theorem dX2_readRow_22 : decode cX2_readRow 22 = .ok (.istore 4, 2) := by decide +kernel
theorem dX2_readRow_24 : decode cX2_readRow 24 = .ok (.iconst 0, 1) := by decide +kernel
theorem dX2_readRow_25 : decode cX2_readRow 25 = .ok (.istore 5, 2) := by decide +kernel
theorem dX2_readRow_27 : decode cX2_readRow 27 = .ok (.iload 4, 2) := by decide +kernel
theorem dX2_readRow_29 : decode cX2_readRow 29 = .ok (.bipush 60, 2) := by decide +kernel
theorem dX2_readRow_31 : decode cX2_readRow 31 = .ok (.if_icmp .eq 10, 3) := by decide +kernel
theorem dX2_readRow_34 : decode cX2_readRow 34 = .ok (.iload 4, 2) := by decide +kernel
theorem dX2_readRow_36 : decode cX2_readRow 36 = .ok (.bipush 62, 2) := by decide +kernel
theorem dX2_readRow_38 : decode cX2_readRow 38 = .ok (.if_icmp .ne 30, 3) := by decide +kernel
theorem dX2_readRow_41 : decode cX2_readRow 41 = .ok (.aload_n 0, 1) := by decide +kernel
theorem dX2_readRow_42 : decode cX2_readRow 42 = .ok (.dup, 1) := by decide +kernel
theorem dX2_readRow_43 : decode cX2_readRow 43 = .ok (.getfield 32, 3) := by decide +kernel
theorem dX2_readRow_46 : decode cX2_readRow 46 = .ok (.iconst 1, 1) := by decide +kernel
theorem dX2_readRow_47 : decode cX2_readRow 47 = .ok (.iadd, 1) := by decide +kernel
theorem dX2_readRow_48 : decode cX2_readRow 48 = .ok (.putfield 32, 3) := by decide +kernel
theorem dX2_readRow_51 : decode cX2_readRow 51 = .ok (.aload_n 0, 1) := by decide +kernel
theorem dX2_readRow_52 : decode cX2_readRow 52 = .ok (.iload_n 2, 1) := by decide +kernel
theorem dX2_readRow_53 : decode cX2_readRow 53 = .ok (.sipush 600, 3) := by decide +kernel
theorem dX2_readRow_56 : decode cX2_readRow 56 = .ok (.invokevirtual 74, 3) := by decide +kernel
theorem dX2_readRow_59 : decode cX2_readRow 59 = .ok (.istore 5, 2) := by decide +kernel
theorem dX2_readRow_61 : decode cX2_readRow 61 = .ok (.iload 5, 2) := by decide +kernel
theorem dX2_readRow_63 : decode cX2_readRow 63 = .ok (.ifCond .ge 5, 3) := by decide +kernel
theorem dX2_readRow_66 : decode cX2_readRow 66 = .ok (.iconst 0, 1) := by decide +kernel
theorem dX2_readRow_67 : decode cX2_readRow 67 = .ok (.ireturn, 1) := by decide +kernel
theorem dX2_readRow_68 : decode cX2_readRow 68 = .ok (.aload_n 0, 1) := by decide +kernel
theorem dX2_readRow_69 : decode cX2_readRow 69 = .ok (.getfield 35, 3) := by decide +kernel
theorem dX2_readRow_72 : decode cX2_readRow 72 = .ok (.ifCond .ne 51, 3) := by decide +kernel
theorem dX2_readRow_75 : decode cX2_readRow 75 = .ok (.iload_n 3, 1) := by decide +kernel
theorem dX2_readRow_76 : decode cX2_readRow 76 = .ok (.aload_n 0, 1) := by decide +kernel
theorem dX2_readRow_77 : decode cX2_readRow 77 = .ok (.getfield 21, 3) := by decide +kernel
theorem dX2_readRow_80 : decode cX2_readRow 80 = .ok (.arraylength, 1) := by decide +kernel
theorem dX2_readRow_81 : decode cX2_readRow 81 = .ok (.if_icmp .ge 42, 3) := by decide +kernel
theorem dX2_readRow_84 : decode cX2_readRow 84 = .ok (.iload_n 1, 1) := by decide +kernel
theorem dX2_readRow_85 : decode cX2_readRow 85 = .ok (.aload_n 0, 1) := by decide +kernel
theorem dX2_readRow_86 : decode cX2_readRow 86 = .ok (.getfield 17, 3) := by decide +kernel
theorem dX2_readRow_89 : decode cX2_readRow 89 = .ok (.arraylength, 1) := by decide +kernel
theorem dX2_readRow_90 : decode cX2_readRow 90 = .ok (.if_icmp .ge 33, 3) := by decide +kernel
theorem dX2_readRow_93 : decode cX2_readRow 93 = .ok (.aload_n 0, 1) := by decide +kernel
theorem dX2_readRow_94 : decode cX2_readRow 94 = .ok (.getfield 17, 3) := by decide +kernel
theorem dX2_readRow_97 : decode cX2_readRow 97 = .ok (.iload_n 1, 1) := by decide +kernel
theorem dX2_readRow_98 : decode cX2_readRow 98 = .ok (.aaload, 1) := by decide +kernel
theorem dX2_readRow_99 : decode cX2_readRow 99 = .ok (.aload_n 0, 1) := by decide +kernel
theorem dX2_readRow_100 : decode cX2_readRow 100 = .ok (.getfield 21, 3) := by decide +kernel
theorem dX2_readRow_103 : decode cX2_readRow 103 = .ok (.iload_n 3, 1) := by decide +kernel
theorem dX2_readRow_104 : decode cX2_readRow 104 = .ok (.aaload, 1) := by decide +kernel
theorem dX2_readRow_105 : decode cX2_readRow 105 = .ok (.iload 4, 2) := by decide +kernel
theorem dX2_readRow_107 : decode cX2_readRow 107 = .ok (.bipush 62, 2) := by decide +kernel
theorem dX2_readRow_109 : decode cX2_readRow 109 = .ok (.if_icmp .ne 9, 3) := by decide +kernel
theorem dX2_readRow_112 : decode cX2_readRow 112 = .ok (.iload 5, 2) := by decide +kernel
theorem dX2_readRow_114 : decode cX2_readRow 114 = .ok (.ineg, 1) := by decide +kernel
theorem dX2_readRow_115 : decode cX2_readRow 115 = .ok (.goto 5, 3) := by decide +kernel
theorem dX2_readRow_118 : decode cX2_readRow 118 = .ok (.iload 5, 2) := by decide +kernel
theorem dX2_readRow_120 : decode cX2_readRow 120 = .ok (.invokevirtual 78, 3) := by decide +kernel
theorem dX2_readRow_123 : decode cX2_readRow 123 = .ok (.iconst 1, 1) := by decide +kernel
theorem dX2_readRow_124 : decode cX2_readRow 124 = .ok (.ireturn, 1) := by decide +kernel
theorem dX2_readNumber_0 : decode cX2_readNumber 0 = .ok (.aload_n 0, 1) := by decide +kernel
theorem dX2_readNumber_1 : decode cX2_readNumber 1 = .ok (.invokevirtual 43, 3) := by decide +kernel
theorem dX2_readNumber_4 : decode cX2_readNumber 4 = .ok (.invokestatic 82, 3) := by decide +kernel
theorem dX2_readNumber_7 : decode cX2_readNumber 7 = .ok (.ifCond .ne 12, 3) := by decide +kernel
theorem dX2_readNumber_10 : decode cX2_readNumber 10 = .ok (.aload_n 0, 1) := by decide +kernel
theorem dX2_readNumber_11 : decode cX2_readNumber 11 = .ok (.iload_n 1, 1) := by decide +kernel
theorem dX2_readNumber_12 : decode cX2_readNumber 12 = .ok (.invokevirtual 47, 3) := by decide +kernel
theorem dX2_readNumber_15 : decode cX2_readNumber 15 = .ok (.pop, 1) := by decide +kernel
theorem dX2_readNumber_16 : decode cX2_readNumber 16 = .ok (.bipush (-9), 2) := by decide +kernel
theorem dX2_readNumber_18 : decode cX2_readNumber 18 = .ok (.ireturn, 1) := by decide +kernel
theorem dX2_readNumber_19 : decode cX2_readNumber 19 = .ok (.aload_n 0, 1) := by decide +kernel
theorem dX2_readNumber_20 : decode cX2_readNumber 20 = .ok (.getfield 32, 3) := by decide +kernel
theorem dX2_readNumber_23 : decode cX2_readNumber 23 = .ok (.istore_n 3, 1) := by decide +kernel
theorem dX2_readNumber_24 : decode cX2_readNumber 24 = .ok (.iconst 0, 1) := by decide +kernel
theorem dX2_readNumber_25 : decode cX2_readNumber 25 = .ok (.istore 4, 2) := by decide +kernel
theorem dX2_readNumber_27 : decode cX2_readNumber 27 = .ok (.iconst 0, 1) := by decide +kernel
theorem dX2_readNumber_28 : decode cX2_readNumber 28 = .ok (.istore 5, 2) := by decide +kernel
theorem dX2_readNumber_30 : decode cX2_readNumber 30 = .ok (.iload 5, 2) := by decide +kernel
theorem dX2_readNumber_32 : decode cX2_readNumber 32 = .ok (.iconst 3, 1) := by decide +kernel
theorem dX2_readNumber_33 : decode cX2_readNumber 33 = .ok (.if_icmp .ge 58, 3) := by decide +kernel
theorem dX2_readNumber_36 : decode cX2_readNumber 36 = .ok (.aload_n 0, 1) := by decide +kernel
theorem dX2_readNumber_37 : decode cX2_readNumber 37 = .ok (.invokevirtual 86, 3) := by decide +kernel
theorem dX2_readNumber_40 : decode cX2_readNumber 40 = .ok (.invokestatic 82, 3) := by decide +kernel
theorem dX2_readNumber_43 : decode cX2_readNumber 43 = .ok (.ifCond .eq 48, 3) := by decide +kernel
theorem dX2_readNumber_46 : decode cX2_readNumber 46 = .ok (.iload 5, 2) := by decide +kernel
theorem dX2_readNumber_48 : decode cX2_readNumber 48 = .ok (.iconst 1, 1) := by decide +kernel
theorem dX2_readNumber_49 : decode cX2_readNumber 49 = .ok (.if_icmp .ne 11, 3) := by decide +kernel
theorem dX2_readNumber_52 : decode cX2_readNumber 52 = .ok (.iload 4, 2) := by decide +kernel
theorem dX2_readNumber_54 : decode cX2_readNumber 54 = .ok (.ifCond .ne 6, 3) := by decide +kernel
theorem dX2_readNumber_57 : decode cX2_readNumber 57 = .ok (.goto 34, 3) := by decide +kernel
theorem dX2_readNumber_60 : decode cX2_readNumber 60 = .ok (.iload 4, 2) := by decide +kernel
theorem dX2_readNumber_62 : decode cX2_readNumber 62 = .ok (.bipush 10, 2) := by decide +kernel
theorem dX2_readNumber_64 : decode cX2_readNumber 64 = .ok (.imul, 1) := by decide +kernel
theorem dX2_readNumber_65 : decode cX2_readNumber 65 = .ok (.aload_n 0, 1) := by decide +kernel
theorem dX2_readNumber_66 : decode cX2_readNumber 66 = .ok (.invokevirtual 86, 3) := by decide +kernel
theorem dX2_readNumber_69 : decode cX2_readNumber 69 = .ok (.bipush 48, 2) := by decide +kernel
theorem dX2_readNumber_71 : decode cX2_readNumber 71 = .ok (.isub, 1) := by decide +kernel
theorem dX2_readNumber_72 : decode cX2_readNumber 72 = .ok (.iadd, 1) := by decide +kernel
theorem dX2_readNumber_73 : decode cX2_readNumber 73 = .ok (.istore 4, 2) := by decide +kernel
theorem dX2_readNumber_75 : decode cX2_readNumber 75 = .ok (.aload_n 0, 1) := by decide +kernel
theorem dX2_readNumber_76 : decode cX2_readNumber 76 = .ok (.dup, 1) := by decide +kernel
theorem dX2_readNumber_77 : decode cX2_readNumber 77 = .ok (.getfield 32, 3) := by decide +kernel
theorem dX2_readNumber_80 : decode cX2_readNumber 80 = .ok (.iconst 1, 1) := by decide +kernel
theorem dX2_readNumber_81 : decode cX2_readNumber 81 = .ok (.iadd, 1) := by decide +kernel
theorem dX2_readNumber_82 : decode cX2_readNumber 82 = .ok (.putfield 32, 3) := by decide +kernel
theorem dX2_readNumber_85 : decode cX2_readNumber 85 = .ok (.iinc 5 1, 3) := by decide +kernel
theorem dX2_readNumber_88 : decode cX2_readNumber 88 = .ok (.goto (-58), 3) := by decide +kernel
theorem dX2_readNumber_91 : decode cX2_readNumber 91 = .ok (.aload_n 0, 1) := by decide +kernel
theorem dX2_readNumber_92 : decode cX2_readNumber 92 = .ok (.invokevirtual 86, 3) := by decide +kernel
theorem dX2_readNumber_95 : decode cX2_readNumber 95 = .ok (.invokestatic 82, 3) := by decide +kernel
theorem dX2_readNumber_98 : decode cX2_readNumber 98 = .ok (.ifCond .eq 12, 3) := by decide +kernel
theorem dX2_readNumber_101 : decode cX2_readNumber 101 = .ok (.aload_n 0, 1) := by decide +kernel
theorem dX2_readNumber_102 : decode cX2_readNumber 102 = .ok (.iload_n 1, 1) := by decide +kernel
theorem dX2_readNumber_103 : decode cX2_readNumber 103 = .ok (.invokevirtual 47, 3) := by decide +kernel
theorem dX2_readNumber_106 : decode cX2_readNumber 106 = .ok (.pop, 1) := by decide +kernel
theorem dX2_readNumber_107 : decode cX2_readNumber 107 = .ok (.bipush (-9), 2) := by decide +kernel
theorem dX2_readNumber_109 : decode cX2_readNumber 109 = .ok (.ireturn, 1) := by decide +kernel
theorem dX2_readNumber_110 : decode cX2_readNumber 110 = .ok (.iload 4, 2) := by decide +kernel
theorem dX2_readNumber_112 : decode cX2_readNumber 112 = .ok (.iload_n 2, 1) := by decide +kernel
theorem dX2_readNumber_113 : decode cX2_readNumber 113 = .ok (.if_icmp .le 17, 3) := by decide +kernel
theorem dX2_readNumber_116 : decode cX2_readNumber 116 = .ok (.aload_n 0, 1) := by decide +kernel
theorem dX2_readNumber_117 : decode cX2_readNumber 117 = .ok (.getfield 35, 3) := by decide +kernel
theorem dX2_readNumber_120 : decode cX2_readNumber 120 = .ok (.ifCond .ne 10, 3) := by decide +kernel
theorem dX2_readNumber_123 : decode cX2_readNumber 123 = .ok (.aload_n 0, 1) := by decide +kernel
theorem dX2_readNumber_124 : decode cX2_readNumber 124 = .ok (.iconst 2, 1) := by decide +kernel
theorem dX2_readNumber_125 : decode cX2_readNumber 125 = .ok (.iload_n 3, 1) := by decide +kernel
theorem dX2_readNumber_126 : decode cX2_readNumber 126 = .ok (.iload_n 1, 1) := by decide +kernel
theorem dX2_readNumber_127 : decode cX2_readNumber 127 = .ok (.invokevirtual 89, 3) := by decide +kernel
theorem dX2_readNumber_130 : decode cX2_readNumber 130 = .ok (.iload 4, 2) := by decide +kernel
theorem dX2_readNumber_132 : decode cX2_readNumber 132 = .ok (.ireturn, 1) := by decide +kernel
theorem dX2_nextSign_0 : decode cX2_nextSign 0 = .ok (.aload_n 0, 1) := by decide +kernel
theorem dX2_nextSign_1 : decode cX2_nextSign 1 = .ok (.getfield 32, 3) := by decide +kernel
theorem dX2_nextSign_4 : decode cX2_nextSign 4 = .ok (.aload_n 0, 1) := by decide +kernel
theorem dX2_nextSign_5 : decode cX2_nextSign 5 = .ok (.getfield 25, 3) := by decide +kernel
theorem dX2_nextSign_8 : decode cX2_nextSign 8 = .ok (.if_icmp .ge 25, 3) := by decide +kernel
theorem dX2_nextSign_11 : decode cX2_nextSign 11 = .ok (.aload_n 0, 1) := by decide +kernel
theorem dX2_nextSign_12 : decode cX2_nextSign 12 = .ok (.invokevirtual 86, 3) := by decide +kernel
theorem dX2_nextSign_15 : decode cX2_nextSign 15 = .ok (.bipush 32, 2) := by decide +kernel
theorem dX2_nextSign_17 : decode cX2_nextSign 17 = .ok (.if_icmp .ne 16, 3) := by decide +kernel
theorem dX2_nextSign_20 : decode cX2_nextSign 20 = .ok (.aload_n 0, 1) := by decide +kernel
theorem dX2_nextSign_21 : decode cX2_nextSign 21 = .ok (.dup, 1) := by decide +kernel
theorem dX2_nextSign_22 : decode cX2_nextSign 22 = .ok (.getfield 32, 3) := by decide +kernel
theorem dX2_nextSign_25 : decode cX2_nextSign 25 = .ok (.iconst 1, 1) := by decide +kernel
theorem dX2_nextSign_26 : decode cX2_nextSign 26 = .ok (.iadd, 1) := by decide +kernel
theorem dX2_nextSign_27 : decode cX2_nextSign 27 = .ok (.putfield 32, 3) := by decide +kernel
theorem dX2_nextSign_30 : decode cX2_nextSign 30 = .ok (.goto (-30), 3) := by decide +kernel
theorem dX2_nextSign_33 : decode cX2_nextSign 33 = .ok (.aload_n 0, 1) := by decide +kernel
theorem dX2_nextSign_34 : decode cX2_nextSign 34 = .ok (.invokevirtual 86, 3) := by decide +kernel
theorem dX2_nextSign_37 : decode cX2_nextSign 37 = .ok (.ireturn, 1) := by decide +kernel
theorem dX2_signHere_0 : decode cX2_signHere 0 = .ok (.aload_n 0, 1) := by decide +kernel
theorem dX2_signHere_1 : decode cX2_signHere 1 = .ok (.getfield 32, 3) := by decide +kernel
theorem dX2_signHere_4 : decode cX2_signHere 4 = .ok (.aload_n 0, 1) := by decide +kernel
theorem dX2_signHere_5 : decode cX2_signHere 5 = .ok (.getfield 25, 3) := by decide +kernel
theorem dX2_signHere_8 : decode cX2_signHere 8 = .ok (.if_icmp .ge 27, 3) := by decide +kernel
theorem dX2_signHere_11 : decode cX2_signHere 11 = .ok (.aload_n 0, 1) := by decide +kernel
theorem dX2_signHere_12 : decode cX2_signHere 12 = .ok (.getfield 32, 3) := by decide +kernel
theorem dX2_signHere_15 : decode cX2_signHere 15 = .ok (.aload_n 0, 1) := by decide +kernel
theorem dX2_signHere_16 : decode cX2_signHere 16 = .ok (.getfield 9, 3) := by decide +kernel
theorem dX2_signHere_19 : decode cX2_signHere 19 = .ok (.arraylength, 1) := by decide +kernel
theorem dX2_signHere_20 : decode cX2_signHere 20 = .ok (.if_icmp .ge 15, 3) := by decide +kernel
theorem dX2_signHere_23 : decode cX2_signHere 23 = .ok (.aload_n 0, 1) := by decide +kernel
theorem dX2_signHere_24 : decode cX2_signHere 24 = .ok (.getfield 9, 3) := by decide +kernel
theorem dX2_signHere_27 : decode cX2_signHere 27 = .ok (.aload_n 0, 1) := by decide +kernel
theorem dX2_signHere_28 : decode cX2_signHere 28 = .ok (.getfield 32, 3) := by decide +kernel
theorem dX2_signHere_31 : decode cX2_signHere 31 = .ok (.caload, 1) := by decide +kernel
theorem dX2_signHere_32 : decode cX2_signHere 32 = .ok (.goto 4, 3) := by decide +kernel
theorem dX2_signHere_35 : decode cX2_signHere 35 = .ok (.iconst 0, 1) := by decide +kernel
theorem dX2_signHere_36 : decode cX2_signHere 36 = .ok (.ireturn, 1) := by decide +kernel
theorem dX2_isDigit_0 : decode cX2_isDigit 0 = .ok (.iload_n 0, 1) := by decide +kernel
theorem dX2_isDigit_1 : decode cX2_isDigit 1 = .ok (.bipush 48, 2) := by decide +kernel
theorem dX2_isDigit_3 : decode cX2_isDigit 3 = .ok (.if_icmp .lt 13, 3) := by decide +kernel
theorem dX2_isDigit_6 : decode cX2_isDigit 6 = .ok (.iload_n 0, 1) := by decide +kernel
theorem dX2_isDigit_7 : decode cX2_isDigit 7 = .ok (.bipush 57, 2) := by decide +kernel
theorem dX2_isDigit_9 : decode cX2_isDigit 9 = .ok (.if_icmp .gt 7, 3) := by decide +kernel
theorem dX2_isDigit_12 : decode cX2_isDigit 12 = .ok (.iconst 1, 1) := by decide +kernel
theorem dX2_isDigit_13 : decode cX2_isDigit 13 = .ok (.goto 4, 3) := by decide +kernel
theorem dX2_isDigit_16 : decode cX2_isDigit 16 = .ok (.iconst 0, 1) := by decide +kernel
theorem dX2_isDigit_17 : decode cX2_isDigit 17 = .ok (.ireturn, 1) := by decide +kernel
theorem dX2_breakOff_0 : decode cX2_breakOff 0 = .ok (.aload_n 0, 1) := by decide +kernel
theorem dX2_breakOff_1 : decode cX2_breakOff 1 = .ok (.iconst 1, 1) := by decide +kernel
theorem dX2_breakOff_2 : decode cX2_breakOff 2 = .ok (.aload_n 0, 1) := by decide +kernel
theorem dX2_breakOff_3 : decode cX2_breakOff 3 = .ok (.getfield 32, 3) := by decide +kernel
theorem dX2_breakOff_6 : decode cX2_breakOff 6 = .ok (.iload_n 1, 1) := by decide +kernel
theorem dX2_breakOff_7 : decode cX2_breakOff 7 = .ok (.invokevirtual 89, 3) := by decide +kernel
theorem dX2_breakOff_10 : decode cX2_breakOff 10 = .ok (.iconst 0, 1) := by decide +kernel
theorem dX2_breakOff_11 : decode cX2_breakOff 11 = .ok (.ireturn, 1) := by decide +kernel
theorem dX2_fail_0 : decode cX2_fail 0 = .ok (.aload_n 0, 1) := by decide +kernel
theorem dX2_fail_1 : decode cX2_fail 1 = .ok (.iconst 1, 1) := by decide +kernel
theorem dX2_fail_2 : decode cX2_fail 2 = .ok (.putfield 35, 3) := by decide +kernel
theorem dX2_fail_5 : decode cX2_fail 5 = .ok (.aload_n 0, 1) := by decide +kernel
theorem dX2_fail_6 : decode cX2_fail 6 = .ok (.iload_n 1, 1) := by decide +kernel
theorem dX2_fail_7 : decode cX2_fail 7 = .ok (.putfield 93, 3) := by decide +kernel
theorem dX2_fail_10 : decode cX2_fail 10 = .ok (.aload_n 0, 1) := by decide +kernel
theorem dX2_fail_11 : decode cX2_fail 11 = .ok (.iload_n 2, 1) := by decide +kernel
theorem dX2_fail_12 : decode cX2_fail 12 = .ok (.putfield 96, 3) := by decide +kernel
theorem dX2_fail_15 : decode cX2_fail 15 = .ok (.aload_n 0, 1) := by decide +kernel
theorem dX2_fail_16 : decode cX2_fail 16 = .ok (.iload_n 3, 1) := by decide +kernel
theorem dX2_fail_17 : decode cX2_fail 17 = .ok (.putfield 99, 3) := by decide +kernel
theorem dX2_fail_20 : decode cX2_fail 20 = .ok (.return_, 1) := by decide +kernel
theorem dX3_init_0 : decode cX3_init 0 = .ok (.aload_n 0, 1) := by decide +kernel
theorem dX3_init_1 : decode cX3_init 1 = .ok (.invokespecial 3, 3) := by decide +kernel
theorem dX3_init_4 : decode cX3_init 4 = .ok (.aload_n 0, 1) := by decide +kernel
theorem dX3_init_5 : decode cX3_init 5 = .ok (.iconst 5, 1) := by decide +kernel
theorem dX3_init_6 : decode cX3_init 6 = .ok (.anewarray 9, 3) := by decide +kernel
theorem dX3_init_9 : decode cX3_init 9 = .ok (.putfield 11, 3) := by decide +kernel
theorem dX3_init_12 : decode cX3_init 12 = .ok (.iconst 0, 1) := by decide +kernel
theorem dX3_init_13 : decode cX3_init 13 = .ok (.istore_n 1, 1) := by decide +kernel
theorem dX3_init_14 : decode cX3_init 14 = .ok (.iload_n 1, 1) := by decide +kernel
theorem dX3_init_15 : decode cX3_init 15 = .ok (.aload_n 0, 1) := by decide +kernel
theorem dX3_init_16 : decode cX3_init 16 = .ok (.getfield 11, 3) := by decide +kernel
theorem dX3_init_19 : decode cX3_init 19 = .ok (.arraylength, 1) := by decide +kernel
theorem dX3_init_20 : decode cX3_init 20 = .ok (.if_icmp .ge 22, 3) := by decide +kernel
theorem dX3_init_23 : decode cX3_init 23 = .ok (.aload_n 0, 1) := by decide +kernel
theorem dX3_init_24 : decode cX3_init 24 = .ok (.getfield 11, 3) := by decide +kernel
theorem dX3_init_27 : decode cX3_init 27 = .ok (.iload_n 1, 1) := by decide +kernel
theorem dX3_init_28 : decode cX3_init 28 = .ok (.new 9, 3) := by decide +kernel
theorem dX3_init_31 : decode cX3_init 31 = .ok (.dup, 1) := by decide +kernel
theorem dX3_init_32 : decode cX3_init 32 = .ok (.invokespecial 17, 3) := by decide +kernel
theorem dX3_init_35 : decode cX3_init 35 = .ok (.aastore, 1) := by decide +kernel
theorem dX3_init_36 : decode cX3_init 36 = .ok (.iinc 1 1, 3) := by decide +kernel
theorem dX3_init_39 : decode cX3_init 39 = .ok (.goto (-25), 3) := by decide +kernel
theorem dX3_init_42 : decode cX3_init 42 = .ok (.return_, 1) := by decide +kernel
theorem dX3_add_0 : decode cX3_add 0 = .ok (.aload_n 0, 1) := by decide +kernel
theorem dX3_add_1 : decode cX3_add 1 = .ok (.getfield 18, 3) := by decide +kernel
theorem dX3_add_4 : decode cX3_add 4 = .ok (.iconst 5, 1) := by decide +kernel
theorem dX3_add_5 : decode cX3_add 5 = .ok (.if_icmp .ne 7, 3) := by decide +kernel
theorem dX3_add_8 : decode cX3_add 8 = .ok (.aload_n 0, 1) := by decide +kernel
theorem dX3_add_9 : decode cX3_add 9 = .ok (.invokevirtual 22, 3) := by decide +kernel
theorem dX3_add_12 : decode cX3_add 12 = .ok (.aload_n 0, 1) := by decide +kernel
theorem dX3_add_13 : decode cX3_add 13 = .ok (.getfield 11, 3) := by decide +kernel
theorem dX3_add_16 : decode cX3_add 16 = .ok (.aload_n 0, 1) := by decide +kernel
theorem dX3_add_17 : decode cX3_add 17 = .ok (.getfield 18, 3) := by decide +kernel
theorem dX3_add_20 : decode cX3_add 20 = .ok (.aaload, 1) := by decide +kernel
theorem dX3_add_21 : decode cX3_add 21 = .ok (.astore 4, 2) := by decide +kernel
theorem dX3_add_23 : decode cX3_add 23 = .ok (.aload 4, 2) := by decide +kernel
theorem dX3_add_25 : decode cX3_add 25 = .ok (.iload_n 1, 1) := by decide +kernel
theorem dX3_add_26 : decode cX3_add 26 = .ok (.putfield 25, 3) := by decide +kernel
theorem dX3_add_29 : decode cX3_add 29 = .ok (.aload 4, 2) := by decide +kernel
theorem dX3_add_31 : decode cX3_add 31 = .ok (.iload_n 2, 1) := by decide +kernel
theorem dX3_add_32 : decode cX3_add 32 = .ok (.putfield 28, 3) := by decide +kernel
theorem dX3_add_35 : decode cX3_add 35 = .ok (.aload 4, 2) := by decide +kernel
theorem dX3_add_37 : decode cX3_add 37 = .ok (.getfield 31, 3) := by decide +kernel
theorem dX3_add_40 : decode cX3_add 40 = .ok (.aload_n 3, 1) := by decide +kernel
theorem dX3_add_41 : decode cX3_add 41 = .ok (.invokevirtual 35, 3) := by decide +kernel
theorem dX3_add_44 : decode cX3_add 44 = .ok (.aload_n 0, 1) := by decide +kernel
theorem dX3_add_45 : decode cX3_add 45 = .ok (.dup, 1) := by decide +kernel
theorem dX3_add_46 : decode cX3_add 46 = .ok (.getfield 18, 3) := by decide +kernel
theorem dX3_add_49 : decode cX3_add 49 = .ok (.iconst 1, 1) := by decide +kernel
theorem dX3_add_50 : decode cX3_add 50 = .ok (.iadd, 1) := by decide +kernel
theorem dX3_add_51 : decode cX3_add 51 = .ok (.putfield 18, 3) := by decide +kernel
theorem dX3_add_54 : decode cX3_add 54 = .ok (.return_, 1) := by decide +kernel
theorem dX3_dropOldest_0 : decode cX3_dropOldest 0 = .ok (.aload_n 0, 1) := by decide +kernel
theorem dX3_dropOldest_1 : decode cX3_dropOldest 1 = .ok (.getfield 11, 3) := by decide +kernel
theorem dX3_dropOldest_4 : decode cX3_dropOldest 4 = .ok (.iconst 0, 1) := by decide +kernel
theorem dX3_dropOldest_5 : decode cX3_dropOldest 5 = .ok (.aaload, 1) := by decide +kernel
theorem dX3_dropOldest_6 : decode cX3_dropOldest 6 = .ok (.astore_n 1, 1) := by decide +kernel
theorem dX3_dropOldest_7 : decode cX3_dropOldest 7 = .ok (.iconst 1, 1) := by decide +kernel
theorem dX3_dropOldest_8 : decode cX3_dropOldest 8 = .ok (.istore_n 2, 1) := by decide +kernel
theorem dX3_dropOldest_9 : decode cX3_dropOldest 9 = .ok (.iload_n 2, 1) := by decide +kernel
theorem dX3_dropOldest_10 : decode cX3_dropOldest 10 = .ok (.aload_n 0, 1) := by decide +kernel
theorem dX3_dropOldest_11 : decode cX3_dropOldest 11 = .ok (.getfield 11, 3) := by decide +kernel
theorem dX3_dropOldest_14 : decode cX3_dropOldest 14 = .ok (.arraylength, 1) := by decide +kernel
theorem dX3_dropOldest_15 : decode cX3_dropOldest 15 = .ok (.if_icmp .ge 23, 3) := by decide +kernel
theorem dX3_dropOldest_18 : decode cX3_dropOldest 18 = .ok (.aload_n 0, 1) := by decide +kernel
theorem dX3_dropOldest_19 : decode cX3_dropOldest 19 = .ok (.getfield 11, 3) := by decide +kernel
theorem dX3_dropOldest_22 : decode cX3_dropOldest 22 = .ok (.iload_n 2, 1) := by decide +kernel
theorem dX3_dropOldest_23 : decode cX3_dropOldest 23 = .ok (.iconst 1, 1) := by decide +kernel
theorem dX3_dropOldest_24 : decode cX3_dropOldest 24 = .ok (.isub, 1) := by decide +kernel
theorem dX3_dropOldest_25 : decode cX3_dropOldest 25 = .ok (.aload_n 0, 1) := by decide +kernel
theorem dX3_dropOldest_26 : decode cX3_dropOldest 26 = .ok (.getfield 11, 3) := by decide +kernel
theorem dX3_dropOldest_29 : decode cX3_dropOldest 29 = .ok (.iload_n 2, 1) := by decide +kernel
theorem dX3_dropOldest_30 : decode cX3_dropOldest 30 = .ok (.aaload, 1) := by decide +kernel
theorem dX3_dropOldest_31 : decode cX3_dropOldest 31 = .ok (.aastore, 1) := by decide +kernel
theorem dX3_dropOldest_32 : decode cX3_dropOldest 32 = .ok (.iinc 2 1, 3) := by decide +kernel
theorem dX3_dropOldest_35 : decode cX3_dropOldest 35 = .ok (.goto (-26), 3) := by decide +kernel
theorem dX3_dropOldest_38 : decode cX3_dropOldest 38 = .ok (.aload_n 0, 1) := by decide +kernel
theorem dX3_dropOldest_39 : decode cX3_dropOldest 39 = .ok (.getfield 11, 3) := by decide +kernel
theorem dX3_dropOldest_42 : decode cX3_dropOldest 42 = .ok (.iconst 4, 1) := by decide +kernel
theorem dX3_dropOldest_43 : decode cX3_dropOldest 43 = .ok (.aload_n 1, 1) := by decide +kernel
theorem dX3_dropOldest_44 : decode cX3_dropOldest 44 = .ok (.aastore, 1) := by decide +kernel
theorem dX3_dropOldest_45 : decode cX3_dropOldest 45 = .ok (.aload_n 0, 1) := by decide +kernel
theorem dX3_dropOldest_46 : decode cX3_dropOldest 46 = .ok (.dup, 1) := by decide +kernel
theorem dX3_dropOldest_47 : decode cX3_dropOldest 47 = .ok (.getfield 18, 3) := by decide +kernel
theorem dX3_dropOldest_50 : decode cX3_dropOldest 50 = .ok (.iconst 1, 1) := by decide +kernel
theorem dX3_dropOldest_51 : decode cX3_dropOldest 51 = .ok (.isub, 1) := by decide +kernel
theorem dX3_dropOldest_52 : decode cX3_dropOldest 52 = .ok (.putfield 18, 3) := by decide +kernel
theorem dX3_dropOldest_55 : decode cX3_dropOldest 55 = .ok (.return_, 1) := by decide +kernel
theorem dX3_removeLatest_0 : decode cX3_removeLatest 0 = .ok (.aload_n 0, 1) := by decide +kernel
theorem dX3_removeLatest_1 : decode cX3_removeLatest 1 = .ok (.iconst 0, 1) := by decide +kernel
theorem dX3_removeLatest_2 : decode cX3_removeLatest 2 = .ok (.aload_n 0, 1) := by decide +kernel
theorem dX3_removeLatest_3 : decode cX3_removeLatest 3 = .ok (.getfield 18, 3) := by decide +kernel
theorem dX3_removeLatest_6 : decode cX3_removeLatest 6 = .ok (.iconst 1, 1) := by decide +kernel
theorem dX3_removeLatest_7 : decode cX3_removeLatest 7 = .ok (.isub, 1) := by decide +kernel
theorem dX3_removeLatest_8 : decode cX3_removeLatest 8 = .ok (.invokestatic 41, 3) := by decide +kernel
theorem dX3_removeLatest_11 : decode cX3_removeLatest 11 = .ok (.putfield 18, 3) := by decide +kernel
theorem dX3_removeLatest_14 : decode cX3_removeLatest 14 = .ok (.aload_n 0, 1) := by decide +kernel
theorem dX3_removeLatest_15 : decode cX3_removeLatest 15 = .ok (.getfield 11, 3) := by decide +kernel
theorem dX3_removeLatest_18 : decode cX3_removeLatest 18 = .ok (.aload_n 0, 1) := by decide +kernel
theorem dX3_removeLatest_19 : decode cX3_removeLatest 19 = .ok (.getfield 18, 3) := by decide +kernel
theorem dX3_removeLatest_22 : decode cX3_removeLatest 22 = .ok (.aaload, 1) := by decide +kernel
theorem dX3_removeLatest_23 : decode cX3_removeLatest 23 = .ok (.areturn, 1) := by decide +kernel
theorem dX4_isLiteral_0 : decode cX4_isLiteral 0 = .ok (.iload_n 0, 1) := by decide +kernel
theorem dX4_isLiteral_1 : decode cX4_isLiteral 1 = .ok (.ifCond .eq 14, 3) := by decide +kernel
theorem dX4_isLiteral_4 : decode cX4_isLiteral 4 = .ok (.iload_n 0, 1) := by decide +kernel
theorem dX4_isLiteral_5 : decode cX4_isLiteral 5 = .ok (.sipush 32767, 3) := by decide +kernel
theorem dX4_isLiteral_8 : decode cX4_isLiteral 8 = .ok (.if_icmp .eq 7, 3) := by decide +kernel
theorem dX4_isLiteral_11 : decode cX4_isLiteral 11 = .ok (.iconst 1, 1) := by decide +kernel
theorem dX4_isLiteral_12 : decode cX4_isLiteral 12 = .ok (.goto 4, 3) := by decide +kernel
theorem dX4_isLiteral_15 : decode cX4_isLiteral 15 = .ok (.iconst 0, 1) := by decide +kernel
theorem dX4_isLiteral_16 : decode cX4_isLiteral 16 = .ok (.ireturn, 1) := by decide +kernel
theorem dX4_endOf_0 : decode cX4_endOf 0 = .ok (.aload_n 0, 1) := by decide +kernel
theorem dX4_endOf_1 : decode cX4_endOf 1 = .ok (.invokevirtual 9, 3) := by decide +kernel
theorem dX4_endOf_4 : decode cX4_endOf 4 = .ok (.istore_n 2, 1) := by decide +kernel
theorem dX4_endOf_5 : decode cX4_endOf 5 = .ok (.iload_n 1, 1) := by decide +kernel
theorem dX4_endOf_6 : decode cX4_endOf 6 = .ok (.iload_n 2, 1) := by decide +kernel
theorem dX4_endOf_7 : decode cX4_endOf 7 = .ok (.if_icmp .lt 6, 3) := by decide +kernel
theorem dX4_endOf_10 : decode cX4_endOf 10 = .ok (.bipush 40, 2) := by decide +kernel
theorem dX4_endOf_12 : decode cX4_endOf 12 = .ok (.ireturn, 1) := by decide +kernel
theorem dX4_endOf_13 : decode cX4_endOf 13 = .ok (.aload_n 0, 1) := by decide +kernel
theorem dX4_endOf_14 : decode cX4_endOf 14 = .ok (.iload_n 1, 1) := by decide +kernel
theorem dX4_endOf_15 : decode cX4_endOf 15 = .ok (.invokevirtual 15, 3) := by decide +kernel
theorem dX4_endOf_18 : decode cX4_endOf 18 = .ok (.istore_n 3, 1) := by decide +kernel
theorem dX4_endOf_19 : decode cX4_endOf 19 = .ok (.iload_n 3, 1) := by decide +kernel
theorem dX4_endOf_20 : decode cX4_endOf 20 = .ok (.invokestatic 19, 3) := by decide +kernel
theorem dX4_endOf_23 : decode cX4_endOf 23 = .ok (.ifCond .eq 7, 3) := by decide +kernel
theorem dX4_endOf_26 : decode cX4_endOf 26 = .ok (.iload_n 1, 1) := by decide +kernel
theorem dX4_endOf_27 : decode cX4_endOf 27 = .ok (.iconst 1, 1) := by decide +kernel
theorem dX4_endOf_28 : decode cX4_endOf 28 = .ok (.iadd, 1) := by decide +kernel
theorem dX4_endOf_29 : decode cX4_endOf 29 = .ok (.ireturn, 1) := by decide +kernel
theorem dX4_endOf_30 : decode cX4_endOf 30 = .ok (.iload_n 2, 1) := by decide +kernel
theorem dX4_endOf_31 : decode cX4_endOf 31 = .ok (.iload_n 1, 1) := by decide +kernel
theorem dX4_endOf_32 : decode cX4_endOf 32 = .ok (.bipush 20, 2) := by decide +kernel
theorem dX4_endOf_34 : decode cX4_endOf 34 = .ok (.iadd, 1) := by decide +kernel
theorem dX4_endOf_35 : decode cX4_endOf 35 = .ok (.invokestatic 25, 3) := by decide +kernel
theorem dX4_endOf_38 : decode cX4_endOf 38 = .ok (.istore 4, 2) := by decide +kernel
theorem dX4_endOf_40 : decode cX4_endOf 40 = .ok (.iload_n 1, 1) := by decide +kernel
theorem dX4_endOf_41 : decode cX4_endOf 41 = .ok (.iconst 1, 1) := by decide +kernel
theorem dX4_endOf_42 : decode cX4_endOf 42 = .ok (.iadd, 1) := by decide +kernel
theorem dX4_endOf_43 : decode cX4_endOf 43 = .ok (.istore 5, 2) := by decide +kernel
theorem dX4_endOf_45 : decode cX4_endOf 45 = .ok (.iload 5, 2) := by decide +kernel
theorem dX4_endOf_47 : decode cX4_endOf 47 = .ok (.iload 4, 2) := by decide +kernel
theorem dX4_endOf_49 : decode cX4_endOf 49 = .ok (.if_icmp .ge 22, 3) := by decide +kernel
theorem dX4_endOf_52 : decode cX4_endOf 52 = .ok (.aload_n 0, 1) := by decide +kernel
theorem dX4_endOf_53 : decode cX4_endOf 53 = .ok (.iload 5, 2) := by decide +kernel
theorem dX4_endOf_55 : decode cX4_endOf 55 = .ok (.invokevirtual 15, 3) := by decide +kernel
theorem dX4_endOf_58 : decode cX4_endOf 58 = .ok (.iload_n 3, 1) := by decide +kernel
theorem dX4_endOf_59 : decode cX4_endOf 59 = .ok (.if_icmp .eq 6, 3) := by decide +kernel
theorem dX4_endOf_62 : decode cX4_endOf 62 = .ok (.iload 5, 2) := by decide +kernel
theorem dX4_endOf_64 : decode cX4_endOf 64 = .ok (.ireturn, 1) := by decide +kernel
theorem dX4_endOf_65 : decode cX4_endOf 65 = .ok (.iinc 5 1, 3) := by decide +kernel
theorem dX4_endOf_68 : decode cX4_endOf 68 = .ok (.goto (-23), 3) := by decide +kernel
theorem dX4_endOf_71 : decode cX4_endOf 71 = .ok (.iload 4, 2) := by decide +kernel
theorem dX4_endOf_73 : decode cX4_endOf 73 = .ok (.ireturn, 1) := by decide +kernel
theorem dX4_size_0 : decode cX4_size 0 = .ok (.aload_n 0, 1) := by decide +kernel
theorem dX4_size_1 : decode cX4_size 1 = .ok (.invokestatic 31, 3) := by decide +kernel
theorem dX4_size_4 : decode cX4_size 4 = .ok (.aload_n 0, 1) := by decide +kernel
theorem dX4_size_5 : decode cX4_size 5 = .ok (.iconst 0, 1) := by decide +kernel
theorem dX4_size_6 : decode cX4_size 6 = .ok (.invokestatic 35, 3) := by decide +kernel
theorem dX4_size_9 : decode cX4_size 9 = .ok (.iadd, 1) := by decide +kernel
theorem dX4_size_10 : decode cX4_size 10 = .ok (.aload_n 0, 1) := by decide +kernel
theorem dX4_size_11 : decode cX4_size 11 = .ok (.sipush 32767, 3) := by decide +kernel
theorem dX4_size_14 : decode cX4_size 14 = .ok (.invokestatic 35, 3) := by decide +kernel
theorem dX4_size_17 : decode cX4_size 17 = .ok (.iadd, 1) := by decide +kernel
theorem dX4_size_18 : decode cX4_size 18 = .ok (.ireturn, 1) := by decide +kernel
theorem dX4_literals_0 : decode cX4_literals 0 = .ok (.iconst 0, 1) := by decide +kernel
theorem dX4_literals_1 : decode cX4_literals 1 = .ok (.istore_n 1, 1) := by decide +kernel
theorem dX4_literals_2 : decode cX4_literals 2 = .ok (.aload_n 0, 1) := by decide +kernel
theorem dX4_literals_3 : decode cX4_literals 3 = .ok (.invokevirtual 9, 3) := by decide +kernel
theorem dX4_literals_6 : decode cX4_literals 6 = .ok (.istore_n 2, 1) := by decide +kernel
theorem dX4_literals_7 : decode cX4_literals 7 = .ok (.iconst 0, 1) := by decide +kernel
theorem dX4_literals_8 : decode cX4_literals 8 = .ok (.istore_n 3, 1) := by decide +kernel
theorem dX4_literals_9 : decode cX4_literals 9 = .ok (.iload_n 3, 1) := by decide +kernel
theorem dX4_literals_10 : decode cX4_literals 10 = .ok (.iload_n 2, 1) := by decide +kernel
theorem dX4_literals_11 : decode cX4_literals 11 = .ok (.if_icmp .ge 23, 3) := by decide +kernel
theorem dX4_literals_14 : decode cX4_literals 14 = .ok (.aload_n 0, 1) := by decide +kernel
theorem dX4_literals_15 : decode cX4_literals 15 = .ok (.iload_n 3, 1) := by decide +kernel
theorem dX4_literals_16 : decode cX4_literals 16 = .ok (.invokevirtual 15, 3) := by decide +kernel
theorem dX4_literals_19 : decode cX4_literals 19 = .ok (.invokestatic 19, 3) := by decide +kernel
theorem dX4_literals_22 : decode cX4_literals 22 = .ok (.ifCond .eq 6, 3) := by decide +kernel
theorem dX4_literals_25 : decode cX4_literals 25 = .ok (.iinc 1 1, 3) := by decide +kernel
theorem dX4_literals_28 : decode cX4_literals 28 = .ok (.iinc 3 1, 3) := by decide +kernel
theorem dX4_literals_31 : decode cX4_literals 31 = .ok (.goto (-22), 3) := by decide +kernel
theorem dX4_literals_34 : decode cX4_literals 34 = .ok (.iload_n 1, 1) := by decide +kernel
theorem dX4_literals_35 : decode cX4_literals 35 = .ok (.ireturn, 1) := by decide +kernel
theorem dX4_fillsOf_0 : decode cX4_fillsOf 0 = .ok (.iconst 0, 1) := by decide +kernel
theorem dX4_fillsOf_1 : decode cX4_fillsOf 1 = .ok (.istore_n 2, 1) := by decide +kernel
theorem dX4_fillsOf_2 : decode cX4_fillsOf 2 = .ok (.iconst 0, 1) := by decide +kernel
theorem dX4_fillsOf_3 : decode cX4_fillsOf 3 = .ok (.istore_n 3, 1) := by decide +kernel
theorem dX4_fillsOf_4 : decode cX4_fillsOf 4 = .ok (.aload_n 0, 1) := by decide +kernel
theorem dX4_fillsOf_5 : decode cX4_fillsOf 5 = .ok (.invokevirtual 9, 3) := by decide +kernel
theorem dX4_fillsOf_8 : decode cX4_fillsOf 8 = .ok (.istore 4, 2) := by decide +kernel
theorem dX4_fillsOf_10 : decode cX4_fillsOf 10 = .ok (.iconst 0, 1) := by decide +kernel
theorem dX4_fillsOf_11 : decode cX4_fillsOf 11 = .ok (.istore 5, 2) := by decide +kernel
theorem dX4_fillsOf_13 : decode cX4_fillsOf 13 = .ok (.iload 5, 2) := by decide +kernel
theorem dX4_fillsOf_15 : decode cX4_fillsOf 15 = .ok (.iload 4, 2) := by decide +kernel
theorem dX4_fillsOf_17 : decode cX4_fillsOf 17 = .ok (.if_icmp .ge 40, 3) := by decide +kernel
theorem dX4_fillsOf_20 : decode cX4_fillsOf 20 = .ok (.iload 5, 2) := by decide +kernel
theorem dX4_fillsOf_22 : decode cX4_fillsOf 22 = .ok (.iload_n 3, 1) := by decide +kernel
theorem dX4_fillsOf_23 : decode cX4_fillsOf 23 = .ok (.if_icmp .ne 28, 3) := by decide +kernel
theorem dX4_fillsOf_26 : decode cX4_fillsOf 26 = .ok (.aload_n 0, 1) := by decide +kernel
theorem dX4_fillsOf_27 : decode cX4_fillsOf 27 = .ok (.iload 5, 2) := by decide +kernel
theorem dX4_fillsOf_29 : decode cX4_fillsOf 29 = .ok (.invokestatic 39, 3) := by decide +kernel
theorem dX4_fillsOf_32 : decode cX4_fillsOf 32 = .ok (.istore_n 3, 1) := by decide +kernel
theorem dX4_fillsOf_33 : decode cX4_fillsOf 33 = .ok (.iload_n 2, 1) := by decide +kernel
theorem dX4_fillsOf_34 : decode cX4_fillsOf 34 = .ok (.aload_n 0, 1) := by decide +kernel
theorem dX4_fillsOf_35 : decode cX4_fillsOf 35 = .ok (.iload 5, 2) := by decide +kernel
theorem dX4_fillsOf_37 : decode cX4_fillsOf 37 = .ok (.invokevirtual 15, 3) := by decide +kernel
theorem dX4_fillsOf_40 : decode cX4_fillsOf 40 = .ok (.iload_n 1, 1) := by decide +kernel
theorem dX4_fillsOf_41 : decode cX4_fillsOf 41 = .ok (.if_icmp .ne 7, 3) := by decide +kernel
theorem dX4_fillsOf_44 : decode cX4_fillsOf 44 = .ok (.iconst 1, 1) := by decide +kernel
theorem dX4_fillsOf_45 : decode cX4_fillsOf 45 = .ok (.goto 4, 3) := by decide +kernel
theorem dX4_fillsOf_48 : decode cX4_fillsOf 48 = .ok (.iconst 0, 1) := by decide +kernel
theorem dX4_fillsOf_49 : decode cX4_fillsOf 49 = .ok (.iadd, 1) := by decide +kernel
theorem dX4_fillsOf_50 : decode cX4_fillsOf 50 = .ok (.istore_n 2, 1) := by decide +kernel
theorem dX4_fillsOf_51 : decode cX4_fillsOf 51 = .ok (.iinc 5 1, 3) := by decide +kernel
theorem dX4_fillsOf_54 : decode cX4_fillsOf 54 = .ok (.goto (-41), 3) := by decide +kernel
theorem dX4_fillsOf_57 : decode cX4_fillsOf 57 = .ok (.iload_n 2, 1) := by decide +kernel
theorem dX4_fillsOf_58 : decode cX4_fillsOf 58 = .ok (.ireturn, 1) := by decide +kernel
theorem dX4_codeOf_0 : decode cX4_codeOf 0 = .ok (.iload_n 1, 1) := by decide +kernel
theorem dX4_codeOf_1 : decode cX4_codeOf 1 = .ok (.istore_n 2, 1) := by decide +kernel
theorem dX4_codeOf_2 : decode cX4_codeOf 2 = .ok (.iconst 0, 1) := by decide +kernel
theorem dX4_codeOf_3 : decode cX4_codeOf 3 = .ok (.istore_n 3, 1) := by decide +kernel
theorem dX4_codeOf_4 : decode cX4_codeOf 4 = .ok (.aload_n 0, 1) := by decide +kernel
theorem dX4_codeOf_5 : decode cX4_codeOf 5 = .ok (.invokevirtual 9, 3) := by decide +kernel
theorem dX4_codeOf_8 : decode cX4_codeOf 8 = .ok (.istore 4, 2) := by decide +kernel
theorem dX4_codeOf_10 : decode cX4_codeOf 10 = .ok (.iconst 0, 1) := by decide +kernel
theorem dX4_codeOf_11 : decode cX4_codeOf 11 = .ok (.istore 5, 2) := by decide +kernel
theorem dX4_codeOf_13 : decode cX4_codeOf 13 = .ok (.iload 5, 2) := by decide +kernel
theorem dX4_codeOf_15 : decode cX4_codeOf 15 = .ok (.iload 4, 2) := by decide +kernel
theorem dX4_codeOf_17 : decode cX4_codeOf 17 = .ok (.if_icmp .ge 43, 3) := by decide +kernel
theorem dX4_codeOf_20 : decode cX4_codeOf 20 = .ok (.iload 5, 2) := by decide +kernel
theorem dX4_codeOf_22 : decode cX4_codeOf 22 = .ok (.iload_n 3, 1) := by decide +kernel
theorem dX4_codeOf_23 : decode cX4_codeOf 23 = .ok (.if_icmp .ne 31, 3) := by decide +kernel
theorem dX4_codeOf_26 : decode cX4_codeOf 26 = .ok (.aload_n 0, 1) := by decide +kernel
theorem dX4_codeOf_27 : decode cX4_codeOf 27 = .ok (.iload 5, 2) := by decide +kernel
theorem dX4_codeOf_29 : decode cX4_codeOf 29 = .ok (.invokestatic 39, 3) := by decide +kernel
theorem dX4_codeOf_32 : decode cX4_codeOf 32 = .ok (.istore_n 3, 1) := by decide +kernel
theorem dX4_codeOf_33 : decode cX4_codeOf 33 = .ok (.iload_n 2, 1) := by decide +kernel
theorem dX4_codeOf_34 : decode cX4_codeOf 34 = .ok (.ifCond .ne 17, 3) := by decide +kernel
theorem dX4_codeOf_37 : decode cX4_codeOf 37 = .ok (.aload_n 0, 1) := by decide +kernel
theorem dX4_codeOf_38 : decode cX4_codeOf 38 = .ok (.iload 5, 2) := by decide +kernel
theorem dX4_codeOf_40 : decode cX4_codeOf 40 = .ok (.invokevirtual 15, 3) := by decide +kernel
theorem dX4_codeOf_43 : decode cX4_codeOf 43 = .ok (.iload_n 3, 1) := by decide +kernel
theorem dX4_codeOf_44 : decode cX4_codeOf 44 = .ok (.iload 5, 2) := by decide +kernel
theorem dX4_codeOf_46 : decode cX4_codeOf 46 = .ok (.isub, 1) := by decide +kernel
theorem dX4_codeOf_47 : decode cX4_codeOf 47 = .ok (.invokestatic 42, 3) := by decide +kernel
theorem dX4_codeOf_50 : decode cX4_codeOf 50 = .ok (.ireturn, 1) := by decide +kernel
theorem dX4_codeOf_51 : decode cX4_codeOf 51 = .ok (.iinc 2 (-1), 3) := by decide +kernel
theorem dX4_codeOf_54 : decode cX4_codeOf 54 = .ok (.iinc 5 1, 3) := by decide +kernel
theorem dX4_codeOf_57 : decode cX4_codeOf 57 = .ok (.goto (-44), 3) := by decide +kernel
theorem dX4_codeOf_60 : decode cX4_codeOf 60 = .ok (.bipush (-9), 2) := by decide +kernel
theorem dX4_codeOf_62 : decode cX4_codeOf 62 = .ok (.ireturn, 1) := by decide +kernel
theorem dX4_code_0 : decode cX4_code 0 = .ok (.iload_n 0, 1) := by decide +kernel
theorem dX4_code_1 : decode cX4_code 1 = .ok (.invokestatic 19, 3) := by decide +kernel
theorem dX4_code_4 : decode cX4_code 4 = .ok (.ifCond .eq 5, 3) := by decide +kernel
theorem dX4_code_7 : decode cX4_code 7 = .ok (.iload_n 0, 1) := by decide +kernel
theorem dX4_code_8 : decode cX4_code 8 = .ok (.ireturn, 1) := by decide +kernel
theorem dX4_code_9 : decode cX4_code 9 = .ok (.iload_n 0, 1) := by decide +kernel
theorem dX4_code_10 : decode cX4_code 10 = .ok (.ifCond .ne 8, 3) := by decide +kernel
theorem dX4_code_13 : decode cX4_code 13 = .ok (.ldc 45, 2) := by decide +kernel
theorem dX4_code_15 : decode cX4_code 15 = .ok (.goto 5, 3) := by decide +kernel
theorem dX4_code_18 : decode cX4_code 18 = .ok (.ldc 46, 2) := by decide +kernel
theorem dX4_code_20 : decode cX4_code 20 = .ok (.iload_n 1, 1) := by decide +kernel
theorem dX4_code_21 : decode cX4_code 21 = .ok (.iadd, 1) := by decide +kernel
theorem dX4_code_22 : decode cX4_code 22 = .ok (.ireturn, 1) := by decide +kernel
theorem dX4_work_0 : decode cX4_work 0 = .ok (.iconst 0, 1) := by decide +kernel
theorem dX4_work_1 : decode cX4_work 1 = .ok (.istore_n 2, 1) := by decide +kernel
theorem dX4_work_2 : decode cX4_work 2 = .ok (.iconst 0, 1) := by decide +kernel
theorem dX4_work_3 : decode cX4_work 3 = .ok (.istore_n 3, 1) := by decide +kernel
theorem dX4_work_4 : decode cX4_work 4 = .ok (.iconst 0, 1) := by decide +kernel
theorem dX4_work_5 : decode cX4_work 5 = .ok (.istore 4, 2) := by decide +kernel
theorem dX4_work_7 : decode cX4_work 7 = .ok (.aload_n 0, 1) := by decide +kernel
theorem dX4_work_8 : decode cX4_work 8 = .ok (.invokevirtual 9, 3) := by decide +kernel
theorem dX4_work_11 : decode cX4_work 11 = .ok (.aload_n 1, 1) := by decide +kernel
theorem dX4_work_12 : decode cX4_work 12 = .ok (.invokevirtual 9, 3) := by decide +kernel
theorem dX4_work_15 : decode cX4_work 15 = .ok (.invokestatic 47, 3) := by decide +kernel
theorem dX4_work_18 : decode cX4_work 18 = .ok (.istore 5, 2) := by decide +kernel
theorem dX4_work_20 : decode cX4_work 20 = .ok (.iconst 0, 1) := by decide +kernel
theorem dX4_work_21 : decode cX4_work 21 = .ok (.istore 6, 2) := by decide +kernel
theorem dX4_work_23 : decode cX4_work 23 = .ok (.iload 6, 2) := by decide +kernel
theorem dX4_work_25 : decode cX4_work 25 = .ok (.iload 5, 2) := by decide +kernel
theorem dX4_work_27 : decode cX4_work 27 = .ok (.if_icmp .ge 53, 3) := by decide +kernel
theorem dX4_work_30 : decode cX4_work 30 = .ok (.iload 6, 2) := by decide +kernel
theorem dX4_work_32 : decode cX4_work 32 = .ok (.iload_n 3, 1) := by decide +kernel
theorem dX4_work_33 : decode cX4_work 33 = .ok (.if_icmp .eq 10, 3) := by decide +kernel
theorem dX4_work_36 : decode cX4_work 36 = .ok (.iload 6, 2) := by decide +kernel
theorem dX4_work_38 : decode cX4_work 38 = .ok (.iload 4, 2) := by decide +kernel
theorem dX4_work_40 : decode cX4_work 40 = .ok (.if_icmp .ne 6, 3) := by decide +kernel
theorem dX4_work_43 : decode cX4_work 43 = .ok (.iinc 2 1, 3) := by decide +kernel
theorem dX4_work_46 : decode cX4_work 46 = .ok (.iload 6, 2) := by decide +kernel
theorem dX4_work_48 : decode cX4_work 48 = .ok (.iload_n 3, 1) := by decide +kernel
theorem dX4_work_49 : decode cX4_work 49 = .ok (.if_icmp .ne 10, 3) := by decide +kernel
theorem dX4_work_52 : decode cX4_work 52 = .ok (.aload_n 0, 1) := by decide +kernel
theorem dX4_work_53 : decode cX4_work 53 = .ok (.iload 6, 2) := by decide +kernel
theorem dX4_work_55 : decode cX4_work 55 = .ok (.invokestatic 39, 3) := by decide +kernel
theorem dX4_work_58 : decode cX4_work 58 = .ok (.istore_n 3, 1) := by decide +kernel
theorem dX4_work_59 : decode cX4_work 59 = .ok (.iload 6, 2) := by decide +kernel
theorem dX4_work_61 : decode cX4_work 61 = .ok (.iload 4, 2) := by decide +kernel
theorem dX4_work_63 : decode cX4_work 63 = .ok (.if_icmp .ne 11, 3) := by decide +kernel
theorem dX4_work_66 : decode cX4_work 66 = .ok (.aload_n 1, 1) := by decide +kernel
theorem dX4_work_67 : decode cX4_work 67 = .ok (.iload 6, 2) := by decide +kernel
theorem dX4_work_69 : decode cX4_work 69 = .ok (.invokestatic 39, 3) := by decide +kernel
theorem dX4_work_72 : decode cX4_work 72 = .ok (.istore 4, 2) := by decide +kernel
theorem dX4_work_74 : decode cX4_work 74 = .ok (.iinc 6 1, 3) := by decide +kernel
theorem dX4_work_77 : decode cX4_work 77 = .ok (.goto (-54), 3) := by decide +kernel
theorem dX4_work_80 : decode cX4_work 80 = .ok (.iload_n 2, 1) := by decide +kernel
theorem dX4_work_81 : decode cX4_work 81 = .ok (.ireturn, 1) := by decide +kernel
theorem dX5_init_0 : decode cX5_init 0 = .ok (.aload_n 0, 1) := by decide +kernel
theorem dX5_init_1 : decode cX5_init 1 = .ok (.invokespecial 1, 3) := by decide +kernel
theorem dX5_init_4 : decode cX5_init 4 = .ok (.aload_n 0, 1) := by decide +kernel
theorem dX5_init_5 : decode cX5_init 5 = .ok (.bipush 8, 2) := by decide +kernel
theorem dX5_init_7 : decode cX5_init 7 = .ok (.anewarray 9, 3) := by decide +kernel
theorem dX5_init_10 : decode cX5_init 10 = .ok (.putfield 11, 3) := by decide +kernel
theorem dX5_init_13 : decode cX5_init 13 = .ok (.aload_n 0, 1) := by decide +kernel
theorem dX5_init_14 : decode cX5_init 14 = .ok (.new 15, 3) := by decide +kernel
theorem dX5_init_17 : decode cX5_init 17 = .ok (.dup, 1) := by decide +kernel
theorem dX5_init_18 : decode cX5_init 18 = .ok (.invokespecial 17, 3) := by decide +kernel
theorem dX5_init_21 : decode cX5_init 21 = .ok (.putfield 18, 3) := by decide +kernel
theorem dX5_init_24 : decode cX5_init 24 = .ok (.aload_n 0, 1) := by decide +kernel
theorem dX5_init_25 : decode cX5_init 25 = .ok (.new 22, 3) := by decide +kernel
theorem dX5_init_28 : decode cX5_init 28 = .ok (.dup, 1) := by decide +kernel
theorem dX5_init_29 : decode cX5_init 29 = .ok (.invokespecial 24, 3) := by decide +kernel
theorem dX5_init_32 : decode cX5_init 32 = .ok (.putfield 25, 3) := by decide +kernel
theorem dX5_init_35 : decode cX5_init 35 = .ok (.aload_n 0, 1) := by decide +kernel
theorem dX5_init_36 : decode cX5_init 36 = .ok (.new 9, 3) := by decide +kernel
theorem dX5_init_39 : decode cX5_init 39 = .ok (.dup, 1) := by decide +kernel
theorem dX5_init_40 : decode cX5_init 40 = .ok (.invokespecial 29, 3) := by decide +kernel
theorem dX5_init_43 : decode cX5_init 43 = .ok (.putfield 30, 3) := by decide +kernel
theorem dX5_init_46 : decode cX5_init 46 = .ok (.iconst 0, 1) := by decide +kernel
theorem dX5_init_47 : decode cX5_init 47 = .ok (.istore_n 1, 1) := by decide +kernel
theorem dX5_init_48 : decode cX5_init 48 = .ok (.iload_n 1, 1) := by decide +kernel
theorem dX5_init_49 : decode cX5_init 49 = .ok (.aload_n 0, 1) := by decide +kernel
theorem dX5_init_50 : decode cX5_init 50 = .ok (.getfield 11, 3) := by decide +kernel
theorem dX5_init_53 : decode cX5_init 53 = .ok (.arraylength, 1) := by decide +kernel
theorem dX5_init_54 : decode cX5_init 54 = .ok (.if_icmp .ge 22, 3) := by decide +kernel
theorem dX5_init_57 : decode cX5_init 57 = .ok (.aload_n 0, 1) := by decide +kernel
theorem dX5_init_58 : decode cX5_init 58 = .ok (.getfield 11, 3) := by decide +kernel
theorem dX5_init_61 : decode cX5_init 61 = .ok (.iload_n 1, 1) := by decide +kernel
theorem dX5_init_62 : decode cX5_init 62 = .ok (.new 9, 3) := by decide +kernel
theorem dX5_init_65 : decode cX5_init 65 = .ok (.dup, 1) := by decide +kernel
theorem dX5_init_66 : decode cX5_init 66 = .ok (.invokespecial 29, 3) := by decide +kernel
theorem dX5_init_69 : decode cX5_init 69 = .ok (.aastore, 1) := by decide +kernel
theorem dX5_init_70 : decode cX5_init 70 = .ok (.iinc 1 1, 3) := by decide +kernel
theorem dX5_init_73 : decode cX5_init 73 = .ok (.goto (-25), 3) := by decide +kernel
theorem dX5_init_76 : decode cX5_init 76 = .ok (.return_, 1) := by decide +kernel
theorem dX5_make_0 : decode cX5_make 0 = .ok (.aload_n 0, 1) := by decide +kernel
theorem dX5_make_1 : decode cX5_make 1 = .ok (.getfield 34, 3) := by decide +kernel
theorem dX5_make_4 : decode cX5_make 4 = .ok (.bipush 8, 2) := by decide +kernel
theorem dX5_make_6 : decode cX5_make 6 = .ok (.if_icmp .lt 6, 3) := by decide +kernel
theorem dX5_make_9 : decode cX5_make 9 = .ok (.bipush (-3), 2) := by decide +kernel
theorem dX5_make_11 : decode cX5_make 11 = .ok (.ireturn, 1) := by decide +kernel
theorem dX5_make_12 : decode cX5_make 12 = .ok (.aload_n 0, 1) := by decide +kernel
theorem dX5_make_13 : decode cX5_make 13 = .ok (.getfield 34, 3) := by decide +kernel
theorem dX5_make_16 : decode cX5_make 16 = .ok (.istore_n 1, 1) := by decide +kernel
theorem dX5_make_17 : decode cX5_make 17 = .ok (.aload_n 0, 1) := by decide +kernel
theorem dX5_make_18 : decode cX5_make 18 = .ok (.iload_n 1, 1) := by decide +kernel
theorem dX5_make_19 : decode cX5_make 19 = .ok (.invokevirtual 38, 3) := by decide +kernel
theorem dX5_make_22 : decode cX5_make 22 = .ok (.aload_n 0, 1) := by decide +kernel
theorem dX5_make_23 : decode cX5_make 23 = .ok (.getfield 11, 3) := by decide +kernel
theorem dX5_make_26 : decode cX5_make 26 = .ok (.iload_n 1, 1) := by decide +kernel
theorem dX5_make_27 : decode cX5_make 27 = .ok (.aaload, 1) := by decide +kernel
theorem dX5_make_28 : decode cX5_make 28 = .ok (.iconst 0, 1) := by decide +kernel
theorem dX5_make_29 : decode cX5_make 29 = .ok (.invokevirtual 42, 3) := by decide +kernel
theorem dX5_make_32 : decode cX5_make 32 = .ok (.aload_n 0, 1) := by decide +kernel
theorem dX5_make_33 : decode cX5_make 33 = .ok (.dup, 1) := by decide +kernel
theorem dX5_make_34 : decode cX5_make 34 = .ok (.getfield 34, 3) := by decide +kernel
theorem dX5_make_37 : decode cX5_make 37 = .ok (.iconst 1, 1) := by decide +kernel
theorem dX5_make_38 : decode cX5_make 38 = .ok (.iadd, 1) := by decide +kernel
theorem dX5_make_39 : decode cX5_make 39 = .ok (.putfield 34, 3) := by decide +kernel
theorem dX5_make_42 : decode cX5_make 42 = .ok (.iload_n 1, 1) := by decide +kernel
theorem dX5_make_43 : decode cX5_make 43 = .ok (.ireturn, 1) := by decide +kernel
theorem dX5_append_0 : decode cX5_append 0 = .ok (.aload_n 0, 1) := by decide +kernel
theorem dX5_append_1 : decode cX5_append 1 = .ok (.iload_n 1, 1) := by decide +kernel
theorem dX5_append_2 : decode cX5_append 2 = .ok (.invokevirtual 45, 3) := by decide +kernel
theorem dX5_append_5 : decode cX5_append 5 = .ok (.ifCond .eq 21, 3) := by decide +kernel
theorem dX5_append_8 : decode cX5_append 8 = .ok (.iload_n 2, 1) := by decide +kernel
theorem dX5_append_9 : decode cX5_append 9 = .ok (.invokestatic 49, 3) := by decide +kernel
theorem dX5_append_12 : decode cX5_append 12 = .ok (.ifCond .eq 14, 3) := by decide +kernel
theorem dX5_append_15 : decode cX5_append 15 = .ok (.iload_n 3, 1) := by decide +kernel
theorem dX5_append_16 : decode cX5_append 16 = .ok (.iconst 1, 1) := by decide +kernel
theorem dX5_append_17 : decode cX5_append 17 = .ok (.sipush 600, 3) := by decide +kernel
theorem dX5_append_20 : decode cX5_append 20 = .ok (.invokestatic 52, 3) := by decide +kernel
theorem dX5_append_23 : decode cX5_append 23 = .ok (.ifCond .ne 5, 3) := by decide +kernel
theorem dX5_append_26 : decode cX5_append 26 = .ok (.iconst (-1), 1) := by decide +kernel
theorem dX5_append_27 : decode cX5_append 27 = .ok (.ireturn, 1) := by decide +kernel
theorem dX5_append_28 : decode cX5_append 28 = .ok (.aload_n 0, 1) := by decide +kernel
theorem dX5_append_29 : decode cX5_append 29 = .ok (.getfield 11, 3) := by decide +kernel
theorem dX5_append_32 : decode cX5_append 32 = .ok (.iload_n 1, 1) := by decide +kernel
theorem dX5_append_33 : decode cX5_append 33 = .ok (.aaload, 1) := by decide +kernel
theorem dX5_append_34 : decode cX5_append 34 = .ok (.getfield 56, 3) := by decide +kernel
theorem dX5_append_37 : decode cX5_append 37 = .ok (.iload_n 3, 1) := by decide +kernel
theorem dX5_append_38 : decode cX5_append 38 = .ok (.iadd, 1) := by decide +kernel
theorem dX5_append_39 : decode cX5_append 39 = .ok (.sipush 600, 3) := by decide +kernel
theorem dX5_append_42 : decode cX5_append 42 = .ok (.if_icmp .le 6, 3) := by decide +kernel
theorem dX5_append_45 : decode cX5_append 45 = .ok (.bipush (-3), 2) := by decide +kernel
theorem dX5_append_47 : decode cX5_append 47 = .ok (.ireturn, 1) := by decide +kernel
theorem dX5_append_48 : decode cX5_append 48 = .ok (.aload_n 0, 1) := by decide +kernel
theorem dX5_append_49 : decode cX5_append 49 = .ok (.iload_n 1, 1) := by decide +kernel
theorem dX5_append_50 : decode cX5_append 50 = .ok (.invokevirtual 38, 3) := by decide +kernel
theorem dX5_append_53 : decode cX5_append 53 = .ok (.aload_n 0, 1) := by decide +kernel
theorem dX5_append_54 : decode cX5_append 54 = .ok (.getfield 11, 3) := by decide +kernel
theorem dX5_append_57 : decode cX5_append 57 = .ok (.iload_n 1, 1) := by decide +kernel
theorem dX5_append_58 : decode cX5_append 58 = .ok (.aaload, 1) := by decide +kernel
theorem dX5_append_59 : decode cX5_append 59 = .ok (.iload_n 2, 1) := by decide +kernel
theorem dX5_append_60 : decode cX5_append 60 = .ok (.iload_n 3, 1) := by decide +kernel
theorem dX5_append_61 : decode cX5_append 61 = .ok (.invokevirtual 59, 3) := by decide +kernel
theorem dX5_append_64 : decode cX5_append 64 = .ok (.aload_n 0, 1) := by decide +kernel
theorem dX5_append_65 : decode cX5_append 65 = .ok (.getfield 11, 3) := by decide +kernel
theorem dX5_append_68 : decode cX5_append 68 = .ok (.iload_n 1, 1) := by decide +kernel
theorem dX5_append_69 : decode cX5_append 69 = .ok (.aaload, 1) := by decide +kernel
theorem dX5_append_70 : decode cX5_append 70 = .ok (.getfield 56, 3) := by decide +kernel
theorem dX5_append_73 : decode cX5_append 73 = .ok (.ireturn, 1) := by decide +kernel
theorem dX5_write_0 : decode cX5_write 0 = .ok (.aload_n 0, 1) := by decide +kernel
theorem dX5_write_1 : decode cX5_write 1 = .ok (.iload_n 1, 1) := by decide +kernel
theorem dX5_write_2 : decode cX5_write 2 = .ok (.invokevirtual 45, 3) := by decide +kernel
theorem dX5_write_5 : decode cX5_write 5 = .ok (.ifCond .eq 23, 3) := by decide +kernel
theorem dX5_write_8 : decode cX5_write 8 = .ok (.iload_n 2, 1) := by decide +kernel
theorem dX5_write_9 : decode cX5_write 9 = .ok (.iconst 0, 1) := by decide +kernel
theorem dX5_write_10 : decode cX5_write 10 = .ok (.ldc 63, 2) := by decide +kernel
theorem dX5_write_12 : decode cX5_write 12 = .ok (.invokestatic 52, 3) := by decide +kernel
theorem dX5_write_15 : decode cX5_write 15 = .ok (.ifCond .eq 13, 3) := by decide +kernel
theorem dX5_write_18 : decode cX5_write 18 = .ok (.iload_n 3, 1) := by decide +kernel
theorem dX5_write_19 : decode cX5_write 19 = .ok (.iconst 1, 1) := by decide +kernel
theorem dX5_write_20 : decode cX5_write 20 = .ok (.bipush 16, 2) := by decide +kernel
theorem dX5_write_22 : decode cX5_write 22 = .ok (.invokestatic 52, 3) := by decide +kernel
theorem dX5_write_25 : decode cX5_write 25 = .ok (.ifCond .ne 5, 3) := by decide +kernel
theorem dX5_write_28 : decode cX5_write 28 = .ok (.iconst (-1), 1) := by decide +kernel
theorem dX5_write_29 : decode cX5_write 29 = .ok (.ireturn, 1) := by decide +kernel
theorem dX5_write_30 : decode cX5_write 30 = .ok (.aload_n 0, 1) := by decide +kernel
theorem dX5_write_31 : decode cX5_write 31 = .ok (.getfield 11, 3) := by decide +kernel
theorem dX5_write_34 : decode cX5_write 34 = .ok (.iload_n 1, 1) := by decide +kernel
theorem dX5_write_35 : decode cX5_write 35 = .ok (.aaload, 1) := by decide +kernel
theorem dX5_write_36 : decode cX5_write 36 = .ok (.getfield 56, 3) := by decide +kernel
theorem dX5_write_39 : decode cX5_write 39 = .ok (.iload_n 3, 1) := by decide +kernel
theorem dX5_write_40 : decode cX5_write 40 = .ok (.iadd, 1) := by decide +kernel
theorem dX5_write_41 : decode cX5_write 41 = .ok (.sipush 600, 3) := by decide +kernel
theorem dX5_write_44 : decode cX5_write 44 = .ok (.if_icmp .le 6, 3) := by decide +kernel
theorem dX5_write_47 : decode cX5_write 47 = .ok (.bipush (-3), 2) := by decide +kernel
theorem dX5_write_49 : decode cX5_write 49 = .ok (.ireturn, 1) := by decide +kernel
theorem dX5_write_50 : decode cX5_write 50 = .ok (.aload_n 0, 1) := by decide +kernel
theorem dX5_write_51 : decode cX5_write 51 = .ok (.iload_n 1, 1) := by decide +kernel
theorem dX5_write_52 : decode cX5_write 52 = .ok (.invokevirtual 38, 3) := by decide +kernel
theorem dX5_write_55 : decode cX5_write 55 = .ok (.aload_n 0, 1) := by decide +kernel
theorem dX5_write_56 : decode cX5_write 56 = .ok (.getfield 11, 3) := by decide +kernel
theorem dX5_write_59 : decode cX5_write 59 = .ok (.iload_n 1, 1) := by decide +kernel
theorem dX5_write_60 : decode cX5_write 60 = .ok (.aaload, 1) := by decide +kernel
theorem dX5_write_61 : decode cX5_write 61 = .ok (.iload_n 2, 1) := by decide +kernel
theorem dX5_write_62 : decode cX5_write 62 = .ok (.iload_n 3, 1) := by decide +kernel
theorem dX5_write_63 : decode cX5_write 63 = .ok (.invokevirtual 64, 3) := by decide +kernel
theorem dX5_write_66 : decode cX5_write 66 = .ok (.aload_n 0, 1) := by decide +kernel
theorem dX5_write_67 : decode cX5_write 67 = .ok (.getfield 11, 3) := by decide +kernel
theorem dX5_write_70 : decode cX5_write 70 = .ok (.iload_n 1, 1) := by decide +kernel
theorem dX5_write_71 : decode cX5_write 71 = .ok (.aaload, 1) := by decide +kernel
theorem dX5_write_72 : decode cX5_write 72 = .ok (.invokestatic 67, 3) := by decide +kernel
theorem dX5_write_75 : decode cX5_write 75 = .ok (.ireturn, 1) := by decide +kernel
theorem dX5_set_0 : decode cX5_set 0 = .ok (.aload_n 0, 1) := by decide +kernel
theorem dX5_set_1 : decode cX5_set 1 = .ok (.iload_n 1, 1) := by decide +kernel
theorem dX5_set_2 : decode cX5_set 2 = .ok (.invokevirtual 45, 3) := by decide +kernel
theorem dX5_set_5 : decode cX5_set 5 = .ok (.ifCond .eq 19, 3) := by decide +kernel
theorem dX5_set_8 : decode cX5_set 8 = .ok (.aload_n 0, 1) := by decide +kernel
theorem dX5_set_9 : decode cX5_set 9 = .ok (.iload_n 1, 1) := by decide +kernel
theorem dX5_set_10 : decode cX5_set 10 = .ok (.iload_n 2, 1) := by decide +kernel
theorem dX5_set_11 : decode cX5_set 11 = .ok (.invokevirtual 73, 3) := by decide +kernel
theorem dX5_set_14 : decode cX5_set 14 = .ok (.ifCond .eq 10, 3) := by decide +kernel
theorem dX5_set_17 : decode cX5_set 17 = .ok (.iload_n 3, 1) := by decide +kernel
theorem dX5_set_18 : decode cX5_set 18 = .ok (.invokestatic 49, 3) := by decide +kernel
theorem dX5_set_21 : decode cX5_set 21 = .ok (.ifCond .ne 5, 3) := by decide +kernel
theorem dX5_set_24 : decode cX5_set 24 = .ok (.iconst (-1), 1) := by decide +kernel
theorem dX5_set_25 : decode cX5_set 25 = .ok (.ireturn, 1) := by decide +kernel
theorem dX5_set_26 : decode cX5_set 26 = .ok (.aload_n 0, 1) := by decide +kernel
theorem dX5_set_27 : decode cX5_set 27 = .ok (.iload_n 1, 1) := by decide +kernel
theorem dX5_set_28 : decode cX5_set 28 = .ok (.invokevirtual 38, 3) := by decide +kernel
theorem dX5_set_31 : decode cX5_set 31 = .ok (.aload_n 0, 1) := by decide +kernel
theorem dX5_set_32 : decode cX5_set 32 = .ok (.getfield 11, 3) := by decide +kernel
theorem dX5_set_35 : decode cX5_set 35 = .ok (.iload_n 1, 1) := by decide +kernel
theorem dX5_set_36 : decode cX5_set 36 = .ok (.aaload, 1) := by decide +kernel
theorem dX5_set_37 : decode cX5_set 37 = .ok (.iload_n 2, 1) := by decide +kernel
theorem dX5_set_38 : decode cX5_set 38 = .ok (.invokevirtual 77, 3) := by decide +kernel
theorem dX5_set_41 : decode cX5_set 41 = .ok (.istore 4, 2) := by decide +kernel
theorem dX5_set_43 : decode cX5_set 43 = .ok (.aload_n 0, 1) := by decide +kernel
theorem dX5_set_44 : decode cX5_set 44 = .ok (.getfield 11, 3) := by decide +kernel
theorem dX5_set_47 : decode cX5_set 47 = .ok (.iload_n 1, 1) := by decide +kernel
theorem dX5_set_48 : decode cX5_set 48 = .ok (.aaload, 1) := by decide +kernel
theorem dX5_set_49 : decode cX5_set 49 = .ok (.iload_n 2, 1) := by decide +kernel
theorem dX5_set_50 : decode cX5_set 50 = .ok (.iload_n 3, 1) := by decide +kernel
theorem dX5_set_51 : decode cX5_set 51 = .ok (.invokevirtual 81, 3) := by decide +kernel
theorem dX5_set_54 : decode cX5_set 54 = .ok (.iload 4, 2) := by decide +kernel
theorem dX5_set_56 : decode cX5_set 56 = .ok (.ireturn, 1) := by decide +kernel
theorem dX5_resize_0 : decode cX5_resize 0 = .ok (.aload_n 0, 1) := by decide +kernel
theorem dX5_resize_1 : decode cX5_resize 1 = .ok (.iload_n 1, 1) := by decide +kernel
theorem dX5_resize_2 : decode cX5_resize 2 = .ok (.invokevirtual 45, 3) := by decide +kernel
theorem dX5_resize_5 : decode cX5_resize 5 = .ok (.ifCond .eq 14, 3) := by decide +kernel
theorem dX5_resize_8 : decode cX5_resize 8 = .ok (.iload_n 2, 1) := by decide +kernel
theorem dX5_resize_9 : decode cX5_resize 9 = .ok (.iconst 0, 1) := by decide +kernel
theorem dX5_resize_10 : decode cX5_resize 10 = .ok (.sipush 600, 3) := by decide +kernel
theorem dX5_resize_13 : decode cX5_resize 13 = .ok (.invokestatic 52, 3) := by decide +kernel
theorem dX5_resize_16 : decode cX5_resize 16 = .ok (.ifCond .ne 5, 3) := by decide +kernel
theorem dX5_resize_19 : decode cX5_resize 19 = .ok (.iconst (-1), 1) := by decide +kernel
theorem dX5_resize_20 : decode cX5_resize 20 = .ok (.ireturn, 1) := by decide +kernel
theorem dX5_resize_21 : decode cX5_resize 21 = .ok (.aload_n 0, 1) := by decide +kernel
theorem dX5_resize_22 : decode cX5_resize 22 = .ok (.iload_n 1, 1) := by decide +kernel
theorem dX5_resize_23 : decode cX5_resize 23 = .ok (.invokevirtual 38, 3) := by decide +kernel
theorem dX5_resize_26 : decode cX5_resize 26 = .ok (.aload_n 0, 1) := by decide +kernel
theorem dX5_resize_27 : decode cX5_resize 27 = .ok (.getfield 11, 3) := by decide +kernel
theorem dX5_resize_30 : decode cX5_resize 30 = .ok (.iload_n 1, 1) := by decide +kernel
theorem dX5_resize_31 : decode cX5_resize 31 = .ok (.aaload, 1) := by decide +kernel
theorem dX5_resize_32 : decode cX5_resize 32 = .ok (.getfield 56, 3) := by decide +kernel
theorem dX5_resize_35 : decode cX5_resize 35 = .ok (.istore_n 3, 1) := by decide +kernel
theorem dX5_resize_36 : decode cX5_resize 36 = .ok (.aload_n 0, 1) := by decide +kernel
theorem dX5_resize_37 : decode cX5_resize 37 = .ok (.getfield 11, 3) := by decide +kernel
theorem dX5_resize_40 : decode cX5_resize 40 = .ok (.iload_n 1, 1) := by decide +kernel
theorem dX5_resize_41 : decode cX5_resize 41 = .ok (.aaload, 1) := by decide +kernel
theorem dX5_resize_42 : decode cX5_resize 42 = .ok (.iload_n 2, 1) := by decide +kernel
theorem dX5_resize_43 : decode cX5_resize 43 = .ok (.invokevirtual 42, 3) := by decide +kernel
theorem dX5_resize_46 : decode cX5_resize 46 = .ok (.iload_n 3, 1) := by decide +kernel
theorem dX5_resize_47 : decode cX5_resize 47 = .ok (.ireturn, 1) := by decide +kernel
theorem dX5_operate_0 : decode cX5_operate 0 = .ok (.aload_n 0, 1) := by decide +kernel
theorem dX5_operate_1 : decode cX5_operate 1 = .ok (.iload_n 1, 1) := by decide +kernel
theorem dX5_operate_2 : decode cX5_operate 2 = .ok (.invokevirtual 45, 3) := by decide +kernel
theorem dX5_operate_5 : decode cX5_operate 5 = .ok (.ifCond .eq 27, 3) := by decide +kernel
theorem dX5_operate_8 : decode cX5_operate 8 = .ok (.iload_n 2, 1) := by decide +kernel
theorem dX5_operate_9 : decode cX5_operate 9 = .ok (.invokestatic 84, 3) := by decide +kernel
theorem dX5_operate_12 : decode cX5_operate 12 = .ok (.ifCond .eq 20, 3) := by decide +kernel
theorem dX5_operate_15 : decode cX5_operate 15 = .ok (.aload_n 0, 1) := by decide +kernel
theorem dX5_operate_16 : decode cX5_operate 16 = .ok (.iload_n 3, 1) := by decide +kernel
theorem dX5_operate_17 : decode cX5_operate 17 = .ok (.invokevirtual 45, 3) := by decide +kernel
theorem dX5_operate_20 : decode cX5_operate 20 = .ok (.ifCond .eq 12, 3) := by decide +kernel
theorem dX5_operate_23 : decode cX5_operate 23 = .ok (.aload_n 0, 1) := by decide +kernel
theorem dX5_operate_24 : decode cX5_operate 24 = .ok (.iload 4, 2) := by decide +kernel
theorem dX5_operate_26 : decode cX5_operate 26 = .ok (.invokevirtual 45, 3) := by decide +kernel
theorem dX5_operate_29 : decode cX5_operate 29 = .ok (.ifCond .ne 5, 3) := by decide +kernel
theorem dX5_operate_32 : decode cX5_operate 32 = .ok (.iconst (-1), 1) := by decide +kernel
theorem dX5_operate_33 : decode cX5_operate 33 = .ok (.ireturn, 1) := by decide +kernel
theorem dX5_operate_34 : decode cX5_operate 34 = .ok (.aload_n 0, 1) := by decide +kernel
theorem dX5_operate_35 : decode cX5_operate 35 = .ok (.iload_n 1, 1) := by decide +kernel
theorem dX5_operate_36 : decode cX5_operate 36 = .ok (.invokevirtual 38, 3) := by decide +kernel
theorem dX5_operate_39 : decode cX5_operate 39 = .ok (.aload_n 0, 1) := by decide +kernel
theorem dX5_operate_40 : decode cX5_operate 40 = .ok (.getfield 11, 3) := by decide +kernel
theorem dX5_operate_43 : decode cX5_operate 43 = .ok (.iload_n 3, 1) := by decide +kernel
theorem dX5_operate_44 : decode cX5_operate 44 = .ok (.aaload, 1) := by decide +kernel
theorem dX5_operate_45 : decode cX5_operate 45 = .ok (.aload_n 0, 1) := by decide +kernel
theorem dX5_operate_46 : decode cX5_operate 46 = .ok (.getfield 11, 3) := by decide +kernel
theorem dX5_operate_49 : decode cX5_operate 49 = .ok (.iload 4, 2) := by decide +kernel
theorem dX5_operate_51 : decode cX5_operate 51 = .ok (.aaload, 1) := by decide +kernel
theorem dX5_operate_52 : decode cX5_operate 52 = .ok (.invokestatic 87, 3) := by decide +kernel
theorem dX5_operate_55 : decode cX5_operate 55 = .ok (.istore 5, 2) := by decide +kernel
theorem dX5_operate_57 : decode cX5_operate 57 = .ok (.aload_n 0, 1) := by decide +kernel
theorem dX5_operate_58 : decode cX5_operate 58 = .ok (.getfield 11, 3) := by decide +kernel
theorem dX5_operate_61 : decode cX5_operate 61 = .ok (.iload_n 1, 1) := by decide +kernel
theorem dX5_operate_62 : decode cX5_operate 62 = .ok (.aaload, 1) := by decide +kernel
theorem dX5_operate_63 : decode cX5_operate 63 = .ok (.iload_n 2, 1) := by decide +kernel
theorem dX5_operate_64 : decode cX5_operate 64 = .ok (.aload_n 0, 1) := by decide +kernel
theorem dX5_operate_65 : decode cX5_operate 65 = .ok (.getfield 11, 3) := by decide +kernel
theorem dX5_operate_68 : decode cX5_operate 68 = .ok (.iload_n 3, 1) := by decide +kernel
theorem dX5_operate_69 : decode cX5_operate 69 = .ok (.aaload, 1) := by decide +kernel
theorem dX5_operate_70 : decode cX5_operate 70 = .ok (.aload_n 0, 1) := by decide +kernel
theorem dX5_operate_71 : decode cX5_operate 71 = .ok (.getfield 11, 3) := by decide +kernel
theorem dX5_operate_74 : decode cX5_operate 74 = .ok (.iload 4, 2) := by decide +kernel
theorem dX5_operate_76 : decode cX5_operate 76 = .ok (.aaload, 1) := by decide +kernel
theorem dX5_operate_77 : decode cX5_operate 77 = .ok (.invokevirtual 91, 3) := by decide +kernel
theorem dX5_operate_80 : decode cX5_operate 80 = .ok (.iload 5, 2) := by decide +kernel
theorem dX5_operate_82 : decode cX5_operate 82 = .ok (.ireturn, 1) := by decide +kernel
theorem dX5_not_0 : decode cX5_not 0 = .ok (.aload_n 0, 1) := by decide +kernel
theorem dX5_not_1 : decode cX5_not 1 = .ok (.iload_n 1, 1) := by decide +kernel
theorem dX5_not_2 : decode cX5_not 2 = .ok (.invokevirtual 45, 3) := by decide +kernel
theorem dX5_not_5 : decode cX5_not 5 = .ok (.ifCond .ne 5, 3) := by decide +kernel
theorem dX5_not_8 : decode cX5_not 8 = .ok (.iconst (-1), 1) := by decide +kernel
theorem dX5_not_9 : decode cX5_not 9 = .ok (.ireturn, 1) := by decide +kernel
theorem dX5_not_10 : decode cX5_not 10 = .ok (.aload_n 0, 1) := by decide +kernel
theorem dX5_not_11 : decode cX5_not 11 = .ok (.iload_n 1, 1) := by decide +kernel
theorem dX5_not_12 : decode cX5_not 12 = .ok (.invokevirtual 38, 3) := by decide +kernel
theorem dX5_not_15 : decode cX5_not 15 = .ok (.aload_n 0, 1) := by decide +kernel
theorem dX5_not_16 : decode cX5_not 16 = .ok (.getfield 11, 3) := by decide +kernel
theorem dX5_not_19 : decode cX5_not 19 = .ok (.iload_n 1, 1) := by decide +kernel
theorem dX5_not_20 : decode cX5_not 20 = .ok (.aaload, 1) := by decide +kernel
theorem dX5_not_21 : decode cX5_not 21 = .ok (.invokevirtual 95, 3) := by decide +kernel
theorem dX5_not_24 : decode cX5_not 24 = .ok (.aload_n 0, 1) := by decide +kernel
theorem dX5_not_25 : decode cX5_not 25 = .ok (.getfield 11, 3) := by decide +kernel
theorem dX5_not_28 : decode cX5_not 28 = .ok (.iload_n 1, 1) := by decide +kernel
theorem dX5_not_29 : decode cX5_not 29 = .ok (.aaload, 1) := by decide +kernel
theorem dX5_not_30 : decode cX5_not 30 = .ok (.invokevirtual 98, 3) := by decide +kernel
theorem dX5_not_33 : decode cX5_not 33 = .ok (.ireturn, 1) := by decide +kernel
theorem dX5_shift_0 : decode cX5_shift 0 = .ok (.aload_n 0, 1) := by decide +kernel
theorem dX5_shift_1 : decode cX5_shift 1 = .ok (.iload_n 1, 1) := by decide +kernel
theorem dX5_shift_2 : decode cX5_shift 2 = .ok (.invokevirtual 45, 3) := by decide +kernel
theorem dX5_shift_5 : decode cX5_shift 5 = .ok (.ifCond .eq 16, 3) := by decide +kernel
theorem dX5_shift_8 : decode cX5_shift 8 = .ok (.iload_n 2, 1) := by decide +kernel
theorem dX5_shift_9 : decode cX5_shift 9 = .ok (.sipush (-600), 3) := by decide +kernel
theorem dX5_shift_12 : decode cX5_shift 12 = .ok (.sipush 600, 3) := by decide +kernel
theorem dX5_shift_15 : decode cX5_shift 15 = .ok (.invokestatic 52, 3) := by decide +kernel
theorem dX5_shift_18 : decode cX5_shift 18 = .ok (.ifCond .ne 5, 3) := by decide +kernel
theorem dX5_shift_21 : decode cX5_shift 21 = .ok (.iconst (-1), 1) := by decide +kernel
theorem dX5_shift_22 : decode cX5_shift 22 = .ok (.ireturn, 1) := by decide +kernel
theorem dX5_shift_23 : decode cX5_shift 23 = .ok (.aload_n 0, 1) := by decide +kernel
theorem dX5_shift_24 : decode cX5_shift 24 = .ok (.iload_n 1, 1) := by decide +kernel
theorem dX5_shift_25 : decode cX5_shift 25 = .ok (.invokevirtual 38, 3) := by decide +kernel
theorem dX5_shift_28 : decode cX5_shift 28 = .ok (.aload_n 0, 1) := by decide +kernel
theorem dX5_shift_29 : decode cX5_shift 29 = .ok (.getfield 30, 3) := by decide +kernel
theorem dX5_shift_32 : decode cX5_shift 32 = .ok (.aload_n 0, 1) := by decide +kernel
theorem dX5_shift_33 : decode cX5_shift 33 = .ok (.getfield 11, 3) := by decide +kernel
theorem dX5_shift_36 : decode cX5_shift 36 = .ok (.iload_n 1, 1) := by decide +kernel
theorem dX5_shift_37 : decode cX5_shift 37 = .ok (.aaload, 1) := by decide +kernel
theorem dX5_shift_38 : decode cX5_shift 38 = .ok (.iload_n 2, 1) := by decide +kernel
theorem dX5_shift_39 : decode cX5_shift 39 = .ok (.invokevirtual 102, 3) := by decide +kernel
theorem dX5_shift_42 : decode cX5_shift 42 = .ok (.aload_n 0, 1) := by decide +kernel
theorem dX5_shift_43 : decode cX5_shift 43 = .ok (.getfield 11, 3) := by decide +kernel
theorem dX5_shift_46 : decode cX5_shift 46 = .ok (.iload_n 1, 1) := by decide +kernel
theorem dX5_shift_47 : decode cX5_shift 47 = .ok (.aaload, 1) := by decide +kernel
theorem dX5_shift_48 : decode cX5_shift 48 = .ok (.aload_n 0, 1) := by decide +kernel
theorem dX5_shift_49 : decode cX5_shift 49 = .ok (.getfield 30, 3) := by decide +kernel
theorem dX5_shift_52 : decode cX5_shift 52 = .ok (.invokevirtual 106, 3) := by decide +kernel
theorem dX5_shift_55 : decode cX5_shift 55 = .ok (.aload_n 0, 1) := by decide +kernel
theorem dX5_shift_56 : decode cX5_shift 56 = .ok (.getfield 11, 3) := by decide +kernel
theorem dX5_shift_59 : decode cX5_shift 59 = .ok (.iload_n 1, 1) := by decide +kernel
theorem dX5_shift_60 : decode cX5_shift 60 = .ok (.aaload, 1) := by decide +kernel
theorem dX5_shift_61 : decode cX5_shift 61 = .ok (.getfield 56, 3) := by decide +kernel
theorem dX5_shift_64 : decode cX5_shift 64 = .ok (.ireturn, 1) := by decide +kernel
end
section
theorem dX5_undo_0 : decode cX5_undo 0 = .ok (.aload_n 0, 1) := by decide +kernel
theorem dX5_undo_1 : decode cX5_undo 1 = .ok (.getfield 18, 3) := by decide +kernel
theorem dX5_undo_4 : decode cX5_undo 4 = .ok (.getfield 110, 3) := by decide +kernel
theorem dX5_undo_7 : decode cX5_undo 7 = .ok (.ifCond .ne 6, 3) := by decide +kernel
theorem dX5_undo_10 : decode cX5_undo 10 = .ok (.bipush (-2), 2) := by decide +kernel
theorem dX5_undo_12 : decode cX5_undo 12 = .ok (.ireturn, 1) := by decide +kernel
theorem dX5_undo_13 : decode cX5_undo 13 = .ok (.aload_n 0, 1) := by decide +kernel
theorem dX5_undo_14 : decode cX5_undo 14 = .ok (.getfield 18, 3) := by decide +kernel
theorem dX5_undo_17 : decode cX5_undo 17 = .ok (.invokevirtual 113, 3) := by decide +kernel
theorem dX5_undo_20 : decode cX5_undo 20 = .ok (.astore_n 1, 1) := by decide +kernel
theorem dX5_undo_21 : decode cX5_undo 21 = .ok (.aload_n 0, 1) := by decide +kernel
theorem dX5_undo_22 : decode cX5_undo 22 = .ok (.aload_n 1, 1) := by decide +kernel
theorem dX5_undo_23 : decode cX5_undo 23 = .ok (.getfield 117, 3) := by decide +kernel
theorem dX5_undo_26 : decode cX5_undo 26 = .ok (.putfield 34, 3) := by decide +kernel
theorem dX5_undo_29 : decode cX5_undo 29 = .ok (.aload_n 0, 1) := by decide +kernel
theorem dX5_undo_30 : decode cX5_undo 30 = .ok (.getfield 11, 3) := by decide +kernel
theorem dX5_undo_33 : decode cX5_undo 33 = .ok (.aload_n 1, 1) := by decide +kernel
theorem dX5_undo_34 : decode cX5_undo 34 = .ok (.getfield 120, 3) := by decide +kernel
theorem dX5_undo_37 : decode cX5_undo 37 = .ok (.aaload, 1) := by decide +kernel
theorem dX5_undo_38 : decode cX5_undo 38 = .ok (.aload_n 1, 1) := by decide +kernel
theorem dX5_undo_39 : decode cX5_undo 39 = .ok (.getfield 123, 3) := by decide +kernel
theorem dX5_undo_42 : decode cX5_undo 42 = .ok (.invokevirtual 106, 3) := by decide +kernel
theorem dX5_undo_45 : decode cX5_undo 45 = .ok (.aload_n 0, 1) := by decide +kernel
theorem dX5_undo_46 : decode cX5_undo 46 = .ok (.getfield 18, 3) := by decide +kernel
theorem dX5_undo_49 : decode cX5_undo 49 = .ok (.getfield 110, 3) := by decide +kernel
theorem dX5_undo_52 : decode cX5_undo 52 = .ok (.ireturn, 1) := by decide +kernel
theorem dX5_type_0 : decode cX5_type 0 = .ok (.iload_n 1, 1) := by decide +kernel
theorem dX5_type_1 : decode cX5_type 1 = .ok (.iconst 1, 1) := by decide +kernel
theorem dX5_type_2 : decode cX5_type 2 = .ok (.sipush 255, 3) := by decide +kernel
theorem dX5_type_5 : decode cX5_type 5 = .ok (.invokestatic 52, 3) := by decide +kernel
theorem dX5_type_8 : decode cX5_type 8 = .ok (.ifCond .ne 5, 3) := by decide +kernel
theorem dX5_type_11 : decode cX5_type 11 = .ok (.iconst (-1), 1) := by decide +kernel
theorem dX5_type_12 : decode cX5_type 12 = .ok (.ireturn, 1) := by decide +kernel
theorem dX5_type_13 : decode cX5_type 13 = .ok (.aload_n 0, 1) := by decide +kernel
theorem dX5_type_14 : decode cX5_type 14 = .ok (.getfield 25, 3) := by decide +kernel
theorem dX5_type_17 : decode cX5_type 17 = .ok (.getfield 126, 3) := by decide +kernel
theorem dX5_type_20 : decode cX5_type 20 = .ok (.bipush 100, 2) := by decide +kernel
theorem dX5_type_22 : decode cX5_type 22 = .ok (.if_icmp .lt 6, 3) := by decide +kernel
theorem dX5_type_25 : decode cX5_type 25 = .ok (.bipush (-3), 2) := by decide +kernel
theorem dX5_type_27 : decode cX5_type 27 = .ok (.ireturn, 1) := by decide +kernel
theorem dX5_type_28 : decode cX5_type 28 = .ok (.aload_n 0, 1) := by decide +kernel
theorem dX5_type_29 : decode cX5_type 29 = .ok (.getfield 25, 3) := by decide +kernel
theorem dX5_type_32 : decode cX5_type 32 = .ok (.iload_n 1, 1) := by decide +kernel
theorem dX5_type_33 : decode cX5_type 33 = .ok (.i2c, 1) := by decide +kernel
theorem dX5_type_34 : decode cX5_type 34 = .ok (.invokevirtual 127, 3) := by decide +kernel
theorem dX5_type_37 : decode cX5_type 37 = .ok (.aload_n 0, 1) := by decide +kernel
theorem dX5_type_38 : decode cX5_type 38 = .ok (.getfield 25, 3) := by decide +kernel
theorem dX5_type_41 : decode cX5_type 41 = .ok (.getfield 126, 3) := by decide +kernel
theorem dX5_type_44 : decode cX5_type 44 = .ok (.ireturn, 1) := by decide +kernel
theorem dX5_clearText_0 : decode cX5_clearText 0 = .ok (.aload_n 0, 1) := by decide +kernel
theorem dX5_clearText_1 : decode cX5_clearText 1 = .ok (.getfield 25, 3) := by decide +kernel
theorem dX5_clearText_4 : decode cX5_clearText 4 = .ok (.getfield 126, 3) := by decide +kernel
theorem dX5_clearText_7 : decode cX5_clearText 7 = .ok (.istore_n 1, 1) := by decide +kernel
theorem dX5_clearText_8 : decode cX5_clearText 8 = .ok (.aload_n 0, 1) := by decide +kernel
theorem dX5_clearText_9 : decode cX5_clearText 9 = .ok (.getfield 25, 3) := by decide +kernel
theorem dX5_clearText_12 : decode cX5_clearText 12 = .ok (.iconst 0, 1) := by decide +kernel
theorem dX5_clearText_13 : decode cX5_clearText 13 = .ok (.putfield 126, 3) := by decide +kernel
theorem dX5_clearText_16 : decode cX5_clearText 16 = .ok (.iload_n 1, 1) := by decide +kernel
theorem dX5_clearText_17 : decode cX5_clearText 17 = .ok (.ireturn, 1) := by decide +kernel
theorem dX5_evaluate_0 : decode cX5_evaluate 0 = .ok (.aload_n 0, 1) := by decide +kernel
theorem dX5_evaluate_1 : decode cX5_evaluate 1 = .ok (.iload_n 1, 1) := by decide +kernel
theorem dX5_evaluate_2 : decode cX5_evaluate 2 = .ok (.invokevirtual 45, 3) := by decide +kernel
theorem dX5_evaluate_5 : decode cX5_evaluate 5 = .ok (.ifCond .ne 5, 3) := by decide +kernel
theorem dX5_evaluate_8 : decode cX5_evaluate 8 = .ok (.iconst (-1), 1) := by decide +kernel
theorem dX5_evaluate_9 : decode cX5_evaluate 9 = .ok (.ireturn, 1) := by decide +kernel
theorem dX5_evaluate_10 : decode cX5_evaluate 10 = .ok (.aload_n 0, 1) := by decide +kernel
theorem dX5_evaluate_11 : decode cX5_evaluate 11 = .ok (.getfield 25, 3) := by decide +kernel
theorem dX5_evaluate_14 : decode cX5_evaluate 14 = .ok (.aload_n 0, 1) := by decide +kernel
theorem dX5_evaluate_15 : decode cX5_evaluate 15 = .ok (.getfield 11, 3) := by decide +kernel
theorem dX5_evaluate_18 : decode cX5_evaluate 18 = .ok (.aload_n 0, 1) := by decide +kernel
theorem dX5_evaluate_19 : decode cX5_evaluate 19 = .ok (.getfield 34, 3) := by decide +kernel
theorem dX5_evaluate_22 : decode cX5_evaluate 22 = .ok (.invokevirtual 131, 3) := by decide +kernel
theorem dX5_evaluate_25 : decode cX5_evaluate 25 = .ok (.ifCond .ne 15, 3) := by decide +kernel
theorem dX5_evaluate_28 : decode cX5_evaluate 28 = .ok (.sipush (-1000), 3) := by decide +kernel
theorem dX5_evaluate_31 : decode cX5_evaluate 31 = .ok (.aload_n 0, 1) := by decide +kernel
theorem dX5_evaluate_32 : decode cX5_evaluate 32 = .ok (.getfield 25, 3) := by decide +kernel
theorem dX5_evaluate_35 : decode cX5_evaluate 35 = .ok (.getfield 135, 3) := by decide +kernel
theorem dX5_evaluate_38 : decode cX5_evaluate 38 = .ok (.isub, 1) := by decide +kernel
theorem dX5_evaluate_39 : decode cX5_evaluate 39 = .ok (.ireturn, 1) := by decide +kernel
theorem dX5_evaluate_40 : decode cX5_evaluate 40 = .ok (.aload_n 0, 1) := by decide +kernel
theorem dX5_evaluate_41 : decode cX5_evaluate 41 = .ok (.iload_n 1, 1) := by decide +kernel
theorem dX5_evaluate_42 : decode cX5_evaluate 42 = .ok (.invokevirtual 38, 3) := by decide +kernel
theorem dX5_evaluate_45 : decode cX5_evaluate 45 = .ok (.aload_n 0, 1) := by decide +kernel
theorem dX5_evaluate_46 : decode cX5_evaluate 46 = .ok (.getfield 11, 3) := by decide +kernel
theorem dX5_evaluate_49 : decode cX5_evaluate 49 = .ok (.iload_n 1, 1) := by decide +kernel
theorem dX5_evaluate_50 : decode cX5_evaluate 50 = .ok (.aaload, 1) := by decide +kernel
theorem dX5_evaluate_51 : decode cX5_evaluate 51 = .ok (.aload_n 0, 1) := by decide +kernel
theorem dX5_evaluate_52 : decode cX5_evaluate 52 = .ok (.getfield 25, 3) := by decide +kernel
theorem dX5_evaluate_55 : decode cX5_evaluate 55 = .ok (.invokevirtual 138, 3) := by decide +kernel
theorem dX5_evaluate_58 : decode cX5_evaluate 58 = .ok (.invokevirtual 106, 3) := by decide +kernel
theorem dX5_evaluate_61 : decode cX5_evaluate 61 = .ok (.aload_n 0, 1) := by decide +kernel
theorem dX5_evaluate_62 : decode cX5_evaluate 62 = .ok (.getfield 11, 3) := by decide +kernel
theorem dX5_evaluate_65 : decode cX5_evaluate 65 = .ok (.iload_n 1, 1) := by decide +kernel
theorem dX5_evaluate_66 : decode cX5_evaluate 66 = .ok (.aaload, 1) := by decide +kernel
theorem dX5_evaluate_67 : decode cX5_evaluate 67 = .ok (.invokestatic 67, 3) := by decide +kernel
theorem dX5_evaluate_70 : decode cX5_evaluate 70 = .ok (.ireturn, 1) := by decide +kernel
theorem dX5_failure_0 : decode cX5_failure 0 = .ok (.iload_n 1, 1) := by decide +kernel
theorem dX5_failure_1 : decode cX5_failure 1 = .ok (.iconst 0, 1) := by decide +kernel
theorem dX5_failure_2 : decode cX5_failure 2 = .ok (.iconst 2, 1) := by decide +kernel
theorem dX5_failure_3 : decode cX5_failure 3 = .ok (.invokestatic 52, 3) := by decide +kernel
theorem dX5_failure_6 : decode cX5_failure 6 = .ok (.ifCond .ne 5, 3) := by decide +kernel
theorem dX5_failure_9 : decode cX5_failure 9 = .ok (.iconst (-1), 1) := by decide +kernel
theorem dX5_failure_10 : decode cX5_failure 10 = .ok (.ireturn, 1) := by decide +kernel
theorem dX5_failure_11 : decode cX5_failure 11 = .ok (.aload_n 0, 1) := by decide +kernel
theorem dX5_failure_12 : decode cX5_failure 12 = .ok (.getfield 25, 3) := by decide +kernel
theorem dX5_failure_15 : decode cX5_failure 15 = .ok (.getfield 142, 3) := by decide +kernel
theorem dX5_failure_18 : decode cX5_failure 18 = .ok (.ifCond .ne 6, 3) := by decide +kernel
theorem dX5_failure_21 : decode cX5_failure 21 = .ok (.bipush (-9), 2) := by decide +kernel
theorem dX5_failure_23 : decode cX5_failure 23 = .ok (.ireturn, 1) := by decide +kernel
theorem dX5_failure_24 : decode cX5_failure 24 = .ok (.iload_n 1, 1) := by decide +kernel
theorem dX5_failure_25 : decode cX5_failure 25 = .ok (.lookupswitch 43 #[(0, 27), (1, 35)], 27) := by decide +kernel
theorem dX5_failure_52 : decode cX5_failure 52 = .ok (.aload_n 0, 1) := by decide +kernel
theorem dX5_failure_53 : decode cX5_failure 53 = .ok (.getfield 25, 3) := by decide +kernel
theorem dX5_failure_56 : decode cX5_failure 56 = .ok (.getfield 142, 3) := by decide +kernel
theorem dX5_failure_59 : decode cX5_failure 59 = .ok (.ireturn, 1) := by decide +kernel
theorem dX5_failure_60 : decode cX5_failure 60 = .ok (.aload_n 0, 1) := by decide +kernel
theorem dX5_failure_61 : decode cX5_failure 61 = .ok (.getfield 25, 3) := by decide +kernel
theorem dX5_failure_64 : decode cX5_failure 64 = .ok (.getfield 135, 3) := by decide +kernel
theorem dX5_failure_67 : decode cX5_failure 67 = .ok (.ireturn, 1) := by decide +kernel
theorem dX5_failure_68 : decode cX5_failure 68 = .ok (.aload_n 0, 1) := by decide +kernel
theorem dX5_failure_69 : decode cX5_failure 69 = .ok (.getfield 25, 3) := by decide +kernel
theorem dX5_failure_72 : decode cX5_failure 72 = .ok (.getfield 145, 3) := by decide +kernel
theorem dX5_failure_75 : decode cX5_failure 75 = .ok (.ireturn, 1) := by decide +kernel
theorem dX5_count_0 : decode cX5_count 0 = .ok (.iload_n 1, 1) := by decide +kernel
theorem dX5_count_1 : decode cX5_count 1 = .ok (.tableswitch 78 0 5 #[39, 44, 50, 56, 62, 70], 39) := by decide +kernel
theorem dX5_count_40 : decode cX5_count 40 = .ok (.aload_n 0, 1) := by decide +kernel
theorem dX5_count_41 : decode cX5_count 41 = .ok (.getfield 34, 3) := by decide +kernel
theorem dX5_count_44 : decode cX5_count 44 = .ok (.ireturn, 1) := by decide +kernel
theorem dX5_count_45 : decode cX5_count 45 = .ok (.aload_n 0, 1) := by decide +kernel
theorem dX5_count_46 : decode cX5_count 46 = .ok (.iconst 0, 1) := by decide +kernel
theorem dX5_count_47 : decode cX5_count 47 = .ok (.invokevirtual 148, 3) := by decide +kernel
theorem dX5_count_50 : decode cX5_count 50 = .ok (.ireturn, 1) := by decide +kernel
theorem dX5_count_51 : decode cX5_count 51 = .ok (.aload_n 0, 1) := by decide +kernel
theorem dX5_count_52 : decode cX5_count 52 = .ok (.iconst 1, 1) := by decide +kernel
theorem dX5_count_53 : decode cX5_count 53 = .ok (.invokevirtual 148, 3) := by decide +kernel
theorem dX5_count_56 : decode cX5_count 56 = .ok (.ireturn, 1) := by decide +kernel
theorem dX5_count_57 : decode cX5_count 57 = .ok (.aload_n 0, 1) := by decide +kernel
theorem dX5_count_58 : decode cX5_count 58 = .ok (.iconst 5, 1) := by decide +kernel
theorem dX5_count_59 : decode cX5_count 59 = .ok (.invokevirtual 148, 3) := by decide +kernel
theorem dX5_count_62 : decode cX5_count 62 = .ok (.ireturn, 1) := by decide +kernel
theorem dX5_count_63 : decode cX5_count 63 = .ok (.aload_n 0, 1) := by decide +kernel
theorem dX5_count_64 : decode cX5_count 64 = .ok (.getfield 18, 3) := by decide +kernel
theorem dX5_count_67 : decode cX5_count 67 = .ok (.getfield 110, 3) := by decide +kernel
theorem dX5_count_70 : decode cX5_count 70 = .ok (.ireturn, 1) := by decide +kernel
theorem dX5_count_71 : decode cX5_count 71 = .ok (.aload_n 0, 1) := by decide +kernel
theorem dX5_count_72 : decode cX5_count 72 = .ok (.getfield 25, 3) := by decide +kernel
theorem dX5_count_75 : decode cX5_count 75 = .ok (.getfield 126, 3) := by decide +kernel
theorem dX5_count_78 : decode cX5_count 78 = .ok (.ireturn, 1) := by decide +kernel
theorem dX5_count_79 : decode cX5_count 79 = .ok (.iconst (-1), 1) := by decide +kernel
theorem dX5_count_80 : decode cX5_count 80 = .ok (.ireturn, 1) := by decide +kernel
theorem dX5_row_0 : decode cX5_row 0 = .ok (.aload_n 0, 1) := by decide +kernel
theorem dX5_row_1 : decode cX5_row 1 = .ok (.iload_n 1, 1) := by decide +kernel
theorem dX5_row_2 : decode cX5_row 2 = .ok (.invokevirtual 45, 3) := by decide +kernel
theorem dX5_row_5 : decode cX5_row 5 = .ok (.ifCond .eq 13, 3) := by decide +kernel
theorem dX5_row_8 : decode cX5_row 8 = .ok (.iload_n 2, 1) := by decide +kernel
theorem dX5_row_9 : decode cX5_row 9 = .ok (.iconst 0, 1) := by decide +kernel
theorem dX5_row_10 : decode cX5_row 10 = .ok (.bipush 7, 2) := by decide +kernel
theorem dX5_row_12 : decode cX5_row 12 = .ok (.invokestatic 52, 3) := by decide +kernel
theorem dX5_row_15 : decode cX5_row 15 = .ok (.ifCond .ne 5, 3) := by decide +kernel
theorem dX5_row_18 : decode cX5_row 18 = .ok (.iconst (-1), 1) := by decide +kernel
theorem dX5_row_19 : decode cX5_row 19 = .ok (.ireturn, 1) := by decide +kernel
theorem dX5_row_20 : decode cX5_row 20 = .ok (.aload_n 0, 1) := by decide +kernel
theorem dX5_row_21 : decode cX5_row 21 = .ok (.getfield 11, 3) := by decide +kernel
theorem dX5_row_24 : decode cX5_row 24 = .ok (.iload_n 1, 1) := by decide +kernel
theorem dX5_row_25 : decode cX5_row 25 = .ok (.aaload, 1) := by decide +kernel
theorem dX5_row_26 : decode cX5_row 26 = .ok (.iload_n 2, 1) := by decide +kernel
theorem dX5_row_27 : decode cX5_row 27 = .ok (.invokestatic 151, 3) := by decide +kernel
theorem dX5_row_30 : decode cX5_row 30 = .ok (.ireturn, 1) := by decide +kernel
theorem dX5_word_0 : decode cX5_word 0 = .ok (.aload_n 0, 1) := by decide +kernel
theorem dX5_word_1 : decode cX5_word 1 = .ok (.iload_n 1, 1) := by decide +kernel
theorem dX5_word_2 : decode cX5_word 2 = .ok (.invokevirtual 45, 3) := by decide +kernel
theorem dX5_word_5 : decode cX5_word 5 = .ok (.ifCond .eq 7, 3) := by decide +kernel
theorem dX5_word_8 : decode cX5_word 8 = .ok (.iload_n 2, 1) := by decide +kernel
theorem dX5_word_9 : decode cX5_word 9 = .ok (.ifCond .ge 5, 3) := by decide +kernel
theorem dX5_word_12 : decode cX5_word 12 = .ok (.iconst (-1), 1) := by decide +kernel
theorem dX5_word_13 : decode cX5_word 13 = .ok (.ireturn, 1) := by decide +kernel
theorem dX5_word_14 : decode cX5_word 14 = .ok (.aload_n 0, 1) := by decide +kernel
theorem dX5_word_15 : decode cX5_word 15 = .ok (.getfield 11, 3) := by decide +kernel
theorem dX5_word_18 : decode cX5_word 18 = .ok (.iload_n 1, 1) := by decide +kernel
theorem dX5_word_19 : decode cX5_word 19 = .ok (.aaload, 1) := by decide +kernel
theorem dX5_word_20 : decode cX5_word 20 = .ok (.iload_n 2, 1) := by decide +kernel
theorem dX5_word_21 : decode cX5_word 21 = .ok (.invokestatic 155, 3) := by decide +kernel
theorem dX5_word_24 : decode cX5_word 24 = .ok (.ireturn, 1) := by decide +kernel
theorem dX5_bit_0 : decode cX5_bit 0 = .ok (.aload_n 0, 1) := by decide +kernel
theorem dX5_bit_1 : decode cX5_bit 1 = .ok (.iload_n 1, 1) := by decide +kernel
theorem dX5_bit_2 : decode cX5_bit 2 = .ok (.invokevirtual 45, 3) := by decide +kernel
theorem dX5_bit_5 : decode cX5_bit 5 = .ok (.ifCond .eq 12, 3) := by decide +kernel
theorem dX5_bit_8 : decode cX5_bit 8 = .ok (.aload_n 0, 1) := by decide +kernel
theorem dX5_bit_9 : decode cX5_bit 9 = .ok (.iload_n 1, 1) := by decide +kernel
theorem dX5_bit_10 : decode cX5_bit 10 = .ok (.iload_n 2, 1) := by decide +kernel
theorem dX5_bit_11 : decode cX5_bit 11 = .ok (.invokevirtual 73, 3) := by decide +kernel
theorem dX5_bit_14 : decode cX5_bit 14 = .ok (.ifCond .ne 5, 3) := by decide +kernel
theorem dX5_bit_17 : decode cX5_bit 17 = .ok (.iconst (-1), 1) := by decide +kernel
theorem dX5_bit_18 : decode cX5_bit 18 = .ok (.ireturn, 1) := by decide +kernel
theorem dX5_bit_19 : decode cX5_bit 19 = .ok (.aload_n 0, 1) := by decide +kernel
theorem dX5_bit_20 : decode cX5_bit 20 = .ok (.getfield 11, 3) := by decide +kernel
theorem dX5_bit_23 : decode cX5_bit 23 = .ok (.iload_n 1, 1) := by decide +kernel
theorem dX5_bit_24 : decode cX5_bit 24 = .ok (.aaload, 1) := by decide +kernel
theorem dX5_bit_25 : decode cX5_bit 25 = .ok (.iload_n 2, 1) := by decide +kernel
theorem dX5_bit_26 : decode cX5_bit 26 = .ok (.invokevirtual 77, 3) := by decide +kernel
theorem dX5_bit_29 : decode cX5_bit 29 = .ok (.ireturn, 1) := by decide +kernel
theorem dX5_rank_0 : decode cX5_rank 0 = .ok (.aload_n 0, 1) := by decide +kernel
theorem dX5_rank_1 : decode cX5_rank 1 = .ok (.iload_n 1, 1) := by decide +kernel
theorem dX5_rank_2 : decode cX5_rank 2 = .ok (.invokevirtual 45, 3) := by decide +kernel
theorem dX5_rank_5 : decode cX5_rank 5 = .ok (.ifCond .eq 20, 3) := by decide +kernel
theorem dX5_rank_8 : decode cX5_rank 8 = .ok (.iload_n 2, 1) := by decide +kernel
theorem dX5_rank_9 : decode cX5_rank 9 = .ok (.iconst 0, 1) := by decide +kernel
theorem dX5_rank_10 : decode cX5_rank 10 = .ok (.aload_n 0, 1) := by decide +kernel
theorem dX5_rank_11 : decode cX5_rank 11 = .ok (.getfield 11, 3) := by decide +kernel
theorem dX5_rank_14 : decode cX5_rank 14 = .ok (.iload_n 1, 1) := by decide +kernel
theorem dX5_rank_15 : decode cX5_rank 15 = .ok (.aaload, 1) := by decide +kernel
theorem dX5_rank_16 : decode cX5_rank 16 = .ok (.getfield 56, 3) := by decide +kernel
theorem dX5_rank_19 : decode cX5_rank 19 = .ok (.invokestatic 52, 3) := by decide +kernel
theorem dX5_rank_22 : decode cX5_rank 22 = .ok (.ifCond .ne 5, 3) := by decide +kernel
theorem dX5_rank_25 : decode cX5_rank 25 = .ok (.iconst (-1), 1) := by decide +kernel
theorem dX5_rank_26 : decode cX5_rank 26 = .ok (.ireturn, 1) := by decide +kernel
theorem dX5_rank_27 : decode cX5_rank 27 = .ok (.aload_n 0, 1) := by decide +kernel
theorem dX5_rank_28 : decode cX5_rank 28 = .ok (.getfield 11, 3) := by decide +kernel
theorem dX5_rank_31 : decode cX5_rank 31 = .ok (.iload_n 1, 1) := by decide +kernel
theorem dX5_rank_32 : decode cX5_rank 32 = .ok (.aaload, 1) := by decide +kernel
theorem dX5_rank_33 : decode cX5_rank 33 = .ok (.iload_n 2, 1) := by decide +kernel
theorem dX5_rank_34 : decode cX5_rank 34 = .ok (.invokevirtual 158, 3) := by decide +kernel
theorem dX5_rank_37 : decode cX5_rank 37 = .ok (.ireturn, 1) := by decide +kernel
theorem dX5_select_0 : decode cX5_select 0 = .ok (.aload_n 0, 1) := by decide +kernel
theorem dX5_select_1 : decode cX5_select 1 = .ok (.iload_n 1, 1) := by decide +kernel
theorem dX5_select_2 : decode cX5_select 2 = .ok (.invokevirtual 45, 3) := by decide +kernel
theorem dX5_select_5 : decode cX5_select 5 = .ok (.ifCond .eq 7, 3) := by decide +kernel
theorem dX5_select_8 : decode cX5_select 8 = .ok (.iload_n 2, 1) := by decide +kernel
theorem dX5_select_9 : decode cX5_select 9 = .ok (.ifCond .ge 5, 3) := by decide +kernel
theorem dX5_select_12 : decode cX5_select 12 = .ok (.iconst (-1), 1) := by decide +kernel
theorem dX5_select_13 : decode cX5_select 13 = .ok (.ireturn, 1) := by decide +kernel
theorem dX5_select_14 : decode cX5_select 14 = .ok (.aload_n 0, 1) := by decide +kernel
theorem dX5_select_15 : decode cX5_select 15 = .ok (.getfield 11, 3) := by decide +kernel
theorem dX5_select_18 : decode cX5_select 18 = .ok (.iload_n 1, 1) := by decide +kernel
theorem dX5_select_19 : decode cX5_select 19 = .ok (.aaload, 1) := by decide +kernel
theorem dX5_select_20 : decode cX5_select 20 = .ok (.iload_n 2, 1) := by decide +kernel
theorem dX5_select_21 : decode cX5_select 21 = .ok (.invokevirtual 161, 3) := by decide +kernel
theorem dX5_select_24 : decode cX5_select 24 = .ok (.ireturn, 1) := by decide +kernel
theorem dX5_would_0 : decode cX5_would 0 = .ok (.iload_n 1, 1) := by decide +kernel
theorem dX5_would_1 : decode cX5_would 1 = .ok (.invokestatic 84, 3) := by decide +kernel
theorem dX5_would_4 : decode cX5_would 4 = .ok (.ifCond .eq 29, 3) := by decide +kernel
theorem dX5_would_7 : decode cX5_would 7 = .ok (.aload_n 0, 1) := by decide +kernel
theorem dX5_would_8 : decode cX5_would 8 = .ok (.iload_n 2, 1) := by decide +kernel
theorem dX5_would_9 : decode cX5_would 9 = .ok (.invokevirtual 45, 3) := by decide +kernel
theorem dX5_would_12 : decode cX5_would 12 = .ok (.ifCond .eq 21, 3) := by decide +kernel
theorem dX5_would_15 : decode cX5_would 15 = .ok (.aload_n 0, 1) := by decide +kernel
theorem dX5_would_16 : decode cX5_would 16 = .ok (.iload_n 3, 1) := by decide +kernel
theorem dX5_would_17 : decode cX5_would 17 = .ok (.invokevirtual 45, 3) := by decide +kernel
theorem dX5_would_20 : decode cX5_would 20 = .ok (.ifCond .eq 13, 3) := by decide +kernel
theorem dX5_would_23 : decode cX5_would 23 = .ok (.iload 4, 2) := by decide +kernel
theorem dX5_would_25 : decode cX5_would 25 = .ok (.iconst 0, 1) := by decide +kernel
theorem dX5_would_26 : decode cX5_would 26 = .ok (.iconst 2, 1) := by decide +kernel
theorem dX5_would_27 : decode cX5_would 27 = .ok (.invokestatic 52, 3) := by decide +kernel
theorem dX5_would_30 : decode cX5_would 30 = .ok (.ifCond .ne 5, 3) := by decide +kernel
theorem dX5_would_33 : decode cX5_would 33 = .ok (.iconst (-1), 1) := by decide +kernel
theorem dX5_would_34 : decode cX5_would 34 = .ok (.ireturn, 1) := by decide +kernel
theorem dX5_would_35 : decode cX5_would 35 = .ok (.iload 4, 2) := by decide +kernel
theorem dX5_would_37 : decode cX5_would 37 = .ok (.ifCond .ne 19, 3) := by decide +kernel
theorem dX5_would_40 : decode cX5_would 40 = .ok (.aload_n 0, 1) := by decide +kernel
theorem dX5_would_41 : decode cX5_would 41 = .ok (.getfield 11, 3) := by decide +kernel
theorem dX5_would_44 : decode cX5_would 44 = .ok (.iload_n 2, 1) := by decide +kernel
theorem dX5_would_45 : decode cX5_would 45 = .ok (.aaload, 1) := by decide +kernel
theorem dX5_would_46 : decode cX5_would 46 = .ok (.aload_n 0, 1) := by decide +kernel
theorem dX5_would_47 : decode cX5_would 47 = .ok (.getfield 11, 3) := by decide +kernel
theorem dX5_would_50 : decode cX5_would 50 = .ok (.iload_n 3, 1) := by decide +kernel
theorem dX5_would_51 : decode cX5_would 51 = .ok (.aaload, 1) := by decide +kernel
theorem dX5_would_52 : decode cX5_would 52 = .ok (.invokestatic 87, 3) := by decide +kernel
theorem dX5_would_55 : decode cX5_would 55 = .ok (.ireturn, 1) := by decide +kernel
theorem dX5_would_56 : decode cX5_would 56 = .ok (.aload_n 0, 1) := by decide +kernel
theorem dX5_would_57 : decode cX5_would 57 = .ok (.getfield 30, 3) := by decide +kernel
theorem dX5_would_60 : decode cX5_would 60 = .ok (.iload_n 1, 1) := by decide +kernel
theorem dX5_would_61 : decode cX5_would 61 = .ok (.aload_n 0, 1) := by decide +kernel
theorem dX5_would_62 : decode cX5_would 62 = .ok (.getfield 11, 3) := by decide +kernel
theorem dX5_would_65 : decode cX5_would 65 = .ok (.iload_n 2, 1) := by decide +kernel
theorem dX5_would_66 : decode cX5_would 66 = .ok (.aaload, 1) := by decide +kernel
theorem dX5_would_67 : decode cX5_would 67 = .ok (.aload_n 0, 1) := by decide +kernel
theorem dX5_would_68 : decode cX5_would 68 = .ok (.getfield 11, 3) := by decide +kernel
theorem dX5_would_71 : decode cX5_would 71 = .ok (.iload_n 3, 1) := by decide +kernel
theorem dX5_would_72 : decode cX5_would 72 = .ok (.aaload, 1) := by decide +kernel
theorem dX5_would_73 : decode cX5_would 73 = .ok (.invokevirtual 91, 3) := by decide +kernel
theorem dX5_would_76 : decode cX5_would 76 = .ok (.iload 4, 2) := by decide +kernel
theorem dX5_would_78 : decode cX5_would 78 = .ok (.iconst 1, 1) := by decide +kernel
theorem dX5_would_79 : decode cX5_would 79 = .ok (.if_icmp .ne 13, 3) := by decide +kernel
theorem dX5_would_82 : decode cX5_would 82 = .ok (.aload_n 0, 1) := by decide +kernel
theorem dX5_would_83 : decode cX5_would 83 = .ok (.getfield 30, 3) := by decide +kernel
theorem dX5_would_86 : decode cX5_would 86 = .ok (.invokestatic 67, 3) := by decide +kernel
theorem dX5_would_89 : decode cX5_would 89 = .ok (.goto 10, 3) := by decide +kernel
theorem dX5_would_92 : decode cX5_would 92 = .ok (.aload_n 0, 1) := by decide +kernel
theorem dX5_would_93 : decode cX5_would 93 = .ok (.getfield 30, 3) := by decide +kernel
theorem dX5_would_96 : decode cX5_would 96 = .ok (.invokevirtual 98, 3) := by decide +kernel
theorem dX5_would_99 : decode cX5_would 99 = .ok (.ireturn, 1) := by decide +kernel
theorem dX5_same_0 : decode cX5_same 0 = .ok (.aload_n 0, 1) := by decide +kernel
theorem dX5_same_1 : decode cX5_same 1 = .ok (.iload_n 1, 1) := by decide +kernel
theorem dX5_same_2 : decode cX5_same 2 = .ok (.invokevirtual 45, 3) := by decide +kernel
theorem dX5_same_5 : decode cX5_same 5 = .ok (.ifCond .ne 5, 3) := by decide +kernel
theorem dX5_same_8 : decode cX5_same 8 = .ok (.iconst (-1), 1) := by decide +kernel
theorem dX5_same_9 : decode cX5_same 9 = .ok (.ireturn, 1) := by decide +kernel
theorem dX5_same_10 : decode cX5_same 10 = .ok (.iconst 0, 1) := by decide +kernel
theorem dX5_same_11 : decode cX5_same 11 = .ok (.istore_n 2, 1) := by decide +kernel
theorem dX5_same_12 : decode cX5_same 12 = .ok (.iload_n 2, 1) := by decide +kernel
theorem dX5_same_13 : decode cX5_same 13 = .ok (.iload_n 1, 1) := by decide +kernel
theorem dX5_same_14 : decode cX5_same 14 = .ok (.if_icmp .ge 29, 3) := by decide +kernel
theorem dX5_same_17 : decode cX5_same 17 = .ok (.aload_n 0, 1) := by decide +kernel
theorem dX5_same_18 : decode cX5_same 18 = .ok (.getfield 11, 3) := by decide +kernel
theorem dX5_same_21 : decode cX5_same 21 = .ok (.iload_n 2, 1) := by decide +kernel
theorem dX5_same_22 : decode cX5_same 22 = .ok (.aaload, 1) := by decide +kernel
theorem dX5_same_23 : decode cX5_same 23 = .ok (.aload_n 0, 1) := by decide +kernel
theorem dX5_same_24 : decode cX5_same 24 = .ok (.getfield 11, 3) := by decide +kernel
theorem dX5_same_27 : decode cX5_same 27 = .ok (.iload_n 1, 1) := by decide +kernel
theorem dX5_same_28 : decode cX5_same 28 = .ok (.aaload, 1) := by decide +kernel
theorem dX5_same_29 : decode cX5_same 29 = .ok (.invokevirtual 164, 3) := by decide +kernel
theorem dX5_same_32 : decode cX5_same 32 = .ok (.ifCond .eq 5, 3) := by decide +kernel
theorem dX5_same_35 : decode cX5_same 35 = .ok (.iload_n 2, 1) := by decide +kernel
theorem dX5_same_36 : decode cX5_same 36 = .ok (.ireturn, 1) := by decide +kernel
theorem dX5_same_37 : decode cX5_same 37 = .ok (.iinc 2 1, 3) := by decide +kernel
theorem dX5_same_40 : decode cX5_same 40 = .ok (.goto (-28), 3) := by decide +kernel
theorem dX5_same_43 : decode cX5_same 43 = .ok (.iload_n 1, 1) := by decide +kernel
theorem dX5_same_44 : decode cX5_same 44 = .ok (.ireturn, 1) := by decide +kernel
theorem dX5_bestShift_0 : decode cX5_bestShift 0 = .ok (.aload_n 0, 1) := by decide +kernel
theorem dX5_bestShift_1 : decode cX5_bestShift 1 = .ok (.iload_n 1, 1) := by decide +kernel
theorem dX5_bestShift_2 : decode cX5_bestShift 2 = .ok (.invokevirtual 45, 3) := by decide +kernel
theorem dX5_bestShift_5 : decode cX5_bestShift 5 = .ok (.ifCond .ne 5, 3) := by decide +kernel
theorem dX5_bestShift_8 : decode cX5_bestShift 8 = .ok (.iconst (-1), 1) := by decide +kernel
theorem dX5_bestShift_9 : decode cX5_bestShift 9 = .ok (.ireturn, 1) := by decide +kernel
theorem dX5_bestShift_10 : decode cX5_bestShift 10 = .ok (.iconst 0, 1) := by decide +kernel
theorem dX5_bestShift_11 : decode cX5_bestShift 11 = .ok (.istore_n 2, 1) := by decide +kernel
theorem dX5_bestShift_12 : decode cX5_bestShift 12 = .ok (.aload_n 0, 1) := by decide +kernel
theorem dX5_bestShift_13 : decode cX5_bestShift 13 = .ok (.getfield 11, 3) := by decide +kernel
theorem dX5_bestShift_16 : decode cX5_bestShift 16 = .ok (.iload_n 1, 1) := by decide +kernel
theorem dX5_bestShift_17 : decode cX5_bestShift 17 = .ok (.aaload, 1) := by decide +kernel
theorem dX5_bestShift_18 : decode cX5_bestShift 18 = .ok (.invokestatic 67, 3) := by decide +kernel
theorem dX5_bestShift_21 : decode cX5_bestShift 21 = .ok (.istore_n 3, 1) := by decide +kernel
theorem dX5_bestShift_22 : decode cX5_bestShift 22 = .ok (.iconst 1, 1) := by decide +kernel
theorem dX5_bestShift_23 : decode cX5_bestShift 23 = .ok (.istore 4, 2) := by decide +kernel
theorem dX5_bestShift_25 : decode cX5_bestShift 25 = .ok (.iload 4, 2) := by decide +kernel
theorem dX5_bestShift_27 : decode cX5_bestShift 27 = .ok (.bipush 15, 2) := by decide +kernel
theorem dX5_bestShift_29 : decode cX5_bestShift 29 = .ok (.if_icmp .ge 45, 3) := by decide +kernel
theorem dX5_bestShift_32 : decode cX5_bestShift 32 = .ok (.aload_n 0, 1) := by decide +kernel
theorem dX5_bestShift_33 : decode cX5_bestShift 33 = .ok (.getfield 30, 3) := by decide +kernel
theorem dX5_bestShift_36 : decode cX5_bestShift 36 = .ok (.aload_n 0, 1) := by decide +kernel
theorem dX5_bestShift_37 : decode cX5_bestShift 37 = .ok (.getfield 11, 3) := by decide +kernel
theorem dX5_bestShift_40 : decode cX5_bestShift 40 = .ok (.iload_n 1, 1) := by decide +kernel
theorem dX5_bestShift_41 : decode cX5_bestShift 41 = .ok (.aaload, 1) := by decide +kernel
theorem dX5_bestShift_42 : decode cX5_bestShift 42 = .ok (.iload 4, 2) := by decide +kernel
theorem dX5_bestShift_44 : decode cX5_bestShift 44 = .ok (.invokevirtual 102, 3) := by decide +kernel
theorem dX5_bestShift_47 : decode cX5_bestShift 47 = .ok (.aload_n 0, 1) := by decide +kernel
theorem dX5_bestShift_48 : decode cX5_bestShift 48 = .ok (.getfield 30, 3) := by decide +kernel
theorem dX5_bestShift_51 : decode cX5_bestShift 51 = .ok (.invokestatic 67, 3) := by decide +kernel
theorem dX5_bestShift_54 : decode cX5_bestShift 54 = .ok (.istore 5, 2) := by decide +kernel
theorem dX5_bestShift_56 : decode cX5_bestShift 56 = .ok (.iload 5, 2) := by decide +kernel
theorem dX5_bestShift_58 : decode cX5_bestShift 58 = .ok (.iload_n 3, 1) := by decide +kernel
theorem dX5_bestShift_59 : decode cX5_bestShift 59 = .ok (.if_icmp .ge 9, 3) := by decide +kernel
theorem dX5_bestShift_62 : decode cX5_bestShift 62 = .ok (.iload 5, 2) := by decide +kernel
theorem dX5_bestShift_64 : decode cX5_bestShift 64 = .ok (.istore_n 3, 1) := by decide +kernel
theorem dX5_bestShift_65 : decode cX5_bestShift 65 = .ok (.iload 4, 2) := by decide +kernel
theorem dX5_bestShift_67 : decode cX5_bestShift 67 = .ok (.istore_n 2, 1) := by decide +kernel
theorem dX5_bestShift_68 : decode cX5_bestShift 68 = .ok (.iinc 4 1, 3) := by decide +kernel
theorem dX5_bestShift_71 : decode cX5_bestShift 71 = .ok (.goto (-46), 3) := by decide +kernel
theorem dX5_bestShift_74 : decode cX5_bestShift 74 = .ok (.iload_n 2, 1) := by decide +kernel
theorem dX5_bestShift_75 : decode cX5_bestShift 75 = .ok (.ireturn, 1) := by decide +kernel
theorem dX5_record_0 : decode cX5_record 0 = .ok (.aload_n 0, 1) := by decide +kernel
theorem dX5_record_1 : decode cX5_record 1 = .ok (.getfield 18, 3) := by decide +kernel
theorem dX5_record_4 : decode cX5_record 4 = .ok (.aload_n 0, 1) := by decide +kernel
theorem dX5_record_5 : decode cX5_record 5 = .ok (.getfield 34, 3) := by decide +kernel
theorem dX5_record_8 : decode cX5_record 8 = .ok (.iload_n 1, 1) := by decide +kernel
theorem dX5_record_9 : decode cX5_record 9 = .ok (.aload_n 0, 1) := by decide +kernel
theorem dX5_record_10 : decode cX5_record 10 = .ok (.getfield 11, 3) := by decide +kernel
theorem dX5_record_13 : decode cX5_record 13 = .ok (.iload_n 1, 1) := by decide +kernel
theorem dX5_record_14 : decode cX5_record 14 = .ok (.aaload, 1) := by decide +kernel
theorem dX5_record_15 : decode cX5_record 15 = .ok (.invokevirtual 168, 3) := by decide +kernel
theorem dX5_record_18 : decode cX5_record 18 = .ok (.return_, 1) := by decide +kernel
theorem dX5_sum_0 : decode cX5_sum 0 = .ok (.iconst 0, 1) := by decide +kernel
theorem dX5_sum_1 : decode cX5_sum 1 = .ok (.istore_n 2, 1) := by decide +kernel
theorem dX5_sum_2 : decode cX5_sum 2 = .ok (.iconst 0, 1) := by decide +kernel
theorem dX5_sum_3 : decode cX5_sum 3 = .ok (.istore_n 3, 1) := by decide +kernel
theorem dX5_sum_4 : decode cX5_sum 4 = .ok (.iload_n 3, 1) := by decide +kernel
theorem dX5_sum_5 : decode cX5_sum 5 = .ok (.aload_n 0, 1) := by decide +kernel
theorem dX5_sum_6 : decode cX5_sum 6 = .ok (.getfield 34, 3) := by decide +kernel
theorem dX5_sum_9 : decode cX5_sum 9 = .ok (.if_icmp .ge 22, 3) := by decide +kernel
theorem dX5_sum_12 : decode cX5_sum 12 = .ok (.iload_n 2, 1) := by decide +kernel
theorem dX5_sum_13 : decode cX5_sum 13 = .ok (.aload_n 0, 1) := by decide +kernel
theorem dX5_sum_14 : decode cX5_sum 14 = .ok (.getfield 11, 3) := by decide +kernel
theorem dX5_sum_17 : decode cX5_sum 17 = .ok (.iload_n 3, 1) := by decide +kernel
theorem dX5_sum_18 : decode cX5_sum 18 = .ok (.aaload, 1) := by decide +kernel
theorem dX5_sum_19 : decode cX5_sum 19 = .ok (.iload_n 1, 1) := by decide +kernel
theorem dX5_sum_20 : decode cX5_sum 20 = .ok (.invokestatic 151, 3) := by decide +kernel
theorem dX5_sum_23 : decode cX5_sum 23 = .ok (.iadd, 1) := by decide +kernel
theorem dX5_sum_24 : decode cX5_sum 24 = .ok (.istore_n 2, 1) := by decide +kernel
theorem dX5_sum_25 : decode cX5_sum 25 = .ok (.iinc 3 1, 3) := by decide +kernel
theorem dX5_sum_28 : decode cX5_sum 28 = .ok (.goto (-24), 3) := by decide +kernel
theorem dX5_sum_31 : decode cX5_sum 31 = .ok (.iload_n 2, 1) := by decide +kernel
theorem dX5_sum_32 : decode cX5_sum 32 = .ok (.ireturn, 1) := by decide +kernel
theorem dX5_property_0 : decode cX5_property 0 = .ok (.iload_n 1, 1) := by decide +kernel
theorem dX5_property_1 : decode cX5_property 1 = .ok (.tableswitch 83 0 6 #[43, 48, 53, 58, 64, 72, 77], 43) := by decide +kernel
theorem dX5_property_44 : decode cX5_property 44 = .ok (.aload_n 0, 1) := by decide +kernel
theorem dX5_property_45 : decode cX5_property 45 = .ok (.getfield 56, 3) := by decide +kernel
theorem dX5_property_48 : decode cX5_property 48 = .ok (.ireturn, 1) := by decide +kernel
theorem dX5_property_49 : decode cX5_property 49 = .ok (.aload_n 0, 1) := by decide +kernel
theorem dX5_property_50 : decode cX5_property 50 = .ok (.invokestatic 67, 3) := by decide +kernel
theorem dX5_property_53 : decode cX5_property 53 = .ok (.ireturn, 1) := by decide +kernel
theorem dX5_property_54 : decode cX5_property 54 = .ok (.aload_n 0, 1) := by decide +kernel
theorem dX5_property_55 : decode cX5_property 55 = .ok (.invokestatic 172, 3) := by decide +kernel
theorem dX5_property_58 : decode cX5_property 58 = .ok (.ireturn, 1) := by decide +kernel
theorem dX5_property_59 : decode cX5_property 59 = .ok (.aload_n 0, 1) := by decide +kernel
theorem dX5_property_60 : decode cX5_property 60 = .ok (.iconst 0, 1) := by decide +kernel
theorem dX5_property_61 : decode cX5_property 61 = .ok (.invokestatic 175, 3) := by decide +kernel
theorem dX5_property_64 : decode cX5_property 64 = .ok (.ireturn, 1) := by decide +kernel
theorem dX5_property_65 : decode cX5_property 65 = .ok (.aload_n 0, 1) := by decide +kernel
theorem dX5_property_66 : decode cX5_property 66 = .ok (.sipush 32767, 3) := by decide +kernel
theorem dX5_property_69 : decode cX5_property 69 = .ok (.invokestatic 175, 3) := by decide +kernel
theorem dX5_property_72 : decode cX5_property 72 = .ok (.ireturn, 1) := by decide +kernel
theorem dX5_property_73 : decode cX5_property 73 = .ok (.aload_n 0, 1) := by decide +kernel
theorem dX5_property_74 : decode cX5_property 74 = .ok (.invokevirtual 98, 3) := by decide +kernel
theorem dX5_property_77 : decode cX5_property 77 = .ok (.ireturn, 1) := by decide +kernel
theorem dX5_property_78 : decode cX5_property 78 = .ok (.aload_n 0, 1) := by decide +kernel
theorem dX5_property_79 : decode cX5_property 79 = .ok (.iconst 0, 1) := by decide +kernel
theorem dX5_property_80 : decode cX5_property 80 = .ok (.invokevirtual 161, 3) := by decide +kernel
theorem dX5_property_83 : decode cX5_property 83 = .ok (.ireturn, 1) := by decide +kernel
theorem dX5_property_84 : decode cX5_property 84 = .ok (.aload_n 0, 1) := by decide +kernel
theorem dX5_property_85 : decode cX5_property 85 = .ok (.aload_n 0, 1) := by decide +kernel
theorem dX5_property_86 : decode cX5_property 86 = .ok (.invokevirtual 98, 3) := by decide +kernel
theorem dX5_property_89 : decode cX5_property 89 = .ok (.iconst 1, 1) := by decide +kernel
theorem dX5_property_90 : decode cX5_property 90 = .ok (.isub, 1) := by decide +kernel
theorem dX5_property_91 : decode cX5_property 91 = .ok (.invokevirtual 161, 3) := by decide +kernel
theorem dX5_property_94 : decode cX5_property 94 = .ok (.ireturn, 1) := by decide +kernel
theorem dX5_isRow_0 : decode cX5_isRow 0 = .ok (.iload_n 1, 1) := by decide +kernel
theorem dX5_isRow_1 : decode cX5_isRow 1 = .ok (.iconst 0, 1) := by decide +kernel
theorem dX5_isRow_2 : decode cX5_isRow 2 = .ok (.aload_n 0, 1) := by decide +kernel
theorem dX5_isRow_3 : decode cX5_isRow 3 = .ok (.getfield 34, 3) := by decide +kernel
theorem dX5_isRow_6 : decode cX5_isRow 6 = .ok (.iconst 1, 1) := by decide +kernel
theorem dX5_isRow_7 : decode cX5_isRow 7 = .ok (.isub, 1) := by decide +kernel
theorem dX5_isRow_8 : decode cX5_isRow 8 = .ok (.invokestatic 52, 3) := by decide +kernel
theorem dX5_isRow_11 : decode cX5_isRow 11 = .ok (.ireturn, 1) := by decide +kernel
theorem dX5_isPlace_0 : decode cX5_isPlace 0 = .ok (.iload_n 2, 1) := by decide +kernel
theorem dX5_isPlace_1 : decode cX5_isPlace 1 = .ok (.iconst 0, 1) := by decide +kernel
theorem dX5_isPlace_2 : decode cX5_isPlace 2 = .ok (.aload_n 0, 1) := by decide +kernel
theorem dX5_isPlace_3 : decode cX5_isPlace 3 = .ok (.getfield 11, 3) := by decide +kernel
theorem dX5_isPlace_6 : decode cX5_isPlace 6 = .ok (.iload_n 1, 1) := by decide +kernel
theorem dX5_isPlace_7 : decode cX5_isPlace 7 = .ok (.aaload, 1) := by decide +kernel
theorem dX5_isPlace_8 : decode cX5_isPlace 8 = .ok (.getfield 56, 3) := by decide +kernel
theorem dX5_isPlace_11 : decode cX5_isPlace 11 = .ok (.iconst 1, 1) := by decide +kernel
theorem dX5_isPlace_12 : decode cX5_isPlace 12 = .ok (.isub, 1) := by decide +kernel
theorem dX5_isPlace_13 : decode cX5_isPlace 13 = .ok (.invokestatic 52, 3) := by decide +kernel
theorem dX5_isPlace_16 : decode cX5_isPlace 16 = .ok (.ireturn, 1) := by decide +kernel
theorem dX5_isBit_0 : decode cX5_isBit 0 = .ok (.iload_n 0, 1) := by decide +kernel
theorem dX5_isBit_1 : decode cX5_isBit 1 = .ok (.iconst 0, 1) := by decide +kernel
theorem dX5_isBit_2 : decode cX5_isBit 2 = .ok (.iconst 1, 1) := by decide +kernel
theorem dX5_isBit_3 : decode cX5_isBit 3 = .ok (.invokestatic 52, 3) := by decide +kernel
theorem dX5_isBit_6 : decode cX5_isBit 6 = .ok (.ireturn, 1) := by decide +kernel
theorem dX5_isOperation_0 : decode cX5_isOperation 0 = .ok (.iload_n 0, 1) := by decide +kernel
theorem dX5_isOperation_1 : decode cX5_isOperation 1 = .ok (.iconst 0, 1) := by decide +kernel
theorem dX5_isOperation_2 : decode cX5_isOperation 2 = .ok (.iconst 3, 1) := by decide +kernel
theorem dX5_isOperation_3 : decode cX5_isOperation 3 = .ok (.invokestatic 52, 3) := by decide +kernel
theorem dX5_isOperation_6 : decode cX5_isOperation 6 = .ok (.ireturn, 1) := by decide +kernel
theorem dX5_isWithin_0 : decode cX5_isWithin 0 = .ok (.iload_n 0, 1) := by decide +kernel
theorem dX5_isWithin_1 : decode cX5_isWithin 1 = .ok (.iload_n 1, 1) := by decide +kernel
theorem dX5_isWithin_2 : decode cX5_isWithin 2 = .ok (.if_icmp .lt 12, 3) := by decide +kernel
theorem dX5_isWithin_5 : decode cX5_isWithin 5 = .ok (.iload_n 0, 1) := by decide +kernel
theorem dX5_isWithin_6 : decode cX5_isWithin 6 = .ok (.iload_n 2, 1) := by decide +kernel
theorem dX5_isWithin_7 : decode cX5_isWithin 7 = .ok (.if_icmp .gt 7, 3) := by decide +kernel
theorem dX5_isWithin_10 : decode cX5_isWithin 10 = .ok (.iconst 1, 1) := by decide +kernel
theorem dX5_isWithin_11 : decode cX5_isWithin 11 = .ok (.goto 4, 3) := by decide +kernel
theorem dX5_isWithin_14 : decode cX5_isWithin 14 = .ok (.iconst 0, 1) := by decide +kernel
theorem dX5_isWithin_15 : decode cX5_isWithin 15 = .ok (.ireturn, 1) := by decide +kernel
theorem dJ6_bitCount_0f7a4_0 : decode cJ6_bitCount_0f7a4 0 = .ok (.iload_n 0, 1) := by decide +kernel
theorem dJ6_bitCount_0f7a4_1 : decode cJ6_bitCount_0f7a4 1 = .ok (.iload_n 0, 1) := by decide +kernel
theorem dJ6_bitCount_0f7a4_2 : decode cJ6_bitCount_0f7a4 2 = .ok (.iconst 1, 1) := by decide +kernel
theorem dJ6_bitCount_0f7a4_3 : decode cJ6_bitCount_0f7a4 3 = .ok (.iushr, 1) := by decide +kernel
theorem dJ6_bitCount_0f7a4_4 : decode cJ6_bitCount_0f7a4 4 = .ok (.ldc_w 265, 3) := by decide +kernel
theorem dJ6_bitCount_0f7a4_7 : decode cJ6_bitCount_0f7a4 7 = .ok (.iand, 1) := by decide +kernel
theorem dJ6_bitCount_0f7a4_8 : decode cJ6_bitCount_0f7a4 8 = .ok (.isub, 1) := by decide +kernel
theorem dJ6_bitCount_0f7a4_9 : decode cJ6_bitCount_0f7a4 9 = .ok (.istore_n 0, 1) := by decide +kernel
theorem dJ6_bitCount_0f7a4_10 : decode cJ6_bitCount_0f7a4 10 = .ok (.iload_n 0, 1) := by decide +kernel
theorem dJ6_bitCount_0f7a4_11 : decode cJ6_bitCount_0f7a4 11 = .ok (.ldc_w 266, 3) := by decide +kernel
theorem dJ6_bitCount_0f7a4_14 : decode cJ6_bitCount_0f7a4 14 = .ok (.iand, 1) := by decide +kernel
theorem dJ6_bitCount_0f7a4_15 : decode cJ6_bitCount_0f7a4 15 = .ok (.iload_n 0, 1) := by decide +kernel
theorem dJ6_bitCount_0f7a4_16 : decode cJ6_bitCount_0f7a4 16 = .ok (.iconst 2, 1) := by decide +kernel
theorem dJ6_bitCount_0f7a4_17 : decode cJ6_bitCount_0f7a4 17 = .ok (.iushr, 1) := by decide +kernel
theorem dJ6_bitCount_0f7a4_18 : decode cJ6_bitCount_0f7a4 18 = .ok (.ldc_w 266, 3) := by decide +kernel
theorem dJ6_bitCount_0f7a4_21 : decode cJ6_bitCount_0f7a4 21 = .ok (.iand, 1) := by decide +kernel
theorem dJ6_bitCount_0f7a4_22 : decode cJ6_bitCount_0f7a4 22 = .ok (.iadd, 1) := by decide +kernel
theorem dJ6_bitCount_0f7a4_23 : decode cJ6_bitCount_0f7a4 23 = .ok (.istore_n 0, 1) := by decide +kernel
theorem dJ6_bitCount_0f7a4_24 : decode cJ6_bitCount_0f7a4 24 = .ok (.iload_n 0, 1) := by decide +kernel
theorem dJ6_bitCount_0f7a4_25 : decode cJ6_bitCount_0f7a4 25 = .ok (.iload_n 0, 1) := by decide +kernel
theorem dJ6_bitCount_0f7a4_26 : decode cJ6_bitCount_0f7a4 26 = .ok (.iconst 4, 1) := by decide +kernel
theorem dJ6_bitCount_0f7a4_27 : decode cJ6_bitCount_0f7a4 27 = .ok (.iushr, 1) := by decide +kernel
theorem dJ6_bitCount_0f7a4_28 : decode cJ6_bitCount_0f7a4 28 = .ok (.iadd, 1) := by decide +kernel
theorem dJ6_bitCount_0f7a4_29 : decode cJ6_bitCount_0f7a4 29 = .ok (.ldc_w 267, 3) := by decide +kernel
theorem dJ6_bitCount_0f7a4_32 : decode cJ6_bitCount_0f7a4 32 = .ok (.iand, 1) := by decide +kernel
theorem dJ6_bitCount_0f7a4_33 : decode cJ6_bitCount_0f7a4 33 = .ok (.istore_n 0, 1) := by decide +kernel
theorem dJ6_bitCount_0f7a4_34 : decode cJ6_bitCount_0f7a4 34 = .ok (.iload_n 0, 1) := by decide +kernel
theorem dJ6_bitCount_0f7a4_35 : decode cJ6_bitCount_0f7a4 35 = .ok (.iload_n 0, 1) := by decide +kernel
theorem dJ6_bitCount_0f7a4_36 : decode cJ6_bitCount_0f7a4 36 = .ok (.bipush 8, 2) := by decide +kernel
theorem dJ6_bitCount_0f7a4_38 : decode cJ6_bitCount_0f7a4 38 = .ok (.iushr, 1) := by decide +kernel
theorem dJ6_bitCount_0f7a4_39 : decode cJ6_bitCount_0f7a4 39 = .ok (.iadd, 1) := by decide +kernel
theorem dJ6_bitCount_0f7a4_40 : decode cJ6_bitCount_0f7a4 40 = .ok (.istore_n 0, 1) := by decide +kernel
theorem dJ6_bitCount_0f7a4_41 : decode cJ6_bitCount_0f7a4 41 = .ok (.iload_n 0, 1) := by decide +kernel
theorem dJ6_bitCount_0f7a4_42 : decode cJ6_bitCount_0f7a4 42 = .ok (.iload_n 0, 1) := by decide +kernel
theorem dJ6_bitCount_0f7a4_43 : decode cJ6_bitCount_0f7a4 43 = .ok (.bipush 16, 2) := by decide +kernel
theorem dJ6_bitCount_0f7a4_45 : decode cJ6_bitCount_0f7a4 45 = .ok (.iushr, 1) := by decide +kernel
theorem dJ6_bitCount_0f7a4_46 : decode cJ6_bitCount_0f7a4 46 = .ok (.iadd, 1) := by decide +kernel
theorem dJ6_bitCount_0f7a4_47 : decode cJ6_bitCount_0f7a4 47 = .ok (.istore_n 0, 1) := by decide +kernel
theorem dJ6_bitCount_0f7a4_48 : decode cJ6_bitCount_0f7a4 48 = .ok (.iload_n 0, 1) := by decide +kernel
theorem dJ6_bitCount_0f7a4_49 : decode cJ6_bitCount_0f7a4 49 = .ok (.bipush 63, 2) := by decide +kernel
theorem dJ6_bitCount_0f7a4_51 : decode cJ6_bitCount_0f7a4 51 = .ok (.iand, 1) := by decide +kernel
theorem dJ6_bitCount_0f7a4_52 : decode cJ6_bitCount_0f7a4 52 = .ok (.ireturn, 1) := by decide +kernel
theorem dJ9_floorDiv_7cf53_0 : decode cJ9_floorDiv_7cf53 0 = .ok (.iload_n 0, 1) := by decide +kernel
theorem dJ9_floorDiv_7cf53_1 : decode cJ9_floorDiv_7cf53 1 = .ok (.iload_n 1, 1) := by decide +kernel
theorem dJ9_floorDiv_7cf53_2 : decode cJ9_floorDiv_7cf53 2 = .ok (.idiv, 1) := by decide +kernel
theorem dJ9_floorDiv_7cf53_3 : decode cJ9_floorDiv_7cf53 3 = .ok (.istore_n 2, 1) := by decide +kernel
theorem dJ9_floorDiv_7cf53_4 : decode cJ9_floorDiv_7cf53 4 = .ok (.iload_n 0, 1) := by decide +kernel
theorem dJ9_floorDiv_7cf53_5 : decode cJ9_floorDiv_7cf53 5 = .ok (.iload_n 1, 1) := by decide +kernel
theorem dJ9_floorDiv_7cf53_6 : decode cJ9_floorDiv_7cf53 6 = .ok (.ixor, 1) := by decide +kernel
theorem dJ9_floorDiv_7cf53_7 : decode cJ9_floorDiv_7cf53 7 = .ok (.ifCond .ge 14, 3) := by decide +kernel
theorem dJ9_floorDiv_7cf53_10 : decode cJ9_floorDiv_7cf53 10 = .ok (.iload_n 2, 1) := by decide +kernel
theorem dJ9_floorDiv_7cf53_11 : decode cJ9_floorDiv_7cf53 11 = .ok (.iload_n 1, 1) := by decide +kernel
theorem dJ9_floorDiv_7cf53_12 : decode cJ9_floorDiv_7cf53 12 = .ok (.imul, 1) := by decide +kernel
theorem dJ9_floorDiv_7cf53_13 : decode cJ9_floorDiv_7cf53 13 = .ok (.iload_n 0, 1) := by decide +kernel
theorem dJ9_floorDiv_7cf53_14 : decode cJ9_floorDiv_7cf53 14 = .ok (.if_icmp .eq 7, 3) := by decide +kernel
theorem dJ9_floorDiv_7cf53_17 : decode cJ9_floorDiv_7cf53 17 = .ok (.iload_n 2, 1) := by decide +kernel
theorem dJ9_floorDiv_7cf53_18 : decode cJ9_floorDiv_7cf53 18 = .ok (.iconst 1, 1) := by decide +kernel
theorem dJ9_floorDiv_7cf53_19 : decode cJ9_floorDiv_7cf53 19 = .ok (.isub, 1) := by decide +kernel
theorem dJ9_floorDiv_7cf53_20 : decode cJ9_floorDiv_7cf53 20 = .ok (.ireturn, 1) := by decide +kernel
theorem dJ9_floorDiv_7cf53_21 : decode cJ9_floorDiv_7cf53 21 = .ok (.iload_n 2, 1) := by decide +kernel
theorem dJ9_floorDiv_7cf53_22 : decode cJ9_floorDiv_7cf53 22 = .ok (.ireturn, 1) := by decide +kernel
theorem dJ9_floorMod_7cf53_0 : decode cJ9_floorMod_7cf53 0 = .ok (.iload_n 0, 1) := by decide +kernel
theorem dJ9_floorMod_7cf53_1 : decode cJ9_floorMod_7cf53 1 = .ok (.iload_n 1, 1) := by decide +kernel
theorem dJ9_floorMod_7cf53_2 : decode cJ9_floorMod_7cf53 2 = .ok (.irem, 1) := by decide +kernel
theorem dJ9_floorMod_7cf53_3 : decode cJ9_floorMod_7cf53 3 = .ok (.istore_n 2, 1) := by decide +kernel
theorem dJ9_floorMod_7cf53_4 : decode cJ9_floorMod_7cf53 4 = .ok (.iload_n 0, 1) := by decide +kernel
theorem dJ9_floorMod_7cf53_5 : decode cJ9_floorMod_7cf53 5 = .ok (.iload_n 1, 1) := by decide +kernel
theorem dJ9_floorMod_7cf53_6 : decode cJ9_floorMod_7cf53 6 = .ok (.ixor, 1) := by decide +kernel
theorem dJ9_floorMod_7cf53_7 : decode cJ9_floorMod_7cf53 7 = .ok (.ifCond .ge 11, 3) := by decide +kernel
theorem dJ9_floorMod_7cf53_10 : decode cJ9_floorMod_7cf53 10 = .ok (.iload_n 2, 1) := by decide +kernel
theorem dJ9_floorMod_7cf53_11 : decode cJ9_floorMod_7cf53 11 = .ok (.ifCond .eq 7, 3) := by decide +kernel
theorem dJ9_floorMod_7cf53_14 : decode cJ9_floorMod_7cf53 14 = .ok (.iload_n 2, 1) := by decide +kernel
theorem dJ9_floorMod_7cf53_15 : decode cJ9_floorMod_7cf53 15 = .ok (.iload_n 1, 1) := by decide +kernel
theorem dJ9_floorMod_7cf53_16 : decode cJ9_floorMod_7cf53 16 = .ok (.iadd, 1) := by decide +kernel
theorem dJ9_floorMod_7cf53_17 : decode cJ9_floorMod_7cf53 17 = .ok (.ireturn, 1) := by decide +kernel
theorem dJ9_floorMod_7cf53_18 : decode cJ9_floorMod_7cf53 18 = .ok (.iload_n 2, 1) := by decide +kernel
theorem dJ9_floorMod_7cf53_19 : decode cJ9_floorMod_7cf53 19 = .ok (.ireturn, 1) := by decide +kernel
theorem dJ9_max_7cf53_0 : decode cJ9_max_7cf53 0 = .ok (.iload_n 0, 1) := by decide +kernel
theorem dJ9_max_7cf53_1 : decode cJ9_max_7cf53 1 = .ok (.iload_n 1, 1) := by decide +kernel
theorem dJ9_max_7cf53_2 : decode cJ9_max_7cf53 2 = .ok (.if_icmp .lt 7, 3) := by decide +kernel
theorem dJ9_max_7cf53_5 : decode cJ9_max_7cf53 5 = .ok (.iload_n 0, 1) := by decide +kernel
theorem dJ9_max_7cf53_6 : decode cJ9_max_7cf53 6 = .ok (.goto 4, 3) := by decide +kernel
theorem dJ9_max_7cf53_9 : decode cJ9_max_7cf53 9 = .ok (.iload_n 1, 1) := by decide +kernel
theorem dJ9_max_7cf53_10 : decode cJ9_max_7cf53 10 = .ok (.ireturn, 1) := by decide +kernel
theorem dJ9_min_7cf53_0 : decode cJ9_min_7cf53 0 = .ok (.iload_n 0, 1) := by decide +kernel
theorem dJ9_min_7cf53_1 : decode cJ9_min_7cf53 1 = .ok (.iload_n 1, 1) := by decide +kernel
theorem dJ9_min_7cf53_2 : decode cJ9_min_7cf53 2 = .ok (.if_icmp .gt 7, 3) := by decide +kernel
theorem dJ9_min_7cf53_5 : decode cJ9_min_7cf53 5 = .ok (.iload_n 0, 1) := by decide +kernel
theorem dJ9_min_7cf53_6 : decode cJ9_min_7cf53 6 = .ok (.goto 4, 3) := by decide +kernel
theorem dJ9_min_7cf53_9 : decode cJ9_min_7cf53 9 = .ok (.iload_n 1, 1) := by decide +kernel
theorem dJ9_min_7cf53_10 : decode cJ9_min_7cf53 10 = .ok (.ireturn, 1) := by decide +kernel
theorem dL_cell_0 : decode cL_cell 0 = .ok (.iload_n 1, 1) := by decide +kernel
theorem dL_cell_1 : decode cL_cell 1 = .ok (.aload_n 0, 1) := by decide +kernel
theorem dL_cell_2 : decode cL_cell 2 = .ok (.arraylength, 1) := by decide +kernel
theorem dL_cell_3 : decode cL_cell 3 = .ok (.if_icmp .ge 9, 3) := by decide +kernel
theorem dL_cell_6 : decode cL_cell 6 = .ok (.aload_n 0, 1) := by decide +kernel
theorem dL_cell_7 : decode cL_cell 7 = .ok (.iload_n 1, 1) := by decide +kernel
theorem dL_cell_8 : decode cL_cell 8 = .ok (.iaload, 1) := by decide +kernel
theorem dL_cell_9 : decode cL_cell 9 = .ok (.goto 16, 3) := by decide +kernel
theorem dL_cell_12 : decode cL_cell 12 = .ok (.sipush 7919, 3) := by decide +kernel
theorem dL_cell_15 : decode cL_cell 15 = .ok (.iload_n 1, 1) := by decide +kernel
theorem dL_cell_16 : decode cL_cell 16 = .ok (.bipush 17, 2) := by decide +kernel
theorem dL_cell_18 : decode cL_cell 18 = .ok (.iadd, 1) := by decide +kernel
theorem dL_cell_19 : decode cL_cell 19 = .ok (.imul, 1) := by decide +kernel
theorem dL_cell_20 : decode cL_cell 20 = .ok (.iload_n 1, 1) := by decide +kernel
theorem dL_cell_21 : decode cL_cell 21 = .ok (.bipush 43, 2) := by decide +kernel
theorem dL_cell_23 : decode cL_cell 23 = .ok (.iadd, 1) := by decide +kernel
theorem dL_cell_24 : decode cL_cell 24 = .ok (.imul, 1) := by decide +kernel
theorem dL_cell_25 : decode cL_cell 25 = .ok (.ireturn, 1) := by decide +kernel
theorem dL_low_0 : decode cL_low 0 = .ok (.iload_n 0, 1) := by decide +kernel
theorem dL_low_1 : decode cL_low 1 = .ok (.ldc 7, 2) := by decide +kernel
theorem dL_low_3 : decode cL_low 3 = .ok (.iand, 1) := by decide +kernel
theorem dL_low_4 : decode cL_low 4 = .ok (.iload_n 1, 1) := by decide +kernel
theorem dL_low_5 : decode cL_low 5 = .ok (.irem, 1) := by decide +kernel
theorem dL_low_6 : decode cL_low 6 = .ok (.ireturn, 1) := by decide +kernel
theorem dL_all_0 : decode cL_all 0 = .ok (.ldc2_w 8, 3) := by decide +kernel
theorem dL_all_3 : decode cL_all 3 = .ok (.lstore_n 1, 1) := by decide +kernel
theorem dL_all_4 : decode cL_all 4 = .ok (.iconst 0, 1) := by decide +kernel
theorem dL_all_5 : decode cL_all 5 = .ok (.istore_n 3, 1) := by decide +kernel
theorem dL_all_6 : decode cL_all 6 = .ok (.iload_n 3, 1) := by decide +kernel
theorem dL_all_7 : decode cL_all 7 = .ok (.iconst 4, 1) := by decide +kernel
theorem dL_all_8 : decode cL_all 8 = .ok (.if_icmp .ge 22, 3) := by decide +kernel
theorem dL_all_11 : decode cL_all 11 = .ok (.ldc2_w 10, 3) := by decide +kernel
theorem dL_all_14 : decode cL_all 14 = .ok (.lload_n 1, 1) := by decide +kernel
theorem dL_all_15 : decode cL_all 15 = .ok (.lmul, 1) := by decide +kernel
theorem dL_all_16 : decode cL_all 16 = .ok (.aload_n 0, 1) := by decide +kernel
theorem dL_all_17 : decode cL_all 17 = .ok (.iload_n 3, 1) := by decide +kernel
theorem dL_all_18 : decode cL_all 18 = .ok (.invokevirtual 12, 3) := by decide +kernel
theorem dL_all_21 : decode cL_all 21 = .ok (.i2l, 1) := by decide +kernel
theorem dL_all_22 : decode cL_all 22 = .ok (.ladd, 1) := by decide +kernel
theorem dL_all_23 : decode cL_all 23 = .ok (.lstore_n 1, 1) := by decide +kernel
theorem dL_all_24 : decode cL_all 24 = .ok (.iinc 3 1, 3) := by decide +kernel
theorem dL_all_27 : decode cL_all 27 = .ok (.goto (-21), 3) := by decide +kernel
theorem dL_all_30 : decode cL_all 30 = .ok (.iconst 0, 1) := by decide +kernel
theorem dL_all_31 : decode cL_all 31 = .ok (.istore_n 3, 1) := by decide +kernel
theorem dL_all_32 : decode cL_all 32 = .ok (.iload_n 3, 1) := by decide +kernel
theorem dL_all_33 : decode cL_all 33 = .ok (.aload_n 0, 1) := by decide +kernel
theorem dL_all_34 : decode cL_all 34 = .ok (.iconst 0, 1) := by decide +kernel
theorem dL_all_35 : decode cL_all 35 = .ok (.invokevirtual 12, 3) := by decide +kernel
theorem dL_all_38 : decode cL_all 38 = .ok (.if_icmp .ge 75, 3) := by decide +kernel
theorem dL_all_41 : decode cL_all 41 = .ok (.iconst 0, 1) := by decide +kernel
theorem dL_all_42 : decode cL_all 42 = .ok (.istore 4, 2) := by decide +kernel
theorem dL_all_44 : decode cL_all 44 = .ok (.iload 4, 2) := by decide +kernel
theorem dL_all_46 : decode cL_all 46 = .ok (.bipush 8, 2) := by decide +kernel
theorem dL_all_48 : decode cL_all 48 = .ok (.if_icmp .ge 24, 3) := by decide +kernel
theorem dL_all_51 : decode cL_all 51 = .ok (.ldc2_w 10, 3) := by decide +kernel
theorem dL_all_54 : decode cL_all 54 = .ok (.lload_n 1, 1) := by decide +kernel
theorem dL_all_55 : decode cL_all 55 = .ok (.lmul, 1) := by decide +kernel
theorem dL_all_56 : decode cL_all 56 = .ok (.aload_n 0, 1) := by decide +kernel
theorem dL_all_57 : decode cL_all 57 = .ok (.iload_n 3, 1) := by decide +kernel
theorem dL_all_58 : decode cL_all 58 = .ok (.iload 4, 2) := by decide +kernel
theorem dL_all_60 : decode cL_all 60 = .ok (.invokevirtual 18, 3) := by decide +kernel
theorem dL_all_63 : decode cL_all 63 = .ok (.i2l, 1) := by decide +kernel
theorem dL_all_64 : decode cL_all 64 = .ok (.ladd, 1) := by decide +kernel
theorem dL_all_65 : decode cL_all 65 = .ok (.lstore_n 1, 1) := by decide +kernel
theorem dL_all_66 : decode cL_all 66 = .ok (.iinc 4 1, 3) := by decide +kernel
theorem dL_all_69 : decode cL_all 69 = .ok (.goto (-25), 3) := by decide +kernel
theorem dL_all_72 : decode cL_all 72 = .ok (.iconst 0, 1) := by decide +kernel
theorem dL_all_73 : decode cL_all 73 = .ok (.istore 4, 2) := by decide +kernel
theorem dL_all_75 : decode cL_all 75 = .ok (.iload 4, 2) := by decide +kernel
theorem dL_all_77 : decode cL_all 77 = .ok (.aload_n 0, 1) := by decide +kernel
theorem dL_all_78 : decode cL_all 78 = .ok (.iload_n 3, 1) := by decide +kernel
theorem dL_all_79 : decode cL_all 79 = .ok (.iconst 1, 1) := by decide +kernel
theorem dL_all_80 : decode cL_all 80 = .ok (.invokevirtual 18, 3) := by decide +kernel
theorem dL_all_83 : decode cL_all 83 = .ok (.if_icmp .ge 24, 3) := by decide +kernel
theorem dL_all_86 : decode cL_all 86 = .ok (.ldc2_w 10, 3) := by decide +kernel
theorem dL_all_89 : decode cL_all 89 = .ok (.lload_n 1, 1) := by decide +kernel
theorem dL_all_90 : decode cL_all 90 = .ok (.lmul, 1) := by decide +kernel
theorem dL_all_91 : decode cL_all 91 = .ok (.aload_n 0, 1) := by decide +kernel
theorem dL_all_92 : decode cL_all 92 = .ok (.iload_n 3, 1) := by decide +kernel
theorem dL_all_93 : decode cL_all 93 = .ok (.iload 4, 2) := by decide +kernel
theorem dL_all_95 : decode cL_all 95 = .ok (.invokevirtual 22, 3) := by decide +kernel
theorem dL_all_98 : decode cL_all 98 = .ok (.i2l, 1) := by decide +kernel
theorem dL_all_99 : decode cL_all 99 = .ok (.ladd, 1) := by decide +kernel
theorem dL_all_100 : decode cL_all 100 = .ok (.lstore_n 1, 1) := by decide +kernel
theorem dL_all_101 : decode cL_all 101 = .ok (.iinc 4 1, 3) := by decide +kernel
theorem dL_all_104 : decode cL_all 104 = .ok (.goto (-29), 3) := by decide +kernel
theorem dL_all_107 : decode cL_all 107 = .ok (.iinc 3 1, 3) := by decide +kernel
theorem dL_all_110 : decode cL_all 110 = .ok (.goto (-78), 3) := by decide +kernel
theorem dL_all_113 : decode cL_all 113 = .ok (.lload_n 1, 1) := by decide +kernel
theorem dL_all_114 : decode cL_all 114 = .ok (.lreturn, 1) := by decide +kernel
theorem dL_isPacked_0 : decode cL_isPacked 0 = .ok (.aload_n 0, 1) := by decide +kernel
theorem dL_isPacked_1 : decode cL_isPacked 1 = .ok (.iload_n 1, 1) := by decide +kernel
theorem dL_isPacked_2 : decode cL_isPacked 2 = .ok (.iconst 0, 1) := by decide +kernel
theorem dL_isPacked_3 : decode cL_isPacked 3 = .ok (.invokevirtual 18, 3) := by decide +kernel
theorem dL_isPacked_6 : decode cL_isPacked 6 = .ok (.istore_n 2, 1) := by decide +kernel
theorem dL_isPacked_7 : decode cL_isPacked 7 = .ok (.iconst 0, 1) := by decide +kernel
theorem dL_isPacked_8 : decode cL_isPacked 8 = .ok (.istore_n 3, 1) := by decide +kernel
theorem dL_isPacked_9 : decode cL_isPacked 9 = .ok (.iconst 0, 1) := by decide +kernel
theorem dL_isPacked_10 : decode cL_isPacked 10 = .ok (.istore 4, 2) := by decide +kernel
theorem dL_isPacked_12 : decode cL_isPacked 12 = .ok (.iconst (-1), 1) := by decide +kernel
theorem dL_isPacked_13 : decode cL_isPacked 13 = .ok (.istore 5, 2) := by decide +kernel
theorem dL_isPacked_15 : decode cL_isPacked 15 = .ok (.iconst 0, 1) := by decide +kernel
theorem dL_isPacked_16 : decode cL_isPacked 16 = .ok (.istore 6, 2) := by decide +kernel
theorem dL_isPacked_18 : decode cL_isPacked 18 = .ok (.iload 6, 2) := by decide +kernel
theorem dL_isPacked_20 : decode cL_isPacked 20 = .ok (.aload_n 0, 1) := by decide +kernel
theorem dL_isPacked_21 : decode cL_isPacked 21 = .ok (.iload_n 1, 1) := by decide +kernel
theorem dL_isPacked_22 : decode cL_isPacked 22 = .ok (.iconst 1, 1) := by decide +kernel
theorem dL_isPacked_23 : decode cL_isPacked 23 = .ok (.invokevirtual 18, 3) := by decide +kernel
theorem dL_isPacked_26 : decode cL_isPacked 26 = .ok (.if_icmp .ge 227, 3) := by decide +kernel
theorem dL_isPacked_29 : decode cL_isPacked 29 = .ok (.aload_n 0, 1) := by decide +kernel
theorem dL_isPacked_30 : decode cL_isPacked 30 = .ok (.iload_n 1, 1) := by decide +kernel
theorem dL_isPacked_31 : decode cL_isPacked 31 = .ok (.iload 6, 2) := by decide +kernel
theorem dL_isPacked_33 : decode cL_isPacked 33 = .ok (.invokevirtual 22, 3) := by decide +kernel
theorem dL_isPacked_36 : decode cL_isPacked 36 = .ok (.istore 7, 2) := by decide +kernel
theorem dL_isPacked_38 : decode cL_isPacked 38 = .ok (.iload 7, 2) := by decide +kernel
theorem dL_isPacked_40 : decode cL_isPacked 40 = .ok (.ldc 25, 2) := by decide +kernel
theorem dL_isPacked_42 : decode cL_isPacked 42 = .ok (.if_icmp .ge 7, 3) := by decide +kernel
theorem dL_isPacked_45 : decode cL_isPacked 45 = .ok (.iconst 2, 1) := by decide +kernel
theorem dL_isPacked_46 : decode cL_isPacked 46 = .ok (.goto 15, 3) := by decide +kernel
theorem dL_isPacked_49 : decode cL_isPacked 49 = .ok (.iload 7, 2) := by decide +kernel
theorem dL_isPacked_51 : decode cL_isPacked 51 = .ok (.ldc 26, 2) := by decide +kernel
theorem dL_isPacked_53 : decode cL_isPacked 53 = .ok (.if_icmp .ge 7, 3) := by decide +kernel
theorem dL_isPacked_56 : decode cL_isPacked 56 = .ok (.iconst 0, 1) := by decide +kernel
theorem dL_isPacked_57 : decode cL_isPacked 57 = .ok (.goto 4, 3) := by decide +kernel
theorem dL_isPacked_60 : decode cL_isPacked 60 = .ok (.iconst 1, 1) := by decide +kernel
theorem dL_isPacked_61 : decode cL_isPacked 61 = .ok (.istore 8, 2) := by decide +kernel
theorem dL_isPacked_63 : decode cL_isPacked 63 = .ok (.iload 8, 2) := by decide +kernel
theorem dL_isPacked_65 : decode cL_isPacked 65 = .ok (.iconst 2, 1) := by decide +kernel
theorem dL_isPacked_66 : decode cL_isPacked 66 = .ok (.if_icmp .ne 7, 3) := by decide +kernel
theorem dL_isPacked_69 : decode cL_isPacked 69 = .ok (.iconst 1, 1) := by decide +kernel
theorem dL_isPacked_70 : decode cL_isPacked 70 = .ok (.goto 9, 3) := by decide +kernel
theorem dL_isPacked_73 : decode cL_isPacked 73 = .ok (.iload 7, 2) := by decide +kernel
theorem dL_isPacked_75 : decode cL_isPacked 75 = .ok (.sipush 16384, 3) := by decide +kernel
theorem dL_isPacked_78 : decode cL_isPacked 78 = .ok (.irem, 1) := by decide +kernel
theorem dL_isPacked_79 : decode cL_isPacked 79 = .ok (.istore 9, 2) := by decide +kernel
theorem dL_isPacked_81 : decode cL_isPacked 81 = .ok (.iload 9, 2) := by decide +kernel
theorem dL_isPacked_83 : decode cL_isPacked 83 = .ok (.iconst 1, 1) := by decide +kernel
theorem dL_isPacked_84 : decode cL_isPacked 84 = .ok (.if_icmp .lt 42, 3) := by decide +kernel
theorem dL_isPacked_87 : decode cL_isPacked 87 = .ok (.iload 9, 2) := by decide +kernel
theorem dL_isPacked_89 : decode cL_isPacked 89 = .ok (.bipush 20, 2) := by decide +kernel
theorem dL_isPacked_91 : decode cL_isPacked 91 = .ok (.if_icmp .gt 35, 3) := by decide +kernel
theorem dL_isPacked_94 : decode cL_isPacked 94 = .ok (.iload 8, 2) := by decide +kernel
theorem dL_isPacked_96 : decode cL_isPacked 96 = .ok (.iconst 2, 1) := by decide +kernel
theorem dL_isPacked_97 : decode cL_isPacked 97 = .ok (.if_icmp .ne 16, 3) := by decide +kernel
theorem dL_isPacked_100 : decode cL_isPacked 100 = .ok (.iload 7, 2) := by decide +kernel
theorem dL_isPacked_102 : decode cL_isPacked 102 = .ok (.ifCond .eq 24, 3) := by decide +kernel
theorem dL_isPacked_105 : decode cL_isPacked 105 = .ok (.iload 7, 2) := by decide +kernel
theorem dL_isPacked_107 : decode cL_isPacked 107 = .ok (.sipush 32767, 3) := by decide +kernel
theorem dL_isPacked_110 : decode cL_isPacked 110 = .ok (.if_icmp .eq 16, 3) := by decide +kernel
theorem dL_isPacked_113 : decode cL_isPacked 113 = .ok (.iload 8, 2) := by decide +kernel
theorem dL_isPacked_115 : decode cL_isPacked 115 = .ok (.iconst 2, 1) := by decide +kernel
theorem dL_isPacked_116 : decode cL_isPacked 116 = .ok (.if_icmp .ge 12, 3) := by decide +kernel
theorem dL_isPacked_119 : decode cL_isPacked 119 = .ok (.iload 5, 2) := by decide +kernel
theorem dL_isPacked_121 : decode cL_isPacked 121 = .ok (.iload 8, 2) := by decide +kernel
theorem dL_isPacked_123 : decode cL_isPacked 123 = .ok (.if_icmp .ne 5, 3) := by decide +kernel
theorem dL_isPacked_126 : decode cL_isPacked 126 = .ok (.iconst 0, 1) := by decide +kernel
theorem dL_isPacked_127 : decode cL_isPacked 127 = .ok (.ireturn, 1) := by decide +kernel
theorem dL_isPacked_128 : decode cL_isPacked 128 = .ok (.iconst 0, 1) := by decide +kernel
theorem dL_isPacked_129 : decode cL_isPacked 129 = .ok (.istore 10, 2) := by decide +kernel
theorem dL_isPacked_131 : decode cL_isPacked 131 = .ok (.iload 10, 2) := by decide +kernel
theorem dL_isPacked_133 : decode cL_isPacked 133 = .ok (.bipush 15, 2) := by decide +kernel
theorem dL_isPacked_135 : decode cL_isPacked 135 = .ok (.iload 9, 2) := by decide +kernel
theorem dL_isPacked_137 : decode cL_isPacked 137 = .ok (.imul, 1) := by decide +kernel
theorem dL_isPacked_138 : decode cL_isPacked 138 = .ok (.if_icmp .ge 94, 3) := by decide +kernel
theorem dL_isPacked_141 : decode cL_isPacked 141 = .ok (.iload 8, 2) := by decide +kernel
theorem dL_isPacked_143 : decode cL_isPacked 143 = .ok (.iconst 2, 1) := by decide +kernel
theorem dL_isPacked_144 : decode cL_isPacked 144 = .ok (.if_icmp .ne 13, 3) := by decide +kernel
theorem dL_isPacked_147 : decode cL_isPacked 147 = .ok (.iload 7, 2) := by decide +kernel
theorem dL_isPacked_149 : decode cL_isPacked 149 = .ok (.iload 10, 2) := by decide +kernel
theorem dL_isPacked_151 : decode cL_isPacked 151 = .ok (.ishr, 1) := by decide +kernel
theorem dL_isPacked_152 : decode cL_isPacked 152 = .ok (.iconst 1, 1) := by decide +kernel
theorem dL_isPacked_153 : decode cL_isPacked 153 = .ok (.iand, 1) := by decide +kernel
theorem dL_isPacked_154 : decode cL_isPacked 154 = .ok (.goto 5, 3) := by decide +kernel
theorem dL_isPacked_157 : decode cL_isPacked 157 = .ok (.iload 8, 2) := by decide +kernel
theorem dL_isPacked_159 : decode cL_isPacked 159 = .ok (.istore 11, 2) := by decide +kernel
theorem dL_isPacked_161 : decode cL_isPacked 161 = .ok (.iload_n 3, 1) := by decide +kernel
theorem dL_isPacked_162 : decode cL_isPacked 162 = .ok (.iload_n 2, 1) := by decide +kernel
theorem dL_isPacked_163 : decode cL_isPacked 163 = .ok (.if_icmp .ge 45, 3) := by decide +kernel
theorem dL_isPacked_166 : decode cL_isPacked 166 = .ok (.aload_n 0, 1) := by decide +kernel
theorem dL_isPacked_167 : decode cL_isPacked 167 = .ok (.iload_n 1, 1) := by decide +kernel
theorem dL_isPacked_168 : decode cL_isPacked 168 = .ok (.iload_n 3, 1) := by decide +kernel
theorem dL_isPacked_169 : decode cL_isPacked 169 = .ok (.invokevirtual 27, 3) := by decide +kernel
theorem dL_isPacked_172 : decode cL_isPacked 172 = .ok (.iload 11, 2) := by decide +kernel
theorem dL_isPacked_174 : decode cL_isPacked 174 = .ok (.if_icmp .ne 40, 3) := by decide +kernel
theorem dL_isPacked_177 : decode cL_isPacked 177 = .ok (.aload_n 0, 1) := by decide +kernel
theorem dL_isPacked_178 : decode cL_isPacked 178 = .ok (.iload_n 1, 1) := by decide +kernel
theorem dL_isPacked_179 : decode cL_isPacked 179 = .ok (.iload_n 3, 1) := by decide +kernel
theorem dL_isPacked_180 : decode cL_isPacked 180 = .ok (.invokevirtual 30, 3) := by decide +kernel
theorem dL_isPacked_183 : decode cL_isPacked 183 = .ok (.iload 4, 2) := by decide +kernel
theorem dL_isPacked_185 : decode cL_isPacked 185 = .ok (.if_icmp .ne 29, 3) := by decide +kernel
theorem dL_isPacked_188 : decode cL_isPacked 188 = .ok (.iload 11, 2) := by decide +kernel
theorem dL_isPacked_190 : decode cL_isPacked 190 = .ok (.iconst 1, 1) := by decide +kernel
theorem dL_isPacked_191 : decode cL_isPacked 191 = .ok (.if_icmp .ne 25, 3) := by decide +kernel
theorem dL_isPacked_194 : decode cL_isPacked 194 = .ok (.aload_n 0, 1) := by decide +kernel
theorem dL_isPacked_195 : decode cL_isPacked 195 = .ok (.iload_n 1, 1) := by decide +kernel
theorem dL_isPacked_196 : decode cL_isPacked 196 = .ok (.iload 4, 2) := by decide +kernel
theorem dL_isPacked_198 : decode cL_isPacked 198 = .ok (.invokevirtual 33, 3) := by decide +kernel
theorem dL_isPacked_201 : decode cL_isPacked 201 = .ok (.iload_n 3, 1) := by decide +kernel
theorem dL_isPacked_202 : decode cL_isPacked 202 = .ok (.if_icmp .eq 14, 3) := by decide +kernel
theorem dL_isPacked_205 : decode cL_isPacked 205 = .ok (.goto 9, 3) := by decide +kernel
theorem dL_isPacked_208 : decode cL_isPacked 208 = .ok (.iload 11, 2) := by decide +kernel
theorem dL_isPacked_210 : decode cL_isPacked 210 = .ok (.iconst 1, 1) := by decide +kernel
theorem dL_isPacked_211 : decode cL_isPacked 211 = .ok (.if_icmp .ne 5, 3) := by decide +kernel
theorem dL_isPacked_214 : decode cL_isPacked 214 = .ok (.iconst 0, 1) := by decide +kernel
theorem dL_isPacked_215 : decode cL_isPacked 215 = .ok (.ireturn, 1) := by decide +kernel
theorem dL_isPacked_216 : decode cL_isPacked 216 = .ok (.iload 4, 2) := by decide +kernel
theorem dL_isPacked_218 : decode cL_isPacked 218 = .ok (.iload 11, 2) := by decide +kernel
theorem dL_isPacked_220 : decode cL_isPacked 220 = .ok (.iadd, 1) := by decide +kernel
theorem dL_isPacked_221 : decode cL_isPacked 221 = .ok (.istore 4, 2) := by decide +kernel
theorem dL_isPacked_223 : decode cL_isPacked 223 = .ok (.iinc 3 1, 3) := by decide +kernel
theorem dL_isPacked_226 : decode cL_isPacked 226 = .ok (.iinc 10 1, 3) := by decide +kernel
theorem dL_isPacked_229 : decode cL_isPacked 229 = .ok (.goto (-98), 3) := by decide +kernel
theorem dL_isPacked_232 : decode cL_isPacked 232 = .ok (.iload 9, 2) := by decide +kernel
theorem dL_isPacked_234 : decode cL_isPacked 234 = .ok (.bipush 20, 2) := by decide +kernel
theorem dL_isPacked_236 : decode cL_isPacked 236 = .ok (.if_icmp .ne 7, 3) := by decide +kernel
theorem dL_isPacked_239 : decode cL_isPacked 239 = .ok (.iconst (-1), 1) := by decide +kernel
theorem dL_isPacked_240 : decode cL_isPacked 240 = .ok (.goto 5, 3) := by decide +kernel
theorem dL_isPacked_243 : decode cL_isPacked 243 = .ok (.iload 8, 2) := by decide +kernel
theorem dL_isPacked_245 : decode cL_isPacked 245 = .ok (.istore 5, 2) := by decide +kernel
theorem dL_isPacked_247 : decode cL_isPacked 247 = .ok (.iinc 6 1, 3) := by decide +kernel
theorem dL_isPacked_250 : decode cL_isPacked 250 = .ok (.goto (-232), 3) := by decide +kernel
theorem dL_isPacked_253 : decode cL_isPacked 253 = .ok (.iload_n 3, 1) := by decide +kernel
theorem dL_isPacked_254 : decode cL_isPacked 254 = .ok (.iload_n 2, 1) := by decide +kernel
theorem dL_isPacked_255 : decode cL_isPacked 255 = .ok (.if_icmp .lt 82, 3) := by decide +kernel
theorem dL_isPacked_258 : decode cL_isPacked 258 = .ok (.iload_n 3, 1) := by decide +kernel
theorem dL_isPacked_259 : decode cL_isPacked 259 = .ok (.iload_n 2, 1) := by decide +kernel
theorem dL_isPacked_260 : decode cL_isPacked 260 = .ok (.bipush 15, 2) := by decide +kernel
theorem dL_isPacked_262 : decode cL_isPacked 262 = .ok (.iadd, 1) := by decide +kernel
theorem dL_isPacked_263 : decode cL_isPacked 263 = .ok (.if_icmp .ge 74, 3) := by decide +kernel
theorem dL_isPacked_266 : decode cL_isPacked 266 = .ok (.iload 4, 2) := by decide +kernel
theorem dL_isPacked_268 : decode cL_isPacked 268 = .ok (.aload_n 0, 1) := by decide +kernel
theorem dL_isPacked_269 : decode cL_isPacked 269 = .ok (.iload_n 1, 1) := by decide +kernel
theorem dL_isPacked_270 : decode cL_isPacked 270 = .ok (.iconst 5, 1) := by decide +kernel
theorem dL_isPacked_271 : decode cL_isPacked 271 = .ok (.invokevirtual 18, 3) := by decide +kernel
theorem dL_isPacked_274 : decode cL_isPacked 274 = .ok (.if_icmp .ne 63, 3) := by decide +kernel
theorem dL_isPacked_277 : decode cL_isPacked 277 = .ok (.aload_n 0, 1) := by decide +kernel
theorem dL_isPacked_278 : decode cL_isPacked 278 = .ok (.iload_n 1, 1) := by decide +kernel
theorem dL_isPacked_279 : decode cL_isPacked 279 = .ok (.iload_n 2, 1) := by decide +kernel
theorem dL_isPacked_280 : decode cL_isPacked 280 = .ok (.invokevirtual 30, 3) := by decide +kernel
theorem dL_isPacked_283 : decode cL_isPacked 283 = .ok (.iload 4, 2) := by decide +kernel
theorem dL_isPacked_285 : decode cL_isPacked 285 = .ok (.if_icmp .ne 52, 3) := by decide +kernel
theorem dL_isPacked_288 : decode cL_isPacked 288 = .ok (.aload_n 0, 1) := by decide +kernel
theorem dL_isPacked_289 : decode cL_isPacked 289 = .ok (.iload_n 1, 1) := by decide +kernel
theorem dL_isPacked_290 : decode cL_isPacked 290 = .ok (.aload_n 0, 1) := by decide +kernel
theorem dL_isPacked_291 : decode cL_isPacked 291 = .ok (.iload_n 1, 1) := by decide +kernel
theorem dL_isPacked_292 : decode cL_isPacked 292 = .ok (.iconst 1, 1) := by decide +kernel
theorem dL_isPacked_293 : decode cL_isPacked 293 = .ok (.invokevirtual 18, 3) := by decide +kernel
theorem dL_isPacked_296 : decode cL_isPacked 296 = .ok (.invokevirtual 22, 3) := by decide +kernel
theorem dL_isPacked_299 : decode cL_isPacked 299 = .ok (.bipush (-9), 2) := by decide +kernel
theorem dL_isPacked_301 : decode cL_isPacked 301 = .ok (.if_icmp .ne 36, 3) := by decide +kernel
theorem dL_isPacked_304 : decode cL_isPacked 304 = .ok (.aload_n 0, 1) := by decide +kernel
theorem dL_isPacked_305 : decode cL_isPacked 305 = .ok (.iload_n 1, 1) := by decide +kernel
theorem dL_isPacked_306 : decode cL_isPacked 306 = .ok (.iconst 2, 1) := by decide +kernel
theorem dL_isPacked_307 : decode cL_isPacked 307 = .ok (.invokevirtual 18, 3) := by decide +kernel
theorem dL_isPacked_310 : decode cL_isPacked 310 = .ok (.aload_n 0, 1) := by decide +kernel
theorem dL_isPacked_311 : decode cL_isPacked 311 = .ok (.iload_n 1, 1) := by decide +kernel
theorem dL_isPacked_312 : decode cL_isPacked 312 = .ok (.iconst 3, 1) := by decide +kernel
theorem dL_isPacked_313 : decode cL_isPacked 313 = .ok (.invokevirtual 18, 3) := by decide +kernel
theorem dL_isPacked_316 : decode cL_isPacked 316 = .ok (.iadd, 1) := by decide +kernel
theorem dL_isPacked_317 : decode cL_isPacked 317 = .ok (.aload_n 0, 1) := by decide +kernel
theorem dL_isPacked_318 : decode cL_isPacked 318 = .ok (.iload_n 1, 1) := by decide +kernel
theorem dL_isPacked_319 : decode cL_isPacked 319 = .ok (.iconst 4, 1) := by decide +kernel
theorem dL_isPacked_320 : decode cL_isPacked 320 = .ok (.invokevirtual 18, 3) := by decide +kernel
theorem dL_isPacked_323 : decode cL_isPacked 323 = .ok (.iadd, 1) := by decide +kernel
theorem dL_isPacked_324 : decode cL_isPacked 324 = .ok (.aload_n 0, 1) := by decide +kernel
theorem dL_isPacked_325 : decode cL_isPacked 325 = .ok (.iload_n 1, 1) := by decide +kernel
theorem dL_isPacked_326 : decode cL_isPacked 326 = .ok (.iconst 1, 1) := by decide +kernel
theorem dL_isPacked_327 : decode cL_isPacked 327 = .ok (.invokevirtual 18, 3) := by decide +kernel
theorem dL_isPacked_330 : decode cL_isPacked 330 = .ok (.if_icmp .ne 7, 3) := by decide +kernel
theorem dL_isPacked_333 : decode cL_isPacked 333 = .ok (.iconst 1, 1) := by decide +kernel
theorem dL_isPacked_334 : decode cL_isPacked 334 = .ok (.goto 4, 3) := by decide +kernel
theorem dL_isPacked_337 : decode cL_isPacked 337 = .ok (.iconst 0, 1) := by decide +kernel
theorem dL_isPacked_338 : decode cL_isPacked 338 = .ok (.ireturn, 1) := by decide +kernel
theorem dL_isSound_0 : decode cL_isSound 0 = .ok (.aload_n 0, 1) := by decide +kernel
theorem dL_isSound_1 : decode cL_isSound 1 = .ok (.iconst 0, 1) := by decide +kernel
theorem dL_isSound_2 : decode cL_isSound 2 = .ok (.iload_n 1, 1) := by decide +kernel
theorem dL_isSound_3 : decode cL_isSound 3 = .ok (.iload_n 2, 1) := by decide +kernel
theorem dL_isSound_4 : decode cL_isSound 4 = .ok (.iconst 2, 1) := by decide +kernel
theorem dL_isSound_5 : decode cL_isSound 5 = .ok (.invokevirtual 38, 3) := by decide +kernel
theorem dL_isSound_8 : decode cL_isSound 8 = .ok (.istore_n 3, 1) := by decide +kernel
theorem dL_isSound_9 : decode cL_isSound 9 = .ok (.aload_n 0, 1) := by decide +kernel
theorem dL_isSound_10 : decode cL_isSound 10 = .ok (.iconst 1, 1) := by decide +kernel
theorem dL_isSound_11 : decode cL_isSound 11 = .ok (.iload_n 1, 1) := by decide +kernel
theorem dL_isSound_12 : decode cL_isSound 12 = .ok (.iload_n 2, 1) := by decide +kernel
theorem dL_isSound_13 : decode cL_isSound 13 = .ok (.iconst 2, 1) := by decide +kernel
theorem dL_isSound_14 : decode cL_isSound 14 = .ok (.invokevirtual 38, 3) := by decide +kernel
theorem dL_isSound_17 : decode cL_isSound 17 = .ok (.istore 4, 2) := by decide +kernel
theorem dL_isSound_19 : decode cL_isSound 19 = .ok (.aload_n 0, 1) := by decide +kernel
theorem dL_isSound_20 : decode cL_isSound 20 = .ok (.iload_n 1, 1) := by decide +kernel
theorem dL_isSound_21 : decode cL_isSound 21 = .ok (.iconst 5, 1) := by decide +kernel
theorem dL_isSound_22 : decode cL_isSound 22 = .ok (.invokevirtual 18, 3) := by decide +kernel
theorem dL_isSound_25 : decode cL_isSound 25 = .ok (.istore 5, 2) := by decide +kernel
theorem dL_isSound_27 : decode cL_isSound 27 = .ok (.aload_n 0, 1) := by decide +kernel
theorem dL_isSound_28 : decode cL_isSound 28 = .ok (.iload_n 2, 1) := by decide +kernel
theorem dL_isSound_29 : decode cL_isSound 29 = .ok (.iconst 5, 1) := by decide +kernel
theorem dL_isSound_30 : decode cL_isSound 30 = .ok (.invokevirtual 18, 3) := by decide +kernel
theorem dL_isSound_33 : decode cL_isSound 33 = .ok (.istore 6, 2) := by decide +kernel
theorem dL_isSound_35 : decode cL_isSound 35 = .ok (.aload_n 0, 1) := by decide +kernel
theorem dL_isSound_36 : decode cL_isSound 36 = .ok (.iconst 0, 1) := by decide +kernel
theorem dL_isSound_37 : decode cL_isSound 37 = .ok (.iload_n 1, 1) := by decide +kernel
theorem dL_isSound_38 : decode cL_isSound 38 = .ok (.iload_n 2, 1) := by decide +kernel
theorem dL_isSound_39 : decode cL_isSound 39 = .ok (.iconst 0, 1) := by decide +kernel
theorem dL_isSound_40 : decode cL_isSound 40 = .ok (.invokevirtual 38, 3) := by decide +kernel
theorem dL_isSound_43 : decode cL_isSound 43 = .ok (.istore 7, 2) := by decide +kernel
theorem dL_isSound_45 : decode cL_isSound 45 = .ok (.aload_n 0, 1) := by decide +kernel
theorem dL_isSound_46 : decode cL_isSound 46 = .ok (.iload_n 1, 1) := by decide +kernel
theorem dL_isSound_47 : decode cL_isSound 47 = .ok (.iconst 1, 1) := by decide +kernel
theorem dL_isSound_48 : decode cL_isSound 48 = .ok (.invokevirtual 18, 3) := by decide +kernel
theorem dL_isSound_51 : decode cL_isSound 51 = .ok (.aload_n 0, 1) := by decide +kernel
theorem dL_isSound_52 : decode cL_isSound 52 = .ok (.iload_n 2, 1) := by decide +kernel
theorem dL_isSound_53 : decode cL_isSound 53 = .ok (.iconst 1, 1) := by decide +kernel
theorem dL_isSound_54 : decode cL_isSound 54 = .ok (.invokevirtual 18, 3) := by decide +kernel
theorem dL_isSound_57 : decode cL_isSound 57 = .ok (.if_icmp .le 12, 3) := by decide +kernel
theorem dL_isSound_60 : decode cL_isSound 60 = .ok (.aload_n 0, 1) := by decide +kernel
theorem dL_isSound_61 : decode cL_isSound 61 = .ok (.iload_n 1, 1) := by decide +kernel
theorem dL_isSound_62 : decode cL_isSound 62 = .ok (.iconst 1, 1) := by decide +kernel
theorem dL_isSound_63 : decode cL_isSound 63 = .ok (.invokevirtual 18, 3) := by decide +kernel
theorem dL_isSound_66 : decode cL_isSound 66 = .ok (.goto 9, 3) := by decide +kernel
theorem dL_isSound_69 : decode cL_isSound 69 = .ok (.aload_n 0, 1) := by decide +kernel
theorem dL_isSound_70 : decode cL_isSound 70 = .ok (.iload_n 2, 1) := by decide +kernel
theorem dL_isSound_71 : decode cL_isSound 71 = .ok (.iconst 1, 1) := by decide +kernel
theorem dL_isSound_72 : decode cL_isSound 72 = .ok (.invokevirtual 18, 3) := by decide +kernel
theorem dL_isSound_75 : decode cL_isSound 75 = .ok (.istore 8, 2) := by decide +kernel
theorem dL_isSound_77 : decode cL_isSound 77 = .ok (.iload_n 3, 1) := by decide +kernel
theorem dL_isSound_78 : decode cL_isSound 78 = .ok (.iload 4, 2) := by decide +kernel
theorem dL_isSound_80 : decode cL_isSound 80 = .ok (.iadd, 1) := by decide +kernel
theorem dL_isSound_81 : decode cL_isSound 81 = .ok (.iload 5, 2) := by decide +kernel
theorem dL_isSound_83 : decode cL_isSound 83 = .ok (.iload 6, 2) := by decide +kernel
theorem dL_isSound_85 : decode cL_isSound 85 = .ok (.iadd, 1) := by decide +kernel
theorem dL_isSound_86 : decode cL_isSound 86 = .ok (.if_icmp .ne 67, 3) := by decide +kernel
theorem dL_isSound_89 : decode cL_isSound 89 = .ok (.aload_n 0, 1) := by decide +kernel
theorem dL_isSound_90 : decode cL_isSound 90 = .ok (.iconst 2, 1) := by decide +kernel
theorem dL_isSound_91 : decode cL_isSound 91 = .ok (.iload_n 1, 1) := by decide +kernel
theorem dL_isSound_92 : decode cL_isSound 92 = .ok (.iload_n 2, 1) := by decide +kernel
theorem dL_isSound_93 : decode cL_isSound 93 = .ok (.iconst 2, 1) := by decide +kernel
theorem dL_isSound_94 : decode cL_isSound 94 = .ok (.invokevirtual 38, 3) := by decide +kernel
theorem dL_isSound_97 : decode cL_isSound 97 = .ok (.iload 5, 2) := by decide +kernel
theorem dL_isSound_99 : decode cL_isSound 99 = .ok (.iload_n 3, 1) := by decide +kernel
theorem dL_isSound_100 : decode cL_isSound 100 = .ok (.isub, 1) := by decide +kernel
theorem dL_isSound_101 : decode cL_isSound 101 = .ok (.if_icmp .ne 52, 3) := by decide +kernel
theorem dL_isSound_104 : decode cL_isSound 104 = .ok (.aload_n 0, 1) := by decide +kernel
theorem dL_isSound_105 : decode cL_isSound 105 = .ok (.iconst 3, 1) := by decide +kernel
theorem dL_isSound_106 : decode cL_isSound 106 = .ok (.iload_n 1, 1) := by decide +kernel
theorem dL_isSound_107 : decode cL_isSound 107 = .ok (.iload_n 2, 1) := by decide +kernel
theorem dL_isSound_108 : decode cL_isSound 108 = .ok (.iconst 2, 1) := by decide +kernel
theorem dL_isSound_109 : decode cL_isSound 109 = .ok (.invokevirtual 38, 3) := by decide +kernel
theorem dL_isSound_112 : decode cL_isSound 112 = .ok (.iload 4, 2) := by decide +kernel
theorem dL_isSound_114 : decode cL_isSound 114 = .ok (.iload_n 3, 1) := by decide +kernel
theorem dL_isSound_115 : decode cL_isSound 115 = .ok (.isub, 1) := by decide +kernel
theorem dL_isSound_116 : decode cL_isSound 116 = .ok (.if_icmp .ne 37, 3) := by decide +kernel
theorem dL_isSound_119 : decode cL_isSound 119 = .ok (.aload_n 0, 1) := by decide +kernel
theorem dL_isSound_120 : decode cL_isSound 120 = .ok (.iconst 3, 1) := by decide +kernel
theorem dL_isSound_121 : decode cL_isSound 121 = .ok (.iload_n 2, 1) := by decide +kernel
theorem dL_isSound_122 : decode cL_isSound 122 = .ok (.iload_n 1, 1) := by decide +kernel
theorem dL_isSound_123 : decode cL_isSound 123 = .ok (.iconst 2, 1) := by decide +kernel
theorem dL_isSound_124 : decode cL_isSound 124 = .ok (.invokevirtual 38, 3) := by decide +kernel
theorem dL_isSound_127 : decode cL_isSound 127 = .ok (.iload 4, 2) := by decide +kernel
theorem dL_isSound_129 : decode cL_isSound 129 = .ok (.iload_n 3, 1) := by decide +kernel
theorem dL_isSound_130 : decode cL_isSound 130 = .ok (.isub, 1) := by decide +kernel
theorem dL_isSound_131 : decode cL_isSound 131 = .ok (.if_icmp .ne 22, 3) := by decide +kernel
theorem dL_isSound_134 : decode cL_isSound 134 = .ok (.aload_n 0, 1) := by decide +kernel
theorem dL_isSound_135 : decode cL_isSound 135 = .ok (.iconst 1, 1) := by decide +kernel
theorem dL_isSound_136 : decode cL_isSound 136 = .ok (.iload_n 2, 1) := by decide +kernel
theorem dL_isSound_137 : decode cL_isSound 137 = .ok (.iload_n 1, 1) := by decide +kernel
theorem dL_isSound_138 : decode cL_isSound 138 = .ok (.iconst 1, 1) := by decide +kernel
theorem dL_isSound_139 : decode cL_isSound 139 = .ok (.invokevirtual 38, 3) := by decide +kernel
theorem dL_isSound_142 : decode cL_isSound 142 = .ok (.aload_n 0, 1) := by decide +kernel
theorem dL_isSound_143 : decode cL_isSound 143 = .ok (.iconst 1, 1) := by decide +kernel
theorem dL_isSound_144 : decode cL_isSound 144 = .ok (.iload_n 1, 1) := by decide +kernel
theorem dL_isSound_145 : decode cL_isSound 145 = .ok (.iload_n 2, 1) := by decide +kernel
theorem dL_isSound_146 : decode cL_isSound 146 = .ok (.iconst 1, 1) := by decide +kernel
theorem dL_isSound_147 : decode cL_isSound 147 = .ok (.invokevirtual 38, 3) := by decide +kernel
theorem dL_isSound_150 : decode cL_isSound 150 = .ok (.if_icmp .eq 5, 3) := by decide +kernel
theorem dL_isSound_153 : decode cL_isSound 153 = .ok (.iconst 0, 1) := by decide +kernel
theorem dL_isSound_154 : decode cL_isSound 154 = .ok (.ireturn, 1) := by decide +kernel
theorem dL_isSound_155 : decode cL_isSound 155 = .ok (.aload_n 0, 1) := by decide +kernel
theorem dL_isSound_156 : decode cL_isSound 156 = .ok (.iconst 3, 1) := by decide +kernel
theorem dL_isSound_157 : decode cL_isSound 157 = .ok (.iload_n 1, 1) := by decide +kernel
theorem dL_isSound_158 : decode cL_isSound 158 = .ok (.iload_n 2, 1) := by decide +kernel
theorem dL_isSound_159 : decode cL_isSound 159 = .ok (.iconst 0, 1) := by decide +kernel
theorem dL_isSound_160 : decode cL_isSound 160 = .ok (.invokevirtual 38, 3) := by decide +kernel
theorem dL_isSound_163 : decode cL_isSound 163 = .ok (.iload 7, 2) := by decide +kernel
theorem dL_isSound_165 : decode cL_isSound 165 = .ok (.if_icmp .ne 79, 3) := by decide +kernel
theorem dL_isSound_168 : decode cL_isSound 168 = .ok (.aload_n 0, 1) := by decide +kernel
theorem dL_isSound_169 : decode cL_isSound 169 = .ok (.iconst 2, 1) := by decide +kernel
theorem dL_isSound_170 : decode cL_isSound 170 = .ok (.iload_n 2, 1) := by decide +kernel
theorem dL_isSound_171 : decode cL_isSound 171 = .ok (.iload_n 1, 1) := by decide +kernel
theorem dL_isSound_172 : decode cL_isSound 172 = .ok (.iconst 0, 1) := by decide +kernel
theorem dL_isSound_173 : decode cL_isSound 173 = .ok (.invokevirtual 38, 3) := by decide +kernel
theorem dL_isSound_176 : decode cL_isSound 176 = .ok (.iload 7, 2) := by decide +kernel
theorem dL_isSound_178 : decode cL_isSound 178 = .ok (.if_icmp .ne 66, 3) := by decide +kernel
theorem dL_isSound_181 : decode cL_isSound 181 = .ok (.iload 7, 2) := by decide +kernel
theorem dL_isSound_183 : decode cL_isSound 183 = .ok (.iload 8, 2) := by decide +kernel
theorem dL_isSound_185 : decode cL_isSound 185 = .ok (.if_icmp .lt 59, 3) := by decide +kernel
theorem dL_isSound_188 : decode cL_isSound 188 = .ok (.iload 7, 2) := by decide +kernel
theorem dL_isSound_190 : decode cL_isSound 190 = .ok (.aload_n 0, 1) := by decide +kernel
theorem dL_isSound_191 : decode cL_isSound 191 = .ok (.iload_n 1, 1) := by decide +kernel
theorem dL_isSound_192 : decode cL_isSound 192 = .ok (.iconst 1, 1) := by decide +kernel
theorem dL_isSound_193 : decode cL_isSound 193 = .ok (.invokevirtual 18, 3) := by decide +kernel
theorem dL_isSound_196 : decode cL_isSound 196 = .ok (.aload_n 0, 1) := by decide +kernel
theorem dL_isSound_197 : decode cL_isSound 197 = .ok (.iload_n 2, 1) := by decide +kernel
theorem dL_isSound_198 : decode cL_isSound 198 = .ok (.iconst 1, 1) := by decide +kernel
theorem dL_isSound_199 : decode cL_isSound 199 = .ok (.invokevirtual 18, 3) := by decide +kernel
theorem dL_isSound_202 : decode cL_isSound 202 = .ok (.iadd, 1) := by decide +kernel
theorem dL_isSound_203 : decode cL_isSound 203 = .ok (.if_icmp .gt 41, 3) := by decide +kernel
theorem dL_isSound_206 : decode cL_isSound 206 = .ok (.iload_n 1, 1) := by decide +kernel
theorem dL_isSound_207 : decode cL_isSound 207 = .ok (.iload_n 2, 1) := by decide +kernel
theorem dL_isSound_208 : decode cL_isSound 208 = .ok (.if_icmp .ne 14, 3) := by decide +kernel
theorem dL_isSound_211 : decode cL_isSound 211 = .ok (.iload 7, 2) := by decide +kernel
theorem dL_isSound_213 : decode cL_isSound 213 = .ok (.aload_n 0, 1) := by decide +kernel
theorem dL_isSound_214 : decode cL_isSound 214 = .ok (.iload_n 1, 1) := by decide +kernel
theorem dL_isSound_215 : decode cL_isSound 215 = .ok (.iconst 1, 1) := by decide +kernel
theorem dL_isSound_216 : decode cL_isSound 216 = .ok (.invokevirtual 18, 3) := by decide +kernel
theorem dL_isSound_219 : decode cL_isSound 219 = .ok (.if_icmp .ne 25, 3) := by decide +kernel
theorem dL_isSound_222 : decode cL_isSound 222 = .ok (.aload_n 0, 1) := by decide +kernel
theorem dL_isSound_223 : decode cL_isSound 223 = .ok (.iconst 0, 1) := by decide +kernel
theorem dL_isSound_224 : decode cL_isSound 224 = .ok (.iload_n 1, 1) := by decide +kernel
theorem dL_isSound_225 : decode cL_isSound 225 = .ok (.iload_n 2, 1) := by decide +kernel
theorem dL_isSound_226 : decode cL_isSound 226 = .ok (.iconst 1, 1) := by decide +kernel
theorem dL_isSound_227 : decode cL_isSound 227 = .ok (.invokevirtual 38, 3) := by decide +kernel
theorem dL_isSound_230 : decode cL_isSound 230 = .ok (.iload 7, 2) := by decide +kernel
theorem dL_isSound_232 : decode cL_isSound 232 = .ok (.ifCond .le 8, 3) := by decide +kernel
theorem dL_isSound_235 : decode cL_isSound 235 = .ok (.bipush 40, 2) := by decide +kernel
theorem dL_isSound_237 : decode cL_isSound 237 = .ok (.goto 4, 3) := by decide +kernel
theorem dL_isSound_240 : decode cL_isSound 240 = .ok (.iconst 0, 1) := by decide +kernel
theorem dL_isSound_241 : decode cL_isSound 241 = .ok (.if_icmp .le 5, 3) := by decide +kernel
theorem dL_isSound_244 : decode cL_isSound 244 = .ok (.iconst 0, 1) := by decide +kernel
theorem dL_isSound_245 : decode cL_isSound 245 = .ok (.ireturn, 1) := by decide +kernel
theorem dL_isSound_246 : decode cL_isSound 246 = .ok (.aload_n 0, 1) := by decide +kernel
theorem dL_isSound_247 : decode cL_isSound 247 = .ok (.iconst 0, 1) := by decide +kernel
theorem dL_isSound_248 : decode cL_isSound 248 = .ok (.iload_n 1, 1) := by decide +kernel
theorem dL_isSound_249 : decode cL_isSound 249 = .ok (.iload_n 1, 1) := by decide +kernel
theorem dL_isSound_250 : decode cL_isSound 250 = .ok (.iconst 2, 1) := by decide +kernel
theorem dL_isSound_251 : decode cL_isSound 251 = .ok (.invokevirtual 38, 3) := by decide +kernel
theorem dL_isSound_254 : decode cL_isSound 254 = .ok (.iload 5, 2) := by decide +kernel
theorem dL_isSound_256 : decode cL_isSound 256 = .ok (.if_icmp .ne 44, 3) := by decide +kernel
theorem dL_isSound_259 : decode cL_isSound 259 = .ok (.aload_n 0, 1) := by decide +kernel
theorem dL_isSound_260 : decode cL_isSound 260 = .ok (.iconst 3, 1) := by decide +kernel
theorem dL_isSound_261 : decode cL_isSound 261 = .ok (.iload_n 1, 1) := by decide +kernel
theorem dL_isSound_262 : decode cL_isSound 262 = .ok (.iload_n 1, 1) := by decide +kernel
theorem dL_isSound_263 : decode cL_isSound 263 = .ok (.iconst 2, 1) := by decide +kernel
theorem dL_isSound_264 : decode cL_isSound 264 = .ok (.invokevirtual 38, 3) := by decide +kernel
theorem dL_isSound_267 : decode cL_isSound 267 = .ok (.ifCond .ne 33, 3) := by decide +kernel
theorem dL_isSound_270 : decode cL_isSound 270 = .ok (.aload_n 0, 1) := by decide +kernel
theorem dL_isSound_271 : decode cL_isSound 271 = .ok (.iload_n 1, 1) := by decide +kernel
theorem dL_isSound_272 : decode cL_isSound 272 = .ok (.invokevirtual 42, 3) := by decide +kernel
theorem dL_isSound_275 : decode cL_isSound 275 = .ok (.iload_n 1, 1) := by decide +kernel
theorem dL_isSound_276 : decode cL_isSound 276 = .ok (.if_icmp .gt 24, 3) := by decide +kernel
theorem dL_isSound_279 : decode cL_isSound 279 = .ok (.aload_n 0, 1) := by decide +kernel
theorem dL_isSound_280 : decode cL_isSound 280 = .ok (.aload_n 0, 1) := by decide +kernel
theorem dL_isSound_281 : decode cL_isSound 281 = .ok (.iload_n 1, 1) := by decide +kernel
theorem dL_isSound_282 : decode cL_isSound 282 = .ok (.invokevirtual 42, 3) := by decide +kernel
theorem dL_isSound_285 : decode cL_isSound 285 = .ok (.invokevirtual 42, 3) := by decide +kernel
theorem dL_isSound_288 : decode cL_isSound 288 = .ok (.aload_n 0, 1) := by decide +kernel
theorem dL_isSound_289 : decode cL_isSound 289 = .ok (.iload_n 1, 1) := by decide +kernel
theorem dL_isSound_290 : decode cL_isSound 290 = .ok (.invokevirtual 42, 3) := by decide +kernel
theorem dL_isSound_293 : decode cL_isSound 293 = .ok (.if_icmp .ne 7, 3) := by decide +kernel
theorem dL_isSound_296 : decode cL_isSound 296 = .ok (.iconst 1, 1) := by decide +kernel
theorem dL_isSound_297 : decode cL_isSound 297 = .ok (.goto 4, 3) := by decide +kernel
theorem dL_isSound_300 : decode cL_isSound 300 = .ok (.iconst 0, 1) := by decide +kernel
theorem dL_isSound_301 : decode cL_isSound 301 = .ok (.ireturn, 1) := by decide +kernel
theorem dL_isBest_0 : decode cL_isBest 0 = .ok (.aload_n 0, 1) := by decide +kernel
theorem dL_isBest_1 : decode cL_isBest 1 = .ok (.invokestatic 45, 3) := by decide +kernel
theorem dL_isBest_4 : decode cL_isBest 4 = .ok (.lstore_n 3, 1) := by decide +kernel
theorem dL_isBest_5 : decode cL_isBest 5 = .ok (.aload_n 0, 1) := by decide +kernel
theorem dL_isBest_6 : decode cL_isBest 6 = .ok (.iload_n 1, 1) := by decide +kernel
theorem dL_isBest_7 : decode cL_isBest 7 = .ok (.invokevirtual 49, 3) := by decide +kernel
theorem dL_isBest_10 : decode cL_isBest 10 = .ok (.istore 5, 2) := by decide +kernel
theorem dL_isBest_12 : decode cL_isBest 12 = .ok (.iload 5, 2) := by decide +kernel
theorem dL_isBest_14 : decode cL_isBest 14 = .ok (.ifCond .lt 29, 3) := by decide +kernel
theorem dL_isBest_17 : decode cL_isBest 17 = .ok (.iload 5, 2) := by decide +kernel
theorem dL_isBest_19 : decode cL_isBest 19 = .ok (.bipush 14, 2) := by decide +kernel
theorem dL_isBest_21 : decode cL_isBest 21 = .ok (.if_icmp .gt 22, 3) := by decide +kernel
theorem dL_isBest_24 : decode cL_isBest 24 = .ok (.aload_n 0, 1) := by decide +kernel
theorem dL_isBest_25 : decode cL_isBest 25 = .ok (.invokestatic 45, 3) := by decide +kernel
theorem dL_isBest_28 : decode cL_isBest 28 = .ok (.lload_n 3, 1) := by decide +kernel
theorem dL_isBest_29 : decode cL_isBest 29 = .ok (.lcmp, 1) := by decide +kernel
theorem dL_isBest_30 : decode cL_isBest 30 = .ok (.ifCond .ne 13, 3) := by decide +kernel
theorem dL_isBest_33 : decode cL_isBest 33 = .ok (.aload_n 0, 1) := by decide +kernel
theorem dL_isBest_34 : decode cL_isBest 34 = .ok (.iload_n 1, 1) := by decide +kernel
theorem dL_isBest_35 : decode cL_isBest 35 = .ok (.iload 5, 2) := by decide +kernel
theorem dL_isBest_37 : decode cL_isBest 37 = .ok (.invokevirtual 52, 3) := by decide +kernel
theorem dL_isBest_40 : decode cL_isBest 40 = .ok (.ifCond .ge 5, 3) := by decide +kernel
theorem dL_isBest_43 : decode cL_isBest 43 = .ok (.iconst 0, 1) := by decide +kernel
theorem dL_isBest_44 : decode cL_isBest 44 = .ok (.ireturn, 1) := by decide +kernel
theorem dL_isBest_45 : decode cL_isBest 45 = .ok (.aload_n 0, 1) := by decide +kernel
theorem dL_isBest_46 : decode cL_isBest 46 = .ok (.iload_n 1, 1) := by decide +kernel
theorem dL_isBest_47 : decode cL_isBest 47 = .ok (.iconst 1, 1) := by decide +kernel
theorem dL_isBest_48 : decode cL_isBest 48 = .ok (.invokevirtual 18, 3) := by decide +kernel
theorem dL_isBest_51 : decode cL_isBest 51 = .ok (.istore 6, 2) := by decide +kernel
theorem dL_isBest_53 : decode cL_isBest 53 = .ok (.aload_n 0, 1) := by decide +kernel
theorem dL_isBest_54 : decode cL_isBest 54 = .ok (.invokevirtual 55, 3) := by decide +kernel
theorem dL_isBest_57 : decode cL_isBest 57 = .ok (.ifCond .lt 12, 3) := by decide +kernel
theorem dL_isBest_60 : decode cL_isBest 60 = .ok (.aload_n 0, 1) := by decide +kernel
theorem dL_isBest_61 : decode cL_isBest 61 = .ok (.iload_n 1, 1) := by decide +kernel
theorem dL_isBest_62 : decode cL_isBest 62 = .ok (.iload_n 2, 1) := by decide +kernel
theorem dL_isBest_63 : decode cL_isBest 63 = .ok (.invokevirtual 52, 3) := by decide +kernel
theorem dL_isBest_66 : decode cL_isBest 66 = .ok (.ifCond .ge 5, 3) := by decide +kernel
theorem dL_isBest_69 : decode cL_isBest 69 = .ok (.iconst 0, 1) := by decide +kernel
theorem dL_isBest_70 : decode cL_isBest 70 = .ok (.ireturn, 1) := by decide +kernel
theorem dL_isBest_71 : decode cL_isBest 71 = .ok (.aload_n 0, 1) := by decide +kernel
theorem dL_isBest_72 : decode cL_isBest 72 = .ok (.iload_n 1, 1) := by decide +kernel
theorem dL_isBest_73 : decode cL_isBest 73 = .ok (.iconst 1, 1) := by decide +kernel
theorem dL_isBest_74 : decode cL_isBest 74 = .ok (.invokevirtual 18, 3) := by decide +kernel
theorem dL_isBest_77 : decode cL_isBest 77 = .ok (.istore 7, 2) := by decide +kernel
theorem dL_isBest_79 : decode cL_isBest 79 = .ok (.aload_n 0, 1) := by decide +kernel
theorem dL_isBest_80 : decode cL_isBest 80 = .ok (.invokevirtual 55, 3) := by decide +kernel
theorem dL_isBest_83 : decode cL_isBest 83 = .ok (.ifCond .lt 36, 3) := by decide +kernel
theorem dL_isBest_86 : decode cL_isBest 86 = .ok (.aload_n 0, 1) := by decide +kernel
theorem dL_isBest_87 : decode cL_isBest 87 = .ok (.invokestatic 45, 3) := by decide +kernel
theorem dL_isBest_90 : decode cL_isBest 90 = .ok (.lload_n 3, 1) := by decide +kernel
theorem dL_isBest_91 : decode cL_isBest 91 = .ok (.lcmp, 1) := by decide +kernel
theorem dL_isBest_92 : decode cL_isBest 92 = .ok (.ifCond .ne 27, 3) := by decide +kernel
theorem dL_isBest_95 : decode cL_isBest 95 = .ok (.iload 6, 2) := by decide +kernel
theorem dL_isBest_97 : decode cL_isBest 97 = .ok (.iload 7, 2) := by decide +kernel
theorem dL_isBest_99 : decode cL_isBest 99 = .ok (.if_icmp .lt 16, 3) := by decide +kernel
theorem dL_isBest_102 : decode cL_isBest 102 = .ok (.iload 6, 2) := by decide +kernel
theorem dL_isBest_104 : decode cL_isBest 104 = .ok (.iload 7, 2) := by decide +kernel
theorem dL_isBest_106 : decode cL_isBest 106 = .ok (.if_icmp .ne 13, 3) := by decide +kernel
theorem dL_isBest_109 : decode cL_isBest 109 = .ok (.iload 5, 2) := by decide +kernel
theorem dL_isBest_111 : decode cL_isBest 111 = .ok (.iload_n 2, 1) := by decide +kernel
theorem dL_isBest_112 : decode cL_isBest 112 = .ok (.if_icmp .gt 7, 3) := by decide +kernel
theorem dL_isBest_115 : decode cL_isBest 115 = .ok (.iconst 1, 1) := by decide +kernel
theorem dL_isBest_116 : decode cL_isBest 116 = .ok (.goto 4, 3) := by decide +kernel
theorem dL_isBest_119 : decode cL_isBest 119 = .ok (.iconst 0, 1) := by decide +kernel
theorem dL_isBest_120 : decode cL_isBest 120 = .ok (.ireturn, 1) := by decide +kernel
theorem dL_acts_0 : decode cL_acts 0 = .ok (.aload_n 0, 1) := by decide +kernel
theorem dL_acts_1 : decode cL_acts 1 = .ok (.iconst 0, 1) := by decide +kernel
theorem dL_acts_2 : decode cL_acts 2 = .ok (.invokevirtual 12, 3) := by decide +kernel
theorem dL_acts_5 : decode cL_acts 5 = .ok (.istore_n 2, 1) := by decide +kernel
theorem dL_acts_6 : decode cL_acts 6 = .ok (.iload_n 1, 1) := by decide +kernel
theorem dL_acts_7 : decode cL_acts 7 = .ok (.iconst 4, 1) := by decide +kernel
theorem dL_acts_8 : decode cL_acts 8 = .ok (.ishr, 1) := by decide +kernel
theorem dL_acts_9 : decode cL_acts 9 = .ok (.iload_n 1, 1) := by decide +kernel
theorem dL_acts_10 : decode cL_acts 10 = .ok (.bipush 26, 2) := by decide +kernel
theorem dL_acts_12 : decode cL_acts 12 = .ok (.ishr, 1) := by decide +kernel
theorem dL_acts_13 : decode cL_acts 13 = .ok (.bipush 7, 2) := by decide +kernel
theorem dL_acts_15 : decode cL_acts 15 = .ok (.iand, 1) := by decide +kernel
theorem dL_acts_16 : decode cL_acts 16 = .ok (.ifCond .ne 9, 3) := by decide +kernel
theorem dL_acts_19 : decode cL_acts 19 = .ok (.iload_n 2, 1) := by decide +kernel
theorem dL_acts_20 : decode cL_acts 20 = .ok (.iconst 1, 1) := by decide +kernel
theorem dL_acts_21 : decode cL_acts 21 = .ok (.iadd, 1) := by decide +kernel
theorem dL_acts_22 : decode cL_acts 22 = .ok (.goto 4, 3) := by decide +kernel
theorem dL_acts_25 : decode cL_acts 25 = .ok (.iload_n 2, 1) := by decide +kernel
theorem dL_acts_26 : decode cL_acts 26 = .ok (.invokestatic 59, 3) := by decide +kernel
theorem dL_acts_29 : decode cL_acts 29 = .ok (.istore_n 3, 1) := by decide +kernel
theorem dL_acts_30 : decode cL_acts 30 = .ok (.iload_n 1, 1) := by decide +kernel
theorem dL_acts_31 : decode cL_acts 31 = .ok (.bipush 16, 2) := by decide +kernel
theorem dL_acts_33 : decode cL_acts 33 = .ok (.invokestatic 59, 3) := by decide +kernel
theorem dL_acts_36 : decode cL_acts 36 = .ok (.tableswitch 262 0 14 #[76, 76, 76, 125, 125, 148, 148, 184, 200, 200, 200, 230, 236, 236, 256], 76) := by decide +kernel
theorem dL_acts_112 : decode cL_acts 112 = .ok (.aload_n 0, 1) := by decide +kernel
theorem dL_acts_113 : decode cL_acts 113 = .ok (.iload_n 3, 1) := by decide +kernel
theorem dL_acts_114 : decode cL_acts 114 = .ok (.iload_n 1, 1) := by decide +kernel
theorem dL_acts_115 : decode cL_acts 115 = .ok (.bipush 7, 2) := by decide +kernel
theorem dL_acts_117 : decode cL_acts 117 = .ok (.ishr, 1) := by decide +kernel
theorem dL_acts_118 : decode cL_acts 118 = .ok (.iconst 1, 1) := by decide +kernel
theorem dL_acts_119 : decode cL_acts 119 = .ok (.iand, 1) := by decide +kernel
theorem dL_acts_120 : decode cL_acts 120 = .ok (.iload_n 1, 1) := by decide +kernel
theorem dL_acts_121 : decode cL_acts 121 = .ok (.bipush 8, 2) := by decide +kernel
theorem dL_acts_123 : decode cL_acts 123 = .ok (.ishr, 1) := by decide +kernel
theorem dL_acts_124 : decode cL_acts 124 = .ok (.iconst 1, 1) := by decide +kernel
theorem dL_acts_125 : decode cL_acts 125 = .ok (.iand, 1) := by decide +kernel
theorem dL_acts_126 : decode cL_acts 126 = .ok (.ifCond .ne 20, 3) := by decide +kernel
theorem dL_acts_129 : decode cL_acts 129 = .ok (.bipush 15, 2) := by decide +kernel
theorem dL_acts_131 : decode cL_acts 131 = .ok (.iconst 1, 1) := by decide +kernel
theorem dL_acts_132 : decode cL_acts 132 = .ok (.iload_n 1, 1) := by decide +kernel
theorem dL_acts_133 : decode cL_acts 133 = .ok (.bipush 9, 2) := by decide +kernel
theorem dL_acts_135 : decode cL_acts 135 = .ok (.ishr, 1) := by decide +kernel
theorem dL_acts_136 : decode cL_acts 136 = .ok (.bipush 22, 2) := by decide +kernel
theorem dL_acts_138 : decode cL_acts 138 = .ok (.invokestatic 59, 3) := by decide +kernel
theorem dL_acts_141 : decode cL_acts 141 = .ok (.iadd, 1) := by decide +kernel
theorem dL_acts_142 : decode cL_acts 142 = .ok (.imul, 1) := by decide +kernel
theorem dL_acts_143 : decode cL_acts 143 = .ok (.goto 14, 3) := by decide +kernel
theorem dL_acts_146 : decode cL_acts 146 = .ok (.iconst 1, 1) := by decide +kernel
theorem dL_acts_147 : decode cL_acts 147 = .ok (.iload_n 1, 1) := by decide +kernel
theorem dL_acts_148 : decode cL_acts 148 = .ok (.bipush 9, 2) := by decide +kernel
theorem dL_acts_150 : decode cL_acts 150 = .ok (.ishr, 1) := by decide +kernel
theorem dL_acts_151 : decode cL_acts 151 = .ok (.bipush 90, 2) := by decide +kernel
theorem dL_acts_153 : decode cL_acts 153 = .ok (.invokestatic 59, 3) := by decide +kernel
theorem dL_acts_156 : decode cL_acts 156 = .ok (.iadd, 1) := by decide +kernel
theorem dL_acts_157 : decode cL_acts 157 = .ok (.invokevirtual 62, 3) := by decide +kernel
theorem dL_acts_160 : decode cL_acts 160 = .ok (.ireturn, 1) := by decide +kernel
theorem dL_acts_161 : decode cL_acts 161 = .ok (.aload_n 0, 1) := by decide +kernel
theorem dL_acts_162 : decode cL_acts 162 = .ok (.iload_n 3, 1) := by decide +kernel
theorem dL_acts_163 : decode cL_acts 163 = .ok (.iload_n 1, 1) := by decide +kernel
theorem dL_acts_164 : decode cL_acts 164 = .ok (.bipush 9, 2) := by decide +kernel
theorem dL_acts_166 : decode cL_acts 166 = .ok (.ishr, 1) := by decide +kernel
theorem dL_acts_167 : decode cL_acts 167 = .ok (.ldc 66, 2) := by decide +kernel
theorem dL_acts_169 : decode cL_acts 169 = .ok (.iand, 1) := by decide +kernel
theorem dL_acts_170 : decode cL_acts 170 = .ok (.iconst 1, 1) := by decide +kernel
theorem dL_acts_171 : decode cL_acts 171 = .ok (.iload_n 1, 1) := by decide +kernel
theorem dL_acts_172 : decode cL_acts 172 = .ok (.iconst 5, 1) := by decide +kernel
theorem dL_acts_173 : decode cL_acts 173 = .ok (.ishr, 1) := by decide +kernel
theorem dL_acts_174 : decode cL_acts 174 = .ok (.bipush 17, 2) := by decide +kernel
theorem dL_acts_176 : decode cL_acts 176 = .ok (.invokestatic 59, 3) := by decide +kernel
theorem dL_acts_179 : decode cL_acts 179 = .ok (.iadd, 1) := by decide +kernel
theorem dL_acts_180 : decode cL_acts 180 = .ok (.invokevirtual 67, 3) := by decide +kernel
theorem dL_acts_183 : decode cL_acts 183 = .ok (.ireturn, 1) := by decide +kernel
theorem dL_acts_184 : decode cL_acts 184 = .ok (.aload_n 0, 1) := by decide +kernel
theorem dL_acts_185 : decode cL_acts 185 = .ok (.iload_n 3, 1) := by decide +kernel
theorem dL_acts_186 : decode cL_acts 186 = .ok (.iload_n 1, 1) := by decide +kernel
theorem dL_acts_187 : decode cL_acts 187 = .ok (.bipush 9, 2) := by decide +kernel
theorem dL_acts_189 : decode cL_acts 189 = .ok (.ishr, 1) := by decide +kernel
theorem dL_acts_190 : decode cL_acts 190 = .ok (.iconst 1, 1) := by decide +kernel
theorem dL_acts_191 : decode cL_acts 191 = .ok (.aload_n 0, 1) := by decide +kernel
theorem dL_acts_192 : decode cL_acts 192 = .ok (.iload_n 3, 1) := by decide +kernel
theorem dL_acts_193 : decode cL_acts 193 = .ok (.iload_n 2, 1) := by decide +kernel
theorem dL_acts_194 : decode cL_acts 194 = .ok (.if_icmp .ge 7, 3) := by decide +kernel
theorem dL_acts_197 : decode cL_acts 197 = .ok (.iload_n 3, 1) := by decide +kernel
theorem dL_acts_198 : decode cL_acts 198 = .ok (.goto 4, 3) := by decide +kernel
theorem dL_acts_201 : decode cL_acts 201 = .ok (.iconst 0, 1) := by decide +kernel
theorem dL_acts_202 : decode cL_acts 202 = .ok (.iconst 0, 1) := by decide +kernel
theorem dL_acts_203 : decode cL_acts 203 = .ok (.invokevirtual 18, 3) := by decide +kernel
theorem dL_acts_206 : decode cL_acts 206 = .ok (.iadd, 1) := by decide +kernel
theorem dL_acts_207 : decode cL_acts 207 = .ok (.invokestatic 59, 3) := by decide +kernel
theorem dL_acts_210 : decode cL_acts 210 = .ok (.iload_n 1, 1) := by decide +kernel
theorem dL_acts_211 : decode cL_acts 211 = .ok (.bipush 7, 2) := by decide +kernel
theorem dL_acts_213 : decode cL_acts 213 = .ok (.ishr, 1) := by decide +kernel
theorem dL_acts_214 : decode cL_acts 214 = .ok (.iconst 1, 1) := by decide +kernel
theorem dL_acts_215 : decode cL_acts 215 = .ok (.iand, 1) := by decide +kernel
theorem dL_acts_216 : decode cL_acts 216 = .ok (.invokevirtual 70, 3) := by decide +kernel
theorem dL_acts_219 : decode cL_acts 219 = .ok (.ireturn, 1) := by decide +kernel
theorem dL_acts_220 : decode cL_acts 220 = .ok (.aload_n 0, 1) := by decide +kernel
theorem dL_acts_221 : decode cL_acts 221 = .ok (.iload_n 3, 1) := by decide +kernel
theorem dL_acts_222 : decode cL_acts 222 = .ok (.iload_n 1, 1) := by decide +kernel
theorem dL_acts_223 : decode cL_acts 223 = .ok (.bipush 9, 2) := by decide +kernel
theorem dL_acts_225 : decode cL_acts 225 = .ok (.ishr, 1) := by decide +kernel
theorem dL_acts_226 : decode cL_acts 226 = .ok (.sipush 610, 3) := by decide +kernel
theorem dL_acts_229 : decode cL_acts 229 = .ok (.invokestatic 59, 3) := by decide +kernel
theorem dL_acts_232 : decode cL_acts 232 = .ok (.invokevirtual 73, 3) := by decide +kernel
theorem dL_acts_235 : decode cL_acts 235 = .ok (.ireturn, 1) := by decide +kernel
theorem dL_acts_236 : decode cL_acts 236 = .ok (.aload_n 0, 1) := by decide +kernel
theorem dL_acts_237 : decode cL_acts 237 = .ok (.iload_n 3, 1) := by decide +kernel
theorem dL_acts_238 : decode cL_acts 238 = .ok (.iload_n 1, 1) := by decide +kernel
theorem dL_acts_239 : decode cL_acts 239 = .ok (.bipush 9, 2) := by decide +kernel
theorem dL_acts_241 : decode cL_acts 241 = .ok (.ishr, 1) := by decide +kernel
theorem dL_acts_242 : decode cL_acts 242 = .ok (.iconst 4, 1) := by decide +kernel
theorem dL_acts_243 : decode cL_acts 243 = .ok (.invokestatic 59, 3) := by decide +kernel
theorem dL_acts_246 : decode cL_acts 246 = .ok (.iload_n 1, 1) := by decide +kernel
theorem dL_acts_247 : decode cL_acts 247 = .ok (.bipush 11, 2) := by decide +kernel
theorem dL_acts_249 : decode cL_acts 249 = .ok (.ishr, 1) := by decide +kernel
theorem dL_acts_250 : decode cL_acts 250 = .ok (.iload_n 2, 1) := by decide +kernel
theorem dL_acts_251 : decode cL_acts 251 = .ok (.invokestatic 59, 3) := by decide +kernel
theorem dL_acts_254 : decode cL_acts 254 = .ok (.iload_n 1, 1) := by decide +kernel
theorem dL_acts_255 : decode cL_acts 255 = .ok (.bipush 14, 2) := by decide +kernel
theorem dL_acts_257 : decode cL_acts 257 = .ok (.ishr, 1) := by decide +kernel
theorem dL_acts_258 : decode cL_acts 258 = .ok (.iload_n 2, 1) := by decide +kernel
theorem dL_acts_259 : decode cL_acts 259 = .ok (.invokestatic 59, 3) := by decide +kernel
theorem dL_acts_262 : decode cL_acts 262 = .ok (.invokevirtual 76, 3) := by decide +kernel
theorem dL_acts_265 : decode cL_acts 265 = .ok (.ireturn, 1) := by decide +kernel
theorem dL_acts_266 : decode cL_acts 266 = .ok (.aload_n 0, 1) := by decide +kernel
theorem dL_acts_267 : decode cL_acts 267 = .ok (.iload_n 3, 1) := by decide +kernel
theorem dL_acts_268 : decode cL_acts 268 = .ok (.invokevirtual 79, 3) := by decide +kernel
theorem dL_acts_271 : decode cL_acts 271 = .ok (.ireturn, 1) := by decide +kernel
theorem dL_acts_272 : decode cL_acts 272 = .ok (.aload_n 0, 1) := by decide +kernel
theorem dL_acts_273 : decode cL_acts 273 = .ok (.iload_n 3, 1) := by decide +kernel
theorem dL_acts_274 : decode cL_acts 274 = .ok (.iload_n 1, 1) := by decide +kernel
theorem dL_acts_275 : decode cL_acts 275 = .ok (.bipush 9, 2) := by decide +kernel
theorem dL_acts_277 : decode cL_acts 277 = .ok (.ishr, 1) := by decide +kernel
theorem dL_acts_278 : decode cL_acts 278 = .ok (.sipush 1210, 3) := by decide +kernel
theorem dL_acts_281 : decode cL_acts 281 = .ok (.invokestatic 59, 3) := by decide +kernel
theorem dL_acts_284 : decode cL_acts 284 = .ok (.sipush 605, 3) := by decide +kernel
theorem dL_acts_287 : decode cL_acts 287 = .ok (.isub, 1) := by decide +kernel
theorem dL_acts_288 : decode cL_acts 288 = .ok (.invokevirtual 52, 3) := by decide +kernel
theorem dL_acts_291 : decode cL_acts 291 = .ok (.ireturn, 1) := by decide +kernel
theorem dL_acts_292 : decode cL_acts 292 = .ok (.aload_n 0, 1) := by decide +kernel
theorem dL_acts_293 : decode cL_acts 293 = .ok (.iload_n 3, 1) := by decide +kernel
theorem dL_acts_294 : decode cL_acts 294 = .ok (.invokevirtual 82, 3) := by decide +kernel
theorem dL_acts_297 : decode cL_acts 297 = .ok (.ireturn, 1) := by decide +kernel
theorem dL_acts_298 : decode cL_acts 298 = .ok (.aload_n 0, 1) := by decide +kernel
theorem dL_acts_299 : decode cL_acts 299 = .ok (.invokevirtual 85, 3) := by decide +kernel
theorem dL_acts_302 : decode cL_acts 302 = .ok (.ireturn, 1) := by decide +kernel
theorem dL_law_0 : decode cL_law 0 = .ok (.new 13, 3) := by decide +kernel
theorem dL_law_3 : decode cL_law 3 = .ok (.dup, 1) := by decide +kernel
theorem dL_law_4 : decode cL_law 4 = .ok (.invokespecial 88, 3) := by decide +kernel
theorem dL_law_7 : decode cL_law 7 = .ok (.astore_n 1, 1) := by decide +kernel
theorem dL_law_8 : decode cL_law 8 = .ok (.aload_n 0, 1) := by decide +kernel
theorem dL_law_9 : decode cL_law 9 = .ok (.iconst 0, 1) := by decide +kernel
theorem dL_law_10 : decode cL_law 10 = .ok (.invokestatic 89, 3) := by decide +kernel
theorem dL_law_13 : decode cL_law 13 = .ok (.istore_n 2, 1) := by decide +kernel
theorem dL_law_14 : decode cL_law 14 = .ok (.iconst 0, 1) := by decide +kernel
theorem dL_law_15 : decode cL_law 15 = .ok (.istore_n 3, 1) := by decide +kernel
theorem dL_law_16 : decode cL_law 16 = .ok (.iload_n 3, 1) := by decide +kernel
theorem dL_law_17 : decode cL_law 17 = .ok (.iconst 3, 1) := by decide +kernel
theorem dL_law_18 : decode cL_law 18 = .ok (.if_icmp .ge 38, 3) := by decide +kernel
theorem dL_law_21 : decode cL_law 21 = .ok (.aload_n 1, 1) := by decide +kernel
theorem dL_law_22 : decode cL_law 22 = .ok (.invokevirtual 85, 3) := by decide +kernel
theorem dL_law_25 : decode cL_law 25 = .ok (.pop, 1) := by decide +kernel
theorem dL_law_26 : decode cL_law 26 = .ok (.aload_n 1, 1) := by decide +kernel
theorem dL_law_27 : decode cL_law 27 = .ok (.iload_n 3, 1) := by decide +kernel
theorem dL_law_28 : decode cL_law 28 = .ok (.iload_n 2, 1) := by decide +kernel
theorem dL_law_29 : decode cL_law 29 = .ok (.iload_n 3, 1) := by decide +kernel
theorem dL_law_30 : decode cL_law 30 = .ok (.ishr, 1) := by decide +kernel
theorem dL_law_31 : decode cL_law 31 = .ok (.iconst 1, 1) := by decide +kernel
theorem dL_law_32 : decode cL_law 32 = .ok (.iand, 1) := by decide +kernel
theorem dL_law_33 : decode cL_law 33 = .ok (.iconst 1, 1) := by decide +kernel
theorem dL_law_34 : decode cL_law 34 = .ok (.iload_n 2, 1) := by decide +kernel
theorem dL_law_35 : decode cL_law 35 = .ok (.iconst 3, 1) := by decide +kernel
theorem dL_law_36 : decode cL_law 36 = .ok (.iload_n 3, 1) := by decide +kernel
theorem dL_law_37 : decode cL_law 37 = .ok (.imul, 1) := by decide +kernel
theorem dL_law_38 : decode cL_law 38 = .ok (.ishr, 1) := by decide +kernel
theorem dL_law_39 : decode cL_law 39 = .ok (.sipush 300, 3) := by decide +kernel
theorem dL_law_42 : decode cL_law 42 = .ok (.invokestatic 59, 3) := by decide +kernel
theorem dL_law_45 : decode cL_law 45 = .ok (.iadd, 1) := by decide +kernel
theorem dL_law_46 : decode cL_law 46 = .ok (.invokevirtual 62, 3) := by decide +kernel
theorem dL_law_49 : decode cL_law 49 = .ok (.pop, 1) := by decide +kernel
theorem dL_law_50 : decode cL_law 50 = .ok (.iinc 3 1, 3) := by decide +kernel
theorem dL_law_53 : decode cL_law 53 = .ok (.goto (-37), 3) := by decide +kernel
theorem dL_law_56 : decode cL_law 56 = .ok (.aload_n 1, 1) := by decide +kernel
theorem dL_law_57 : decode cL_law 57 = .ok (.bipush 48, 2) := by decide +kernel
theorem dL_law_59 : decode cL_law 59 = .ok (.iload_n 2, 1) := by decide +kernel
theorem dL_law_60 : decode cL_law 60 = .ok (.bipush 9, 2) := by decide +kernel
theorem dL_law_62 : decode cL_law 62 = .ok (.ishr, 1) := by decide +kernel
theorem dL_law_63 : decode cL_law 63 = .ok (.iconst 3, 1) := by decide +kernel
theorem dL_law_64 : decode cL_law 64 = .ok (.invokestatic 59, 3) := by decide +kernel
theorem dL_law_67 : decode cL_law 67 = .ok (.iadd, 1) := by decide +kernel
theorem dL_law_68 : decode cL_law 68 = .ok (.invokevirtual 93, 3) := by decide +kernel
theorem dL_law_71 : decode cL_law 71 = .ok (.pop, 1) := by decide +kernel
theorem dL_law_72 : decode cL_law 72 = .ok (.aload_n 1, 1) := by decide +kernel
theorem dL_law_73 : decode cL_law 73 = .ok (.iload_n 2, 1) := by decide +kernel
theorem dL_law_74 : decode cL_law 74 = .ok (.bipush 12, 2) := by decide +kernel
theorem dL_law_76 : decode cL_law 76 = .ok (.ishr, 1) := by decide +kernel
theorem dL_law_77 : decode cL_law 77 = .ok (.iconst 1, 1) := by decide +kernel
theorem dL_law_78 : decode cL_law 78 = .ok (.iand, 1) := by decide +kernel
theorem dL_law_79 : decode cL_law 79 = .ok (.ifCond .ne 8, 3) := by decide +kernel
theorem dL_law_82 : decode cL_law 82 = .ok (.bipush 38, 2) := by decide +kernel
theorem dL_law_84 : decode cL_law 84 = .ok (.goto 5, 3) := by decide +kernel
theorem dL_law_87 : decode cL_law 87 = .ok (.bipush 94, 2) := by decide +kernel
theorem dL_law_89 : decode cL_law 89 = .ok (.invokevirtual 93, 3) := by decide +kernel
theorem dL_law_92 : decode cL_law 92 = .ok (.pop, 1) := by decide +kernel
theorem dL_law_93 : decode cL_law 93 = .ok (.aload_n 1, 1) := by decide +kernel
theorem dL_law_94 : decode cL_law 94 = .ok (.bipush 126, 2) := by decide +kernel
theorem dL_law_96 : decode cL_law 96 = .ok (.invokevirtual 93, 3) := by decide +kernel
theorem dL_law_99 : decode cL_law 99 = .ok (.pop, 1) := by decide +kernel
theorem dL_law_100 : decode cL_law 100 = .ok (.aload_n 1, 1) := by decide +kernel
theorem dL_law_101 : decode cL_law 101 = .ok (.bipush 48, 2) := by decide +kernel
theorem dL_law_103 : decode cL_law 103 = .ok (.iload_n 2, 1) := by decide +kernel
theorem dL_law_104 : decode cL_law 104 = .ok (.bipush 13, 2) := by decide +kernel
theorem dL_law_106 : decode cL_law 106 = .ok (.ishr, 1) := by decide +kernel
theorem dL_law_107 : decode cL_law 107 = .ok (.iconst 4, 1) := by decide +kernel
theorem dL_law_108 : decode cL_law 108 = .ok (.invokestatic 59, 3) := by decide +kernel
theorem dL_law_111 : decode cL_law 111 = .ok (.iadd, 1) := by decide +kernel
theorem dL_law_112 : decode cL_law 112 = .ok (.invokevirtual 93, 3) := by decide +kernel
theorem dL_law_115 : decode cL_law 115 = .ok (.pop, 1) := by decide +kernel
theorem dL_law_116 : decode cL_law 116 = .ok (.iconst 0, 1) := by decide +kernel
theorem dL_law_117 : decode cL_law 117 = .ok (.istore_n 3, 1) := by decide +kernel
theorem dL_law_118 : decode cL_law 118 = .ok (.iload_n 3, 1) := by decide +kernel
theorem dL_law_119 : decode cL_law 119 = .ok (.bipush 24, 2) := by decide +kernel
theorem dL_law_121 : decode cL_law 121 = .ok (.if_icmp .ge 178, 3) := by decide +kernel
theorem dL_law_124 : decode cL_law 124 = .ok (.aload_n 0, 1) := by decide +kernel
theorem dL_law_125 : decode cL_law 125 = .ok (.iconst 1, 1) := by decide +kernel
theorem dL_law_126 : decode cL_law 126 = .ok (.iload_n 3, 1) := by decide +kernel
theorem dL_law_127 : decode cL_law 127 = .ok (.iadd, 1) := by decide +kernel
theorem dL_law_128 : decode cL_law 128 = .ok (.invokestatic 89, 3) := by decide +kernel
theorem dL_law_131 : decode cL_law 131 = .ok (.istore 4, 2) := by decide +kernel
theorem dL_law_133 : decode cL_law 133 = .ok (.aload_n 1, 1) := by decide +kernel
theorem dL_law_134 : decode cL_law 134 = .ok (.invokestatic 45, 3) := by decide +kernel
theorem dL_law_137 : decode cL_law 137 = .ok (.lstore 5, 2) := by decide +kernel
theorem dL_law_139 : decode cL_law 139 = .ok (.aload_n 1, 1) := by decide +kernel
theorem dL_law_140 : decode cL_law 140 = .ok (.iload 4, 2) := by decide +kernel
theorem dL_law_142 : decode cL_law 142 = .ok (.invokestatic 96, 3) := by decide +kernel
theorem dL_law_145 : decode cL_law 145 = .ok (.istore 7, 2) := by decide +kernel
theorem dL_law_147 : decode cL_law 147 = .ok (.iload 7, 2) := by decide +kernel
theorem dL_law_149 : decode cL_law 149 = .ok (.ifCond .ge 15, 3) := by decide +kernel
theorem dL_law_152 : decode cL_law 152 = .ok (.aload_n 1, 1) := by decide +kernel
theorem dL_law_153 : decode cL_law 153 = .ok (.invokestatic 45, 3) := by decide +kernel
theorem dL_law_156 : decode cL_law 156 = .ok (.lload 5, 2) := by decide +kernel
theorem dL_law_158 : decode cL_law 158 = .ok (.lcmp, 1) := by decide +kernel
theorem dL_law_159 : decode cL_law 159 = .ok (.ifCond .eq 5, 3) := by decide +kernel
theorem dL_law_162 : decode cL_law 162 = .ok (.iconst 0, 1) := by decide +kernel
theorem dL_law_163 : decode cL_law 163 = .ok (.ireturn, 1) := by decide +kernel
theorem dL_law_164 : decode cL_law 164 = .ok (.iload 7, 2) := by decide +kernel
theorem dL_law_166 : decode cL_law 166 = .ok (.ifCond .lt 32, 3) := by decide +kernel
theorem dL_law_169 : decode cL_law 169 = .ok (.iload 4, 2) := by decide +kernel
theorem dL_law_171 : decode cL_law 171 = .ok (.bipush 28, 2) := by decide +kernel
theorem dL_law_173 : decode cL_law 173 = .ok (.ishr, 1) := by decide +kernel
theorem dL_law_174 : decode cL_law 174 = .ok (.iconst 3, 1) := by decide +kernel
theorem dL_law_175 : decode cL_law 175 = .ok (.iand, 1) := by decide +kernel
theorem dL_law_176 : decode cL_law 176 = .ok (.ifCond .ne 22, 3) := by decide +kernel
theorem dL_law_179 : decode cL_law 179 = .ok (.aload_n 1, 1) := by decide +kernel
theorem dL_law_180 : decode cL_law 180 = .ok (.invokevirtual 55, 3) := by decide +kernel
theorem dL_law_183 : decode cL_law 183 = .ok (.ifCond .lt 13, 3) := by decide +kernel
theorem dL_law_186 : decode cL_law 186 = .ok (.aload_n 1, 1) := by decide +kernel
theorem dL_law_187 : decode cL_law 187 = .ok (.invokestatic 45, 3) := by decide +kernel
theorem dL_law_190 : decode cL_law 190 = .ok (.lload 5, 2) := by decide +kernel
theorem dL_law_192 : decode cL_law 192 = .ok (.lcmp, 1) := by decide +kernel
theorem dL_law_193 : decode cL_law 193 = .ok (.ifCond .eq 5, 3) := by decide +kernel
theorem dL_law_196 : decode cL_law 196 = .ok (.iconst 0, 1) := by decide +kernel
theorem dL_law_197 : decode cL_law 197 = .ok (.ireturn, 1) := by decide +kernel
theorem dL_law_198 : decode cL_law 198 = .ok (.aload_n 1, 1) := by decide +kernel
theorem dL_law_199 : decode cL_law 199 = .ok (.iconst 0, 1) := by decide +kernel
theorem dL_law_200 : decode cL_law 200 = .ok (.invokevirtual 12, 3) := by decide +kernel
theorem dL_law_203 : decode cL_law 203 = .ok (.istore 8, 2) := by decide +kernel
theorem dL_law_205 : decode cL_law 205 = .ok (.aload_n 1, 1) := by decide +kernel
theorem dL_law_206 : decode cL_law 206 = .ok (.iload 4, 2) := by decide +kernel
theorem dL_law_208 : decode cL_law 208 = .ok (.bipush 6, 2) := by decide +kernel
theorem dL_law_210 : decode cL_law 210 = .ok (.ishr, 1) := by decide +kernel
theorem dL_law_211 : decode cL_law 211 = .ok (.iload 8, 2) := by decide +kernel
theorem dL_law_213 : decode cL_law 213 = .ok (.invokestatic 59, 3) := by decide +kernel
theorem dL_law_216 : decode cL_law 216 = .ok (.invokestatic 100, 3) := by decide +kernel
theorem dL_law_219 : decode cL_law 219 = .ok (.ifCond .eq 72, 3) := by decide +kernel
theorem dL_law_222 : decode cL_law 222 = .ok (.iload_n 3, 1) := by decide +kernel
theorem dL_law_223 : decode cL_law 223 = .ok (.iconst 3, 1) := by decide +kernel
theorem dL_law_224 : decode cL_law 224 = .ok (.irem, 1) := by decide +kernel
theorem dL_law_225 : decode cL_law 225 = .ok (.iconst 1, 1) := by decide +kernel
theorem dL_law_226 : decode cL_law 226 = .ok (.if_icmp .ne 30, 3) := by decide +kernel
theorem dL_law_229 : decode cL_law 229 = .ok (.aload_n 1, 1) := by decide +kernel
theorem dL_law_230 : decode cL_law 230 = .ok (.iload 4, 2) := by decide +kernel
theorem dL_law_232 : decode cL_law 232 = .ok (.bipush 9, 2) := by decide +kernel
theorem dL_law_234 : decode cL_law 234 = .ok (.ishr, 1) := by decide +kernel
theorem dL_law_235 : decode cL_law 235 = .ok (.iload 8, 2) := by decide +kernel
theorem dL_law_237 : decode cL_law 237 = .ok (.invokestatic 59, 3) := by decide +kernel
theorem dL_law_240 : decode cL_law 240 = .ok (.iload 4, 2) := by decide +kernel
theorem dL_law_242 : decode cL_law 242 = .ok (.bipush 12, 2) := by decide +kernel
theorem dL_law_244 : decode cL_law 244 = .ok (.ishr, 1) := by decide +kernel
theorem dL_law_245 : decode cL_law 245 = .ok (.iload 8, 2) := by decide +kernel
theorem dL_law_247 : decode cL_law 247 = .ok (.invokestatic 59, 3) := by decide +kernel
theorem dL_law_250 : decode cL_law 250 = .ok (.invokestatic 104, 3) := by decide +kernel
theorem dL_law_253 : decode cL_law 253 = .ok (.ifCond .eq 38, 3) := by decide +kernel
theorem dL_law_256 : decode cL_law 256 = .ok (.iload_n 3, 1) := by decide +kernel
theorem dL_law_257 : decode cL_law 257 = .ok (.bipush 8, 2) := by decide +kernel
theorem dL_law_259 : decode cL_law 259 = .ok (.irem, 1) := by decide +kernel
theorem dL_law_260 : decode cL_law 260 = .ok (.iconst 3, 1) := by decide +kernel
theorem dL_law_261 : decode cL_law 261 = .ok (.if_icmp .ne 32, 3) := by decide +kernel
theorem dL_law_264 : decode cL_law 264 = .ok (.aload_n 1, 1) := by decide +kernel
theorem dL_law_265 : decode cL_law 265 = .ok (.iload 4, 2) := by decide +kernel
theorem dL_law_267 : decode cL_law 267 = .ok (.bipush 7, 2) := by decide +kernel
theorem dL_law_269 : decode cL_law 269 = .ok (.ishr, 1) := by decide +kernel
theorem dL_law_270 : decode cL_law 270 = .ok (.iload 8, 2) := by decide +kernel
theorem dL_law_272 : decode cL_law 272 = .ok (.invokestatic 59, 3) := by decide +kernel
theorem dL_law_275 : decode cL_law 275 = .ok (.iload 4, 2) := by decide +kernel
theorem dL_law_277 : decode cL_law 277 = .ok (.bipush 16, 2) := by decide +kernel
theorem dL_law_279 : decode cL_law 279 = .ok (.ishr, 1) := by decide +kernel
theorem dL_law_280 : decode cL_law 280 = .ok (.bipush 15, 2) := by decide +kernel
theorem dL_law_282 : decode cL_law 282 = .ok (.invokestatic 59, 3) := by decide +kernel
theorem dL_law_285 : decode cL_law 285 = .ok (.invokestatic 108, 3) := by decide +kernel
theorem dL_law_288 : decode cL_law 288 = .ok (.ifCond .ne 5, 3) := by decide +kernel
theorem dL_law_291 : decode cL_law 291 = .ok (.iconst 0, 1) := by decide +kernel
theorem dL_law_292 : decode cL_law 292 = .ok (.ireturn, 1) := by decide +kernel
theorem dL_law_293 : decode cL_law 293 = .ok (.iinc 3 1, 3) := by decide +kernel
theorem dL_law_296 : decode cL_law 296 = .ok (.goto (-178), 3) := by decide +kernel
theorem dL_law_299 : decode cL_law 299 = .ok (.aload_n 1, 1) := by decide +kernel
theorem dL_law_300 : decode cL_law 300 = .ok (.iconst 4, 1) := by decide +kernel
theorem dL_law_301 : decode cL_law 301 = .ok (.invokevirtual 12, 3) := by decide +kernel
theorem dL_law_304 : decode cL_law 304 = .ok (.istore_n 3, 1) := by decide +kernel
theorem dL_law_305 : decode cL_law 305 = .ok (.iconst 0, 1) := by decide +kernel
theorem dL_law_306 : decode cL_law 306 = .ok (.istore 4, 2) := by decide +kernel
theorem dL_law_308 : decode cL_law 308 = .ok (.iload 4, 2) := by decide +kernel
theorem dL_law_310 : decode cL_law 310 = .ok (.iload_n 3, 1) := by decide +kernel
theorem dL_law_311 : decode cL_law 311 = .ok (.if_icmp .ge 40, 3) := by decide +kernel
theorem dL_law_314 : decode cL_law 314 = .ok (.aload_n 1, 1) := by decide +kernel
theorem dL_law_315 : decode cL_law 315 = .ok (.invokevirtual 55, 3) := by decide +kernel
theorem dL_law_318 : decode cL_law 318 = .ok (.iload_n 3, 1) := by decide +kernel
theorem dL_law_319 : decode cL_law 319 = .ok (.iconst 1, 1) := by decide +kernel
theorem dL_law_320 : decode cL_law 320 = .ok (.isub, 1) := by decide +kernel
theorem dL_law_321 : decode cL_law 321 = .ok (.iload 4, 2) := by decide +kernel
theorem dL_law_323 : decode cL_law 323 = .ok (.isub, 1) := by decide +kernel
theorem dL_law_324 : decode cL_law 324 = .ok (.if_icmp .ne 19, 3) := by decide +kernel
theorem dL_law_327 : decode cL_law 327 = .ok (.aload_n 1, 1) := by decide +kernel
theorem dL_law_328 : decode cL_law 328 = .ok (.iconst 0, 1) := by decide +kernel
theorem dL_law_329 : decode cL_law 329 = .ok (.invokevirtual 12, 3) := by decide +kernel
theorem dL_law_332 : decode cL_law 332 = .ok (.ifCond .le 13, 3) := by decide +kernel
theorem dL_law_335 : decode cL_law 335 = .ok (.aload_n 1, 1) := by decide +kernel
theorem dL_law_336 : decode cL_law 336 = .ok (.iconst 0, 1) := by decide +kernel
theorem dL_law_337 : decode cL_law 337 = .ok (.invokestatic 100, 3) := by decide +kernel
theorem dL_law_340 : decode cL_law 340 = .ok (.ifCond .ne 5, 3) := by decide +kernel
theorem dL_law_343 : decode cL_law 343 = .ok (.iconst 0, 1) := by decide +kernel
theorem dL_law_344 : decode cL_law 344 = .ok (.ireturn, 1) := by decide +kernel
theorem dL_law_345 : decode cL_law 345 = .ok (.iinc 4 1, 3) := by decide +kernel
theorem dL_law_348 : decode cL_law 348 = .ok (.goto (-40), 3) := by decide +kernel
theorem dL_law_351 : decode cL_law 351 = .ok (.aload_n 1, 1) := by decide +kernel
theorem dL_law_352 : decode cL_law 352 = .ok (.invokevirtual 55, 3) := by decide +kernel
theorem dL_law_355 : decode cL_law 355 = .ok (.bipush (-2), 2) := by decide +kernel
theorem dL_law_357 : decode cL_law 357 = .ok (.if_icmp .ne 92, 3) := by decide +kernel
theorem dL_law_360 : decode cL_law 360 = .ok (.aload_n 1, 1) := by decide +kernel
theorem dL_law_361 : decode cL_law 361 = .ok (.iconst 5, 1) := by decide +kernel
theorem dL_law_362 : decode cL_law 362 = .ok (.invokevirtual 12, 3) := by decide +kernel
theorem dL_law_365 : decode cL_law 365 = .ok (.iconst 4, 1) := by decide +kernel
theorem dL_law_366 : decode cL_law 366 = .ok (.if_icmp .ne 83, 3) := by decide +kernel
theorem dL_law_369 : decode cL_law 369 = .ok (.aload_n 1, 1) := by decide +kernel
theorem dL_law_370 : decode cL_law 370 = .ok (.invokevirtual 111, 3) := by decide +kernel
theorem dL_law_373 : decode cL_law 373 = .ok (.iconst 4, 1) := by decide +kernel
theorem dL_law_374 : decode cL_law 374 = .ok (.if_icmp .ne 75, 3) := by decide +kernel
theorem dL_law_377 : decode cL_law 377 = .ok (.aload_n 1, 1) := by decide +kernel
theorem dL_law_378 : decode cL_law 378 = .ok (.iconst 0, 1) := by decide +kernel
theorem dL_law_379 : decode cL_law 379 = .ok (.invokevirtual 82, 3) := by decide +kernel
theorem dL_law_382 : decode cL_law 382 = .ok (.sipush (-1000), 3) := by decide +kernel
theorem dL_law_385 : decode cL_law 385 = .ok (.if_icmp .ne 64, 3) := by decide +kernel
theorem dL_law_388 : decode cL_law 388 = .ok (.aload_n 1, 1) := by decide +kernel
theorem dL_law_389 : decode cL_law 389 = .ok (.iconst 0, 1) := by decide +kernel
theorem dL_law_390 : decode cL_law 390 = .ok (.invokevirtual 114, 3) := by decide +kernel
theorem dL_law_393 : decode cL_law 393 = .ok (.iconst 1, 1) := by decide +kernel
theorem dL_law_394 : decode cL_law 394 = .ok (.if_icmp .ne 55, 3) := by decide +kernel
theorem dL_law_397 : decode cL_law 397 = .ok (.aload_n 1, 1) := by decide +kernel
theorem dL_law_398 : decode cL_law 398 = .ok (.iconst 1, 1) := by decide +kernel
theorem dL_law_399 : decode cL_law 399 = .ok (.invokevirtual 114, 3) := by decide +kernel
theorem dL_law_402 : decode cL_law 402 = .ok (.ifCond .ne 47, 3) := by decide +kernel
theorem dL_law_405 : decode cL_law 405 = .ok (.aload_n 1, 1) := by decide +kernel
theorem dL_law_406 : decode cL_law 406 = .ok (.bipush 8, 2) := by decide +kernel
theorem dL_law_408 : decode cL_law 408 = .ok (.iconst 0, 1) := by decide +kernel
theorem dL_law_409 : decode cL_law 409 = .ok (.invokevirtual 18, 3) := by decide +kernel
theorem dL_law_412 : decode cL_law 412 = .ok (.iconst (-1), 1) := by decide +kernel
theorem dL_law_413 : decode cL_law 413 = .ok (.if_icmp .ne 36, 3) := by decide +kernel
theorem dL_law_416 : decode cL_law 416 = .ok (.aload_n 1, 1) := by decide +kernel
theorem dL_law_417 : decode cL_law 417 = .ok (.bipush 6, 2) := by decide +kernel
theorem dL_law_419 : decode cL_law 419 = .ok (.invokevirtual 12, 3) := by decide +kernel
theorem dL_law_422 : decode cL_law 422 = .ok (.iconst (-1), 1) := by decide +kernel
theorem dL_law_423 : decode cL_law 423 = .ok (.if_icmp .ne 26, 3) := by decide +kernel
theorem dL_law_426 : decode cL_law 426 = .ok (.aload_n 1, 1) := by decide +kernel
theorem dL_law_427 : decode cL_law 427 = .ok (.bipush 8, 2) := by decide +kernel
theorem dL_law_429 : decode cL_law 429 = .ok (.invokevirtual 42, 3) := by decide +kernel
theorem dL_law_432 : decode cL_law 432 = .ok (.iconst (-1), 1) := by decide +kernel
theorem dL_law_433 : decode cL_law 433 = .ok (.if_icmp .ne 16, 3) := by decide +kernel
theorem dL_law_436 : decode cL_law 436 = .ok (.aload_n 1, 1) := by decide +kernel
theorem dL_law_437 : decode cL_law 437 = .ok (.iconst (-1), 1) := by decide +kernel
theorem dL_law_438 : decode cL_law 438 = .ok (.invokevirtual 49, 3) := by decide +kernel
theorem dL_law_441 : decode cL_law 441 = .ok (.iconst (-1), 1) := by decide +kernel
theorem dL_law_442 : decode cL_law 442 = .ok (.if_icmp .ne 7, 3) := by decide +kernel
theorem dL_law_445 : decode cL_law 445 = .ok (.iconst 1, 1) := by decide +kernel
theorem dL_law_446 : decode cL_law 446 = .ok (.goto 4, 3) := by decide +kernel
theorem dL_law_449 : decode cL_law 449 = .ok (.iconst 0, 1) := by decide +kernel
theorem dL_law_450 : decode cL_law 450 = .ok (.ireturn, 1) := by decide +kernel
end
section
/-! THE MEMORY: cells in the order in which they are made, from the address B on; a cell has a kind and a size, numbers I and cells' numbers P -/
abbrev gV : Type := (Int32 ⊕ Option Nat) ⊕ Int64
abbrev vi (x : Int32) : gV := .inl (.inl x)
abbrev vr (a : Nat) : gV := .inl (.inr (some a))
abbrev vsc : gV := .inl (.inr none)
abbrev vl (x : Int64) : gV := .inr x
def gv (B b : Nat) (v : gV) : Value := match v with
  | .inl (.inl x) => .int x
  | .inl (.inr (some a)) => .ref (B + a)
  | .inl (.inr none) => .ref b
  | .inr x => .long x
/-- a value of one word -/
def c1 (v : gV) : Bool := match v with
  | .inl _ => true
  | .inr _ => false
abbrev gI : Type := Nat → Nat → Int32
abbrev gP : Type := Nat → Nat → Option Nat
abbrev gM : Type := List (Nat × Nat) × gI × gP
/-- number of fields of a class (its place in vwCl), and which of them hold cells -/
def gN (ci : Nat) : Nat := match ci with
  | 0 => 2
  | 1 => 3
  | 2 => 10
  | 3 => 2
  | 4 => 5
  | _ => 17
def gR (ci k : Nat) : Bool := match ci with
  | 0 => k == 0
  | 1 => k == 0
  | 2 => k == 0 || k == 5 || k == 6
  | 3 => k == 0
  | 4 => k == 0 || k == 2 || k == 3 || k == 4
  | _ => k == 0 || k == 2 || k == 4 || k == 9
def gF (B : Nat) (I : gI) (P : gP) (ci a k : Nat) : Value := if gR ci k = true then va_rf ((P a k).map (fun x => B + x)) else .int (I a k)
/-- kinds: 0 to 5 an object of this place in vwCl; 10 ints, 11 chars, 12 rows of bits, 13 changes -/
def gE (Gc : Nat → ClassId) (B : Nat) (I : gI) (P : gP) (a : Nat) (sh : Nat × Nat) : va_E :=
  if sh.1 < 10 then .inr (sh.1, (List.range (gN sh.1)).map (gF B I P sh.1 a))
  else if sh.1 < 12 then .inl (Gc sh.1, sh.2, .inl (I a))
  else .inl (Gc sh.1, sh.2, .inr (.inr (.inr (.inr (fun j => (P a j).map (fun x => B + x))))))
def gW (Gc : Nat → ClassId) (B : Nat) (M : gM) : va_W := M.1.mapIdx fun a sh => (B + a, gE Gc B M.2.1 M.2.2 a sh)
def uI (I : gI) (a k : Nat) (x : Int32) : gI := fun c => if c = a then upd (I c) k x else I c
def uP (P : gP) (a k : Nat) (x : Option Nat) : gP := fun c => if c = a then va_up (P c) k x else P c
theorem gW_at {Gc : Nat → ClassId} {B : Nat} {M : gM} {a : Nat} {sh : Nat × Nat} (h : M.1[a]? = some sh) : (gW Gc B M)[a]? = some (B + a, gE Gc B M.2.1 M.2.2 a sh) := by
  simp [gW, List.getElem?_mapIdx, h]
theorem gW_of {Gc : Nat → ClassId} {B : Nat} {M : gM} {a : Nat} {q : Nat × va_E} (h : (gW Gc B M)[a]? = some q) : ∃ sh, M.1[a]? = some sh ∧ q = (B + a, gE Gc B M.2.1 M.2.2 a sh) := by
  simp only [gW, List.getElem?_mapIdx, Option.map_eq_some_iff] at h
  obtain ⟨sh, h1, h2⟩ := h
  exact ⟨sh, h1, h2.symm⟩
theorem gW_D {Gc : Nat → ClassId} {B : Nat} {M : gM} : va_D (fun q => B ≤ q) (gW Gc B M) := by
  refine ⟨fun i j p q hp hq h => ?_, fun k q hq => ?_⟩
  · obtain ⟨_, _, rfl⟩ := gW_of hp
    obtain ⟨_, _, rfl⟩ := gW_of hq
    have h' : B + i = B + j := h
    omega
  · obtain ⟨_, _, rfl⟩ := gW_of hq
    exact Nat.le_add_right _ _
theorem gE_uI_ne {Gc : Nat → ClassId} {B : Nat} {I : gI} {P : gP} {a c k : Nat} {x : Int32} {sh : Nat × Nat} (h : c ≠ a) : gE Gc B (uI I a k x) P c sh = gE Gc B I P c sh := by
  have e : uI I a k x c = I c := by simp [uI, h]
  have e2 : gF B (uI I a k x) P sh.1 c = gF B I P sh.1 c := by funext j; simp [gF, e]
  simp only [gE, e, e2]
theorem gE_uP_ne {Gc : Nat → ClassId} {B : Nat} {I : gI} {P : gP} {a c k : Nat} {x : Option Nat} {sh : Nat × Nat} (h : c ≠ a) : gE Gc B I (uP P a k x) c sh = gE Gc B I P c sh := by
  have e : uP P a k x c = P c := by simp [uP, h]
  have e2 : gF B I (uP P a k x) sh.1 c = gF B I P sh.1 c := by funext j; simp [gF, e]
  simp only [gE, e, e2]
theorem gW_set {Gc : Nat → ClassId} {B : Nat} {S : List (Nat × Nat)} {I I' : gI} {P P' : gP} {a : Nat} {sh : Nat × Nat} (h : S[a]? = some sh) (hne : ∀ c s, c ≠ a → gE Gc B I' P' c s = gE Gc B I P c s) : gW Gc B (S, I', P') = (gW Gc B (S, I, P)).set a (B + a, gE Gc B I' P' a sh) := by
  apply List.ext_getElem?
  intro i
  by_cases hi : i = a
  · subst hi
    have hlt : i < (gW Gc B (S, I, P)).length := by
      simp only [gW, List.length_mapIdx]
      exact (List.getElem?_eq_some_iff.mp h).1
    rw [List.getElem?_set_self hlt]
    exact gW_at h
  · rw [List.getElem?_set_ne (Ne.symm hi)]
    simp only [gW, List.getElem?_mapIdx]
    cases S[i]? with
    | none => rfl
    | some s => simp [hne i s hi]
theorem gW_uI {Gc : Nat → ClassId} {B : Nat} {S : List (Nat × Nat)} {I : gI} {P : gP} {a k : Nat} {x : Int32} {sh : Nat × Nat} (h : S[a]? = some sh) : gW Gc B (S, uI I a k x, P) = (gW Gc B (S, I, P)).set a (B + a, gE Gc B (uI I a k x) P a sh) := gW_set h fun _ _ hc => gE_uI_ne hc
theorem gW_uP {Gc : Nat → ClassId} {B : Nat} {S : List (Nat × Nat)} {I : gI} {P : gP} {a k : Nat} {x : Option Nat} {sh : Nat × Nat} (h : S[a]? = some sh) : gW Gc B (S, I, uP P a k x) = (gW Gc B (S, I, P)).set a (B + a, gE Gc B I (uP P a k x) a sh) := gW_set h fun _ _ hc => gE_uP_ne hc
theorem gE_obj {Gc : Nat → ClassId} {B : Nat} {I : gI} {P : gP} {a ci n : Nat} (h : ci < 10) : gE Gc B I P a (ci, n) = .inr (ci, (List.range (gN ci)).map (gF B I P ci a)) := by simp [gE, h]
theorem gE_int {Gc : Nat → ClassId} {B : Nat} {I : gI} {P : gP} {a kd n : Nat} (h1 : ¬ kd < 10) (h2 : kd < 12) : gE Gc B I P a (kd, n) = .inl (Gc kd, n, .inl (I a)) := by simp [gE, h1, h2]
theorem gE_ref {Gc : Nat → ClassId} {B : Nat} {I : gI} {P : gP} {a kd n : Nat} (h2 : ¬ kd < 12) : gE Gc B I P a (kd, n) = .inl (Gc kd, n, .inr (.inr (.inr (.inr (fun j => (P a j).map (fun x => B + x)))))) := by
  have h1 : ¬ kd < 10 := by omega
  simp [gE, h1, h2]
theorem gFs_at {B : Nat} {I : gI} {P : gP} {ci a k : Nat} (h : k < gN ci) : ((List.range (gN ci)).map (gF B I P ci a))[k]? = some (gF B I P ci a k) := by
  simp [h]
theorem gFs_uI {B : Nat} {I : gI} {P : gP} {ci a k : Nat} {x : Int32} (h : k < gN ci) (hr : gR ci k = false) : (List.range (gN ci)).map (gF B (uI I a k x) P ci a) = ((List.range (gN ci)).map (gF B I P ci a)).set k (.int x) := by
  apply List.ext_getElem?
  intro i
  by_cases hi : i = k
  · subst hi
    rw [List.getElem?_set_self (by simpa using h), gFs_at h]
    simp [gF, hr, uI, upd]
  · rw [List.getElem?_set_ne (Ne.symm hi)]
    simp only [List.getElem?_map]
    cases hh : (List.range (gN ci))[i]? with
    | none => rfl
    | some j =>
      by_cases hj : j = k
      · exfalso
        obtain ⟨_, h3⟩ := List.getElem?_eq_some_iff.mp hh
        simp at h3
        omega
      · simp [gF, uI, upd, hj]
theorem gFs_uP {B : Nat} {I : gI} {P : gP} {ci a k : Nat} {x : Option Nat} (h : k < gN ci) (hr : gR ci k = true) : (List.range (gN ci)).map (gF B I (uP P a k x) ci a) = ((List.range (gN ci)).map (gF B I P ci a)).set k (va_rf (x.map (fun y => B + y))) := by
  apply List.ext_getElem?
  intro i
  by_cases hi : i = k
  · subst hi
    rw [List.getElem?_set_self (by simpa using h), gFs_at h]
    simp [gF, hr, uP, va_up]
  · rw [List.getElem?_set_ne (Ne.symm hi)]
    simp only [List.getElem?_map]
    cases hh : (List.range (gN ci))[i]? with
    | none => rfl
    | some j =>
      by_cases hj : j = k
      · exfalso
        obtain ⟨_, h3⟩ := List.getElem?_eq_some_iff.mp hh
        simp at h3
        omega
      · simp [gF, uP, va_up, hj]
/-! THE WORDS that every method may use, and what the tables say besides -/
def gT : List Cond := lw_tbl.filter goodWord
theorem gT_in {w : Cond} (i : Nat) (h : lw_tbl[i]? = some w) (hg : goodWord w = true) : w ∈ gT := List.mem_filter.mpr ⟨List.mem_of_getElem? h, hg⟩
theorem gT_good {ws : List Cond} (h : ∀ w ∈ ws, w ∈ gT) : GoodIn gT ws := fun w hw => ⟨h w hw, good_of_word (List.mem_filter.mp (h w hw)).2⟩
def gTy (Gc : Nat → ClassId) : List (ClassId × FieldType) := [(Gc 10, .int), (Gc 11, .char), (Gc 12, .object RX0), (Gc 13, .object RX1)]
def gKK (D : va_G) (Gc : Nat → ClassId) (U : State) : Prop := va_K D vwCl (gTy Gc) U ∧ va_AO RX0 U ∧ va_AO RX1 U ∧ va_Nw (.methodLinkNest RX5 29 yX0_init RX5) U ∧ va_Nw (.methodLinkNest RX1 9 yX0_init RX5) U ∧ va_Nw (.methodLinkNest RX2 24 yX0_init RX5) U ∧ va_Nw (.methodLinkNest RX3 17 yX1_init RX5) U
theorem gKK.moved {D : va_G} {Gc : Nat → ClassId} {s U : State} (hW : s.WarmedH U.vm) (h : gKK D Gc s) : gKK D Gc U :=
  ⟨va_K.moved hW.alike h.1, va_AO.moved hW.alike h.2.1, va_AO.moved hW.alike h.2.2.1, va_Nw.warmM hW h.2.2.2.1, va_Nw.warmM hW h.2.2.2.2.1, va_Nw.warmM hW h.2.2.2.2.2.1, va_Nw.warmM hW h.2.2.2.2.2.2⟩
theorem gKK.same {D : va_G} {Gc : Nat → ClassId} {s U : State} (e : s.vm = U.vm) (h : gKK D Gc s) : gKK D Gc U :=
  ⟨va_K.moved (by rw [e]; exact Vm.Alike.refl _) h.1, va_AO.moved (by rw [e]; exact Vm.Alike.refl _) h.2.1, va_AO.moved (by rw [e]; exact Vm.Alike.refl _) h.2.2.1, va_Nw.same rfl e h.2.2.2.1, va_Nw.same rfl e h.2.2.2.2.1, va_Nw.same rfl e h.2.2.2.2.2.1, va_Nw.same rfl e h.2.2.2.2.2.2⟩
/-! THE JUDGEMENT -/
abbrev gEnv : Type := Launch × va_G × (Nat → ClassId) × Nat × Nat
abbrev gCtx : Type := Program × Env × Room × State × MethodId × Array Value × List Frame × Method × Code × (State → Prop)
def gLk (B b : Nat) (la : Array Slot) (ls : List (Option gV)) : Prop := la.size = ls.length ∧ lv_wf la ∧ ∀ (i : Nat) (v : gV), ls[i]? = some (some v) → la[i]? = some (Slot.val (gv B b v))
def G (E : gEnv) (κ : gCtx) (cells slots pc : Nat) (ls : List (Option gV)) (st : List gV) (M : gM) : Prop := match E, κ with
  | (l, D, Gc, B, b), (p, e, R, s, m, args, below, meth, c, Q) =>
    ∀ (H : Heap) (locs : List Loc) (la : Array Slot), gLk B b la ls → va_P D vwCl (gW Gc B M) H → va_S (fun q => B ≤ q) s.heap H locs → W p l e R s m args below meth c H locs cells slots Q (F0 m pc la (st.map (gv B b)))
def Cx (E : gEnv) (κ : gCtx) (cc : ByteArray) (nL : Nat) (own : String) (ret : Option FieldType) (d cz sz : Nat) : Prop := match E, κ with
  | (_, D, Gc, B, _), (p, _, R, s, m, args, _, meth, c, _) =>
    p.tables.exec = Jvm.exec ∧ c.code = cc ∧ c.maxLocals = nL ∧ s.vm.findClass own = some m.cls ∧ (∀ w ∈ gT, w.before args s = true) ∧ gKK D Gc s ∧ B ≤ s.heap.size ∧ meth.locks = false ∧ meth.sig.returnType = ret ∧ d ≤ R.frames ∧ 40 * d ≤ R.locals ∧ cz ≤ R.cells ∧ sz ≤ R.slots
def gQo (D : va_G) (Gc : Nat → ClassId) (B b : Nat) (rv : Option gV) (M' : gM) : Array Value → State → Outcome → State → Prop := fun _ st oc t => oc = .returned (rv.map (gv B b)) ∧ va_P D vwCl (gW Gc B M') t.heap ∧ va_F (fun q => B ≤ q) st t
def gPr (D : va_G) (Gc : Nat → ClassId) (B : Nat) (M : gM) (U : State) : Prop := va_P D vwCl (gW Gc B M) U.heap ∧ gKK D Gc U ∧ B ≤ U.heap.size
def gRt (E : gEnv) (κ : gCtx) (mc ms : Nat) (rv : Option gV) (M' : gM) : Prop := match E, κ with
  | (_, D, Gc, B, b), (_, _, _, s, _, args, below, _, _, Q) => Q = MQ below (gQo D Gc B b rv M') args s mc ms (fun q => B ≤ q)
def gws (y : MethodName) (b : ByteArray) (nL : Nat) (ret : Option FieldType) : List Cond := .code y b nL ret :: gT
def Ctr (E : gEnv) (y : MethodName) (bc : ByteArray) (nL : Nat) (ret : Option FieldType) (d mc ms : Nat) (av : List gV) (M : gM) (rv : Option gV) (M' : gM) : Prop := match E with
  | (l, D, Gc, B, b) => Met l y (gws y bc nL ret) { frames := d, cells := mc, slots := ms, locals := 40 * d } (va_Pc (av.map (gv B b)) (gPr D Gc B M)) (gQo D Gc B b rv M') mc ms (fun q => B ≤ q)
def gent (nL : Nat) (av : List gV) : List (Option gV) := av.map some ++ List.replicate (nL - av.length) none
theorem gv_cat (B b : Nat) (v : gV) (h : c1 v = true) : (gv B b v).category = 1 := by
  rcases v with (x | (_ | a)) | x
  · rfl
  · rfl
  · rfl
  · cases h
theorem lg_sl_gv (B b : Nat) : ∀ av : List gV, av.all c1 = true → lg_sl (av.map (gv B b)) = av.map (fun v => Slot.val (gv B b v))
  | [], _ => rfl
  | v :: r, h => by
    simp only [List.all_cons, Bool.and_eq_true] at h
    have ih := lg_sl_gv B b r h.2
    unfold lg_sl at ih ⊢
    rw [List.map_cons, List.flatMap_cons, ih]
    simp [gv_cat B b v h.1]
theorem gLk_entry {B b nL : Nat} {av : List gV} (hc : av.all c1 = true) (h : av.length ≤ nL) : gLk B b ((lg_sl (av.map (gv B b)) ++ List.replicate (nL - (lg_sl (av.map (gv B b))).length) Slot.unset).toArray) (gent nL av) := by
  have hlen : (lg_sl (av.map (gv B b))).length = av.length := by rw [lg_sl_gv _ _ _ hc]; simp
  have h1 := lv_entry (av.map (gv B b)) (n := nL) (by rw [hlen]; exact h)
  refine ⟨by rw [h1.1]; simp [gent]; omega, h1.2.1, fun i v hv => ?_⟩
  simp only [gent] at hv
  simp only [lg_sl_gv _ _ _ hc]
  by_cases hi : i < av.length
  · rw [List.getElem?_append_left (by simpa using hi)] at hv
    simp only [List.getElem?_map, Option.map_eq_some_iff] at hv
    obtain ⟨w, hw, he⟩ := hv
    cases he
    obtain ⟨_, e⟩ := List.getElem?_eq_some_iff.mp hw
    simp [List.getElem?_append_left, hi, e]
  · rw [List.getElem?_append_right (by simpa using hi)] at hv
    simp [List.getElem?_replicate] at hv
theorem Ctr.mk {E : gEnv} {y : MethodName} {bc : ByteArray} {nL d mc ms : Nat} {ret : Option FieldType} {av : List gV} {M M' : gM} {rv : Option gV} (hy : plainFor y = true) (hc : av.all c1 = true) (hn : av.length ≤ nL)
    (h : ∀ κ : gCtx, Cx E κ bc nL y.cls ret d mc ms → gRt E κ mc ms rv M' → κ.2.2.2.2.2.2.2.1.name = y.name → G E κ 0 0 0 (gent nL av) [] M) : Ctr E y bc nL ret d mc ms av M rv M' := by
  obtain ⟨l, D, Gc, B, b⟩ := E
  refine va_MetF (cc := bc) (maxL := nL) (ret := ret) hy rfl ?_
  intro p e s m args below meth c s₁ Bd hml hv
  obtain ⟨rfl, hP, hKK, hB⟩ := hv
  have hts : ∀ w ∈ gT, w.before (av.map (gv B b)).toArray s = true := fun w hw => atoms_spec (ws := gws y bc nL ret) Bd.pre w (List.mem_cons_of_mem _ hw)
  have hown : s.vm.findClass y.cls = some m.cls := findClass_of_methodNamed Bd.named
  have hnm : meth.name = y.name := (name_of_methodNamed Bd.named Bd.method).1
  have h1 := h (p, e, (headSpec (gws y bc nL ret) { frames := d, cells := mc, slots := ms, locals := 40 * d }).room, s, m, (av.map (gv B b)).toArray, below, meth, c, MQ below (gQo D Gc B b rv M') (av.map (gv B b)).toArray s mc ms (fun q => B ≤ q))
    ⟨Bd.exec, Bd.bytes, hml, hown, hts, hKK, hB, Bd.notSynchronized, Bd.returns, Nat.le_refl _, Nat.le_refl _, Nat.le_refl _, Nat.le_refl _⟩ rfl hnm
  rw [lg_entry_eq]
  exact h1 s.heap [] _ (gLk_entry hc hn) hP va_S.rf
end
section
/-! THE RULES: one instruction each -/
section GRules
variable {E : gEnv} {κ : gCtx} {cc : ByteArray} {nL d cz sz cells slots pc : Nat} {own : String} {ret : Option FieldType} {ls : List (Option gV)} {st : List gV} {M : gM}
theorem G_iconst (X : Cx E κ cc nL own ret d cz sz) {n : Int} {v : Int32} (hd : decode cc pc = .ok (.iconst n, 1)) (hv : Int32.ofInt n = v) (k : G E κ cells slots (pc + 1) ls (vi v :: st) M) : G E κ cells slots pc ls st M := by
  obtain ⟨l, D, Gc, B, b⟩ := E
  obtain ⟨p, e, R, s, m, args, below, meth, c, Q⟩ := κ
  obtain ⟨hx, hb, -⟩ := X
  exact fun H locs la hl hP hS => lv_iconst hx hb hd hv (k H locs la hl hP hS)
theorem G_bipush (X : Cx E κ cc nL own ret d cz sz) {n : Int} {v : Int32} (hd : decode cc pc = .ok (.bipush n, 2)) (hv : (Int8.ofInt n).toInt32 = v) (k : G E κ cells slots (pc + 2) ls (vi v :: st) M) : G E κ cells slots pc ls st M := by
  obtain ⟨l, D, Gc, B, b⟩ := E
  obtain ⟨p, e, R, s, m, args, below, meth, c, Q⟩ := κ
  obtain ⟨hx, hb, -⟩ := X
  exact fun H locs la hl hP hS => lv_bipush hx hb hd hv (k H locs la hl hP hS)
theorem G_sipush (X : Cx E κ cc nL own ret d cz sz) {n : Int} {v : Int32} (hd : decode cc pc = .ok (.sipush n, 3)) (hv : (Int16.ofInt n).toInt32 = v) (k : G E κ cells slots (pc + 3) ls (vi v :: st) M) : G E κ cells slots pc ls st M := by
  obtain ⟨l, D, Gc, B, b⟩ := E
  obtain ⟨p, e, R, s, m, args, below, meth, c, Q⟩ := κ
  obtain ⟨hx, hb, -⟩ := X
  exact fun H locs la hl hP hS => lv_sipush hx hb hd hv (k H locs la hl hP hS)
theorem G_ldc (X : Cx E κ cc nL own ret d cz sz) {ix : Nat} {v : Int32} (hc : Cond.constant own ix v ∈ gT) (hd : decode cc pc = .ok (.ldc ix, 2)) (k : G E κ cells slots (pc + 2) ls (vi v :: st) M) : G E κ cells slots pc ls st M := by
  obtain ⟨l, D, Gc, B, b⟩ := E
  obtain ⟨p, e, R, s, m, args, below, meth, c, Q⟩ := κ
  obtain ⟨hx, hb, -, ho, hts, -⟩ := X
  exact fun H locs la hl hP hS => lv_ldc hx hb ho (hts _ hc) hd (k H locs la hl hP hS)
theorem G_ldc_w (X : Cx E κ cc nL own ret d cz sz) {ix : Nat} {v : Int32} (hc : Cond.constant own ix v ∈ gT) (hd : decode cc pc = .ok (.ldc_w ix, 3)) (k : G E κ cells slots (pc + 3) ls (vi v :: st) M) : G E κ cells slots pc ls st M := by
  obtain ⟨l, D, Gc, B, b⟩ := E
  obtain ⟨p, e, R, s, m, args, below, meth, c, Q⟩ := κ
  obtain ⟨hx, hb, -, ho, hts, -⟩ := X
  exact fun H locs la hl hP hS => lv_ldcw hx hb ho (hts _ hc) hd (k H locs la hl hP hS)
theorem G_iload_n (X : Cx E κ cc nL own ret d cz sz) {j : Fin 4} {i : Nat} {x : Int32} (hd : decode cc pc = .ok (.iload_n j, 1)) (hi : (j : Nat) = i) (hv : ls[i]? = some (some (vi x))) (k : G E κ cells slots (pc + 1) ls (vi x :: st) M) : G E κ cells slots pc ls st M := by
  obtain ⟨l, D, Gc, B, b⟩ := E
  obtain ⟨p, e, R, s, m, args, below, meth, c, Q⟩ := κ
  obtain ⟨hx, hb, -⟩ := X
  exact fun H locs la hl hP hS => lv_iload_n hx hb hd hi (hl.2.2 i _ hv) (k H locs la hl hP hS)
theorem G_iload (X : Cx E κ cc nL own ret d cz sz) {i : Nat} {x : Int32} (hd : decode cc pc = .ok (.iload i, 2)) (hv : ls[i]? = some (some (vi x))) (k : G E κ cells slots (pc + 2) ls (vi x :: st) M) : G E κ cells slots pc ls st M := by
  obtain ⟨l, D, Gc, B, b⟩ := E
  obtain ⟨p, e, R, s, m, args, below, meth, c, Q⟩ := κ
  obtain ⟨hx, hb, -⟩ := X
  exact fun H locs la hl hP hS => lv_iload hx hb hd (hl.2.2 i _ hv) (k H locs la hl hP hS)
theorem G_aload_n (X : Cx E κ cc nL own ret d cz sz) {j : Fin 4} {i : Nat} {x : Option Nat} (hd : decode cc pc = .ok (.aload_n j, 1)) (hi : (j : Nat) = i) (hv : ls[i]? = some (some (.inl (.inr x)))) (k : G E κ cells slots (pc + 1) ls (.inl (.inr x) :: st) M) : G E κ cells slots pc ls st M := by
  obtain ⟨l, D, Gc, B, b⟩ := E
  obtain ⟨p, e, R, s, m, args, below, meth, c, Q⟩ := κ
  obtain ⟨hx, hb, -⟩ := X
  intro H locs la hl hP hS
  cases x with
  | none => exact lv_aload_n hx hb hd hi (hl.2.2 i _ hv) (k H locs la hl hP hS)
  | some a => exact lv_aload_n hx hb hd hi (hl.2.2 i _ hv) (k H locs la hl hP hS)
theorem G_aload (X : Cx E κ cc nL own ret d cz sz) {i : Nat} {x : Option Nat} (hd : decode cc pc = .ok (.aload i, 2)) (hv : ls[i]? = some (some (.inl (.inr x)))) (k : G E κ cells slots (pc + 2) ls (.inl (.inr x) :: st) M) : G E κ cells slots pc ls st M := by
  obtain ⟨l, D, Gc, B, b⟩ := E
  obtain ⟨p, e, R, s, m, args, below, meth, c, Q⟩ := κ
  obtain ⟨hx, hb, -⟩ := X
  intro H locs la hl hP hS
  cases x with
  | none => exact lv_aload hx hb hd (hl.2.2 i _ hv) (k H locs la hl hP hS)
  | some a => exact lv_aload hx hb hd (hl.2.2 i _ hv) (k H locs la hl hP hS)
/-- all that is known of the locals, as the kit lists it -/
def gls (B b : Nat) (ls : List (Option gV)) : List (Nat × Value) := (List.range ls.length).filterMap (fun i => (ls[i]?.join).map (fun v => (i, gv B b v)))
theorem gls_has {B b : Nat} {la : Array Slot} {ls : List (Option gV)} (h : gLk B b la ls) : lv_has la ls.length (gls B b ls) := by
  refine ⟨h.1, h.2.1, fun q hq => ?_⟩
  obtain ⟨i, -, hi⟩ := List.mem_filterMap.mp hq
  rw [Option.map_eq_some_iff] at hi
  obtain ⟨v, hv, rfl⟩ := hi
  refine h.2.2 i v ?_
  cases h3 : ls[i]? with
  | none => rw [h3] at hv; cases hv
  | some w => rw [h3] at hv; simp at hv; rw [hv]
/-- a place that may be written: it is there, and no long reaches into it -/
def nlAt (ls : List (Option gV)) (i : Nat) : Bool := match i with
  | 0 => true
  | k + 1 => match ls[k]? with
    | some (some v) => c1 v
    | _ => true
def okS (ls : List (Option gV)) (i : Nat) : Bool := Nat.ble (i + 1) ls.length && nlAt ls i
theorem okS_lt {ls : List (Option gV)} {i : Nat} (h : okS ls i = true) : i < ls.length := by
  simp only [okS, Bool.and_eq_true] at h
  exact Nat.le_of_ble_eq_true h.1
theorem okS_nl {ls : List (Option gV)} {i j : Nat} {w : gV} (h : okS ls i = true) (hj : j + 1 = i) (hw : ls[j]? = some (some w)) : c1 w = true := by
  simp only [okS, Bool.and_eq_true] at h
  subst hj
  have h2 := h.2
  simp only [nlAt, hw] at h2
  exact h2
theorem gls_set {B b : Nat} {la : Array Slot} {ls : List (Option gV)} {i : Nat} {v : gV} (hi : okS ls i = true) (h : lv_has la ls.length ((i, gv B b v) :: (gls B b ls).filter (fun q => !(q.1 == i) && !(q.1 + 1 == i && q.2.category == 2)))) : gLk B b la (ls.set i (some v)) := by
  refine ⟨by rw [h.1]; simp, h.2.1, fun j w hw => ?_⟩
  by_cases hj : j = i
  · subst hj
    rw [List.getElem?_set_self (okS_lt hi)] at hw
    cases hw
    exact h.2.2 (j, gv B b v) List.mem_cons_self
  · rw [List.getElem?_set_ne (Ne.symm hj)] at hw
    refine h.2.2 (j, gv B b w) (List.mem_cons_of_mem _ (List.mem_filter.mpr ⟨List.mem_filterMap.mpr ⟨j, ?_, ?_⟩, ?_⟩))
    · exact List.mem_range.mpr (List.getElem?_eq_some_iff.mp hw).1
    · simp [hw]
    · by_cases hj1 : j + 1 = i
      · have := gv_cat B b w (okS_nl hi hj1 hw)
        simp [hj, this]
      · simp [hj, hj1]
theorem gls_set2 {B b : Nat} {la : Array Slot} {ls : List (Option gV)} {i : Nat} {v : gV} (hi : okS ls i = true) (hi2 : i + 1 < ls.length) (h : lv_has la ls.length ((i, gv B b v) :: (gls B b ls).filter (fun q => !(q.1 == i) && (!(q.1 == i + 1) && !(q.1 + 1 == i && q.2.category == 2))))) : gLk B b la ((ls.set i (some v)).set (i + 1) none) := by
  refine ⟨by rw [h.1]; simp, h.2.1, fun j w hw => ?_⟩
  by_cases hj2 : j = i + 1
  · subst hj2
    rw [List.getElem?_set_self (by simpa using hi2)] at hw
    cases hw
  · rw [List.getElem?_set_ne (Ne.symm hj2)] at hw
    by_cases hj : j = i
    · subst hj
      rw [List.getElem?_set_self (okS_lt hi)] at hw
      cases hw
      exact h.2.2 (j, gv B b v) List.mem_cons_self
    · rw [List.getElem?_set_ne (Ne.symm hj)] at hw
      refine h.2.2 (j, gv B b w) (List.mem_cons_of_mem _ (List.mem_filter.mpr ⟨List.mem_filterMap.mpr ⟨j, ?_, ?_⟩, ?_⟩))
      · exact List.mem_range.mpr (List.getElem?_eq_some_iff.mp hw).1
      · simp [hw]
      · by_cases hj1 : j + 1 = i
        · have := gv_cat B b w (okS_nl hi hj1 hw)
          simp [hj, hj2, this]
        · simp [hj, hj1, hj2]
theorem gls_self {ls : List (Option gV)} {B b : Nat} {la : Array Slot} {nL : Nat} (h : gLk B b la ls) (hn : ls.length = nL) : lv_has la nL (gls B b ls) := by
  subst hn; exact gls_has h
theorem G_istore_n (X : Cx E κ cc nL own ret d cz sz) {j : Fin 4} {i : Nat} {x : Int32} {ls' : List (Option gV)} (hd : decode cc pc = .ok (.istore_n j, 1)) (hi : (j : Nat) = i) (hn : okS ls i = true) (hs : ls.set i (some (vi x)) = ls') (k : G E κ cells slots (pc + 1) ls' st M) : G E κ cells slots pc ls (vi x :: st) M := by
  subst hs
  obtain ⟨l, D, Gc, B, b⟩ := E
  obtain ⟨p, e, R, s, m, args, below, meth, c, Q⟩ := κ
  obtain ⟨hx, hb, -⟩ := X
  exact fun H locs la hl hP hS => lv_istore_n hx hb hd hi (gls_has hl) (okS_lt hn) rfl (fun la' hl' => k H locs la' (gls_set hn hl') hP hS)
theorem G_istore (X : Cx E κ cc nL own ret d cz sz) {i : Nat} {x : Int32} {ls' : List (Option gV)} (hd : decode cc pc = .ok (.istore i, 2)) (hn : okS ls i = true) (hs : ls.set i (some (vi x)) = ls') (k : G E κ cells slots (pc + 2) ls' st M) : G E κ cells slots pc ls (vi x :: st) M := by
  subst hs
  obtain ⟨l, D, Gc, B, b⟩ := E
  obtain ⟨p, e, R, s, m, args, below, meth, c, Q⟩ := κ
  obtain ⟨hx, hb, -⟩ := X
  exact fun H locs la hl hP hS => lv_istore hx hb hd (gls_has hl) (okS_lt hn) rfl (fun la' hl' => k H locs la' (gls_set hn hl') hP hS)
theorem G_astore_n (X : Cx E κ cc nL own ret d cz sz) {j : Fin 4} {i : Nat} {x : Nat} {ls' : List (Option gV)} (hd : decode cc pc = .ok (.astore_n j, 1)) (hi : (j : Nat) = i) (hn : okS ls i = true) (hs : ls.set i (some (vr x)) = ls') (k : G E κ cells slots (pc + 1) ls' st M) : G E κ cells slots pc ls (vr x :: st) M := by
  subst hs
  obtain ⟨l, D, Gc, B, b⟩ := E
  obtain ⟨p, e, R, s, m, args, below, meth, c, Q⟩ := κ
  obtain ⟨hx, hb, -⟩ := X
  exact fun H locs la hl hP hS => lv_astore_n hx hb hd hi (gls_has hl) (okS_lt hn) rfl (fun la' hl' => k H locs la' (gls_set (v := vr x) hn hl') hP hS)
theorem G_astore (X : Cx E κ cc nL own ret d cz sz) {i : Nat} {x : Nat} {ls' : List (Option gV)} (hd : decode cc pc = .ok (.astore i, 2)) (hn : okS ls i = true) (hs : ls.set i (some (vr x)) = ls') (k : G E κ cells slots (pc + 2) ls' st M) : G E κ cells slots pc ls (vr x :: st) M := by
  subst hs
  obtain ⟨l, D, Gc, B, b⟩ := E
  obtain ⟨p, e, R, s, m, args, below, meth, c, Q⟩ := κ
  obtain ⟨hx, hb, -⟩ := X
  exact fun H locs la hl hP hS => lv_astore hx hb hd (gls_has hl) (okS_lt hn) rfl (fun la' hl' => k H locs la' (gls_set (v := vr x) hn hl') hP hS)
theorem gls_at {B b : Nat} {ls : List (Option gV)} {i : Nat} {v : gV} (h : ls[i]? = some (some v)) : ∃ k : Nat, (gls B b ls)[k]? = some (i, gv B b v) :=
  List.getElem?_of_mem (List.mem_filterMap.mpr ⟨i, List.mem_range.mpr (List.getElem?_eq_some_iff.mp h).1, by simp [h]⟩)
theorem G_iinc (X : Cx E κ cc nL own ret d cz sz) {i : Nat} {n : Int} {x v : Int32} {ls' : List (Option gV)} (hd : decode cc pc = .ok (.iinc i n, 3)) (hv : ls[i]? = some (some (vi x))) (hok : okS ls i = true) (hn : Int32.ofInt n = v) (hs : ls.set i (some (vi (x + v))) = ls') (k : G E κ cells slots (pc + 3) ls' st M) : G E κ cells slots pc ls st M := by
  subst hs
  subst hn
  obtain ⟨l, D, Gc, B, b⟩ := E
  obtain ⟨p, e, R, s, m, args, below, meth, c, Q⟩ := κ
  obtain ⟨hx, hb, -⟩ := X
  intro H locs la hl hP hS
  have hn : i < ls.length := (List.getElem?_eq_some_iff.mp hv).1
  obtain ⟨k0, hk0⟩ := gls_at (B := B) (b := b) hv
  exact lv_iinc hx hb hd (gls_has hl) hk0 rfl hn rfl (fun la' hl' => k H locs la' (gls_set (v := vi (x + Int32.ofInt n)) hok hl') hP hS)
/-- less is known of the locals -/
theorem G_weak {ls' : List (Option gV)} (h : ls.length = ls'.length ∧ ∀ (i : Nat) (v : gV), ls'[i]? = some (some v) → ls[i]? = some (some v)) (k : G E κ cells slots pc ls' st M) : G E κ cells slots pc ls st M := by
  obtain ⟨l, D, Gc, B, b⟩ := E
  obtain ⟨p, e, R, s, m, args, below, meth, c, Q⟩ := κ
  exact fun H locs la hl hP hS => k H locs la ⟨hl.1.trans h.1, hl.2.1, fun i v hv => hl.2.2 i v (h.2 i v hv)⟩ hP hS
end GRules
section GRules2
variable {E : gEnv} {κ : gCtx} {cc : ByteArray} {nL d cz sz cells slots pc : Nat} {own : String} {ret : Option FieldType} {ls : List (Option gV)} {st : List gV} {M : gM}
theorem G_iadd (X : Cx E κ cc nL own ret d cz sz) {x y : Int32} (hd : decode cc pc = .ok (.iadd, 1)) (k : G E κ cells slots (pc + 1) ls (vi (x + y) :: st) M) : G E κ cells slots pc ls (vi y :: vi x :: st) M := by
  obtain ⟨l, D, Gc, B, b⟩ := E
  obtain ⟨p, e, R, s, m, args, below, meth, c, Q⟩ := κ
  obtain ⟨hx, hb, -⟩ := X
  exact fun H locs la hl hP hS => lv_iadd hx hb hd (k H locs la hl hP hS)
theorem G_isub (X : Cx E κ cc nL own ret d cz sz) {x y : Int32} (hd : decode cc pc = .ok (.isub, 1)) (k : G E κ cells slots (pc + 1) ls (vi (x - y) :: st) M) : G E κ cells slots pc ls (vi y :: vi x :: st) M := by
  obtain ⟨l, D, Gc, B, b⟩ := E
  obtain ⟨p, e, R, s, m, args, below, meth, c, Q⟩ := κ
  obtain ⟨hx, hb, -⟩ := X
  exact fun H locs la hl hP hS => lv_isub hx hb hd (k H locs la hl hP hS)
theorem G_imul (X : Cx E κ cc nL own ret d cz sz) {x y : Int32} (hd : decode cc pc = .ok (.imul, 1)) (k : G E κ cells slots (pc + 1) ls (vi (x * y) :: st) M) : G E κ cells slots pc ls (vi y :: vi x :: st) M := by
  obtain ⟨l, D, Gc, B, b⟩ := E
  obtain ⟨p, e, R, s, m, args, below, meth, c, Q⟩ := κ
  obtain ⟨hx, hb, -⟩ := X
  exact fun H locs la hl hP hS => lv_imul hx hb hd (k H locs la hl hP hS)
theorem G_iand (X : Cx E κ cc nL own ret d cz sz) {x y : Int32} (hd : decode cc pc = .ok (.iand, 1)) (k : G E κ cells slots (pc + 1) ls (vi (x &&& y) :: st) M) : G E κ cells slots pc ls (vi y :: vi x :: st) M := by
  obtain ⟨l, D, Gc, B, b⟩ := E
  obtain ⟨p, e, R, s, m, args, below, meth, c, Q⟩ := κ
  obtain ⟨hx, hb, -⟩ := X
  exact fun H locs la hl hP hS => lv_iand hx hb hd (k H locs la hl hP hS)
theorem G_ior (X : Cx E κ cc nL own ret d cz sz) {x y : Int32} (hd : decode cc pc = .ok (.ior, 1)) (k : G E κ cells slots (pc + 1) ls (vi (x ||| y) :: st) M) : G E κ cells slots pc ls (vi y :: vi x :: st) M := by
  obtain ⟨l, D, Gc, B, b⟩ := E
  obtain ⟨p, e, R, s, m, args, below, meth, c, Q⟩ := κ
  obtain ⟨hx, hb, -⟩ := X
  exact fun H locs la hl hP hS => lv_ior hx hb hd (k H locs la hl hP hS)
theorem G_ixor (X : Cx E κ cc nL own ret d cz sz) {x y : Int32} (hd : decode cc pc = .ok (.ixor, 1)) (k : G E κ cells slots (pc + 1) ls (vi (x ^^^ y) :: st) M) : G E κ cells slots pc ls (vi y :: vi x :: st) M := by
  obtain ⟨l, D, Gc, B, b⟩ := E
  obtain ⟨p, e, R, s, m, args, below, meth, c, Q⟩ := κ
  obtain ⟨hx, hb, -⟩ := X
  exact fun H locs la hl hP hS => lv_ixor hx hb hd (k H locs la hl hP hS)
theorem G_ishl (X : Cx E κ cc nL own ret d cz sz) {x y : Int32} (hd : decode cc pc = .ok (.ishl, 1)) (k : G E κ cells slots (pc + 1) ls (vi (x <<< (y &&& 31)) :: st) M) : G E κ cells slots pc ls (vi y :: vi x :: st) M := by
  obtain ⟨l, D, Gc, B, b⟩ := E
  obtain ⟨p, e, R, s, m, args, below, meth, c, Q⟩ := κ
  obtain ⟨hx, hb, -⟩ := X
  exact fun H locs la hl hP hS => lv_ishl hx hb hd (k H locs la hl hP hS)
theorem G_ishr (X : Cx E κ cc nL own ret d cz sz) {x y : Int32} (hd : decode cc pc = .ok (.ishr, 1)) (k : G E κ cells slots (pc + 1) ls (vi (x >>> (y &&& 31)) :: st) M) : G E κ cells slots pc ls (vi y :: vi x :: st) M := by
  obtain ⟨l, D, Gc, B, b⟩ := E
  obtain ⟨p, e, R, s, m, args, below, meth, c, Q⟩ := κ
  obtain ⟨hx, hb, -⟩ := X
  exact fun H locs la hl hP hS => lv_ishr hx hb hd (k H locs la hl hP hS)
theorem G_idiv (X : Cx E κ cc nL own ret d cz sz) {x y : Int32} (hd : decode cc pc = .ok (.idiv, 1)) (hne : ¬ y = 0) (k : G E κ cells slots (pc + 1) ls (vi (x / y) :: st) M) : G E κ cells slots pc ls (vi y :: vi x :: st) M := by
  obtain ⟨l, D, Gc, B, b⟩ := E
  obtain ⟨p, e, R, s, m, args, below, meth, c, Q⟩ := κ
  obtain ⟨hx, hb, -⟩ := X
  exact fun H locs la hl hP hS => lv_idiv hx hb hd hne (k H locs la hl hP hS)
theorem G_irem (X : Cx E κ cc nL own ret d cz sz) {x y : Int32} (hd : decode cc pc = .ok (.irem, 1)) (hne : ¬ y = 0) (k : G E κ cells slots (pc + 1) ls (vi (x - x / y * y) :: st) M) : G E κ cells slots pc ls (vi y :: vi x :: st) M := by
  obtain ⟨l, D, Gc, B, b⟩ := E
  obtain ⟨p, e, R, s, m, args, below, meth, c, Q⟩ := κ
  obtain ⟨hx, hb, -⟩ := X
  exact fun H locs la hl hP hS => lv_irem hx hb hd hne (k H locs la hl hP hS)
theorem G_ineg (X : Cx E κ cc nL own ret d cz sz) {x : Int32} (hd : decode cc pc = .ok (.ineg, 1)) (k : G E κ cells slots (pc + 1) ls (vi (-x) :: st) M) : G E κ cells slots pc ls (vi x :: st) M := by
  obtain ⟨l, D, Gc, B, b⟩ := E
  obtain ⟨p, e, R, s, m, args, below, meth, c, Q⟩ := κ
  obtain ⟨hx, hb, -⟩ := X
  exact fun H locs la hl hP hS => lv_ineg hx hb hd (k H locs la hl hP hS)
theorem G_iushr (X : Cx E κ cc nL own ret d cz sz) {x y : Int32} (hd : decode cc pc = .ok (.iushr, 1)) (k : G E κ cells slots (pc + 1) ls (vi ((x.toUInt32 >>> (y.toUInt32 &&& Int32.toUInt32 31)).toInt32) :: st) M) : G E κ cells slots pc ls (vi y :: vi x :: st) M := by
  obtain ⟨l, D, Gc, B, b⟩ := E
  obtain ⟨p, e, R, s, m, args, below, meth, c, Q⟩ := κ
  obtain ⟨hx, hb, -⟩ := X
  exact fun H locs la hl hP hS => lv_iushr hx hb hd rfl (k H locs la hl hP hS)
theorem G_i2c (X : Cx E κ cc nL own ret d cz sz) {x : Int32} (hd : decode cc pc = .ok (.i2c, 1)) (k : G E κ cells slots (pc + 1) ls (vi ((x.toUInt32 % 65536).toInt32) :: st) M) : G E κ cells slots pc ls (vi x :: st) M := by
  obtain ⟨l, D, Gc, B, b⟩ := E
  obtain ⟨p, e, R, s, m, args, below, meth, c, Q⟩ := κ
  obtain ⟨hx, hb, -⟩ := X
  exact fun H locs la hl hP hS => lv_i2c hx hb hd rfl (k H locs la hl hP hS)
theorem G_dup (X : Cx E κ cc nL own ret d cz sz) {v : gV} (hc : c1 v = true) (hd : decode cc pc = .ok (.dup, 1)) (k : G E κ cells slots (pc + 1) ls (v :: v :: st) M) : G E κ cells slots pc ls (v :: st) M := by
  obtain ⟨l, D, Gc, B, b⟩ := E
  obtain ⟨p, e, R, s, m, args, below, meth, c, Q⟩ := κ
  obtain ⟨hx, hb, -⟩ := X
  exact fun H locs la hl hP hS => lv_dup hx hb hd (gv_cat _ _ _ hc) (k H locs la hl hP hS)
theorem G_dup2 (X : Cx E κ cc nL own ret d cz sz) {v w : gV} (hc : c1 v = true) (hc2 : c1 w = true) (hd : decode cc pc = .ok (.dup2, 1)) (k : G E κ cells slots (pc + 1) ls (v :: w :: v :: w :: st) M) : G E κ cells slots pc ls (v :: w :: st) M := by
  obtain ⟨l, D, Gc, B, b⟩ := E
  obtain ⟨p, e, R, s, m, args, below, meth, c, Q⟩ := κ
  obtain ⟨hx, hb, -⟩ := X
  exact fun H locs la hl hP hS => lv_dup2_11 hx hb hd (gv_cat _ _ _ hc) (gv_cat _ _ _ hc2) (k H locs la hl hP hS)
theorem G_pop (X : Cx E κ cc nL own ret d cz sz) {v : gV} (hc : c1 v = true) (hd : decode cc pc = .ok (.pop, 1)) (k : G E κ cells slots (pc + 1) ls st M) : G E κ cells slots pc ls (v :: st) M := by
  obtain ⟨l, D, Gc, B, b⟩ := E
  obtain ⟨p, e, R, s, m, args, below, meth, c, Q⟩ := κ
  obtain ⟨hx, hb, -⟩ := X
  exact fun H locs la hl hP hS => lv_pop hx hb hd (gv_cat _ _ _ hc) (k H locs la hl hP hS)
theorem G_if_eq (X : Cx E κ cc nL own ret d cz sz) {x : Int32} {off : Int} {tgt : Nat} (hd : decode cc pc = .ok (.ifCond .eq off, 3)) (ht : (pc : Int) + off = (tgt : Int)) (kt : x = 0 → G E κ cells slots tgt ls st M) (kf : ¬ x = 0 → G E κ cells slots (pc + 3) ls st M) : G E κ cells slots pc ls (vi x :: st) M := by
  obtain ⟨l, D, Gc, B, b⟩ := E
  obtain ⟨p, e, R, s, m, args, below, meth, c, Q⟩ := κ
  obtain ⟨hx, hb, -⟩ := X
  exact fun H locs la hl hP hS => lv_if_eq hx hb hd ht (fun q => kt q H locs la hl hP hS) (fun q => kf q H locs la hl hP hS)
theorem G_icmp_eq (X : Cx E κ cc nL own ret d cz sz) {x y : Int32} {off : Int} {tgt : Nat} (hd : decode cc pc = .ok (.if_icmp .eq off, 3)) (ht : (pc : Int) + off = (tgt : Int)) (kt : x = y → G E κ cells slots tgt ls st M) (kf : ¬ x = y → G E κ cells slots (pc + 3) ls st M) : G E κ cells slots pc ls (vi y :: vi x :: st) M := by
  obtain ⟨l, D, Gc, B, b⟩ := E
  obtain ⟨p, e, R, s, m, args, below, meth, c, Q⟩ := κ
  obtain ⟨hx, hb, -⟩ := X
  exact fun H locs la hl hP hS => lv_icmp_eq hx hb hd ht (fun q => kt q H locs la hl hP hS) (fun q => kf q H locs la hl hP hS)
theorem G_if_ne (X : Cx E κ cc nL own ret d cz sz) {x : Int32} {off : Int} {tgt : Nat} (hd : decode cc pc = .ok (.ifCond .ne off, 3)) (ht : (pc : Int) + off = (tgt : Int)) (kt : ¬ x = 0 → G E κ cells slots tgt ls st M) (kf : x = 0 → G E κ cells slots (pc + 3) ls st M) : G E κ cells slots pc ls (vi x :: st) M := by
  obtain ⟨l, D, Gc, B, b⟩ := E
  obtain ⟨p, e, R, s, m, args, below, meth, c, Q⟩ := κ
  obtain ⟨hx, hb, -⟩ := X
  exact fun H locs la hl hP hS => lv_if_ne hx hb hd ht (fun q => kt q H locs la hl hP hS) (fun q => kf q H locs la hl hP hS)
theorem G_icmp_ne (X : Cx E κ cc nL own ret d cz sz) {x y : Int32} {off : Int} {tgt : Nat} (hd : decode cc pc = .ok (.if_icmp .ne off, 3)) (ht : (pc : Int) + off = (tgt : Int)) (kt : ¬ x = y → G E κ cells slots tgt ls st M) (kf : x = y → G E κ cells slots (pc + 3) ls st M) : G E κ cells slots pc ls (vi y :: vi x :: st) M := by
  obtain ⟨l, D, Gc, B, b⟩ := E
  obtain ⟨p, e, R, s, m, args, below, meth, c, Q⟩ := κ
  obtain ⟨hx, hb, -⟩ := X
  exact fun H locs la hl hP hS => lv_icmp_ne hx hb hd ht (fun q => kt q H locs la hl hP hS) (fun q => kf q H locs la hl hP hS)
theorem G_if_lt (X : Cx E κ cc nL own ret d cz sz) {x : Int32} {off : Int} {tgt : Nat} (hd : decode cc pc = .ok (.ifCond .lt off, 3)) (ht : (pc : Int) + off = (tgt : Int)) (kt : x < 0 → G E κ cells slots tgt ls st M) (kf : ¬ x < 0 → G E κ cells slots (pc + 3) ls st M) : G E κ cells slots pc ls (vi x :: st) M := by
  obtain ⟨l, D, Gc, B, b⟩ := E
  obtain ⟨p, e, R, s, m, args, below, meth, c, Q⟩ := κ
  obtain ⟨hx, hb, -⟩ := X
  exact fun H locs la hl hP hS => lv_if_lt hx hb hd ht (fun q => kt q H locs la hl hP hS) (fun q => kf q H locs la hl hP hS)
theorem G_icmp_lt (X : Cx E κ cc nL own ret d cz sz) {x y : Int32} {off : Int} {tgt : Nat} (hd : decode cc pc = .ok (.if_icmp .lt off, 3)) (ht : (pc : Int) + off = (tgt : Int)) (kt : x < y → G E κ cells slots tgt ls st M) (kf : ¬ x < y → G E κ cells slots (pc + 3) ls st M) : G E κ cells slots pc ls (vi y :: vi x :: st) M := by
  obtain ⟨l, D, Gc, B, b⟩ := E
  obtain ⟨p, e, R, s, m, args, below, meth, c, Q⟩ := κ
  obtain ⟨hx, hb, -⟩ := X
  exact fun H locs la hl hP hS => lv_icmp_lt hx hb hd ht (fun q => kt q H locs la hl hP hS) (fun q => kf q H locs la hl hP hS)
theorem G_if_ge (X : Cx E κ cc nL own ret d cz sz) {x : Int32} {off : Int} {tgt : Nat} (hd : decode cc pc = .ok (.ifCond .ge off, 3)) (ht : (pc : Int) + off = (tgt : Int)) (kt : 0 ≤ x → G E κ cells slots tgt ls st M) (kf : ¬ 0 ≤ x → G E κ cells slots (pc + 3) ls st M) : G E κ cells slots pc ls (vi x :: st) M := by
  obtain ⟨l, D, Gc, B, b⟩ := E
  obtain ⟨p, e, R, s, m, args, below, meth, c, Q⟩ := κ
  obtain ⟨hx, hb, -⟩ := X
  exact fun H locs la hl hP hS => lv_if_ge hx hb hd ht (fun q => kt q H locs la hl hP hS) (fun q => kf q H locs la hl hP hS)
theorem G_icmp_ge (X : Cx E κ cc nL own ret d cz sz) {x y : Int32} {off : Int} {tgt : Nat} (hd : decode cc pc = .ok (.if_icmp .ge off, 3)) (ht : (pc : Int) + off = (tgt : Int)) (kt : y ≤ x → G E κ cells slots tgt ls st M) (kf : ¬ y ≤ x → G E κ cells slots (pc + 3) ls st M) : G E κ cells slots pc ls (vi y :: vi x :: st) M := by
  obtain ⟨l, D, Gc, B, b⟩ := E
  obtain ⟨p, e, R, s, m, args, below, meth, c, Q⟩ := κ
  obtain ⟨hx, hb, -⟩ := X
  exact fun H locs la hl hP hS => lv_icmp_ge hx hb hd ht (fun q => kt q H locs la hl hP hS) (fun q => kf q H locs la hl hP hS)
theorem G_if_gt (X : Cx E κ cc nL own ret d cz sz) {x : Int32} {off : Int} {tgt : Nat} (hd : decode cc pc = .ok (.ifCond .gt off, 3)) (ht : (pc : Int) + off = (tgt : Int)) (kt : 0 < x → G E κ cells slots tgt ls st M) (kf : ¬ 0 < x → G E κ cells slots (pc + 3) ls st M) : G E κ cells slots pc ls (vi x :: st) M := by
  obtain ⟨l, D, Gc, B, b⟩ := E
  obtain ⟨p, e, R, s, m, args, below, meth, c, Q⟩ := κ
  obtain ⟨hx, hb, -⟩ := X
  exact fun H locs la hl hP hS => lv_if_gt hx hb hd ht (fun q => kt q H locs la hl hP hS) (fun q => kf q H locs la hl hP hS)
theorem G_icmp_gt (X : Cx E κ cc nL own ret d cz sz) {x y : Int32} {off : Int} {tgt : Nat} (hd : decode cc pc = .ok (.if_icmp .gt off, 3)) (ht : (pc : Int) + off = (tgt : Int)) (kt : y < x → G E κ cells slots tgt ls st M) (kf : ¬ y < x → G E κ cells slots (pc + 3) ls st M) : G E κ cells slots pc ls (vi y :: vi x :: st) M := by
  obtain ⟨l, D, Gc, B, b⟩ := E
  obtain ⟨p, e, R, s, m, args, below, meth, c, Q⟩ := κ
  obtain ⟨hx, hb, -⟩ := X
  exact fun H locs la hl hP hS => lv_icmp_gt hx hb hd ht (fun q => kt q H locs la hl hP hS) (fun q => kf q H locs la hl hP hS)
theorem G_if_le (X : Cx E κ cc nL own ret d cz sz) {x : Int32} {off : Int} {tgt : Nat} (hd : decode cc pc = .ok (.ifCond .le off, 3)) (ht : (pc : Int) + off = (tgt : Int)) (kt : x ≤ 0 → G E κ cells slots tgt ls st M) (kf : ¬ x ≤ 0 → G E κ cells slots (pc + 3) ls st M) : G E κ cells slots pc ls (vi x :: st) M := by
  obtain ⟨l, D, Gc, B, b⟩ := E
  obtain ⟨p, e, R, s, m, args, below, meth, c, Q⟩ := κ
  obtain ⟨hx, hb, -⟩ := X
  exact fun H locs la hl hP hS => lv_if_le hx hb hd ht (fun q => kt q H locs la hl hP hS) (fun q => kf q H locs la hl hP hS)
theorem G_icmp_le (X : Cx E κ cc nL own ret d cz sz) {x y : Int32} {off : Int} {tgt : Nat} (hd : decode cc pc = .ok (.if_icmp .le off, 3)) (ht : (pc : Int) + off = (tgt : Int)) (kt : x ≤ y → G E κ cells slots tgt ls st M) (kf : ¬ x ≤ y → G E κ cells slots (pc + 3) ls st M) : G E κ cells slots pc ls (vi y :: vi x :: st) M := by
  obtain ⟨l, D, Gc, B, b⟩ := E
  obtain ⟨p, e, R, s, m, args, below, meth, c, Q⟩ := κ
  obtain ⟨hx, hb, -⟩ := X
  exact fun H locs la hl hP hS => lv_icmp_le hx hb hd ht (fun q => kt q H locs la hl hP hS) (fun q => kf q H locs la hl hP hS)
theorem G_goto (X : Cx E κ cc nL own ret d cz sz) {off : Int} {tgt : Nat} (hd : decode cc pc = .ok (.goto off, 3)) (ht : (pc : Int) + off = (tgt : Int)) (k : G E κ cells slots tgt ls st M) : G E κ cells slots pc ls st M := by
  obtain ⟨l, D, Gc, B, b⟩ := E
  obtain ⟨p, e, R, s, m, args, below, meth, c, Q⟩ := κ
  obtain ⟨hx, hb, -⟩ := X
  exact fun H locs la hl hP hS => lv_goto hx hb hd ht (k H locs la hl hP hS)
theorem G_tableOut (X : Cx E κ cc nL own ret d cz sz) {dflt lo hi : Int} {offs : Array Int} {len : Nat} {x : Int32} {tgt : Nat} (hd : decode cc pc = .ok (.tableswitch dflt lo hi offs, len)) (h : x.toInt < lo ∨ hi < x.toInt) (ht : (pc : Int) + dflt = (tgt : Int)) (k : G E κ cells slots tgt ls st M) : G E κ cells slots pc ls (vi x :: st) M := by
  obtain ⟨l, D, Gc, B, b⟩ := E
  obtain ⟨p, e, R, s, m, args, below, meth, c, Q⟩ := κ
  obtain ⟨hx, hb, -⟩ := X
  exact fun H locs la hl hP hS => lv_tableOut hx hb hd h ht (k H locs la hl hP hS)
theorem G_tableIn (X : Cx E κ cc nL own ret d cz sz) {dflt lo hi : Int} {offs : Array Int} {len : Nat} {x : Int32} {off : Int} {tgt : Nat} (hd : decode cc pc = .ok (.tableswitch dflt lo hi offs, len)) (h1 : ¬ x.toInt < lo) (h2 : ¬ hi < x.toInt) (ho : offs[(x.toInt - lo).toNat]? = some off) (ht : (pc : Int) + off = (tgt : Int)) (k : G E κ cells slots tgt ls st M) : G E κ cells slots pc ls (vi x :: st) M := by
  obtain ⟨l, D, Gc, B, b⟩ := E
  obtain ⟨p, e, R, s, m, args, below, meth, c, Q⟩ := κ
  obtain ⟨hx, hb, -⟩ := X
  exact fun H locs la hl hP hS => lv_tableIn hx hb hd h1 h2 ho ht (k H locs la hl hP hS)
theorem G_lookup (X : Cx E κ cc nL own ret d cz sz) {dflt : Int} {ps : Array (Int × Int)} {len : Nat} {x : Int32} {off : Int} {tgt : Nat} (hd : decode cc pc = .ok (.lookupswitch dflt ps, len)) (hp : (ps.toList.zip (ps.toList.drop 1)).all (fun (a, next) => a.1 < next.1) = true) (ho : Op.lookupswitch.offset ps.toList dflt x.toInt = off) (ht : (pc : Int) + off = (tgt : Int)) (k : G E κ cells slots tgt ls st M) : G E κ cells slots pc ls (vi x :: st) M := by
  obtain ⟨l, D, Gc, B, b⟩ := E
  obtain ⟨p, e, R, s, m, args, below, meth, c, Q⟩ := κ
  obtain ⟨hx, hb, -⟩ := X
  exact fun H locs la hl hP hS => lv_lookup hx hb hd hp ho ht (k H locs la hl hP hS)
end GRules2
section GLong
variable {E : gEnv} {κ : gCtx} {cc : ByteArray} {nL d cz sz cells slots pc : Nat} {own : String} {ret : Option FieldType} {ls : List (Option gV)} {st : List gV} {M : gM}
theorem G_lload_n (X : Cx E κ cc nL own ret d cz sz) {j : Fin 4} {i : Nat} {x : Int64} (hd : decode cc pc = .ok (.lload_n j, 1)) (hi : (j : Nat) = i) (hv : ls[i]? = some (some (vl x))) (k : G E κ cells slots (pc + 1) ls (vl x :: st) M) : G E κ cells slots pc ls st M := by
  obtain ⟨l, D, Gc, B, b⟩ := E
  obtain ⟨p, e, R, s, m, args, below, meth, c, Q⟩ := κ
  obtain ⟨hx, hb, -⟩ := X
  exact fun H locs la hl hP hS => lv_lload_n hx hb hd hi (hl.2.2 i _ hv) (k H locs la hl hP hS)
theorem G_lload (X : Cx E κ cc nL own ret d cz sz) {i : Nat} {x : Int64} (hd : decode cc pc = .ok (.lload i, 2)) (hv : ls[i]? = some (some (vl x))) (k : G E κ cells slots (pc + 2) ls (vl x :: st) M) : G E κ cells slots pc ls st M := by
  obtain ⟨l, D, Gc, B, b⟩ := E
  obtain ⟨p, e, R, s, m, args, below, meth, c, Q⟩ := κ
  obtain ⟨hx, hb, -⟩ := X
  exact fun H locs la hl hP hS => lv_lload hx hb hd (hl.2.2 i _ hv) (k H locs la hl hP hS)
theorem G_lstore_n (X : Cx E κ cc nL own ret d cz sz) {j : Fin 4} {i : Nat} {x : Int64} {ls' : List (Option gV)} (hd : decode cc pc = .ok (.lstore_n j, 1)) (hi : (j : Nat) = i) (hn : okS ls i = true) (hn2 : i + 1 < ls.length) (hs : (ls.set i (some (vl x))).set (i + 1) none = ls') (k : G E κ cells slots (pc + 1) ls' st M) : G E κ cells slots pc ls (vl x :: st) M := by
  subst hs
  obtain ⟨l, D, Gc, B, b⟩ := E
  obtain ⟨p, e, R, s, m, args, below, meth, c, Q⟩ := κ
  obtain ⟨hx, hb, -⟩ := X
  exact fun H locs la hl hP hS => lv_lstore_n hx hb hd hi (gls_has hl) hn2 rfl (fun la' hl' => k H locs la' (gls_set2 (v := vl x) hn hn2 hl') hP hS)
theorem G_lstore (X : Cx E κ cc nL own ret d cz sz) {i : Nat} {x : Int64} {ls' : List (Option gV)} (hd : decode cc pc = .ok (.lstore i, 2)) (hn : okS ls i = true) (hn2 : i + 1 < ls.length) (hs : (ls.set i (some (vl x))).set (i + 1) none = ls') (k : G E κ cells slots (pc + 2) ls' st M) : G E κ cells slots pc ls (vl x :: st) M := by
  subst hs
  obtain ⟨l, D, Gc, B, b⟩ := E
  obtain ⟨p, e, R, s, m, args, below, meth, c, Q⟩ := κ
  obtain ⟨hx, hb, -⟩ := X
  exact fun H locs la hl hP hS => lv_lstore hx hb hd (gls_has hl) hn2 rfl (fun la' hl' => k H locs la' (gls_set2 (v := vl x) hn hn2 hl') hP hS)
theorem G_ladd (X : Cx E κ cc nL own ret d cz sz) {x y : Int64} (hd : decode cc pc = .ok (.ladd, 1)) (k : G E κ cells slots (pc + 1) ls (vl (x + y) :: st) M) : G E κ cells slots pc ls (vl y :: vl x :: st) M := by
  obtain ⟨l, D, Gc, B, b⟩ := E
  obtain ⟨p, e, R, s, m, args, below, meth, c, Q⟩ := κ
  obtain ⟨hx, hb, -⟩ := X
  exact fun H locs la hl hP hS => lv_ladd hx hb hd (k H locs la hl hP hS)
theorem G_lmul (X : Cx E κ cc nL own ret d cz sz) {x y : Int64} (hd : decode cc pc = .ok (.lmul, 1)) (k : G E κ cells slots (pc + 1) ls (vl (x * y) :: st) M) : G E κ cells slots pc ls (vl y :: vl x :: st) M := by
  obtain ⟨l, D, Gc, B, b⟩ := E
  obtain ⟨p, e, R, s, m, args, below, meth, c, Q⟩ := κ
  obtain ⟨hx, hb, -⟩ := X
  exact fun H locs la hl hP hS => lv_lmul hx hb hd (k H locs la hl hP hS)
theorem G_i2l (X : Cx E κ cc nL own ret d cz sz) {x : Int32} (hd : decode cc pc = .ok (.i2l, 1)) (k : G E κ cells slots (pc + 1) ls (vl x.toInt64 :: st) M) : G E κ cells slots pc ls (vi x :: st) M := by
  obtain ⟨l, D, Gc, B, b⟩ := E
  obtain ⟨p, e, R, s, m, args, below, meth, c, Q⟩ := κ
  obtain ⟨hx, hb, -⟩ := X
  exact fun H locs la hl hP hS => lv_i2l hx hb hd rfl (k H locs la hl hP hS)
theorem G_lcmp (X : Cx E κ cc nL own ret d cz sz) {x y : Int64} (hd : decode cc pc = .ok (.lcmp, 1)) (k : G E κ cells slots (pc + 1) ls (vi (lg_cmp x y) :: st) M) : G E κ cells slots pc ls (vl y :: vl x :: st) M := by
  obtain ⟨l, D, Gc, B, b⟩ := E
  obtain ⟨p, e, R, s, m, args, below, meth, c, Q⟩ := κ
  obtain ⟨hx, hb, -⟩ := X
  exact fun H locs la hl hP hS => W.lcmp hx hb hd (k H locs la hl hP hS)
theorem G_ldc2 (X : Cx E κ cc nL own ret d cz sz) {ix : Nat} {v : Int64} (hc : Cond.constantLong own ix v ∈ gT) (hd : decode cc pc = .ok (.ldc2_w ix, 3)) (k : G E κ cells slots (pc + 3) ls (vl v :: st) M) : G E κ cells slots pc ls st M := by
  obtain ⟨l, D, Gc, B, b⟩ := E
  obtain ⟨p, e, R, s, m, args, below, meth, c, Q⟩ := κ
  obtain ⟨hx, hb, -, ho, hts, -⟩ := X
  exact fun H locs la hl hP hS => lv_ldc2 hx hb ho (hts _ hc) hd (k H locs la hl hP hS)
end GLong
end
section
/-! THE RULES for fields, arrays, calls and returns -/
def uC (I : gI) (a : Nat) (f : Nat → Int32) : gI := fun c => if c = a then f else I c
def uQ (P : gP) (a : Nat) (f : Nat → Option Nat) : gP := fun c => if c = a then f else P c
/-- a field, as an instruction of the class 'own' names it -/
def gFd (own : String) (ix ci k : Nat) (fin : Bool) (ty : FieldType) : Prop := ∃ (C : String) (T : u_T) (N : Nat) (tys : Nat → FieldType), vwCl[ci]? = some (C, T, N) ∧ N = gN ci ∧ (∀ w ∈ u_ws C T N, w ∈ gT) ∧ k < N ∧ Cond.fieldLink own ix C (T k).2.1 (T k).2.2.1 ∈ gT ∧ (T k).1 = C ∧ (T k).2.2.2 = fin ∧ parseFieldDescriptor (T k).2.2.1 = some ty ∧ (∀ j, j < N → parseFieldDescriptor (T j).2.2.1 = some (tys j)) ∧ (∀ a, a < N → ∀ b, b < N → a ≠ b → (T a).2.1 ≠ (T b).2.1)
def gCB (own : String) (ix : Nat) (y : MethodName) (bc : ByteArray) (nL : Nat) (ret : Option FieldType) (n : Nat) : Prop := Cond.methodLink own ix y ∈ gT ∧ Cond.initialized y.cls ∈ gT ∧ Cond.code y bc nL ret ∈ gT ∧ (y.cls ≠ "java/lang/invoke/MethodHandle" ∧ y.cls ≠ "java/lang/invoke/VarHandle" ∧ (parseMethodDescriptor y.desc).map (fun d => d.parameters.length) = some n)
def gCN (y : MethodName) (bc : ByteArray) (nL : Nat) (ret : Option FieldType) (n : Nat) : Prop := Cond.initialized y.cls ∈ gT ∧ Cond.code y bc nL ret ∈ gT ∧ (y.cls ≠ "java/lang/invoke/MethodHandle" ∧ y.cls ≠ "java/lang/invoke/VarHandle" ∧ (parseMethodDescriptor y.desc).map (fun d => d.parameters.length) = some n)
def gVI (y : MethodName) : Prop := Cond.instanceMethod y ∈ gT ∧ Cond.selects y.cls y y ∈ gT
theorem lt10 {ci : Nat} {q : vw_C} (h : vwCl[ci]? = some q) : ci < 10 := by
  have h1 : ci < 5 := (List.getElem?_eq_some_iff.mp h).1
  omega
section GMem
variable {E : gEnv} {κ : gCtx} {cc : ByteArray} {nL d cz sz cells slots pc : Nat} {own : String} {ret : Option FieldType} {ls : List (Option gV)} {st : List gV} {S : List (Nat × Nat)} {I : gI} {P : gP}
theorem G_getI (X : Cx E κ cc nL own ret d cz sz) {ix ci k a n : Nat} {fin : Bool} {ty : FieldType} (hF : gFd own ix ci k fin ty) (hr : gR ci k = false) (hsh : S[a]? = some (ci, n)) (hd : decode cc pc = .ok (.getfield ix, 3)) (kk : G E κ cells slots (pc + 3) ls (vi (I a k) :: st) (S, I, P)) : G E κ cells slots pc ls (vr a :: st) (S, I, P) := by
  obtain ⟨l, D, Gc, B, b⟩ := E
  obtain ⟨p, e, R, s, m, args, below, meth, c, Q⟩ := κ
  obtain ⟨hx, hb, -, ho, hts, hK, -⟩ := X
  obtain ⟨C, T, N, tys, hc, hN, hin, hk, hl, hT, -⟩ := hF
  intro H locs la hl0 hP hS
  have h10 := lt10 hc
  have he := gW_at (Gc := Gc) (B := B) (M := (S, I, P)) hsh
  rw [gE_obj h10] at he
  refine va_get (D := D) hx hb hts hin ho hK.1 hP a he hc k hk (hts _ hl) (fun x h => by rw [hT] at h; exact h) (v := .int (I a k)) ?_ hd (kk H locs la hl0 hP hS)
  rw [gFs_at (by rw [← hN]; exact hk)]
  simp [gF, hr]
theorem G_getR (X : Cx E κ cc nL own ret d cz sz) {ix ci k a n r : Nat} {fin : Bool} {ty : FieldType} (hF : gFd own ix ci k fin ty) (hr : gR ci k = true) (hsh : S[a]? = some (ci, n)) (hv : P a k = some r) (hd : decode cc pc = .ok (.getfield ix, 3)) (kk : G E κ cells slots (pc + 3) ls (vr r :: st) (S, I, P)) : G E κ cells slots pc ls (vr a :: st) (S, I, P) := by
  obtain ⟨l, D, Gc, B, b⟩ := E
  obtain ⟨p, e, R, s, m, args, below, meth, c, Q⟩ := κ
  obtain ⟨hx, hb, -, ho, hts, hK, -⟩ := X
  obtain ⟨C, T, N, tys, hc, hN, hin, hk, hl, hT, -⟩ := hF
  intro H locs la hl0 hP hS
  have h10 := lt10 hc
  have he := gW_at (Gc := Gc) (B := B) (M := (S, I, P)) hsh
  rw [gE_obj h10] at he
  refine va_get (D := D) hx hb hts hin ho hK.1 hP a he hc k hk (hts _ hl) (fun x h => by rw [hT] at h; exact h) (v := .ref (B + r)) ?_ hd (kk H locs la hl0 hP hS)
  rw [gFs_at (by rw [← hN]; exact hk)]
  simp [gF, hr, hv, va_rf]
theorem G_putI (X : Cx E κ cc nL own ret d cz sz) {ix ci k a n : Nat} {ty : FieldType} {x : Int32} (hF : gFd own ix ci k false ty) (hr : gR ci k = false) (hsh : S[a]? = some (ci, n)) (hn : narrow ty (.int x) = .int x) (hf : fits ty (.int x) = true) (hd : decode cc pc = .ok (.putfield ix, 3)) (kk : G E κ cells slots (pc + 3) ls st (S, uI I a k x, P)) : G E κ cells slots pc ls (vi x :: vr a :: st) (S, I, P) := by
  obtain ⟨l, D, Gc, B, b⟩ := E
  obtain ⟨p, e, R, s, m, args, below, meth, c, Q⟩ := κ
  obtain ⟨hx, hb, -, ho, hts, hK, -⟩ := X
  obtain ⟨C, T, N, tys, hc, hN, hin, hk, hl, hT, hfin, hpd, hty, hnm⟩ := hF
  intro H locs la hl0 hP hS
  have h10 := lt10 hc
  have he := gW_at (Gc := Gc) (B := B) (M := (S, I, P)) hsh
  rw [gE_obj h10] at he
  have hk' : k < gN ci := by rw [← hN]; exact hk
  refine va_put (D := D) hx hb hts hin tys hty hnm ho hK.1 hP gW_D hS a he hc k hk (hts _ hl) (fun x h => by rw [hT] at h; exact h) hfin hpd hn hf (by simpa using hk') hd (fun H1 locs1 hP1 _ hS1 => kk H1 locs1 la hl0 ?_ hS1)
  rw [gW_uI hsh, gE_obj h10, gFs_uI hk' hr]
  exact hP1
theorem G_putR (X : Cx E κ cc nL own ret d cz sz) {ix ci k a n r : Nat} {ty : FieldType} (hF : gFd own ix ci k false ty) (hr : gR ci k = true) (hsh : S[a]? = some (ci, n)) (hn : ∀ q, narrow ty (.ref q) = .ref q) (hf : ∀ q, fits ty (.ref q) = true) (hd : decode cc pc = .ok (.putfield ix, 3)) (kk : G E κ cells slots (pc + 3) ls st (S, I, uP P a k (some r))) : G E κ cells slots pc ls (vr r :: vr a :: st) (S, I, P) := by
  obtain ⟨l, D, Gc, B, b⟩ := E
  obtain ⟨p, e, R, s, m, args, below, meth, c, Q⟩ := κ
  obtain ⟨hx, hb, -, ho, hts, hK, -⟩ := X
  obtain ⟨C, T, N, tys, hc, hN, hin, hk, hl, hT, hfin, hpd, hty, hnm⟩ := hF
  intro H locs la hl0 hP hS
  have h10 := lt10 hc
  have he := gW_at (Gc := Gc) (B := B) (M := (S, I, P)) hsh
  rw [gE_obj h10] at he
  have hk' : k < gN ci := by rw [← hN]; exact hk
  refine va_put (D := D) (v := .ref (B + r)) hx hb hts hin tys hty hnm ho hK.1 hP gW_D hS a he hc k hk (hts _ hl) (fun x h => by rw [hT] at h; exact h) hfin hpd (hn _) (hf _) (by simpa using hk') hd (fun H1 locs1 hP1 _ hS1 => kk H1 locs1 la hl0 ?_ hS1)
  rw [gW_uP hsh, gE_obj h10, gFs_uP hk' hr]
  exact hP1
theorem G_putF (X : Cx E κ cc nL own ret d cz sz) {ix ci k a n r : Nat} {ty : FieldType} (hF : gFd own ix ci k true ty) (hO : ∀ q : vw_C, vwCl[ci]? = some q → q.1 = own) (hr : gR ci k = true) (hsh : S[a]? = some (ci, n)) (hn : ∀ q, narrow ty (.ref q) = .ref q) (hf : ∀ q, fits ty (.ref q) = true) (hnm2 : κ.2.2.2.2.2.2.2.1.name = "<init>") (hd : decode cc pc = .ok (.putfield ix, 3)) (kk : G E κ cells slots (pc + 3) ls st (S, I, uP P a k (some r))) : G E κ cells slots pc ls (vr r :: vr a :: st) (S, I, P) := by
  obtain ⟨l, D, Gc, B, b⟩ := E
  obtain ⟨p, e, R, s, m, args, below, meth, c, Q⟩ := κ
  obtain ⟨hx, hb, -, ho, hts, hK, -⟩ := X
  obtain ⟨C, T, N, tys, hc, hN, hin, hk, hl, hT, hfin, hpd, hty, hnm⟩ := hF
  intro H locs la hl0 hP hS
  have h10 := lt10 hc
  have he := gW_at (Gc := Gc) (B := B) (M := (S, I, P)) hsh
  rw [gE_obj h10] at he
  have hk' : k < gN ci := by rw [← hN]; exact hk
  have hO' : C = own := hO _ hc
  refine va_putF (D := D) (v := .ref (B + r)) hx hb hts hin tys hty hnm ho hK.1 hP gW_D hS a he hc k hk (hts _ hl) (fun x h => by rw [hT] at h; exact h) hfin hnm2 (by rw [hT, hO']) hpd (hn _) (hf _) (by simpa using hk') hd (fun H1 locs1 hP1 _ hS1 => kk H1 locs1 la hl0 ?_ hS1)
  rw [gW_uP hsh, gE_obj h10, gFs_uP hk' hr]
  exact hP1
theorem G_iald (X : Cx E κ cc nL own ret d cz sz) {a n : Nat} {i : Int32} (hsh : S[a]? = some (10, n)) (hin : vp_in i n) (hd : decode cc pc = .ok (.iaload, 1)) (kk : G E κ cells slots (pc + 1) ls (vi (I a i.toNatClampNeg) :: st) (S, I, P)) : G E κ cells slots pc ls (vi i :: vr a :: st) (S, I, P) := by
  obtain ⟨l, D, Gc, B, b⟩ := E
  obtain ⟨p, e, R, s, m, args, below, meth, c, Q⟩ := κ
  obtain ⟨hx, hb, -, ho, hts, hK, -⟩ := X
  intro H locs la hl0 hP hS
  have he := gW_at (Gc := Gc) (B := B) (M := (S, I, P)) hsh
  rw [gE_int (by decide) (by decide)] at he
  exact va_iald hx hb hK.1 hP a 0 he rfl hin hd (kk H locs la hl0 hP hS)
theorem G_cald (X : Cx E κ cc nL own ret d cz sz) {a n : Nat} {i : Int32} (hsh : S[a]? = some (11, n)) (hin : vp_in i n) (hd : decode cc pc = .ok (.caload, 1)) (kk : G E κ cells slots (pc + 1) ls (vi (I a i.toNatClampNeg) :: st) (S, I, P)) : G E κ cells slots pc ls (vi i :: vr a :: st) (S, I, P) := by
  obtain ⟨l, D, Gc, B, b⟩ := E
  obtain ⟨p, e, R, s, m, args, below, meth, c, Q⟩ := κ
  obtain ⟨hx, hb, -, ho, hts, hK, -⟩ := X
  intro H locs la hl0 hP hS
  have he := gW_at (Gc := Gc) (B := B) (M := (S, I, P)) hsh
  rw [gE_int (by decide) (by decide)] at he
  exact va_cald hx hb hK.1 hP a 1 he rfl hin hd (kk H locs la hl0 hP hS)
theorem G_iast (X : Cx E κ cc nL own ret d cz sz) {a n : Nat} {i x : Int32} (hsh : S[a]? = some (10, n)) (hin : vp_in i n) (hd : decode cc pc = .ok (.iastore, 1)) (kk : G E κ cells slots (pc + 1) ls st (S, uI I a i.toNatClampNeg x, P)) : G E κ cells slots pc ls (vi x :: vi i :: vr a :: st) (S, I, P) := by
  obtain ⟨l, D, Gc, B, b⟩ := E
  obtain ⟨p, e, R, s, m, args, below, meth, c, Q⟩ := κ
  obtain ⟨hx, hb, -, ho, hts, hK, -⟩ := X
  intro H locs la hl0 hP hS
  have he := gW_at (Gc := Gc) (B := B) (M := (S, I, P)) hsh
  rw [gE_int (by decide) (by decide)] at he
  refine va_iast hx hb hK.1 hP gW_D hS a 0 he rfl hin hd (fun H1 locs1 hP1 _ hS1 => kk H1 locs1 la hl0 ?_ hS1)
  rw [gW_uI hsh, gE_int (by decide) (by decide)]
  have e : uI I a i.toNatClampNeg x a = upd (I a) i.toNatClampNeg x := by simp [uI]
  rw [e]
  exact hP1
theorem G_cast (X : Cx E κ cc nL own ret d cz sz) {a n : Nat} {i x : Int32} (hsh : S[a]? = some (11, n)) (hin : vp_in i n) (hd : decode cc pc = .ok (.castore, 1)) (kk : G E κ cells slots (pc + 1) ls st (S, uI I a i.toNatClampNeg (vp_nar .char x), P)) : G E κ cells slots pc ls (vi x :: vi i :: vr a :: st) (S, I, P) := by
  obtain ⟨l, D, Gc, B, b⟩ := E
  obtain ⟨p, e, R, s, m, args, below, meth, c, Q⟩ := κ
  obtain ⟨hx, hb, -, ho, hts, hK, -⟩ := X
  intro H locs la hl0 hP hS
  have he := gW_at (Gc := Gc) (B := B) (M := (S, I, P)) hsh
  rw [gE_int (by decide) (by decide)] at he
  refine va_cast hx hb hK.1 hP gW_D hS a 1 he rfl hin hd (fun H1 locs1 hP1 _ hS1 => kk H1 locs1 la hl0 ?_ hS1)
  rw [gW_uI hsh, gE_int (by decide) (by decide)]
  have e : uI I a i.toNatClampNeg (vp_nar .char x) a = upd (I a) i.toNatClampNeg (vp_nar .char x) := by simp [uI]
  rw [e]
  exact hP1
theorem gTy_at (Gc : Nat → ClassId) {kd : Nat} (h : kd = 12 ∨ kd = 13) : (gTy Gc)[kd - 10]? = some (Gc kd, .object (if kd = 12 then RX0 else RX1)) := by
  rcases h with rfl | rfl <;> rfl
theorem G_aald (X : Cx E κ cc nL own ret d cz sz) {a n kd r : Nat} {i : Int32} (hsh : S[a]? = some (kd, n)) (hkd : kd = 12 ∨ kd = 13) (hin : vp_in i n) (hv : P a i.toNatClampNeg = some r) (hd : decode cc pc = .ok (.aaload, 1)) (kk : G E κ cells slots (pc + 1) ls (vr r :: st) (S, I, P)) : G E κ cells slots pc ls (vi i :: vr a :: st) (S, I, P) := by
  obtain ⟨l, D, Gc, B, b⟩ := E
  obtain ⟨p, e, R, s, m, args, below, meth, c, Q⟩ := κ
  obtain ⟨hx, hb, -, ho, hts, hK, -⟩ := X
  intro H locs la hl0 hP hS
  have he := gW_at (Gc := Gc) (B := B) (M := (S, I, P)) hsh
  rw [gE_ref (by omega)] at he
  refine va_aldq hx hb hK.1 hP a (kd - 10) he (gTy_at Gc hkd) hin hd ?_
  have e : va_rf ((fun j => (P a j).map (fun x => B + x)) i.toNatClampNeg) = .ref (B + r) := by simp [hv, va_rf]
  rw [e]
  exact kk H locs la hl0 hP hS
theorem G_aast (X : Cx E κ cc nL own ret d cz sz) {a n kd r nr : Nat} {i : Int32} (hsh : S[a]? = some (kd, n)) (hkd : kd = 12 ∨ kd = 13) (hr : S[r]? = some (kd - 12, nr)) (hin : vp_in i n) (hd : decode cc pc = .ok (.aastore, 1)) (kk : G E κ cells slots (pc + 1) ls st (S, I, uP P a i.toNatClampNeg (some r))) : G E κ cells slots pc ls (vr r :: vi i :: vr a :: st) (S, I, P) := by
  obtain ⟨l, D, Gc, B, b⟩ := E
  obtain ⟨p, e, R, s, m, args, below, meth, c, Q⟩ := κ
  obtain ⟨hx, hb, -, ho, hts, hK, -⟩ := X
  intro H locs la hl0 hP hS
  have he := gW_at (Gc := Gc) (B := B) (M := (S, I, P)) hsh
  rw [gE_ref (by omega)] at he
  have hv := gW_at (Gc := Gc) (B := B) (M := (S, I, P)) hr
  rw [gE_obj (by omega)] at hv
  have hc : ∃ q : vw_C, vwCl[kd - 12]? = some q ∧ (if kd = 12 then RX0 else RX1) = q.1 := by
    rcases hkd with rfl | rfl
    · exact ⟨_, rfl, rfl⟩
    · exact ⟨_, rfl, rfl⟩
  obtain ⟨q, hq, hqe⟩ := hc
  have ht := gTy_at Gc hkd
  rw [hqe] at ht
  refine va_astq hx hb hK.1 hP gW_D hS a (kd - 10) r (kd - 12) he ht hv hq hin hd (fun H1 locs1 hP1 _ hS1 => kk H1 locs1 la hl0 ?_ hS1)
  rw [gW_uP hsh, gE_ref (by omega)]
  have e : (fun j => (uP P a i.toNatClampNeg (some r) a j).map (fun x => B + x)) = va_up (fun j => (P a j).map (fun x => B + x)) i.toNatClampNeg (some (B + r)) := by
    funext j
    by_cases hj : j = i.toNatClampNeg
    · simp [uP, va_up, hj]
    · simp [uP, va_up, hj]
  rw [e]
  exact hP1
theorem G_alen (X : Cx E κ cc nL own ret d cz sz) {a n kd : Nat} (hsh : S[a]? = some (kd, n)) (hkd : kd = 10 ∨ kd = 11 ∨ kd = 12 ∨ kd = 13) (hd : decode cc pc = .ok (.arraylength, 1)) (kk : G E κ cells slots (pc + 1) ls (vi (nI n) :: st) (S, I, P)) : G E κ cells slots pc ls (vr a :: st) (S, I, P) := by
  obtain ⟨l, D, Gc, B, b⟩ := E
  obtain ⟨p, e, R, s, m, args, below, meth, c, Q⟩ := κ
  obtain ⟨hx, hb, -, ho, hts, hK, -⟩ := X
  intro H locs la hl0 hP hS
  have he := gW_at (Gc := Gc) (B := B) (M := (S, I, P)) hsh
  rcases hkd with rfl | rfl | rfl | rfl
  · rw [gE_int (by decide) (by decide)] at he
    exact va_alen hx hb hK.1 hP a 0 he rfl rfl hd (kk H locs la hl0 hP hS)
  · rw [gE_int (by decide) (by decide)] at he
    exact va_alen hx hb hK.1 hP a 1 he rfl rfl hd (kk H locs la hl0 hP hS)
  · rw [gE_ref (by decide)] at he
    exact va_alen hx hb hK.1 hP a 2 he rfl rfl hd (kk H locs la hl0 hP hS)
  · rw [gE_ref (by decide)] at he
    exact va_alen hx hb hK.1 hP a 3 he rfl rfl hd (kk H locs la hl0 hP hS)
/-- the law's script -/
def gX (E : gEnv) (κ : gCtx) (L : Nat) (xs : Nat → Int32) : Prop := match E, κ with
  | (_, _, _, B, b), (_, _, _, s, _) => va_X b L xs s s.heap ∧ b < B ∧ b < s.heap.size
theorem G_sld (X : Cx E κ cc nL own ret d cz sz) {L : Nat} {xs : Nat → Int32} {M : gM} (hX : gX E κ L xs) {i : Int32} (hin : vp_in i L) (hd : decode cc pc = .ok (.iaload, 1)) (kk : G E κ cells slots (pc + 1) ls (vi (xs i.toNatClampNeg) :: st) M) : G E κ cells slots pc ls (vi i :: vsc :: st) M := by
  obtain ⟨l, D, Gc, B, b⟩ := E
  obtain ⟨p, e, R, s, m, args, below, meth, c, Q⟩ := κ
  obtain ⟨hx, hb, -, ho, hts, hK, -⟩ := X
  intro H locs la hl0 hP hS
  exact va_sld hx hb hX.1 hX.2.2 (Nat.not_le.mpr hX.2.1) hS hin hd (kk H locs la hl0 hP hS)
theorem G_slen (X : Cx E κ cc nL own ret d cz sz) {L : Nat} {xs : Nat → Int32} {M : gM} (hX : gX E κ L xs) (hd : decode cc pc = .ok (.arraylength, 1)) (kk : G E κ cells slots (pc + 1) ls (vi (nI L) :: st) M) : G E κ cells slots pc ls (vsc :: st) M := by
  obtain ⟨l, D, Gc, B, b⟩ := E
  obtain ⟨p, e, R, s, m, args, below, meth, c, Q⟩ := κ
  obtain ⟨hx, hb, -, ho, hts, hK, -⟩ := X
  intro H locs la hl0 hP hS
  exact va_slen hx hb hX.1 hX.2.2 (Nat.not_le.mpr hX.2.1) hS hd (kk H locs la hl0 hP hS)
def gsz : List gV → Nat
  | [] => 0
  | v :: r => (match v with | .inl _ => 1 | .inr _ => 2) + gsz r
theorem gcat_sum (B b : Nat) : ∀ st : List gV, ((st.map (gv B b)).map fun v => v.category).sum = gsz st
  | [] => rfl
  | v :: r => by
    rw [List.map_cons, List.map_cons, List.sum_cons, gcat_sum B b r]
    rcases v with (x | (_ | a)) | x <;> rfl
theorem groom (B b : Nat) {m : MethodId} {pc : Nat} {la : Array Slot} {s0 : List Value} {st : List gV} (h : gsz st ≤ 8) : 2 * (F0 m pc la s0).monitorRoom + ((st.map (gv B b)).map fun v => v.category).sum ≤ 8 := lv_room (by rw [gcat_sum]; exact h)
theorem gws_good {y : MethodName} {bc : ByteArray} {nL' : Nat} {ret' : Option FieldType} (h : Cond.code y bc nL' ret' ∈ gT) : GoodIn gT (gws y bc nL' ret') := gT_good fun w hw => by
  rcases List.mem_cons.mp hw with rfl | h1
  · exact h
  · exact h1
theorem gPr_blind {D : va_G} {Gc : Nat → ClassId} {B : Nat} {M : gM} {av : List Value} : FrameBlind (va_Pc av (gPr D Gc B M)) := fun a U g mk q => ⟨q.1, q.2.1, gKK.same (s := U) (U := U.calling g mk a) rfl q.2.2.1, q.2.2.2⟩
/-- behind a call, whatever the kind of the invoke -/
theorem G_back {l : Launch} {D : va_G} {Gc : Nat → ClassId} {B b : Nat} {p : Program} {e : Env} {R : Room} {s : State} {m : MethodId} {args : Array Value} {below : List Frame} {meth : Method} {c : Code} {Q : State → Prop} {H : Heap} {locs : List Loc} {la : Array Slot} {s0 : List Value} {a : Array Value} {mc ms : Nat} {rv : Option gV} {M1 : gM} (hB : B ≤ s.heap.size)
    (hr : va_Run p l e R s m args below meth c H locs cells slots mc ms (F0 m pc la s0) (st.map (gv B b)) (gQo D Gc B b rv M1 a) (fun q => B ≤ q)) (hl0 : gLk B b la ls) (hS : va_S (fun q => B ≤ q) s.heap H locs)
    (kk : G (l, D, Gc, B, b) (p, e, R, s, m, args, below, meth, c, Q) (cells + mc) (slots + ms) (pc + 3) ls (rv.toList ++ st) M1) : W p l e R s m args below meth c H locs cells slots Q (F0 m pc la s0) := by
  intro T hT X
  obtain ⟨v, st₀, t, T', L, h0, X', hL, e1, e2, ⟨hv, hP, hz, hk⟩, st1⟩ := hr T hT X
  cases hv
  rw [h0] at hz hk
  have hS' : va_S (fun q => B ≤ q) s.heap T'.heap (locs ++ L) := ⟨Nat.le_trans hS.1 (by rw [e1]; exact hz), fun q h1 h2 => by
      rw [e1, hk q (Nat.lt_of_lt_of_le h1 hS.1) h2]
      exact hS.2.1 q h1 h2, fun q hq => by
      rcases List.mem_append.mp hq with h | h
      · exact hS.2.2 q h
      · exact hL q h⟩
  obtain ⟨t2, a1, b1⟩ := kk T'.heap (locs ++ L) la hl0 (by rw [e1]; exact hP) hS' T' rfl X'
  refine ⟨t2, st1 t2 ?_, b1⟩
  cases rv with
  | none => exact a1
  | some w => exact a1
theorem G_callV (X : Cx E κ cc nL own ret d cz sz) {y : MethodName} {bc : ByteArray} {nL' ix n d' mc ms a ci k : Nat} {ret' : Option FieldType} {As sk : List gV} {M M1 : gM} {rv : Option gV} {C : String} {T : u_T} {N : Nat} (hM : Ctr E y bc nL' ret' d' mc ms (vr a :: As) M rv M1) (hw : gCB own ix y bc nL' ret' n) (hv : gVI y) (hc : vwCl[ci]? = some (C, T, N)) (hC : y.cls = C) (hsh : M.1[a]? = some (ci, k))
    (hn : As.length = n) (hsk : sk = As.reverse ++ vr a :: st) (hst : gsz st ≤ 8) (hfr : d' + 1 ≤ d) (hnL : nL' ≤ 21) (hlen : ls.length = nL) (hcz : cells + mc ≤ cz) (hsz : slots + ms ≤ sz) (hd : decode cc pc = .ok (.invokevirtual ix, 3)) (kk : G E κ (cells + mc) (slots + ms) (pc + 3) ls (rv.toList ++ st) M1) : G E κ cells slots pc ls sk M := by
  subst hsk
  obtain ⟨l, D, Gc, B, b⟩ := E
  obtain ⟨p, e, R, s, m, args, below, meth, c, Q⟩ := κ
  obtain ⟨hx, hb, hml, ho, hts, hK, hB, -, -, hfr2, hlo, hcz2, hsz2⟩ := X
  obtain ⟨w1, w2, w3, w4⟩ := hw
  intro H locs la hl0 hP hS
  have h10 := lt10 hc
  have he := gW_at (Gc := Gc) (B := B) (M := M) hsh
  rw [gE_obj h10] at he
  have cb : CallB R s args own ix y bc nL' ret' (gws y bc nL' ret') { frames := d', cells := mc, slots := ms, locals := 40 * d' } mc ms n :=
    callB_of n hts (gws_good w3) rfl rfl rfl (hts _ w2) (hts _ w1) w4 ⟨by show d' + 1 ≤ R.frames; omega, by show 8 + (nL' + 11) + 40 * d' ≤ R.locals; omega⟩
  subst hC
  have hr := va_runV (b := B + a) (As := As.map (gv B b)) (rest := st.map (gv B b)) (g := F0 m pc la ((As.reverse ++ vr a :: st).map (gv B b))) (cells := cells) (slots := slots) (locs := locs) (below := below) (meth := meth) (e := e) (H := H) (C := y.cls) ⟨hx, hb, hml, ho, hts⟩ hM ⟨cb, hts _ hv.1, hts _ hv.2⟩
    ⟨gPr_blind, va_recv hK.1 hP hc he, fun U hU hW => ⟨rfl, by rw [hU]; exact hP, gKK.moved hW hK, by rw [hU]; exact Nat.le_trans hB hS.1⟩⟩ rfl (by simpa using hn) (hl0.1.trans hlen) (by simp [gv]) (groom B b hst) hd ⟨by omega, by omega⟩
  exact G_back hB hr hl0 hS kk
theorem G_callS (X : Cx E κ cc nL own ret d cz sz) {y : MethodName} {bc : ByteArray} {nL' ix n d' mc ms : Nat} {ret' : Option FieldType} {As sk : List gV} {M M1 : gM} {rv : Option gV} (hM : Ctr E y bc nL' ret' d' mc ms As M rv M1) (hw : gCB own ix y bc nL' ret' n) (hv : Cond.static y ∈ gT)
    (hn : As.length = n) (hsk : sk = As.reverse ++ st) (hst : gsz st ≤ 8) (hfr : d' + 1 ≤ d) (hnL : nL' ≤ 21) (hlen : ls.length = nL) (hcz : cells + mc ≤ cz) (hsz : slots + ms ≤ sz) (hd : decode cc pc = .ok (.invokestatic ix, 3)) (kk : G E κ (cells + mc) (slots + ms) (pc + 3) ls (rv.toList ++ st) M1) : G E κ cells slots pc ls sk M := by
  subst hsk
  obtain ⟨l, D, Gc, B, b⟩ := E
  obtain ⟨p, e, R, s, m, args, below, meth, c, Q⟩ := κ
  obtain ⟨hx, hb, hml, ho, hts, hK, hB, -, -, hfr2, hlo, hcz2, hsz2⟩ := X
  obtain ⟨w1, w2, w3, w4⟩ := hw
  intro H locs la hl0 hP hS
  have cb : CallB R s args own ix y bc nL' ret' (gws y bc nL' ret') { frames := d', cells := mc, slots := ms, locals := 40 * d' } mc ms n :=
    callB_of n hts (gws_good w3) rfl rfl rfl (hts _ w2) (hts _ w1) w4 ⟨by show d' + 1 ≤ R.frames; omega, by show 8 + (nL' + 11) + 40 * d' ≤ R.locals; omega⟩
  have hr := va_runS (As := As.map (gv B b)) (rest := st.map (gv B b)) (g := F0 m pc la ((As.reverse ++ st).map (gv B b))) (cells := cells) (slots := slots) (locs := locs) (below := below) (meth := meth) (e := e) (H := H) ⟨hx, hb, hml, ho, hts⟩ hM ⟨cb, hts _ hv⟩
    ⟨gPr_blind, fun U hU hW => ⟨rfl, by rw [hU]; exact hP, gKK.moved hW hK, by rw [hU]; exact Nat.le_trans hB hS.1⟩⟩ rfl (by simpa using hn) (hl0.1.trans hlen) (by simp) (groom B b hst) hd ⟨by omega, by omega⟩
  exact G_back hB hr hl0 hS kk
theorem G_callI (X : Cx E κ cc nL own ret d cz sz) {y : MethodName} {bc : ByteArray} {nL' ix n d' mc ms a : Nat} {As sk : List gV} {M M1 : gM} {rv : Option gV} (hM : Ctr E y bc nL' none d' mc ms (vr a :: As) M rv M1) (hw : gCB own ix y bc nL' none n) (hv : Cond.instanceMethod y ∈ gT) (hy : y.name = "<init>")
    (hn : As.length = n) (hsk : sk = As.reverse ++ vr a :: st) (hst : gsz st ≤ 8) (hfr : d' + 1 ≤ d) (hnL : nL' ≤ 21) (hlen : ls.length = nL) (hcz : cells + mc ≤ cz) (hsz : slots + ms ≤ sz) (hd : decode cc pc = .ok (.invokespecial ix, 3)) (kk : G E κ (cells + mc) (slots + ms) (pc + 3) ls (rv.toList ++ st) M1) : G E κ cells slots pc ls sk M := by
  subst hsk
  obtain ⟨l, D, Gc, B, b⟩ := E
  obtain ⟨p, e, R, s, m, args, below, meth, c, Q⟩ := κ
  obtain ⟨hx, hb, hml, ho, hts, hK, hB, -, -, hfr2, hlo, hcz2, hsz2⟩ := X
  obtain ⟨w1, w2, w3, w4⟩ := hw
  intro H locs la hl0 hP hS
  have cb : CallB R s args own ix y bc nL' none (gws y bc nL' none) { frames := d', cells := mc, slots := ms, locals := 40 * d' } mc ms n :=
    callB_of n hts (gws_good w3) rfl rfl rfl (hts _ w2) (hts _ w1) w4 ⟨by show d' + 1 ≤ R.frames; omega, by show 8 + (nL' + 11) + 40 * d' ≤ R.locals; omega⟩
  have hr := va_runI (b := B + a) (As := As.map (gv B b)) (rest := st.map (gv B b)) (g := F0 m pc la ((As.reverse ++ vr a :: st).map (gv B b))) (cells := cells) (slots := slots) (locs := locs) (below := below) (meth := meth) (e := e) (H := H) ⟨hx, hb, hml, ho, hts⟩ hM ⟨cb, hy, hts _ hv⟩
    ⟨gPr_blind, fun U hU hW => ⟨rfl, by rw [hU]; exact hP, gKK.moved hW hK, by rw [hU]; exact Nat.le_trans hB hS.1⟩⟩ rfl (by simpa using hn) (hl0.1.trans hlen) (by simp [gv]) (groom B b hst) hd ⟨by omega, by omega⟩
  exact G_back hB hr hl0 hS kk
def gNw (E : gEnv) (κ : gCtx) (w : Cond) : Prop := va_Nw w κ.2.2.2.1
theorem G_callIN (X : Cx E κ cc nL own ret d cz sz) {y : MethodName} {bc : ByteArray} {nL' ix n d' mc ms a : Nat} {As sk : List gV} {M M1 : gM} {rv : Option gV} {host : String} (hM : Ctr E y bc nL' none d' mc ms (vr a :: As) M rv M1) (hw : gCN y bc nL' none n) (hNw : gNw E κ (.methodLinkNest own ix y host)) (hv : Cond.instanceMethod y ∈ gT) (hy : y.name = "<init>")
    (hn : As.length = n) (hsk : sk = As.reverse ++ vr a :: st) (hst : gsz st ≤ 8) (hfr : d' + 1 ≤ d) (hnL : nL' ≤ 21) (hlen : ls.length = nL) (hcz : cells + mc ≤ cz) (hsz : slots + ms ≤ sz) (hd : decode cc pc = .ok (.invokespecial ix, 3)) (kk : G E κ (cells + mc) (slots + ms) (pc + 3) ls (rv.toList ++ st) M1) : G E κ cells slots pc ls sk M := by
  subst hsk
  obtain ⟨l, D, Gc, B, b⟩ := E
  obtain ⟨p, e, R, s, m, args, below, meth, c, Q⟩ := κ
  obtain ⟨hx, hb, hml, ho, hts, hK, hB, -, -, hfr2, hlo, hcz2, hsz2⟩ := X
  obtain ⟨w2, w3, w4⟩ := hw
  intro H locs la hl0 hP hS
  have cb : va_CN R s args own ix y host bc nL' none (gws y bc nL' none) { frames := d', cells := mc, slots := ms, locals := 40 * d' } mc ms n :=
    va_cnB n hts (gws_good w3) rfl rfl rfl hNw (hts _ w2) w4 ⟨by show d' + 1 ≤ R.frames; omega, by show 8 + (nL' + 11) + 40 * d' ≤ R.locals; omega⟩
  have hr := va_runIN (b := B + a) (As := As.map (gv B b)) (rest := st.map (gv B b)) (g := F0 m pc la ((As.reverse ++ vr a :: st).map (gv B b))) (cells := cells) (slots := slots) (locs := locs) (below := below) (meth := meth) (e := e) (H := H) ⟨hx, hb, hml, ho, hts⟩ hM ⟨cb, hy, hts _ hv⟩
    ⟨gPr_blind, fun U hU hW => ⟨rfl, by rw [hU]; exact hP, gKK.moved hW hK, by rw [hU]; exact Nat.le_trans hB hS.1⟩⟩ rfl (by simpa using hn) (hl0.1.trans hlen) (by simp [gv]) (groom B b hst) hd ⟨by omega, by omega⟩
  exact G_back hB hr hl0 hS kk
theorem G_objInit (X : Cx E κ cc nL own ret d cz sz) {ix : Nat} {a : Nat} {M : gM} (h1 : Cond.methodLink own ix Lib.objectInit ∈ gT) (h2 : Cond.instanceMethod Lib.objectInit ∈ gT) (h3 : Cond.code Lib.objectInit ⟨#[0xb1]⟩ 1 none ∈ gT) (hst : gsz st ≤ 8) (hfr : 1 ≤ d) (hlen : ls.length = nL) (hd : decode cc pc = .ok (.invokespecial ix, 3)) (kk : G E κ cells slots (pc + 3) ls st M) : G E κ cells slots pc ls (vr a :: st) M := by
  obtain ⟨l, D, Gc, B, b⟩ := E
  obtain ⟨p, e, R, s, m, args, below, meth, c, Q⟩ := κ
  obtain ⟨hx, hb, hml, ho, hts, hK, hB, -, -, hfr2, hlo, hcz2, hsz2⟩ := X
  intro H locs la hl0 hP hS
  refine W.objInit hx hb ho (hts _ h1) (hts _ h2) (hts _ h3) (g := F0 m pc la ((vr a :: st).map (gv B b))) rfl (by rw [hml]; exact hl0.1.trans hlen) rfl hd (by omega) ?_ (kk H locs la hl0 hP hS)
  have := groom B b (m := m) (pc := pc) (la := la) (s0 := (vr a :: st).map (gv B b)) hst
  omega
theorem G_iret (X : Cx E κ cc nL own ret d cz sz) {x : Int32} {M : gM} {ty : FieldType} (hR : gRt E κ cells slots (some (vi x)) M) (hret : ret = some ty) (hn : narrow ty (.int x) = .int x) (hd : decode cc pc = .ok (.ireturn, 1)) : G E κ cells slots pc ls [vi x] M := by
  subst hret
  obtain ⟨l, D, Gc, B, b⟩ := E
  obtain ⟨p, e, R, s, m, args, below, meth, c, Q⟩ := κ
  obtain ⟨hx, hb, hml, ho, hts, hK, hB, hlk, hr, -⟩ := X
  have hR : Q = _ := hR
  subst hR
  intro H locs la hl0 hP hS
  exact W.zret hx hb hr hn (fun t ht hW => ⟨rfl, by rw [ht]; exact hP, hS.F ht⟩) hS.2.2 hd hlk
theorem G_lret (X : Cx E κ cc nL own ret d cz sz) {x : Int64} {M : gM} (hR : gRt E κ cells slots (some (vl x)) M) (hret : ret = some .long) (hd : decode cc pc = .ok (.lreturn, 1)) : G E κ cells slots pc ls [vl x] M := by
  subst hret
  obtain ⟨l, D, Gc, B, b⟩ := E
  obtain ⟨p, e, R, s, m, args, below, meth, c, Q⟩ := κ
  obtain ⟨hx, hb, hml, ho, hts, hK, hB, hlk, hr, -⟩ := X
  have hR : Q = _ := hR
  subst hR
  intro H locs la hl0 hP hS
  exact W.lret hx hb hr (fun t ht hW => ⟨rfl, by rw [ht]; exact hP, hS.F ht⟩) hS.2.2 hd hlk
theorem G_vret (X : Cx E κ cc nL own ret d cz sz) {M : gM} (hR : gRt E κ cells slots none M) (hret : ret = none) (hd : decode cc pc = .ok (.return_, 1)) : G E κ cells slots pc ls [] M := by
  subst hret
  obtain ⟨l, D, Gc, B, b⟩ := E
  obtain ⟨p, e, R, s, m, args, below, meth, c, Q⟩ := κ
  obtain ⟨hx, hb, hml, ho, hts, hK, hB, hlk, hr, -⟩ := X
  have hR : Q = _ := hR
  subst hR
  intro H locs la hl0 hP hS
  exact W.vret hx hb hr (fun t ht hW => ⟨rfl, by rw [ht]; exact hP, hS.F ht⟩) hS.2.2 hd hlk
theorem G_aret (X : Cx E κ cc nL own ret d cz sz) {a : Nat} {M : gM} {C : String} (hR : gRt E κ cells slots (some (vr a)) M) (hret : ret = some (.object C)) (hd : decode cc pc = .ok (.areturn, 1)) : G E κ cells slots pc ls [vr a] M := by
  subst hret
  obtain ⟨l, D, Gc, B, b⟩ := E
  obtain ⟨p, e, R, s, m, args, below, meth, c, Q⟩ := κ
  obtain ⟨hx, hb, hml, ho, hts, hK, hB, hlk, hr, -⟩ := X
  have hR : Q = _ := hR
  subst hR
  intro H locs la hl0 hP hS
  exact W.aret hx hb hr (Or.inl ⟨_, rfl⟩) (Or.inr ⟨_, rfl⟩) (fun t ht hW => ⟨rfl, by rw [ht]; exact hP, hS.F ht⟩) hS.2.2 hd hlk
/-- the contract of a static method that reads the script -/
def CtrX (E : gEnv) (L : Nat) (xs : Nat → Int32) (y : MethodName) (bc : ByteArray) (nL : Nat) (ret : Option FieldType) (d mc ms : Nat) (av : List gV) (M : gM) (rv : Option gV) (M' : gM) : Prop := match E with
  | (l, D, Gc, B, b) => Met l y (gws y bc nL ret) { frames := d, cells := mc, slots := ms, locals := 40 * d } (va_Pc (av.map (gv B b)) (fun U => gPr D Gc B M U ∧ va_X b L xs U U.heap ∧ b < B ∧ b < U.heap.size)) (gQo D Gc B b rv M') mc ms (fun q => B ≤ q)
theorem CtrX.mk {E : gEnv} {L : Nat} {xs : Nat → Int32} {y : MethodName} {bc : ByteArray} {nL d mc ms : Nat} {ret : Option FieldType} {av : List gV} {M M' : gM} {rv : Option gV} (hy : plainFor y = true) (hc : av.all c1 = true) (hn : av.length ≤ nL)
    (h : ∀ κ : gCtx, Cx E κ bc nL y.cls ret d mc ms → gRt E κ mc ms rv M' → gX E κ L xs → G E κ 0 0 0 (gent nL av) [] M) : CtrX E L xs y bc nL ret d mc ms av M rv M' := by
  obtain ⟨l, D, Gc, B, b⟩ := E
  refine va_MetF (cc := bc) (maxL := nL) (ret := ret) hy rfl ?_
  intro p e s m args below meth c s₁ Bd hml hv
  obtain ⟨rfl, ⟨hP, hKK, hB⟩, hXs⟩ := hv
  have hts : ∀ w ∈ gT, w.before (av.map (gv B b)).toArray s = true := fun w hw => atoms_spec (ws := gws y bc nL ret) Bd.pre w (List.mem_cons_of_mem _ hw)
  have hown : s.vm.findClass y.cls = some m.cls := findClass_of_methodNamed Bd.named
  have h1 := h (p, e, (headSpec (gws y bc nL ret) { frames := d, cells := mc, slots := ms, locals := 40 * d }).room, s, m, (av.map (gv B b)).toArray, below, meth, c, MQ below (gQo D Gc B b rv M') (av.map (gv B b)).toArray s mc ms (fun q => B ≤ q))
    ⟨Bd.exec, Bd.bytes, hml, hown, hts, hKK, hB, Bd.notSynchronized, Bd.returns, Nat.le_refl _, Nat.le_refl _, Nat.le_refl _, Nat.le_refl _⟩ rfl hXs
  rw [lg_entry_eq]
  exact h1 s.heap [] _ (gLk_entry hc hn) hP va_S.rf
theorem G_callX (X : Cx E κ cc nL own ret d cz sz) {L : Nat} {xs : Nat → Int32} (hX : gX E κ L xs) {y : MethodName} {bc : ByteArray} {nL' ix n d' mc ms : Nat} {ret' : Option FieldType} {As sk : List gV} {M M1 : gM} {rv : Option gV} (hM : CtrX E L xs y bc nL' ret' d' mc ms As M rv M1) (hw : gCB own ix y bc nL' ret' n) (hv : Cond.static y ∈ gT)
    (hn : As.length = n) (hsk : sk = As.reverse ++ st) (hst : gsz st ≤ 8) (hfr : d' + 1 ≤ d) (hnL : nL' ≤ 21) (hlen : ls.length = nL) (hcz : cells + mc ≤ cz) (hsz : slots + ms ≤ sz) (hd : decode cc pc = .ok (.invokestatic ix, 3)) (kk : G E κ (cells + mc) (slots + ms) (pc + 3) ls (rv.toList ++ st) M1) : G E κ cells slots pc ls sk M := by
  subst hsk
  obtain ⟨l, D, Gc, B, b⟩ := E
  obtain ⟨p, e, R, s, m, args, below, meth, c, Q⟩ := κ
  obtain ⟨hx, hb, hml, ho, hts, hK, hB, -, -, hfr2, hlo, hcz2, hsz2⟩ := X
  obtain ⟨w1, w2, w3, w4⟩ := hw
  obtain ⟨hX1, hX2, hX3⟩ := hX
  intro H locs la hl0 hP hS
  have cb : CallB R s args own ix y bc nL' ret' (gws y bc nL' ret') { frames := d', cells := mc, slots := ms, locals := 40 * d' } mc ms n :=
    callB_of n hts (gws_good w3) rfl rfl rfl (hts _ w2) (hts _ w1) w4 ⟨by show d' + 1 ≤ R.frames; omega, by show 8 + (nL' + 11) + 40 * d' ≤ R.locals; omega⟩
  have hr := va_runS (As := As.map (gv B b)) (rest := st.map (gv B b)) (g := F0 m pc la ((As.reverse ++ st).map (gv B b))) (cells := cells) (slots := slots) (locs := locs) (below := below) (meth := meth) (e := e) (H := H) ⟨hx, hb, hml, ho, hts⟩ hM ⟨cb, hts _ hv⟩
    ⟨fun a U g mk q => ⟨q.1, ⟨q.2.1.1, gKK.same (s := U) (U := U.calling g mk a) rfl q.2.1.2.1, q.2.1.2.2⟩, va_X.moved (Vm.Alike.refl _) q.2.2.1, q.2.2.2⟩, fun U hU hW => ⟨rfl, ⟨by rw [hU]; exact hP, gKK.moved hW hK, by rw [hU]; exact Nat.le_trans hB hS.1⟩, by rw [hU]; exact va_X.moved hW.alike (hX1.kept (hS.2.1 b hX3 (Nat.not_le.mpr hX2))), hX2, by rw [hU]; exact Nat.lt_of_lt_of_le hX3 hS.1⟩⟩ rfl (by simpa using hn) (hl0.1.trans hlen) (by simp) (groom B b hst) hd ⟨by omega, by omega⟩
  exact G_back hB hr hl0 hS kk
end GMem
end
section
/-! THE RULES for what is made, and for the library's members -/
/-- the cells so far: those of the start and those that were made -/
def gSz (E : gEnv) (κ : gCtx) (cells n : Nat) : Prop := κ.2.2.2.1.heap.size + cells = E.2.2.2.1 + n
def uZ (I : gI) (a : Nat) : gI := uC I a (fun _ => 0)
def uZP (P : gP) (a : Nat) : gP := uQ P a (fun _ => none)
section GNew
variable {E : gEnv} {κ : gCtx} {cc : ByteArray} {nL d cz sz cells slots pc : Nat} {own : String} {ret : Option FieldType} {ls : List (Option gV)} {st : List gV} {S : List (Nat × Nat)} {I : gI} {P : gP}
theorem gE_uC_ne {Gc : Nat → ClassId} {B : Nat} {I : gI} {P : gP} {a c : Nat} {f : Nat → Int32} {sh : Nat × Nat} (h : c ≠ a) : gE Gc B (uC I a f) P c sh = gE Gc B I P c sh := by
  have e : uC I a f c = I c := by simp [uC, h]
  have e2 : gF B (uC I a f) P sh.1 c = gF B I P sh.1 c := by funext j; simp [gF, e]
  simp only [gE, e, e2]
theorem gE_uQ_ne {Gc : Nat → ClassId} {B : Nat} {I : gI} {P : gP} {a c : Nat} {f : Nat → Option Nat} {sh : Nat × Nat} (h : c ≠ a) : gE Gc B I (uQ P a f) c sh = gE Gc B I P c sh := by
  have e : uQ P a f c = P c := by simp [uQ, h]
  have e2 : gF B I (uQ P a f) sh.1 c = gF B I P sh.1 c := by funext j; simp [gF, e]
  simp only [gE, e, e2]
theorem gW_push {Gc : Nat → ClassId} {B : Nat} {f : Nat → Int32} {g : Nat → Option Nat} (sh : Nat × Nat) : gW Gc B (S ++ [sh], uC I S.length f, uQ P S.length g) = gW Gc B (S, I, P) ++ [(B + S.length, gE Gc B (uC I S.length f) (uQ P S.length g) S.length sh)] := by
  apply List.ext_getElem?
  intro i
  by_cases hi : i < S.length
  · rw [List.getElem?_append_left (by simpa [gW] using hi)]
    simp only [gW, List.getElem?_mapIdx, List.getElem?_append_left hi]
    rw [List.getElem?_eq_getElem hi]
    simp only [Option.map_some]
    rw [gE_uQ_ne (by omega), gE_uC_ne (by omega)]
  · by_cases hj : i = S.length
    · subst hj
      rw [List.getElem?_append_right (by simp [gW])]
      simp [gW]
    · rw [List.getElem?_eq_none (by simp [gW]; omega), List.getElem?_eq_none (by simp [gW]; omega)]
/-- how many cells there can be -/
theorem W_sz {p : Program} {l : Launch} {e : Env} {R : Room} {s : State} {m : MethodId} {args : Array Value} {below : List Frame} {meth : Method} {c : Code} {H : Heap} {locs : List Loc} {cells slots : Nat} {Q : State → Prop} {g : JFrame} (h : H.size ≤ s.heap.size + cells → W p l e R s m args below meth c H locs cells slots Q g) : W p l e R s m args below meth c H locs cells slots Q g := by
  intro T hT X
  exact h (by rw [← hT]; exact X.heapSize) T hT X
theorem gW_len {Gc : Nat → ClassId} {B : Nat} {M : gM} : (gW Gc B M).length = M.1.length := by simp [gW]
/-- the new cell's place -/
theorem g_fresh {Gc : Nat → ClassId} {B q : Nat} {M : gM} {x : va_E} {D : va_G} {H1 : Heap} {n : Nat} (hP : va_P D vwCl (gW Gc B M ++ [(q, x)]) H1) (hD : va_D (fun q => B ≤ q) (gW Gc B M ++ [(q, x)])) (hz : H1.size ≤ B + n + 1) (hn : M.1.length = n) : q = B + n := by
  subst hn
  have hq : (gW Gc B M ++ [(q, x)])[M.1.length]? = some (q, x) := by
    rw [List.getElem?_append_right (by rw [gW_len]; exact Nat.le_refl _), gW_len]
    simp
  have h1 : B ≤ q := hD.2 _ _ hq
  have h2 : q < H1.size := (hP _ _ hq).lt
  by_cases h3 : q = B + M.1.length
  · exact h3
  · exfalso
    have h4 : q - B < M.1.length := by omega
    obtain ⟨sh, hsh⟩ : ∃ sh, M.1[q - B]? = some sh := ⟨_, List.getElem?_eq_getElem h4⟩
    have h5 := gW_at (Gc := Gc) (B := B) hsh
    have h6 : (gW Gc B M ++ [(q, x)])[q - B]? = some (B + (q - B), gE Gc B M.2.1 M.2.2 (q - B) sh) := by
      rw [List.getElem?_append_left (by rw [gW_len]; exact h4)]
      exact h5
    have h7 := hD.1 _ _ _ _ hq h6 (by show q = B + (q - B); omega)
    omega
def gCl (own : String) (ix ci : Nat) : Prop := ∃ (C : String) (T : u_T) (N : Nat) (tys : Nat → FieldType), vwCl[ci]? = some (C, T, N) ∧ N = gN ci ∧ (∀ w ∈ u_ws C T N, w ∈ gT) ∧ (∀ j, j < N → parseFieldDescriptor (T j).2.2.1 = some (tys j)) ∧ Cond.classLink own ix C ∈ gT ∧ Cond.instantiable C N ∈ gT ∧ Cond.initialized C ∈ gT ∧ ∀ j, j < N → defaultValue (tys j) = if gR ci j = true then .null else .int 0
theorem G_new (X : Cx E κ cc nL own ret d cz sz) {ix ci : Nat} (hcl : gCl own ix ci) (hZ : gSz E κ cells S.length) (hcz : cells + 1 ≤ cz) (hsz : slots + gN ci ≤ sz) (hd : decode cc pc = .ok (.new ix, 3)) (kk : G E κ (cells + 1) (slots + gN ci) (pc + 3) ls (vr S.length :: st) (S ++ [(ci, 0)], uZ I S.length, uZP P S.length)) : G E κ cells slots pc ls st (S, I, P) := by
  obtain ⟨l, D, Gc, B, b⟩ := E
  obtain ⟨p, e, R, s, m, args, below, meth, c, Q⟩ := κ
  obtain ⟨hx, hb, hml, ho, hts, hK, hB, -, -, hfr2, hlo, hcz2, hsz2⟩ := X
  obtain ⟨C, T, N, tys, hc, hN, hin, hty, w1, w2, w3, hdf⟩ := hcl
  have hZ : s.heap.size + cells = B + S.length := hZ
  have h10 := lt10 hc
  subst hN
  intro H locs la hl0 hP hS
  refine va_new (D := D) (fs := (List.range (gN ci)).map (gF B (uZ I S.length) (uZP P S.length) ci S.length)) hx hb hts hin tys hty ho (hts _ w1) (hts _ w2) (hts _ w3) hK.1 hP gW_D hS (fun q hq => Nat.le_trans hB hq) hc (fun j hj => ?_) (by omega) (by omega) hd (fun q H1 hP1 hD1 hS1 => W_sz fun hz => ?_)
  · rw [hdf j hj]
    simp only [vp_V, List.getD, gFs_at hj, Option.getD_some]
    unfold gF
    split <;> simp [uZ, uZP, uC, uQ, va_rf]
  · have hq : q = B + S.length := g_fresh hP1 hD1 (by omega) rfl
    subst hq
    refine kk H1 locs la hl0 ?_ hS1
    have e := gW_push (Gc := Gc) (B := B) (S := S) (I := I) (P := P) (f := fun _ => 0) (g := fun _ => none) (ci, 0)
    rw [gE_obj h10] at e
    show va_P D vwCl (gW Gc B (S ++ [(ci, 0)], uC I S.length (fun _ => 0), uQ P S.length (fun _ => none))) H1
    rw [e]
    exact hP1
theorem va_RA_inj {U : State} {c1 c2 : ClassId} {ty : FieldType} (h1 : va_RA U c1 ty) (h2 : va_RA U c2 ty) : c1 = c2 := by
  cases ty with
  | object C =>
    obtain ⟨_, _, _, _, _, h⟩ := h1
    obtain ⟨_, _, _, _, _, h'⟩ := h2
    exact Option.some.inj (h.symm.trans h')
  | _ => exact Option.some.inj (h1.symm.trans h2)
theorem G_newa_int (X : Cx E κ cc nL own ret d cz sz) {n : Int32} {N : Nat} (hw : Cond.arrayClass .int ∈ gT) (hn : ¬ n < 0) (hN : n.toNatClampNeg = N) (hby : N ≤ 100000) (hZ : gSz E κ cells S.length) (hcz : cells + 1 ≤ cz) (hsz : slots + N ≤ sz) (hd : decode cc pc = .ok (.newarray .int, 2)) (kk : G E κ (cells + 1) (slots + N) (pc + 2) ls (vr S.length :: st) (S ++ [(10, N)], uZ I S.length, uZP P S.length)) : G E κ cells slots pc ls (vi n :: st) (S, I, P) := by
  obtain ⟨l, D, Gc, B, b⟩ := E
  obtain ⟨p, e, R, s, m, args, below, meth, c, Q⟩ := κ
  obtain ⟨hx, hb, hml, ho, hts, hK, hB, -, -, hfr2, hlo, hcz2, hsz2⟩ := X
  have hZ : s.heap.size + cells = B + S.length := hZ
  intro H locs la hl0 hP hS
  refine va_newa (atype := .int) (D := D) (ty := .int) (a0 := (N, .inl (fun _ => 0))) hx hb (hts _ hw) rfl hK.1 hP gW_D hS (fun q hq => Nat.le_trans hB hq) (fun cA => rfl) hn hN (by show N * 4 ≤ _; omega) (by omega) (by omega) hd (fun q cA H1 hK1 hP1 hD1 hS1 => W_sz fun hz => ?_)
  have hc : cA = Gc 10 := va_RA_inj (hK1.2 4 (cA, .int) rfl).2 (hK1.2 0 (Gc 10, .int) rfl).2
  subst hc
  have hq : q = B + S.length := g_fresh hP1 hD1 (by omega) rfl
  subst hq
  refine kk H1 locs la hl0 ?_ hS1
  have e := gW_push (Gc := Gc) (B := B) (S := S) (I := I) (P := P) (f := fun _ => 0) (g := fun _ => none) (10, N)
  rw [gE_int (by decide) (by decide)] at e
  show va_P D vwCl (gW Gc B (S ++ [(10, N)], uC I S.length (fun _ => 0), uQ P S.length (fun _ => none))) H1
  rw [e]
  have e2 : uC I S.length (fun _ => 0) S.length = fun _ => 0 := by simp [uC]
  rw [e2]
  exact hP1
theorem G_newa_char (X : Cx E κ cc nL own ret d cz sz) {n : Int32} {N : Nat} (hw : Cond.arrayClass .char ∈ gT) (hn : ¬ n < 0) (hN : n.toNatClampNeg = N) (hby : N ≤ 100000) (hZ : gSz E κ cells S.length) (hcz : cells + 1 ≤ cz) (hsz : slots + N ≤ sz) (hd : decode cc pc = .ok (.newarray .char, 2)) (kk : G E κ (cells + 1) (slots + N) (pc + 2) ls (vr S.length :: st) (S ++ [(11, N)], uZ I S.length, uZP P S.length)) : G E κ cells slots pc ls (vi n :: st) (S, I, P) := by
  obtain ⟨l, D, Gc, B, b⟩ := E
  obtain ⟨p, e, R, s, m, args, below, meth, c, Q⟩ := κ
  obtain ⟨hx, hb, hml, ho, hts, hK, hB, -, -, hfr2, hlo, hcz2, hsz2⟩ := X
  have hZ : s.heap.size + cells = B + S.length := hZ
  intro H locs la hl0 hP hS
  refine va_newa (atype := .char) (D := D) (ty := .char) (a0 := (N, .inl (fun _ => 0))) hx hb (hts _ hw) rfl hK.1 hP gW_D hS (fun q hq => Nat.le_trans hB hq) (fun cA => rfl) hn hN (by show N * 2 ≤ _; omega) (by omega) (by omega) hd (fun q cA H1 hK1 hP1 hD1 hS1 => W_sz fun hz => ?_)
  have hc : cA = Gc 11 := va_RA_inj (hK1.2 4 (cA, .char) rfl).2 (hK1.2 1 (Gc 11, .char) rfl).2
  subst hc
  have hq : q = B + S.length := g_fresh hP1 hD1 (by omega) rfl
  subst hq
  refine kk H1 locs la hl0 ?_ hS1
  have e := gW_push (Gc := Gc) (B := B) (S := S) (I := I) (P := P) (f := fun _ => 0) (g := fun _ => none) (11, N)
  rw [gE_int (by decide) (by decide)] at e
  show va_P D vwCl (gW Gc B (S ++ [(11, N)], uC I S.length (fun _ => 0), uQ P S.length (fun _ => none))) H1
  rw [e]
  have e2 : uC I S.length (fun _ => 0) S.length = fun _ => 0 := by simp [uC]
  rw [e2]
  exact hP1
theorem G_newq (X : Cx E κ cc nL own ret d cz sz) {ix kd : Nat} {n : Int32} {N : Nat} (hkd : kd = 12 ∨ kd = 13) (hw : Cond.classLink own ix (if kd = 12 then RX0 else RX1) ∈ gT) (hn : ¬ n < 0) (hN : n.toNatClampNeg = N) (hby : N ≤ 100000) (hZ : gSz E κ cells S.length) (hcz : cells + 1 ≤ cz) (hsz : slots + N ≤ sz) (hd : decode cc pc = .ok (.anewarray ix, 3)) (kk : G E κ (cells + 1) (slots + N) (pc + 3) ls (vr S.length :: st) (S ++ [(kd, N)], uZ I S.length, uZP P S.length)) : G E κ cells slots pc ls (vi n :: st) (S, I, P) := by
  obtain ⟨l, D, Gc, B, b⟩ := E
  obtain ⟨p, e, R, s, m, args, below, meth, c, Q⟩ := κ
  obtain ⟨hx, hb, hml, ho, hts, hK, hB, -, -, hfr2, hlo, hcz2, hsz2⟩ := X
  have hZ : s.heap.size + cells = B + S.length := hZ
  have hao : va_AO (if kd = 12 then RX0 else RX1) s := by
    split
    · exact hK.2.1
    · exact hK.2.2.1
  intro H locs la hl0 hP hS
  refine va_newq (D := D) (C := if kd = 12 then RX0 else RX1) hx hb ho (hts _ hw) hao hK.1 hP gW_D hS (fun q hq => Nat.le_trans hB hq) hn hN (by omega) (by omega) (by omega) hd (fun q cA H1 hK1 hP1 hD1 hS1 => W_sz fun hz => ?_)
  have hc : cA = Gc kd := by
    have h1 := gTy_at Gc hkd
    have h2 : kd - 10 < (gTy Gc).length := (List.getElem?_eq_some_iff.mp h1).1
    exact va_RA_inj (hK1.2 4 (cA, .object (if kd = 12 then RX0 else RX1)) rfl).2 (hK1.2 (kd - 10) _ (by rw [List.getElem?_append_left h2]; exact h1)).2
  subst hc
  have hq : q = B + S.length := g_fresh hP1 hD1 (by omega) rfl
  subst hq
  refine kk H1 locs la hl0 ?_ hS1
  have e := gW_push (Gc := Gc) (B := B) (S := S) (I := I) (P := P) (f := fun _ => 0) (g := fun _ => none) (kd, N)
  rw [gE_ref (by omega)] at e
  show va_P D vwCl (gW Gc B (S ++ [(kd, N)], uC I S.length (fun _ => 0), uQ P S.length (fun _ => none))) H1
  rw [e]
  have e2 : (fun j => (uQ P S.length (fun _ => none) S.length j).map (fun x => B + x)) = fun _ => none := by funext j; simp [uQ]
  rw [e2]
  exact hP1
theorem G_max (X : Cx E κ cc nL own ret d cz sz) {ix : Nat} {x y : Int32} {M : gM} (hw1 : Cond.methodLink own ix Lib.Math.max.name ∈ gT) (hw2 : Cond.static Lib.Math.max.name ∈ gT) (hw3 : Cond.initialized "java/lang/Math" ∈ gT) (hw4 : Cond.code Lib.Math.max.name Lib.Math.max.code 2 (some .int) ∈ gT) (hst : gsz st ≤ 8) (hfr : 1 ≤ d) (hlen : ls.length = nL) (hcz : cells ≤ cz) (hsz : slots ≤ sz) (hd : decode cc pc = .ok (.invokestatic ix, 3)) (kk : G E κ cells slots (pc + 3) ls (vi (if x < y then y else x) :: st) M) : G E κ cells slots pc ls (vi y :: vi x :: st) M := by
  obtain ⟨l, D, Gc, B, b⟩ := E
  obtain ⟨p, e, R, s, m, args, below, meth, c, Q⟩ := κ
  obtain ⟨hx, hb, hml, ho, hts, hK, hB, -, -, hfr2, hlo, hcz2, hsz2⟩ := X
  intro H locs la hl0 hP hS
  exact va_mmax hx hb (hml.trans (hlen.symm.trans hl0.1.symm)) ho (hts _ hw1) (hts _ hw2) (hts _ hw3) (hts _ hw4) (by omega) (by rw [gcat_sum]; omega) (by omega) (by omega) hd (kk H locs la hl0 hP hS)
theorem G_min (X : Cx E κ cc nL own ret d cz sz) {ix : Nat} {x y : Int32} {M : gM} (hw1 : Cond.methodLink own ix Lib.Math.min.name ∈ gT) (hw2 : Cond.static Lib.Math.min.name ∈ gT) (hw3 : Cond.initialized "java/lang/Math" ∈ gT) (hw4 : Cond.code Lib.Math.min.name Lib.Math.min.code 2 (some .int) ∈ gT) (hst : gsz st ≤ 8) (hfr : 1 ≤ d) (hlen : ls.length = nL) (hcz : cells ≤ cz) (hsz : slots ≤ sz) (hd : decode cc pc = .ok (.invokestatic ix, 3)) (kk : G E κ cells slots (pc + 3) ls (vi (if y < x then y else x) :: st) M) : G E κ cells slots pc ls (vi y :: vi x :: st) M := by
  obtain ⟨l, D, Gc, B, b⟩ := E
  obtain ⟨p, e, R, s, m, args, below, meth, c, Q⟩ := κ
  obtain ⟨hx, hb, hml, ho, hts, hK, hB, -, -, hfr2, hlo, hcz2, hsz2⟩ := X
  intro H locs la hl0 hP hS
  exact va_mmin hx hb (hml.trans (hlen.symm.trans hl0.1.symm)) ho (hts _ hw1) (hts _ hw2) (hts _ hw3) (hts _ hw4) (by omega) (by rw [gcat_sum]; omega) (by omega) (by omega) hd (kk H locs la hl0 hP hS)
theorem G_copyi (X : Cx E κ cc nL own ret d cz sz) {ix a0 a n0 n1 : Nat} {sp dp n : Int32} (hw1 : Cond.methodLink own ix arraycopyName ∈ gT) (hw2 : Cond.native arraycopyName ∈ gT) (hw3 : Cond.static arraycopyName ∈ gT) (hw4 : Cond.initialized "java/lang/System" ∈ gT) (hs0 : S[a0]? = some (10, n0)) (hs1 : S[a]? = some (10, n1))
    (h1 : ¬ sp < 0) (h2 : ¬ dp < 0) (h3 : ¬ n < 0) (h4 : sp.toNatClampNeg + n.toNatClampNeg ≤ n0) (h5 : dp.toNatClampNeg + n.toNatClampNeg ≤ n1) (hst : gsz st ≤ 8) (hfr : 1 ≤ d) (hlen : ls.length = nL) (hd : decode cc pc = .ok (.invokestatic ix, 3))
    (kk : G E κ cells slots (pc + 3) ls st (S, uC I a (va_cpy (I a0) (I a) sp.toNatClampNeg dp.toNatClampNeg n.toNatClampNeg), P)) : G E κ cells slots pc ls (vi n :: vi dp :: vr a :: vi sp :: vr a0 :: st) (S, I, P) := by
  obtain ⟨l, D, Gc, B, b⟩ := E
  obtain ⟨p, e, R, s, m, args, below, meth, c, Q⟩ := κ
  obtain ⟨hx, hb, hml, ho, hts, hK, hB, -, -, hfr2, hlo, hcz2, hsz2⟩ := X
  intro H locs la hl0 hP hS
  have he0 := gW_at (Gc := Gc) (B := B) (M := (S, I, P)) hs0
  rw [gE_int (by decide) (by decide)] at he0
  have he1 := gW_at (Gc := Gc) (B := B) (M := (S, I, P)) hs1
  rw [gE_int (by decide) (by decide)] at he1
  refine va_copyi hx hb (hml.trans (hlen.symm.trans hl0.1.symm)) ho (hts _ hw1) (hts _ hw2) (hts _ hw3) (hts _ hw4) hK.1 hP gW_D hS a0 a 0 0 he0 he1 rfl rfl rfl h1 h2 h3 h4 h5 (fun i _ => rfl) (by omega) ?_ hd (fun H1 locs1 hP1 _ hS1 => kk H1 locs1 la hl0 ?_ hS1)
  · rw [gcat_sum]
    have : nativeFrameWords "java/lang/System" "arraycopy" 5 ≤ 20 := by decide +kernel
    omega
  · have e := gW_set (Gc := Gc) (B := B) (I := I) (P := P) (P' := P) (I' := uC I a (va_cpy (I a0) (I a) sp.toNatClampNeg dp.toNatClampNeg n.toNatClampNeg)) hs1 (fun _ _ hc => gE_uC_ne hc)
    rw [e, gE_int (by decide) (by decide)]
    have e2 : uC I a (va_cpy (I a0) (I a) sp.toNatClampNeg dp.toNatClampNeg n.toNatClampNeg) a = va_cpy (I a0) (I a) sp.toNatClampNeg dp.toNatClampNeg n.toNatClampNeg := by simp [uC]
    rw [e2]
    exact hP1
end GNew
end
section
/-! THE MEMORY BEHIND THE CONSTRUCTORS: 79 cells whose shapes stay; all that changes are numbers (a change's number among them: cell 3 and field 6 of cell 19 keep cells' numbers as numbers) -/
def SH : List (Nat × Nat) := [(4, 0), (12, 8), (3, 0), (13, 5), (1, 0), (0, 0), (10, 40), (1, 0), (0, 0), (10, 40), (1, 0), (0, 0), (10, 40), (1, 0), (0, 0), (10, 40), (1, 0), (0, 0), (10, 40), (2, 0), (11, 100), (12, 19), (12, 0),
  (0, 0), (10, 40), (0, 0), (10, 40), (0, 0), (10, 40), (0, 0), (10, 40), (0, 0), (10, 40), (0, 0), (10, 40), (0, 0), (10, 40), (0, 0), (10, 40), (0, 0), (10, 40), (0, 0), (10, 40), (0, 0), (10, 40), (0, 0), (10, 40), (0, 0), (10, 40), (0, 0), (10, 40), (0, 0), (10, 40), (0, 0), (10, 40), (0, 0), (10, 40), (0, 0), (10, 40), (0, 0), (10, 40),
  (0, 0), (10, 40), (0, 0), (10, 40), (0, 0), (10, 40), (0, 0), (10, 40), (0, 0), (10, 40), (0, 0), (10, 40), (0, 0), (10, 40), (0, 0), (10, 40), (0, 0), (10, 40)]
/-- the cells that stand in fields and rows for good -/
def pv (a k : Nat) : Option Nat := match SH[a]? with
  | some (0, _) => if k = 0 then some (a + 1) else none
  | some (1, _) => if k = 0 then some (a + 1) else none
  | some (2, _) => if k = 0 then some 20 else if k = 5 then some 21 else none
  | some (3, _) => if k = 0 then some 3 else none
  | some (4, _) => if k = 0 then some 1 else if k = 2 then some 2 else if k = 3 then some 19 else if k = 4 then some 61 else none
  | some (5, _) => if k = 0 then some 80 else if k = 2 then some 81 else if k = 4 then some 82 else if k = 9 then some 83 else none
  | some (12, 8) => if k < 8 then some (63 + 2 * k) else none
  | some (12, 19) => if k < 19 then some (23 + 2 * k) else none
  | _ => none
def Pof (I : gI) : gP := fun a k => if a = 3 then some (I 3 k).toNatClampNeg else if a = 19 ∧ k = 6 then some (I 19 6).toNatClampNeg else pv a k
def mm (I : gI) : gM := (SH, I, Pof I)
def isB (b : Nat) : Prop := SH[b]? = some (0, 0) ∧ SH[b + 1]? = some (10, 40)
def isC (c : Nat) : Prop := SH[c]? = some (1, 0) ∧ isB (c + 1)
def ib (i : Int32) (n : Nat) : Bool := decide (¬ i < 0) && decide (i.toNatClampNeg < n)
def b2i (b : Bool) : Int32 := if b = true then 1 else 0
theorem ib_in {i : Int32} {n : Nat} (h : ib i n = true) : vp_in i n := by
  simp only [ib, Bool.and_eq_true, decide_eq_true_eq] at h
  exact fun q => q.elim h.1 (fun z => absurd h.2 (Nat.not_lt.mpr z))
theorem ib_lt {i : Int32} {n : Nat} (h : ib i n = true) : i.toNatClampNeg < n := by
  simp only [ib, Bool.and_eq_true, decide_eq_true_eq] at h
  exact h.2
def isCb (c : Nat) : Bool := c == 4 || c == 7 || c == 10 || c == 13 || c == 16
theorem isCb_isC {c : Nat} (h : isCb c = true) : isC c := by
  simp only [isCb, Bool.or_eq_true, beq_iff_eq] at h
  rcases h with (((rfl | rfl) | rfl) | rfl) | rfl <;> exact ⟨rfl, rfl, rfl⟩
theorem isB_ne3 {b : Nat} (h : isB b) : b ≠ 3 ∧ b ≠ 19 ∧ b + 1 ≠ 3 ∧ b + 1 ≠ 19 := by
  obtain ⟨h1, h2⟩ := h
  refine ⟨?_, ?_, ?_, ?_⟩ <;> rintro e
  · subst e; exact absurd h1 (by decide)
  · subst e; exact absurd h1 (by decide)
  · rw [e] at h2; exact absurd h2 (by decide)
  · rw [e] at h2; exact absurd h2 (by decide)
theorem isC_ne3 {c : Nat} (h : isC c) : c ≠ 3 ∧ c ≠ 19 := by
  obtain ⟨h1, -⟩ := h
  refine ⟨?_, ?_⟩ <;> rintro e <;> subst e <;> exact absurd h1 (by decide)
theorem isB_p {b : Nat} {I : gI} (h : isB b) : Pof I b 0 = some (b + 1) := by
  obtain ⟨h3, h19, -⟩ := isB_ne3 h
  simp [Pof, h3, pv, h.1]
theorem isC_p {c : Nat} {I : gI} (h : isC c) : Pof I c 0 = some (c + 1) := by
  obtain ⟨h3, h19⟩ := isC_ne3 h
  simp [Pof, h3, pv, h.1]
theorem rB_is {i : Nat} (h : i < 8) : isB (63 + 2 * i) := by
  rcases (show i = 0 ∨ i = 1 ∨ i = 2 ∨ i = 3 ∨ i = 4 ∨ i = 5 ∨ i = 6 ∨ i = 7 by omega) with rfl | rfl | rfl | rfl | rfl | rfl | rfl | rfl <;> exact ⟨rfl, rfl⟩
theorem vB_is {i : Nat} (h : i < 19) : isB (23 + 2 * i) := by
  rcases (show i = 0 ∨ i = 1 ∨ i = 2 ∨ i = 3 ∨ i = 4 ∨ i = 5 ∨ i = 6 ∨ i = 7 ∨ i = 8 ∨ i = 9 ∨ i = 10 ∨ i = 11 ∨ i = 12 ∨ i = 13 ∨ i = 14 ∨ i = 15 ∨ i = 16 ∨ i = 17 ∨ i = 18 by omega) with rfl | rfl | rfl | rfl | rfl | rfl | rfl | rfl | rfl | rfl | rfl | rfl | rfl | rfl | rfl | rfl | rfl | rfl | rfl <;> exact ⟨rfl, rfl⟩
theorem sB_is : isB 61 := ⟨rfl, rfl⟩
theorem p_row {I : gI} {i : Nat} (h : i < 8) : Pof I 1 i = some (63 + 2 * i) := by
  show (if i < 8 then some (63 + 2 * i) else none) = _
  rw [if_pos h]
theorem p_val {I : gI} {i : Nat} (h : i < 19) : Pof I 21 i = some (23 + 2 * i) := by
  show (if i < 19 then some (23 + 2 * i) else none) = _
  rw [if_pos h]
theorem p_chg (I : gI) (i : Nat) : Pof I 3 i = some (I 3 i).toNatClampNeg := rfl
theorem p_rw {I : gI} (h : I 19 6 = 1) : Pof I 19 6 = some 1 := by
  show some (I 19 6).toNatClampNeg = _
  rw [h]
  rfl
theorem Pof_uI {I : gI} {a k : Nat} {x : Int32} (h3 : a ≠ 3) (h19 : ¬ (a = 19 ∧ k = 6)) : Pof (uI I a k x) = Pof I := by
  funext c j
  have e3 : uI I a k x 3 = I 3 := by simp [uI, Ne.symm h3]
  have e19 : uI I a k x 19 6 = I 19 6 := by
    by_cases ha : a = 19
    · subst ha
      have hk : k ≠ 6 := fun q => h19 ⟨rfl, q⟩
      simp [uI, upd, Ne.symm hk]
    · simp [uI, Ne.symm ha]
  simp only [Pof, e3, e19]
theorem mm_uI {I : gI} {a k : Nat} {x : Int32} (h3 : a ≠ 3) (h19 : ¬ (a = 19 ∧ k = 6)) : mm (uI I a k x) = (SH, uI I a k x, Pof I) := by
  simp only [mm, Pof_uI h3 h19]
/-- a number in a place that holds a cell is not looked at -/
theorem gW_hidden3 {Gc : Nat → ClassId} {B : Nat} {I : gI} {P : gP} {k : Nat} {x : Int32} : gW Gc B (SH, uI I 3 k x, P) = gW Gc B (SH, I, P) := by
  have h : SH[3]? = some (13, 5) := rfl
  rw [gW_uI h, gE_ref (by decide)]
  apply List.ext_getElem?
  intro i
  by_cases hi : i = 3
  · subst hi
    rw [List.getElem?_set_self (by rw [gW_len]; exact (by decide : 3 < SH.length)), gW_at h, gE_ref (by decide)]
  · rw [List.getElem?_set_ne (Ne.symm hi)]
theorem gW_hidden19 {Gc : Nat → ClassId} {B : Nat} {I : gI} {P : gP} {x : Int32} : gW Gc B (SH, uI I 19 6 x, P) = gW Gc B (SH, I, P) := by
  have h : SH[19]? = some (2, 0) := rfl
  rw [gW_uI h, gE_obj (by decide)]
  have e : (List.range (gN 2)).map (gF B (uI I 19 6 x) P 2 19) = (List.range (gN 2)).map (gF B I P 2 19) := by
    apply List.map_congr_left
    intro j hj
    by_cases h6 : j = 6
    · subst h6; rfl
    · simp [gF, uI, upd, h6]
  rw [e]
  apply List.ext_getElem?
  intro i
  by_cases hi : i = 19
  · subst hi
    rw [List.getElem?_set_self (by rw [gW_len]; exact (by decide : 19 < SH.length)), gW_at h, gE_obj (by decide)]
  · rw [List.getElem?_set_ne (Ne.symm hi)]
theorem mm_chg {I : gI} {k c : Nat} (hc : c < 79) : Pof (uI I 3 k (nI c)) = uP (Pof I) 3 k (some c) := by
  funext a j
  by_cases ha : a = 3
  · subst ha
    have e : (nI c).toNatClampNeg = c := nI_clamp (by omega)
    by_cases hj : j = k
    · subst hj
      simp [Pof, uP, va_up, uI, upd, e]
    · simp [Pof, uP, va_up, uI, upd, hj]
  · have e19 : uI I 3 k (nI c) 19 = I 19 := by simp [uI]
    simp [Pof, uP, ha, e19]
theorem mm_rw {I : gI} : Pof (uI I 19 6 1) = uP (Pof I) 19 6 (some 1) := by
  funext a j
  by_cases ha : a = 3
  · subst ha; simp [Pof, uP, uI]
  · by_cases h19 : a = 19
    · subst h19
      by_cases hj : j = 6
      · subst hj
        have e : uI I 19 6 1 19 6 = 1 := by simp [uI, upd]
        simp [Pof, uP, va_up, e]
      · simp [Pof, uP, va_up, hj]
    · simp [Pof, uP, ha, h19]
section GMain
variable {E : gEnv} {κ : gCtx} {cc : ByteArray} {nL d cz sz cells slots pc : Nat} {own : String} {ret : Option FieldType} {ls : List (Option gV)} {st : List gV} {I : gI}
theorem M_getI (X : Cx E κ cc nL own ret d cz sz) {ix ci k a n : Nat} {fin : Bool} {ty : FieldType} (hF : gFd own ix ci k fin ty) (hr : gR ci k = false) (hsh : SH[a]? = some (ci, n)) (hd : decode cc pc = .ok (.getfield ix, 3)) (kk : G E κ cells slots (pc + 3) ls (vi (I a k) :: st) (mm I)) : G E κ cells slots pc ls (vr a :: st) (mm I) := G_getI X hF hr hsh hd kk
theorem M_getR (X : Cx E κ cc nL own ret d cz sz) {ix ci k a n r : Nat} {fin : Bool} {ty : FieldType} (hF : gFd own ix ci k fin ty) (hr : gR ci k = true) (hsh : SH[a]? = some (ci, n)) (hv : Pof I a k = some r) (hd : decode cc pc = .ok (.getfield ix, 3)) (kk : G E κ cells slots (pc + 3) ls (vr r :: st) (mm I)) : G E κ cells slots pc ls (vr a :: st) (mm I) := G_getR X hF hr hsh hv hd kk
theorem M_putI (X : Cx E κ cc nL own ret d cz sz) {ix ci k a n : Nat} {ty : FieldType} {x : Int32} (hF : gFd own ix ci k false ty) (hr : gR ci k = false) (hsh : SH[a]? = some (ci, n)) (hn : narrow ty (.int x) = .int x) (hf : fits ty (.int x) = true) (hd : decode cc pc = .ok (.putfield ix, 3)) (kk : G E κ cells slots (pc + 3) ls st (mm (uI I a k x))) : G E κ cells slots pc ls (vi x :: vr a :: st) (mm I) := by
  have h10 : ci < 10 := by obtain ⟨C, T, N, tys, hc, -⟩ := hF; exact lt10 hc
  refine G_putI X hF hr hsh hn hf hd ?_
  rw [mm_uI] at kk
  · exact kk
  · rintro rfl
    have h13 : SH[3]? = some (13, 5) := rfl
    have := h13.symm.trans hsh
    simp at this
    omega
  · rintro ⟨rfl, rfl⟩
    have h2 : SH[19]? = some (2, 0) := rfl
    have := h2.symm.trans hsh
    simp at this
    obtain ⟨rfl, -⟩ := this
    exact absurd hr (by decide)
theorem M_iald (X : Cx E κ cc nL own ret d cz sz) {a n : Nat} {i : Int32} (hsh : SH[a]? = some (10, n)) (hin : ib i n = true) (hd : decode cc pc = .ok (.iaload, 1)) (kk : G E κ cells slots (pc + 1) ls (vi (I a i.toNatClampNeg) :: st) (mm I)) : G E κ cells slots pc ls (vi i :: vr a :: st) (mm I) := G_iald X hsh (ib_in hin) hd kk
theorem M_cald (X : Cx E κ cc nL own ret d cz sz) {a n : Nat} {i : Int32} (hsh : SH[a]? = some (11, n)) (hin : ib i n = true) (hd : decode cc pc = .ok (.caload, 1)) (kk : G E κ cells slots (pc + 1) ls (vi (I a i.toNatClampNeg) :: st) (mm I)) : G E κ cells slots pc ls (vi i :: vr a :: st) (mm I) := G_cald X hsh (ib_in hin) hd kk
theorem kd_ne {a kd n : Nat} (hsh : SH[a]? = some (kd, n)) (h : kd = 10 ∨ kd = 11) : a ≠ 3 ∧ ∀ k, ¬ (a = 19 ∧ k = 6) := by
  refine ⟨?_, fun k => ?_⟩
  · rintro rfl
    have h13 : SH[3]? = some (13, 5) := rfl
    have := h13.symm.trans hsh
    simp at this
    omega
  · rintro ⟨rfl, rfl⟩
    have h2 : SH[19]? = some (2, 0) := rfl
    have := h2.symm.trans hsh
    simp at this
    omega
theorem M_iast (X : Cx E κ cc nL own ret d cz sz) {a n : Nat} {i x : Int32} (hsh : SH[a]? = some (10, n)) (hin : ib i n = true) (hd : decode cc pc = .ok (.iastore, 1)) (kk : G E κ cells slots (pc + 1) ls st (mm (uI I a i.toNatClampNeg x))) : G E κ cells slots pc ls (vi x :: vi i :: vr a :: st) (mm I) := by
  have hk := kd_ne hsh (Or.inl rfl)
  refine G_iast X hsh (ib_in hin) hd ?_
  rw [mm_uI hk.1 (hk.2 _)] at kk
  exact kk
theorem M_cast (X : Cx E κ cc nL own ret d cz sz) {a n : Nat} {i x : Int32} (hsh : SH[a]? = some (11, n)) (hin : ib i n = true) (hd : decode cc pc = .ok (.castore, 1)) (kk : G E κ cells slots (pc + 1) ls st (mm (uI I a i.toNatClampNeg (vp_nar .char x)))) : G E κ cells slots pc ls (vi x :: vi i :: vr a :: st) (mm I) := by
  have hk := kd_ne hsh (Or.inr rfl)
  refine G_cast X hsh (ib_in hin) hd ?_
  rw [mm_uI hk.1 (hk.2 _)] at kk
  exact kk
theorem M_aald (X : Cx E κ cc nL own ret d cz sz) {a n kd r : Nat} {i : Int32} (hsh : SH[a]? = some (kd, n)) (hkd : kd = 12 ∨ kd = 13) (hin : ib i n = true) (hv : Pof I a i.toNatClampNeg = some r) (hd : decode cc pc = .ok (.aaload, 1)) (kk : G E κ cells slots (pc + 1) ls (vr r :: st) (mm I)) : G E κ cells slots pc ls (vi i :: vr a :: st) (mm I) := G_aald X hsh hkd (ib_in hin) hv hd kk
theorem M_alen (X : Cx E κ cc nL own ret d cz sz) {a n kd : Nat} (hsh : SH[a]? = some (kd, n)) (hkd : kd = 10 ∨ kd = 11 ∨ kd = 12 ∨ kd = 13) (hd : decode cc pc = .ok (.arraylength, 1)) {v : Int32} (hv : nI n = v) (kk : G E κ cells slots (pc + 1) ls (vi v :: st) (mm I)) : G E κ cells slots pc ls (vr a :: st) (mm I) := by
  subst hv; exact G_alen X hsh hkd hd kk
theorem G_eqW {S : List (Nat × Nat)} {I1 I2 : gI} {P : gP} (h : ∀ (Gc : Nat → ClassId) (B : Nat), gW Gc B (S, I1, P) = gW Gc B (S, I2, P)) (kk : G E κ cells slots pc ls st (S, I1, P)) : G E κ cells slots pc ls st (S, I2, P) := by
  obtain ⟨l, D, Gc, B, b⟩ := E
  obtain ⟨p, e, R, s, m, args, below, meth, c, Q⟩ := κ
  intro H locs la hl hP hS
  exact kk H locs la hl (by rw [h]; exact hP) hS
theorem M_aast (X : Cx E κ cc nL own ret d cz sz) {c : Nat} {i : Int32} (hc : isC c) (hin : ib i 5 = true) (hd : decode cc pc = .ok (.aastore, 1)) (kk : G E κ cells slots (pc + 1) ls st (mm (uI I 3 i.toNatClampNeg (nI c)))) : G E κ cells slots pc ls (vr c :: vi i :: vr 3 :: st) (mm I) := by
  have hlt : c < 79 := (List.getElem?_eq_some_iff.mp hc.1).1
  refine G_aast X (kd := 13) (n := 5) rfl (Or.inr rfl) hc.1 (ib_in hin) hd ?_
  have e : mm (uI I 3 i.toNatClampNeg (nI c)) = (SH, uI I 3 i.toNatClampNeg (nI c), uP (Pof I) 3 i.toNatClampNeg (some c)) := by simp only [mm, mm_chg hlt]
  rw [e] at kk
  exact G_eqW (fun Gc B => gW_hidden3) kk
theorem M_putRw (X : Cx E κ cc nL own ret d cz sz) {ix : Nat} {ty : FieldType} (hF : gFd own ix 2 6 false ty) (hn : ∀ q, narrow ty (.ref q) = .ref q) (hf : ∀ q, fits ty (.ref q) = true) (hd : decode cc pc = .ok (.putfield ix, 3)) (kk : G E κ cells slots (pc + 3) ls st (mm (uI I 19 6 1))) : G E κ cells slots pc ls (vr 1 :: vr 19 :: st) (mm I) := by
  refine G_putR X hF rfl (n := 0) rfl hn hf hd ?_
  have e : mm (uI I 19 6 1) = (SH, uI I 19 6 1, uP (Pof I) 19 6 (some 1)) := by simp only [mm, mm_rw]
  rw [e] at kk
  exact G_eqW (fun Gc B => gW_hidden19) kk
theorem M_copyi (X : Cx E κ cc nL own ret d cz sz) {ix b0 b : Nat} (hw1 : Cond.methodLink own ix arraycopyName ∈ gT) (hw2 : Cond.native arraycopyName ∈ gT) (hw3 : Cond.static arraycopyName ∈ gT) (hw4 : Cond.initialized "java/lang/System" ∈ gT) (hs0 : isB b0) (hs1 : isB b)
    (hst : gsz st ≤ 8) (hfr : 1 ≤ d) (hlen : ls.length = nL) (hd : decode cc pc = .ok (.invokestatic ix, 3))
    (kk : G E κ cells slots (pc + 3) ls st (mm (uC I (b + 1) (va_cpy (I (b0 + 1)) (I (b + 1)) 0 0 40)))) : G E κ cells slots pc ls (vi 40 :: vi 0 :: vr (b + 1) :: vi 0 :: vr (b0 + 1) :: st) (mm I) := by
  obtain ⟨-, -, h3, h19⟩ := isB_ne3 hs1
  have e : mm (uC I (b + 1) (va_cpy (I (b0 + 1)) (I (b + 1)) 0 0 40)) = (SH, uC I (b + 1) (va_cpy (I (b0 + 1)) (I (b + 1)) 0 0 40), Pof I) := by
    have e1 : Pof (uC I (b + 1) (va_cpy (I (b0 + 1)) (I (b + 1)) 0 0 40)) = Pof I := by
      funext c j
      simp only [Pof, uC, if_neg (Ne.symm h3), if_neg (Ne.symm h19)]
    simp only [mm, e1]
  rw [e] at kk
  refine G_copyi X hw1 hw2 hw3 hw4 hs0.2 hs1.2 (by decide) (by decide) (by decide) ?_ ?_ hst hfr hlen hd kk
  · exact Nat.le_of_ble_eq_true rfl
  · exact Nat.le_of_ble_eq_true rfl
end GMain
/-! steps of the functions that are printed -/
theorem obd {α β : Type} {o : Option α} {f : α → Option β} {r : β} (h : o.bind f = some r) : ∃ v, o = some v ∧ f v = some r := by
  cases o with
  | none => cases h
  | some v => exact ⟨v, rfl, h⟩
theorem ock {β : Type} {c : Prop} [Decidable c] {a : Option β} {r : β} (h : (if c then a else none) = some r) : c ∧ a = some r := by
  by_cases hc : c
  · rw [if_pos hc] at h; exact ⟨hc, h⟩
  · rw [if_neg hc] at h; cases h
theorem nar_b2i (b : Bool) : narrow .boolean (.int (b2i b)) = .int (b2i b) := by cases b <;> decide +kernel
theorem fit_b2i (b : Bool) : fits .boolean (.int (b2i b)) = true := by cases b <;> decide +kernel
def zb (x : Int32) : Bool := x == 0 || x == 1
theorem zb_or {x : Int32} (h : zb x = true) : x = 0 ∨ x = 1 := by simpa [zb] using h
theorem nar_zb {x : Int32} (h : zb x = true) : narrow .boolean (.int x) = .int x := by rcases zb_or h with rfl | rfl <;> decide +kernel
theorem fit_zb {x : Int32} (h : zb x = true) : fits .boolean (.int x) = true := by rcases zb_or h with rfl | rfl <;> decide +kernel
def zB (x : Int32) : Bool := x == 1
theorem zB_b2i {x : Int32} (h : zb x = true) : b2i (zB x) = x := by rcases zb_or h with rfl | rfl <;> decide +kernel
def cb (x : Int32) : Bool := decide (0 ≤ x) && decide (x ≤ 65535)
theorem cb_nat {x : Int32} (h : cb x = true) : x.toBitVec.toNat < 65536 := by
  simp only [cb, Bool.and_eq_true, decide_eq_true_eq] at h
  obtain ⟨h1, h2⟩ := h
  rw [Int32.le_iff_toInt_le] at h1 h2
  have e1 : (65535 : Int32).toInt = 65535 := by decide
  rw [e1] at h2
  have e0 : (0 : Int32).toInt = 0 := by decide
  rw [e0] at h1
  have h3 : x.toInt = x.toBitVec.toInt := rfl
  rw [h3, BitVec.toInt_eq_toNat_cond] at h1 h2
  have h4 := x.toBitVec.isLt
  split at h1 <;> omega
theorem nar_cb {x : Int32} (h : cb x = true) : narrow .char (.int x) = .int x := by
  have h1 := cb_nat h
  show Value.int (x.toUInt32.toUInt16.toUInt32.toInt32) = .int x
  congr 1
  apply Int32.toBitVec_inj.mp
  show ((x.toBitVec.setWidth 16).setWidth 32) = x.toBitVec
  apply BitVec.eq_of_toNat_eq
  simp only [BitVec.toNat_setWidth]
  omega
def FU : Nat := 5000
def isBb (b : Nat) : Bool := SH[b]? == some (0, 0) && SH[b + 1]? == some (10, 40)
theorem isBb_isB {b : Nat} (h : isBb b = true) : isB b := by
  simp only [isBb, Bool.and_eq_true, beq_iff_eq] at h
  exact h
theorem b2i_t {b : Bool} (h : ¬ b2i b = 0) : b = true := by cases b with
  | true => rfl
  | false => exact absurd rfl h
theorem b2i_f {b : Bool} (h : b2i b = 0) : ¬ b = true := by cases b with
  | true => exact absurd h (by decide)
  | false => exact fun q => by cases q
def Wk : List (Option gV) → List (Option gV) → Prop
  | [], [] => True
  | x :: r, y :: s => (y = none ∨ x = y) ∧ Wk r s
  | _, _ => False
theorem Wk_ok : ∀ {ls ls' : List (Option gV)}, Wk ls ls' → ls.length = ls'.length ∧ ∀ (i : Nat) (v : gV), ls'[i]? = some (some v) → ls[i]? = some (some v)
  | [], [], _ => ⟨rfl, fun _ _ h => h⟩
  | x :: r, y :: s, h => by
    obtain ⟨h1, h2⟩ := Wk_ok (ls := r) (ls' := s) h.2
    refine ⟨by simp [h1], fun i v hv => ?_⟩
    cases i with
    | zero =>
      simp only [List.getElem?_cons_zero, Option.some.injEq] at hv ⊢
      rcases h.1 with rfl | rfl
      · cases hv
      · exact hv
    | succ i =>
      simp only [List.getElem?_cons_succ] at hv ⊢
      exact h2 i v hv
  | [], _ :: _, h => h.elim
  | _ :: _, [], h => h.elim
section GMain2
variable {E : gEnv} {κ : gCtx} {cc : ByteArray} {nL d cz sz cells slots pc : Nat} {own : String} {ret : Option FieldType} {ls : List (Option gV)} {st : List gV} {M : gM}
theorem G_weakL {ls' : List (Option gV)} (h : Wk ls ls') (k : G E κ cells slots pc ls' st M) : G E κ cells slots pc ls st M := G_weak (Wk_ok h) k
theorem G_tableJ (X : Cx E κ cc nL own ret d cz sz) {dflt hi : Int} {offs : Array Int} {len : Nat} {x : Int32} {off : Int} {tgt : Nat} (j : Nat) (hd : decode cc pc = .ok (.tableswitch dflt 0 hi offs, len)) (hx : x = nI j) (hj : j < 1000) (hh : (j : Int) ≤ hi) (ho : offs[j]? = some off) (ht : (pc : Int) + off = (tgt : Int)) (k : G E κ cells slots tgt ls st M) : G E κ cells slots pc ls (vi x :: st) M := by
  subst hx
  have e : (nI j).toInt = (j : Int) := nI_toInt (by omega)
  refine G_tableIn X hd (by rw [e]; omega) (by rw [e]; omega) ?_ ht k
  rw [e]
  simpa using ho
theorem G_tableD (X : Cx E κ cc nL own ret d cz sz) {dflt hi : Int} {offs : Array Int} {len : Nat} {x : Int32} {tgt : Nat} (n : Nat) (hd : decode cc pc = .ok (.tableswitch dflt 0 hi offs, len)) (hn : hi + 1 = (n : Int)) (h : ∀ j, j < n → ¬ x = nI j) (ht : (pc : Int) + dflt = (tgt : Int)) (k : G E κ cells slots tgt ls st M) : G E κ cells slots pc ls (vi x :: st) M := by
  refine G_tableOut X hd ?_ ht k
  by_cases h1 : x.toInt < 0
  · exact Or.inl h1
  · by_cases h2 : hi < x.toInt
    · exact Or.inr h2
    · exfalso
      have h3 : x.toInt < 2 ^ 31 := x.toInt_lt
      refine h x.toInt.toNat (by omega) (Int32.toInt_inj.mp ?_)
      rw [nI_toInt (by omega)]
      omega
end GMain2
end
