section
-- ===== PART A: goes FIRST, ahead of the names: the tables' words, and 'selects' of the private methods out of them =====
/-- a private method of a class that the tables say can be made, by its rows of tables_1 -/
def lw_okq (q : MethodName × Nat) : Prop := (q.1.cls ≠ "java/lang/invoke/MethodHandle" ∧ q.1.cls ≠ "java/lang/invoke/VarHandle") ∧ Cond.instantiable q.1.cls q.2 ∈ tables_1 ∧ Cond.privateMethod q.1 ∈ tables_1 ∧ Cond.instanceMethod q.1 ∈ tables_1
theorem lw_p0 : lw_okq (⟨"PackedBits", "record", "(I)V"⟩, 5) := ⟨⟨by decide +kernel, by decide +kernel⟩, List.mem_of_getElem? (i := 12) (by decide +kernel), List.mem_of_getElem? (i := 137) (by decide +kernel), List.mem_of_getElem? (i := 138) (by decide +kernel)⟩
theorem lw_p1 : lw_okq (⟨"PackedBits$History", "dropOldest", "()V"⟩, 2) := ⟨⟨by decide +kernel, by decide +kernel⟩, List.mem_of_getElem? (i := 22) (by decide +kernel), List.mem_of_getElem? (i := 145) (by decide +kernel), List.mem_of_getElem? (i := 146) (by decide +kernel)⟩
theorem lw_p2 : lw_okq (⟨"PackedBits", "isRow", "(I)Z"⟩, 5) := ⟨⟨by decide +kernel, by decide +kernel⟩, List.mem_of_getElem? (i := 12) (by decide +kernel), List.mem_of_getElem? (i := 173) (by decide +kernel), List.mem_of_getElem? (i := 174) (by decide +kernel)⟩
theorem lw_p3 : lw_okq (⟨"PackedBits", "isPlace", "(II)Z"⟩, 5) := ⟨⟨by decide +kernel, by decide +kernel⟩, List.mem_of_getElem? (i := 12) (by decide +kernel), List.mem_of_getElem? (i := 228) (by decide +kernel), List.mem_of_getElem? (i := 229) (by decide +kernel)⟩
theorem lw_p4 : lw_okq (⟨"PackedBits$Expression", "readSum", "(II)Z"⟩, 10) := ⟨⟨by decide +kernel, by decide +kernel⟩, List.mem_of_getElem? (i := 72) (by decide +kernel), List.mem_of_getElem? (i := 326) (by decide +kernel), List.mem_of_getElem? (i := 327) (by decide +kernel)⟩
theorem lw_p5 : lw_okq (⟨"PackedBits$Expression", "readProduct", "(II)Z"⟩, 10) := ⟨⟨by decide +kernel, by decide +kernel⟩, List.mem_of_getElem? (i := 72) (by decide +kernel), List.mem_of_getElem? (i := 330) (by decide +kernel), List.mem_of_getElem? (i := 331) (by decide +kernel)⟩
theorem lw_p6 : lw_okq (⟨"PackedBits$Expression", "readFactor", "(II)Z"⟩, 10) := ⟨⟨by decide +kernel, by decide +kernel⟩, List.mem_of_getElem? (i := 72) (by decide +kernel), List.mem_of_getElem? (i := 334) (by decide +kernel), List.mem_of_getElem? (i := 335) (by decide +kernel)⟩
theorem lw_p7 : lw_okq (⟨"PackedBits$Expression", "nextSign", "()C"⟩, 10) := ⟨⟨by decide +kernel, by decide +kernel⟩, List.mem_of_getElem? (i := 72) (by decide +kernel), List.mem_of_getElem? (i := 338) (by decide +kernel), List.mem_of_getElem? (i := 339) (by decide +kernel)⟩
theorem lw_p8 : lw_okq (⟨"PackedBits$Expression", "signHere", "()C"⟩, 10) := ⟨⟨by decide +kernel, by decide +kernel⟩, List.mem_of_getElem? (i := 72) (by decide +kernel), List.mem_of_getElem? (i := 342) (by decide +kernel), List.mem_of_getElem? (i := 343) (by decide +kernel)⟩
theorem lw_p9 : lw_okq (⟨"PackedBits$Expression", "readRow", "(II)Z"⟩, 10) := ⟨⟨by decide +kernel, by decide +kernel⟩, List.mem_of_getElem? (i := 72) (by decide +kernel), List.mem_of_getElem? (i := 346) (by decide +kernel), List.mem_of_getElem? (i := 347) (by decide +kernel)⟩
theorem lw_p10 : lw_okq (⟨"PackedBits$Expression", "readNumber", "(II)I"⟩, 10) := ⟨⟨by decide +kernel, by decide +kernel⟩, List.mem_of_getElem? (i := 72) (by decide +kernel), List.mem_of_getElem? (i := 350) (by decide +kernel), List.mem_of_getElem? (i := 351) (by decide +kernel)⟩
theorem lw_p11 : lw_okq (⟨"PackedBits$Expression", "breakOff", "(I)Z"⟩, 10) := ⟨⟨by decide +kernel, by decide +kernel⟩, List.mem_of_getElem? (i := 72) (by decide +kernel), List.mem_of_getElem? (i := 357) (by decide +kernel), List.mem_of_getElem? (i := 358) (by decide +kernel)⟩
theorem lw_p12 : lw_okq (⟨"PackedBits$Expression", "fail", "(III)V"⟩, 10) := ⟨⟨by decide +kernel, by decide +kernel⟩, List.mem_of_getElem? (i := 72) (by decide +kernel), List.mem_of_getElem? (i := 361) (by decide +kernel), List.mem_of_getElem? (i := 362) (by decide +kernel)⟩
theorem lw_p13 : lw_okq (⟨"PackedBits$Expression", "readBracket", "(II)Z"⟩, 10) := ⟨⟨by decide +kernel, by decide +kernel⟩, List.mem_of_getElem? (i := 72) (by decide +kernel), List.mem_of_getElem? (i := 366) (by decide +kernel), List.mem_of_getElem? (i := 367) (by decide +kernel)⟩
theorem lw_p14 : lw_okq (⟨"PackedBits$Expression", "combineAt", "(II)V"⟩, 10) := ⟨⟨by decide +kernel, by decide +kernel⟩, List.mem_of_getElem? (i := 72) (by decide +kernel), List.mem_of_getElem? (i := 371) (by decide +kernel), List.mem_of_getElem? (i := 372) (by decide +kernel)⟩
theorem lw_p15 : lw_okq (⟨"PackedBits", "sum", "(I)I"⟩, 5) := ⟨⟨by decide +kernel, by decide +kernel⟩, List.mem_of_getElem? (i := 12) (by decide +kernel), List.mem_of_getElem? (i := 388) (by decide +kernel), List.mem_of_getElem? (i := 389) (by decide +kernel)⟩
def lw_privs_1 : List (MethodName × Nat) := [(⟨"PackedBits", "record", "(I)V"⟩, 5), (⟨"PackedBits$History", "dropOldest", "()V"⟩, 2), (⟨"PackedBits", "isRow", "(I)Z"⟩, 5), (⟨"PackedBits", "isPlace", "(II)Z"⟩, 5), (⟨"PackedBits$Expression", "readSum", "(II)Z"⟩, 10), (⟨"PackedBits$Expression", "readProduct", "(II)Z"⟩, 10), (⟨"PackedBits$Expression", "readFactor", "(II)Z"⟩, 10), (⟨"PackedBits$Expression", "nextSign", "()C"⟩, 10), (⟨"PackedBits$Expression", "signHere", "()C"⟩, 10), (⟨"PackedBits$Expression", "readRow", "(II)Z"⟩, 10), (⟨"PackedBits$Expression", "readNumber", "(II)I"⟩, 10), (⟨"PackedBits$Expression", "breakOff", "(I)Z"⟩, 10), (⟨"PackedBits$Expression", "fail", "(III)V"⟩, 10), (⟨"PackedBits$Expression", "readBracket", "(II)Z"⟩, 10), (⟨"PackedBits$Expression", "combineAt", "(II)V"⟩, 10), (⟨"PackedBits", "sum", "(I)I"⟩, 5)]
theorem lw_r1 : ∀ q ∈ lw_privs_1, lw_okq q := List.forall_mem_cons.mpr ⟨lw_p0, List.forall_mem_cons.mpr ⟨lw_p1, List.forall_mem_cons.mpr ⟨lw_p2, List.forall_mem_cons.mpr ⟨lw_p3, List.forall_mem_cons.mpr ⟨lw_p4, List.forall_mem_cons.mpr ⟨lw_p5, List.forall_mem_cons.mpr ⟨lw_p6, List.forall_mem_cons.mpr ⟨lw_p7, List.forall_mem_cons.mpr ⟨lw_p8, List.forall_mem_cons.mpr ⟨lw_p9, List.forall_mem_cons.mpr ⟨lw_p10, List.forall_mem_cons.mpr ⟨lw_p11, List.forall_mem_cons.mpr ⟨lw_p12, List.forall_mem_cons.mpr ⟨lw_p13, List.forall_mem_cons.mpr ⟨lw_p14, List.forall_mem_cons.mpr ⟨lw_p15, fun _ h => absurd h List.not_mem_nil⟩⟩⟩⟩⟩⟩⟩⟩⟩⟩⟩⟩⟩⟩⟩⟩
theorem lw_p16 : lw_okq (⟨"PackedBitsModel", "copyState", "(II)V"⟩, 17) := ⟨⟨by decide +kernel, by decide +kernel⟩, List.mem_of_getElem? (i := 449) (by decide +kernel), List.mem_of_getElem? (i := 512) (by decide +kernel), List.mem_of_getElem? (i := 513) (by decide +kernel)⟩
theorem lw_p17 : lw_okq (⟨"PackedBitsModel", "record", "()V"⟩, 17) := ⟨⟨by decide +kernel, by decide +kernel⟩, List.mem_of_getElem? (i := 449) (by decide +kernel), List.mem_of_getElem? (i := 520) (by decide +kernel), List.mem_of_getElem? (i := 521) (by decide +kernel)⟩
theorem lw_p18 : lw_okq (⟨"PackedBitsModel", "isRow", "(I)Z"⟩, 17) := ⟨⟨by decide +kernel, by decide +kernel⟩, List.mem_of_getElem? (i := 449) (by decide +kernel), List.mem_of_getElem? (i := 531) (by decide +kernel), List.mem_of_getElem? (i := 532) (by decide +kernel)⟩
theorem lw_p19 : lw_okq (⟨"PackedBitsModel", "push", "(II)V"⟩, 17) := ⟨⟨by decide +kernel, by decide +kernel⟩, List.mem_of_getElem? (i := 449) (by decide +kernel), List.mem_of_getElem? (i := 538) (by decide +kernel), List.mem_of_getElem? (i := 539) (by decide +kernel)⟩
theorem lw_p20 : lw_okq (⟨"PackedBitsModel", "put", "(III)V"⟩, 17) := ⟨⟨by decide +kernel, by decide +kernel⟩, List.mem_of_getElem? (i := 449) (by decide +kernel), List.mem_of_getElem? (i := 542) (by decide +kernel), List.mem_of_getElem? (i := 543) (by decide +kernel)⟩
theorem lw_p21 : lw_okq (⟨"PackedBitsModel", "words", "(II)I"⟩, 17) := ⟨⟨by decide +kernel, by decide +kernel⟩, List.mem_of_getElem? (i := 449) (by decide +kernel), List.mem_of_getElem? (i := 551) (by decide +kernel), List.mem_of_getElem? (i := 552) (by decide +kernel)⟩
theorem lw_p22 : lw_okq (⟨"PackedBitsModel", "groups", "(I)I"⟩, 17) := ⟨⟨by decide +kernel, by decide +kernel⟩, List.mem_of_getElem? (i := 449) (by decide +kernel), List.mem_of_getElem? (i := 555) (by decide +kernel), List.mem_of_getElem? (i := 556) (by decide +kernel)⟩
theorem lw_p23 : lw_okq (⟨"PackedBitsModel", "kind", "(II)I"⟩, 17) := ⟨⟨by decide +kernel, by decide +kernel⟩, List.mem_of_getElem? (i := 449) (by decide +kernel), List.mem_of_getElem? (i := 559) (by decide +kernel), List.mem_of_getElem? (i := 560) (by decide +kernel)⟩
theorem lw_p24 : lw_okq (⟨"PackedBitsModel", "group", "(II)I"⟩, 17) := ⟨⟨by decide +kernel, by decide +kernel⟩, List.mem_of_getElem? (i := 449) (by decide +kernel), List.mem_of_getElem? (i := 563) (by decide +kernel), List.mem_of_getElem? (i := 564) (by decide +kernel)⟩
theorem lw_p25 : lw_okq (⟨"PackedBitsModel", "bitOf", "(II)I"⟩, 17) := ⟨⟨by decide +kernel, by decide +kernel⟩, List.mem_of_getElem? (i := 449) (by decide +kernel), List.mem_of_getElem? (i := 567) (by decide +kernel), List.mem_of_getElem? (i := 568) (by decide +kernel)⟩
theorem lw_p26 : lw_okq (⟨"PackedBitsModel", "behind", "(II)I"⟩, 17) := ⟨⟨by decide +kernel, by decide +kernel⟩, List.mem_of_getElem? (i := 449) (by decide +kernel), List.mem_of_getElem? (i := 571) (by decide +kernel), List.mem_of_getElem? (i := 572) (by decide +kernel)⟩
theorem lw_p27 : lw_okq (⟨"PackedBitsModel", "isPlace", "(III)Z"⟩, 17) := ⟨⟨by decide +kernel, by decide +kernel⟩, List.mem_of_getElem? (i := 449) (by decide +kernel), List.mem_of_getElem? (i := 579) (by decide +kernel), List.mem_of_getElem? (i := 580) (by decide +kernel)⟩
theorem lw_p28 : lw_okq (⟨"PackedBitsModel", "workOf", "(II)I"⟩, 17) := ⟨⟨by decide +kernel, by decide +kernel⟩, List.mem_of_getElem? (i := 449) (by decide +kernel), List.mem_of_getElem? (i := 591) (by decide +kernel), List.mem_of_getElem? (i := 592) (by decide +kernel)⟩
theorem lw_p29 : lw_okq (⟨"PackedBitsModel", "operateOn", "(IIII)V"⟩, 17) := ⟨⟨by decide +kernel, by decide +kernel⟩, List.mem_of_getElem? (i := 449) (by decide +kernel), List.mem_of_getElem? (i := 595) (by decide +kernel), List.mem_of_getElem? (i := 596) (by decide +kernel)⟩
theorem lw_p30 : lw_okq (⟨"PackedBitsModel", "copy", "(II)V"⟩, 17) := ⟨⟨by decide +kernel, by decide +kernel⟩, List.mem_of_getElem? (i := 449) (by decide +kernel), List.mem_of_getElem? (i := 605) (by decide +kernel), List.mem_of_getElem? (i := 606) (by decide +kernel)⟩
theorem lw_p31 : lw_okq (⟨"PackedBitsModel", "turn", "(I)V"⟩, 17) := ⟨⟨by decide +kernel, by decide +kernel⟩, List.mem_of_getElem? (i := 449) (by decide +kernel), List.mem_of_getElem? (i := 613) (by decide +kernel), List.mem_of_getElem? (i := 614) (by decide +kernel)⟩
def lw_privs_2 : List (MethodName × Nat) := [(⟨"PackedBitsModel", "copyState", "(II)V"⟩, 17), (⟨"PackedBitsModel", "record", "()V"⟩, 17), (⟨"PackedBitsModel", "isRow", "(I)Z"⟩, 17), (⟨"PackedBitsModel", "push", "(II)V"⟩, 17), (⟨"PackedBitsModel", "put", "(III)V"⟩, 17), (⟨"PackedBitsModel", "words", "(II)I"⟩, 17), (⟨"PackedBitsModel", "groups", "(I)I"⟩, 17), (⟨"PackedBitsModel", "kind", "(II)I"⟩, 17), (⟨"PackedBitsModel", "group", "(II)I"⟩, 17), (⟨"PackedBitsModel", "bitOf", "(II)I"⟩, 17), (⟨"PackedBitsModel", "behind", "(II)I"⟩, 17), (⟨"PackedBitsModel", "isPlace", "(III)Z"⟩, 17), (⟨"PackedBitsModel", "workOf", "(II)I"⟩, 17), (⟨"PackedBitsModel", "operateOn", "(IIII)V"⟩, 17), (⟨"PackedBitsModel", "copy", "(II)V"⟩, 17), (⟨"PackedBitsModel", "turn", "(I)V"⟩, 17)]
theorem lw_r2 : ∀ q ∈ lw_privs_2, lw_okq q := List.forall_mem_cons.mpr ⟨lw_p16, List.forall_mem_cons.mpr ⟨lw_p17, List.forall_mem_cons.mpr ⟨lw_p18, List.forall_mem_cons.mpr ⟨lw_p19, List.forall_mem_cons.mpr ⟨lw_p20, List.forall_mem_cons.mpr ⟨lw_p21, List.forall_mem_cons.mpr ⟨lw_p22, List.forall_mem_cons.mpr ⟨lw_p23, List.forall_mem_cons.mpr ⟨lw_p24, List.forall_mem_cons.mpr ⟨lw_p25, List.forall_mem_cons.mpr ⟨lw_p26, List.forall_mem_cons.mpr ⟨lw_p27, List.forall_mem_cons.mpr ⟨lw_p28, List.forall_mem_cons.mpr ⟨lw_p29, List.forall_mem_cons.mpr ⟨lw_p30, List.forall_mem_cons.mpr ⟨lw_p31, fun _ h => absurd h List.not_mem_nil⟩⟩⟩⟩⟩⟩⟩⟩⟩⟩⟩⟩⟩⟩⟩⟩
theorem lw_p32 : lw_okq (⟨"PackedBitsModel", "ones", "(I)I"⟩, 17) := ⟨⟨by decide +kernel, by decide +kernel⟩, List.mem_of_getElem? (i := 449) (by decide +kernel), List.mem_of_getElem? (i := 617) (by decide +kernel), List.mem_of_getElem? (i := 618) (by decide +kernel)⟩
theorem lw_p33 : lw_okq (⟨"PackedBitsModel", "shiftOn", "(II)V"⟩, 17) := ⟨⟨by decide +kernel, by decide +kernel⟩, List.mem_of_getElem? (i := 449) (by decide +kernel), List.mem_of_getElem? (i := 625) (by decide +kernel), List.mem_of_getElem? (i := 626) (by decide +kernel)⟩
theorem lw_p34 : lw_okq (⟨"PackedBitsModel", "reads", "(Z)Z"⟩, 17) := ⟨⟨by decide +kernel, by decide +kernel⟩, List.mem_of_getElem? (i := 449) (by decide +kernel), List.mem_of_getElem? (i := 641) (by decide +kernel), List.mem_of_getElem? (i := 642) (by decide +kernel)⟩
theorem lw_p35 : lw_okq (⟨"PackedBitsModel", "readsFactor", "()Z"⟩, 17) := ⟨⟨by decide +kernel, by decide +kernel⟩, List.mem_of_getElem? (i := 449) (by decide +kernel), List.mem_of_getElem? (i := 645) (by decide +kernel), List.mem_of_getElem? (i := 646) (by decide +kernel)⟩
theorem lw_p36 : lw_okq (⟨"PackedBitsModel", "code", "()I"⟩, 17) := ⟨⟨by decide +kernel, by decide +kernel⟩, List.mem_of_getElem? (i := 449) (by decide +kernel), List.mem_of_getElem? (i := 649) (by decide +kernel), List.mem_of_getElem? (i := 650) (by decide +kernel)⟩
theorem lw_p37 : lw_okq (⟨"PackedBitsModel", "push", "(I)V"⟩, 17) := ⟨⟨by decide +kernel, by decide +kernel⟩, List.mem_of_getElem? (i := 449) (by decide +kernel), List.mem_of_getElem? (i := 653) (by decide +kernel), List.mem_of_getElem? (i := 654) (by decide +kernel)⟩
theorem lw_p38 : lw_okq (⟨"PackedBitsModel", "readsRow", "()Z"⟩, 17) := ⟨⟨by decide +kernel, by decide +kernel⟩, List.mem_of_getElem? (i := 449) (by decide +kernel), List.mem_of_getElem? (i := 657) (by decide +kernel), List.mem_of_getElem? (i := 658) (by decide +kernel)⟩
theorem lw_p39 : lw_okq (⟨"PackedBitsModel", "readsNumber", "()Z"⟩, 17) := ⟨⟨by decide +kernel, by decide +kernel⟩, List.mem_of_getElem? (i := 449) (by decide +kernel), List.mem_of_getElem? (i := 661) (by decide +kernel), List.mem_of_getElem? (i := 662) (by decide +kernel)⟩
theorem lw_p40 : lw_okq (⟨"PackedBitsModel", "wrong", "(ZI)V"⟩, 17) := ⟨⟨by decide +kernel, by decide +kernel⟩, List.mem_of_getElem? (i := 449) (by decide +kernel), List.mem_of_getElem? (i := 665) (by decide +kernel), List.mem_of_getElem? (i := 666) (by decide +kernel)⟩
theorem lw_p41 : lw_okq (⟨"PackedBitsModel", "closeFactor", "()V"⟩, 17) := ⟨⟨by decide +kernel, by decide +kernel⟩, List.mem_of_getElem? (i := 449) (by decide +kernel), List.mem_of_getElem? (i := 669) (by decide +kernel), List.mem_of_getElem? (i := 670) (by decide +kernel)⟩
theorem lw_p42 : lw_okq (⟨"PackedBitsModel", "top", "()I"⟩, 17) := ⟨⟨by decide +kernel, by decide +kernel⟩, List.mem_of_getElem? (i := 449) (by decide +kernel), List.mem_of_getElem? (i := 673) (by decide +kernel), List.mem_of_getElem? (i := 674) (by decide +kernel)⟩
theorem lw_p43 : lw_okq (⟨"PackedBitsModel", "pop", "()I"⟩, 17) := ⟨⟨by decide +kernel, by decide +kernel⟩, List.mem_of_getElem? (i := 449) (by decide +kernel), List.mem_of_getElem? (i := 677) (by decide +kernel), List.mem_of_getElem? (i := 678) (by decide +kernel)⟩
theorem lw_p44 : lw_okq (⟨"PackedBitsModel", "readsOn", "()Z"⟩, 17) := ⟨⟨by decide +kernel, by decide +kernel⟩, List.mem_of_getElem? (i := 449) (by decide +kernel), List.mem_of_getElem? (i := 681) (by decide +kernel), List.mem_of_getElem? (i := 682) (by decide +kernel)⟩
theorem lw_p45 : lw_okq (⟨"PackedBitsModel", "doTo", "(I)V"⟩, 17) := ⟨⟨by decide +kernel, by decide +kernel⟩, List.mem_of_getElem? (i := 449) (by decide +kernel), List.mem_of_getElem? (i := 685) (by decide +kernel), List.mem_of_getElem? (i := 686) (by decide +kernel)⟩
theorem lw_p46 : lw_okq (⟨"PackedBitsModel", "fail", "(III)I"⟩, 17) := ⟨⟨by decide +kernel, by decide +kernel⟩, List.mem_of_getElem? (i := 449) (by decide +kernel), List.mem_of_getElem? (i := 695) (by decide +kernel), List.mem_of_getElem? (i := 696) (by decide +kernel)⟩
theorem lw_p47 : lw_okq (⟨"PackedBitsModel", "placeOf", "(II)I"⟩, 17) := ⟨⟨by decide +kernel, by decide +kernel⟩, List.mem_of_getElem? (i := 449) (by decide +kernel), List.mem_of_getElem? (i := 711) (by decide +kernel), List.mem_of_getElem? (i := 712) (by decide +kernel)⟩
def lw_privs_3 : List (MethodName × Nat) := [(⟨"PackedBitsModel", "ones", "(I)I"⟩, 17), (⟨"PackedBitsModel", "shiftOn", "(II)V"⟩, 17), (⟨"PackedBitsModel", "reads", "(Z)Z"⟩, 17), (⟨"PackedBitsModel", "readsFactor", "()Z"⟩, 17), (⟨"PackedBitsModel", "code", "()I"⟩, 17), (⟨"PackedBitsModel", "push", "(I)V"⟩, 17), (⟨"PackedBitsModel", "readsRow", "()Z"⟩, 17), (⟨"PackedBitsModel", "readsNumber", "()Z"⟩, 17), (⟨"PackedBitsModel", "wrong", "(ZI)V"⟩, 17), (⟨"PackedBitsModel", "closeFactor", "()V"⟩, 17), (⟨"PackedBitsModel", "top", "()I"⟩, 17), (⟨"PackedBitsModel", "pop", "()I"⟩, 17), (⟨"PackedBitsModel", "readsOn", "()Z"⟩, 17), (⟨"PackedBitsModel", "doTo", "(I)V"⟩, 17), (⟨"PackedBitsModel", "fail", "(III)I"⟩, 17), (⟨"PackedBitsModel", "placeOf", "(II)I"⟩, 17)]
theorem lw_r3 : ∀ q ∈ lw_privs_3, lw_okq q := List.forall_mem_cons.mpr ⟨lw_p32, List.forall_mem_cons.mpr ⟨lw_p33, List.forall_mem_cons.mpr ⟨lw_p34, List.forall_mem_cons.mpr ⟨lw_p35, List.forall_mem_cons.mpr ⟨lw_p36, List.forall_mem_cons.mpr ⟨lw_p37, List.forall_mem_cons.mpr ⟨lw_p38, List.forall_mem_cons.mpr ⟨lw_p39, List.forall_mem_cons.mpr ⟨lw_p40, List.forall_mem_cons.mpr ⟨lw_p41, List.forall_mem_cons.mpr ⟨lw_p42, List.forall_mem_cons.mpr ⟨lw_p43, List.forall_mem_cons.mpr ⟨lw_p44, List.forall_mem_cons.mpr ⟨lw_p45, List.forall_mem_cons.mpr ⟨lw_p46, List.forall_mem_cons.mpr ⟨lw_p47, fun _ h => absurd h List.not_mem_nil⟩⟩⟩⟩⟩⟩⟩⟩⟩⟩⟩⟩⟩⟩⟩⟩
theorem lw_p48 : lw_okq (⟨"PackedBitsModel", "codeAt", "(II)I"⟩, 17) := ⟨⟨by decide +kernel, by decide +kernel⟩, List.mem_of_getElem? (i := 449) (by decide +kernel), List.mem_of_getElem? (i := 719) (by decide +kernel), List.mem_of_getElem? (i := 720) (by decide +kernel)⟩
theorem lw_p49 : lw_okq (⟨"PackedBitsModel", "areSame", "(II)Z"⟩, 17) := ⟨⟨by decide +kernel, by decide +kernel⟩, List.mem_of_getElem? (i := 449) (by decide +kernel), List.mem_of_getElem? (i := 745) (by decide +kernel), List.mem_of_getElem? (i := 746) (by decide +kernel)⟩
def lw_privs_4 : List (MethodName × Nat) := [(⟨"PackedBitsModel", "codeAt", "(II)I"⟩, 17), (⟨"PackedBitsModel", "areSame", "(II)Z"⟩, 17)]
theorem lw_r4 : ∀ q ∈ lw_privs_4, lw_okq q := List.forall_mem_cons.mpr ⟨lw_p48, List.forall_mem_cons.mpr ⟨lw_p49, fun _ h => absurd h List.not_mem_nil⟩⟩
def lw_privs : List (MethodName × Nat) := lw_privs_1 ++ (lw_privs_2 ++ (lw_privs_3 ++ (lw_privs_4)))
def lw_tbl : List Cond := k2_sels lw_privs ++ tables_1
theorem lw_privs_ok : ∀ q ∈ lw_privs, lw_okq q := by
  show ∀ q ∈ lw_privs_1 ++ (lw_privs_2 ++ (lw_privs_3 ++ (lw_privs_4))), lw_okq q
  exact List.forall_mem_append.mpr ⟨lw_r1, List.forall_mem_append.mpr ⟨lw_r2, List.forall_mem_append.mpr ⟨lw_r3, lw_r4⟩⟩⟩
def RX0 : String := "PackedBits$Bits"
def TX0 : u_T := fun k => match k with
  | 0 => ("PackedBits$Bits", "groups", "[I", true)
  | _ => ("PackedBits$Bits", "length", "I", false)
def tyX0 : Nat → FieldType := fun k => match k with
  | 0 => .array .int
  | _ => .int
abbrev wsX00 : List Cond := u_ws RX0 TX0 2
theorem nmX0 : ∀ a, a < 2 → ∀ b, b < 2 → a ≠ b → (TX0 a).2.1 ≠ (TX0 b).2.1 := by decide +kernel
theorem tyX0_ok : ∀ k, k < 2 → parseFieldDescriptor (TX0 k).2.2.1 = some (tyX0 k) := by decide +kernel
abbrev cX0_init : ByteArray := prog_2_method_1_code
def yX0_init : MethodName := ⟨RX0, "<init>", "()V"⟩
abbrev cX0_groupCount : ByteArray := prog_2_method_2_code
def yX0_groupCount : MethodName := ⟨RX0, "groupCount", "()I"⟩
abbrev cX0_groupAt : ByteArray := prog_2_method_3_code
def yX0_groupAt : MethodName := ⟨RX0, "groupAt", "(I)I"⟩
abbrev cX0_valueAt : ByteArray := prog_2_method_4_code
def yX0_valueAt : MethodName := ⟨RX0, "valueAt", "(I)I"⟩
abbrev cX0_putAt : ByteArray := prog_2_method_5_code
def yX0_putAt : MethodName := ⟨RX0, "putAt", "(II)V"⟩
abbrev cX0_copyFrom : ByteArray := prog_2_method_6_code
def yX0_copyFrom : MethodName := ⟨RX0, "copyFrom", "(LPackedBits$Bits;)V"⟩
abbrev cX0_cutTo : ByteArray := prog_2_method_7_code
def yX0_cutTo : MethodName := ⟨RX0, "cutTo", "(I)V"⟩
abbrev cX0_addRun : ByteArray := prog_2_method_8_code
def yX0_addRun : MethodName := ⟨RX0, "addRun", "(II)V"⟩
abbrev cX0_addNumber : ByteArray := prog_2_method_9_code
def yX0_addNumber : MethodName := ⟨RX0, "addNumber", "(II)V"⟩
abbrev cX0_invert : ByteArray := prog_2_method_10_code
def yX0_invert : MethodName := ⟨RX0, "invert", "()V"⟩
abbrev cX0_combine : ByteArray := prog_2_method_11_code
def yX0_combine : MethodName := ⟨RX0, "combine", "(ILPackedBits$Bits;LPackedBits$Bits;)V"⟩
abbrev cX0_combined : ByteArray := prog_2_method_12_code
def yX0_combined : MethodName := ⟨RX0, "combined", "(III)I"⟩
abbrev cX0_moveFrom : ByteArray := prog_2_method_13_code
def yX0_moveFrom : MethodName := ⟨RX0, "moveFrom", "(LPackedBits$Bits;I)V"⟩
abbrev cX0_ones : ByteArray := prog_2_method_14_code
def yX0_ones : MethodName := ⟨RX0, "ones", "()I"⟩
abbrev cX0_onesBefore : ByteArray := prog_2_method_15_code
def yX0_onesBefore : MethodName := ⟨RX0, "onesBefore", "(I)I"⟩
abbrev cX0_placeOfOne : ByteArray := prog_2_method_16_code
def yX0_placeOfOne : MethodName := ⟨RX0, "placeOfOne", "(I)I"⟩
abbrev cX0_placeInGroup : ByteArray := prog_2_method_17_code
def yX0_placeInGroup : MethodName := ⟨RX0, "placeInGroup", "(II)I"⟩
abbrev cX0_matches : ByteArray := prog_2_method_18_code
def yX0_matches : MethodName := ⟨RX0, "matches", "(LPackedBits$Bits;)Z"⟩
abbrev cX0_maskBefore : ByteArray := prog_2_method_19_code
def yX0_maskBefore : MethodName := ⟨RX0, "maskBefore", "(II)I"⟩
def RX1 : String := "PackedBits$Change"
def TX1 : u_T := fun k => match k with
  | 0 => ("PackedBits$Change", "before", "LPackedBits$Bits;", true)
  | 1 => ("PackedBits$Change", "made", "I", false)
  | _ => ("PackedBits$Change", "number", "I", false)
def tyX1 : Nat → FieldType := fun k => match k with
  | 0 => .object "PackedBits$Bits"
  | 1 => .int
  | _ => .int
abbrev wsX10 : List Cond := u_ws RX1 TX1 3
theorem nmX1 : ∀ a, a < 3 → ∀ b, b < 3 → a ≠ b → (TX1 a).2.1 ≠ (TX1 b).2.1 := by decide +kernel
theorem tyX1_ok : ∀ k, k < 3 → parseFieldDescriptor (TX1 k).2.2.1 = some (tyX1 k) := by decide +kernel
abbrev cX1_init : ByteArray := prog_3_method_1_code
def yX1_init : MethodName := ⟨RX1, "<init>", "()V"⟩
def RX2 : String := "PackedBits$Expression"
def TX2 : u_T := fun k => match k with
  | 0 => ("PackedBits$Expression", "signs", "[C", true)
  | 1 => ("PackedBits$Expression", "length", "I", false)
  | 2 => ("PackedBits$Expression", "kind", "I", false)
  | 3 => ("PackedBits$Expression", "place", "I", false)
  | 4 => ("PackedBits$Expression", "within", "I", false)
  | 5 => ("PackedBits$Expression", "values", "[LPackedBits$Bits;", true)
  | 6 => ("PackedBits$Expression", "rows", "[LPackedBits$Bits;", false)
  | 7 => ("PackedBits$Expression", "made", "I", false)
  | 8 => ("PackedBits$Expression", "at", "I", false)
  | _ => ("PackedBits$Expression", "failed", "Z", false)
def tyX2 : Nat → FieldType := fun k => match k with
  | 0 => .array .char
  | 1 => .int
  | 2 => .int
  | 3 => .int
  | 4 => .int
  | 5 => .array (.object "PackedBits$Bits")
  | 6 => .array (.object "PackedBits$Bits")
  | 7 => .int
  | 8 => .int
  | _ => .boolean
abbrev wsX20 : List Cond := u_ws RX2 TX2 10
theorem nmX2 : ∀ a, a < 10 → ∀ b, b < 10 → a ≠ b → (TX2 a).2.1 ≠ (TX2 b).2.1 := by decide +kernel
theorem tyX2_ok : ∀ k, k < 10 → parseFieldDescriptor (TX2 k).2.2.1 = some (tyX2 k) := by decide +kernel
abbrev cX2_init : ByteArray := prog_4_method_1_code
def yX2_init : MethodName := ⟨RX2, "<init>", "()V"⟩
abbrev cX2_addSign : ByteArray := prog_4_method_2_code
def yX2_addSign : MethodName := ⟨RX2, "addSign", "(C)V"⟩
abbrev cX2_result : ByteArray := prog_4_method_3_code
def yX2_result : MethodName := ⟨RX2, "result", "()LPackedBits$Bits;"⟩
abbrev cX2_read : ByteArray := prog_4_method_4_code
def yX2_read : MethodName := ⟨RX2, "read", "([LPackedBits$Bits;I)Z"⟩
abbrev cX2_readSum : ByteArray := prog_4_method_5_code
def yX2_readSum : MethodName := ⟨RX2, "readSum", "(II)Z"⟩
abbrev cX2_readProduct : ByteArray := prog_4_method_6_code
def yX2_readProduct : MethodName := ⟨RX2, "readProduct", "(II)Z"⟩
abbrev cX2_combineAt : ByteArray := prog_4_method_7_code
def yX2_combineAt : MethodName := ⟨RX2, "combineAt", "(II)V"⟩
abbrev cX2_readFactor : ByteArray := prog_4_method_8_code
def yX2_readFactor : MethodName := ⟨RX2, "readFactor", "(II)Z"⟩
abbrev cX2_readBracket : ByteArray := prog_4_method_9_code
def yX2_readBracket : MethodName := ⟨RX2, "readBracket", "(II)Z"⟩
abbrev cX2_readRow : ByteArray := prog_4_method_10_code
def yX2_readRow : MethodName := ⟨RX2, "readRow", "(II)Z"⟩
abbrev cX2_readNumber : ByteArray := prog_4_method_11_code
def yX2_readNumber : MethodName := ⟨RX2, "readNumber", "(II)I"⟩
abbrev cX2_nextSign : ByteArray := prog_4_method_12_code
def yX2_nextSign : MethodName := ⟨RX2, "nextSign", "()C"⟩
abbrev cX2_signHere : ByteArray := prog_4_method_13_code
def yX2_signHere : MethodName := ⟨RX2, "signHere", "()C"⟩
abbrev cX2_isDigit : ByteArray := prog_4_method_14_code
def yX2_isDigit : MethodName := ⟨RX2, "isDigit", "(C)Z"⟩
abbrev cX2_breakOff : ByteArray := prog_4_method_15_code
def yX2_breakOff : MethodName := ⟨RX2, "breakOff", "(I)Z"⟩
abbrev cX2_fail : ByteArray := prog_4_method_16_code
def yX2_fail : MethodName := ⟨RX2, "fail", "(III)V"⟩
def RX3 : String := "PackedBits$History"
def TX3 : u_T := fun k => match k with
  | 0 => ("PackedBits$History", "changes", "[LPackedBits$Change;", true)
  | _ => ("PackedBits$History", "kept", "I", false)
def tyX3 : Nat → FieldType := fun k => match k with
  | 0 => .array (.object "PackedBits$Change")
  | _ => .int
abbrev wsX30 : List Cond := u_ws RX3 TX3 2
theorem nmX3 : ∀ a, a < 2 → ∀ b, b < 2 → a ≠ b → (TX3 a).2.1 ≠ (TX3 b).2.1 := by decide +kernel
theorem tyX3_ok : ∀ k, k < 2 → parseFieldDescriptor (TX3 k).2.2.1 = some (tyX3 k) := by decide +kernel
abbrev cX3_init : ByteArray := prog_5_method_1_code
def yX3_init : MethodName := ⟨RX3, "<init>", "()V"⟩
abbrev cX3_add : ByteArray := prog_5_method_2_code
def yX3_add : MethodName := ⟨RX3, "add", "(IILPackedBits$Bits;)V"⟩
abbrev cX3_dropOldest : ByteArray := prog_5_method_3_code
def yX3_dropOldest : MethodName := ⟨RX3, "dropOldest", "()V"⟩
abbrev cX3_removeLatest : ByteArray := prog_5_method_4_code
def yX3_removeLatest : MethodName := ⟨RX3, "removeLatest", "()LPackedBits$Change;"⟩
def RX4 : String := "PackedBits$Words"
def TX4 : u_T := fun k => match k with
  | _ => ("", "", "", false)
def tyX4 : Nat → FieldType := fun k => match k with
  | _ => .int
abbrev wsX40 : List Cond := u_ws RX4 TX4 0
theorem nmX4 : ∀ a, a < 0 → ∀ b, b < 0 → a ≠ b → (TX4 a).2.1 ≠ (TX4 b).2.1 := by decide +kernel
theorem tyX4_ok : ∀ k, k < 0 → parseFieldDescriptor (TX4 k).2.2.1 = some (tyX4 k) := by decide +kernel
abbrev cX4_isLiteral : ByteArray := prog_6_method_2_code
def yX4_isLiteral : MethodName := ⟨RX4, "isLiteral", "(I)Z"⟩
abbrev cX4_endOf : ByteArray := prog_6_method_3_code
def yX4_endOf : MethodName := ⟨RX4, "endOf", "(LPackedBits$Bits;I)I"⟩
abbrev cX4_size : ByteArray := prog_6_method_4_code
def yX4_size : MethodName := ⟨RX4, "size", "(LPackedBits$Bits;)I"⟩
abbrev cX4_literals : ByteArray := prog_6_method_5_code
def yX4_literals : MethodName := ⟨RX4, "literals", "(LPackedBits$Bits;)I"⟩
abbrev cX4_fillsOf : ByteArray := prog_6_method_6_code
def yX4_fillsOf : MethodName := ⟨RX4, "fillsOf", "(LPackedBits$Bits;I)I"⟩
abbrev cX4_codeOf : ByteArray := prog_6_method_7_code
def yX4_codeOf : MethodName := ⟨RX4, "codeOf", "(LPackedBits$Bits;I)I"⟩
abbrev cX4_code : ByteArray := prog_6_method_8_code
def yX4_code : MethodName := ⟨RX4, "code", "(II)I"⟩
abbrev cX4_work : ByteArray := prog_6_method_9_code
def yX4_work : MethodName := ⟨RX4, "work", "(LPackedBits$Bits;LPackedBits$Bits;)I"⟩
def RX5 : String := "PackedBits"
def TX5 : u_T := fun k => match k with
  | 0 => ("PackedBits", "rows", "[LPackedBits$Bits;", true)
  | 1 => ("PackedBits", "made", "I", false)
  | 2 => ("PackedBits", "history", "LPackedBits$History;", true)
  | 3 => ("PackedBits", "text", "LPackedBits$Expression;", true)
  | _ => ("PackedBits", "spare", "LPackedBits$Bits;", true)
def tyX5 : Nat → FieldType := fun k => match k with
  | 0 => .array (.object "PackedBits$Bits")
  | 1 => .int
  | 2 => .object "PackedBits$History"
  | 3 => .object "PackedBits$Expression"
  | _ => .object "PackedBits$Bits"
abbrev wsX50 : List Cond := u_ws RX5 TX5 5
theorem nmX5 : ∀ a, a < 5 → ∀ b, b < 5 → a ≠ b → (TX5 a).2.1 ≠ (TX5 b).2.1 := by decide +kernel
theorem tyX5_ok : ∀ k, k < 5 → parseFieldDescriptor (TX5 k).2.2.1 = some (tyX5 k) := by decide +kernel
abbrev cX5_init : ByteArray := prog_1_method_1_code
def yX5_init : MethodName := ⟨RX5, "<init>", "()V"⟩
abbrev cX5_make : ByteArray := prog_1_method_2_code
def yX5_make : MethodName := ⟨RX5, "make", "()I"⟩
abbrev cX5_append : ByteArray := prog_1_method_3_code
def yX5_append : MethodName := ⟨RX5, "append", "(III)I"⟩
abbrev cX5_write : ByteArray := prog_1_method_4_code
def yX5_write : MethodName := ⟨RX5, "write", "(III)I"⟩
abbrev cX5_set : ByteArray := prog_1_method_5_code
def yX5_set : MethodName := ⟨RX5, "set", "(III)I"⟩
abbrev cX5_resize : ByteArray := prog_1_method_6_code
def yX5_resize : MethodName := ⟨RX5, "resize", "(II)I"⟩
abbrev cX5_operate : ByteArray := prog_1_method_7_code
def yX5_operate : MethodName := ⟨RX5, "operate", "(IIII)I"⟩
abbrev cX5_not : ByteArray := prog_1_method_8_code
def yX5_not : MethodName := ⟨RX5, "not", "(I)I"⟩
abbrev cX5_shift : ByteArray := prog_1_method_9_code
def yX5_shift : MethodName := ⟨RX5, "shift", "(II)I"⟩
abbrev cX5_undo : ByteArray := prog_1_method_10_code
def yX5_undo : MethodName := ⟨RX5, "undo", "()I"⟩
abbrev cX5_type : ByteArray := prog_1_method_11_code
def yX5_type : MethodName := ⟨RX5, "type", "(I)I"⟩
abbrev cX5_clearText : ByteArray := prog_1_method_12_code
def yX5_clearText : MethodName := ⟨RX5, "clearText", "()I"⟩
abbrev cX5_evaluate : ByteArray := prog_1_method_13_code
def yX5_evaluate : MethodName := ⟨RX5, "evaluate", "(I)I"⟩
abbrev cX5_failure : ByteArray := prog_1_method_14_code
def yX5_failure : MethodName := ⟨RX5, "failure", "(I)I"⟩
abbrev cX5_count : ByteArray := prog_1_method_15_code
def yX5_count : MethodName := ⟨RX5, "count", "(I)I"⟩
abbrev cX5_row : ByteArray := prog_1_method_16_code
def yX5_row : MethodName := ⟨RX5, "row", "(II)I"⟩
abbrev cX5_word : ByteArray := prog_1_method_17_code
def yX5_word : MethodName := ⟨RX5, "word", "(II)I"⟩
abbrev cX5_bit : ByteArray := prog_1_method_18_code
def yX5_bit : MethodName := ⟨RX5, "bit", "(II)I"⟩
abbrev cX5_rank : ByteArray := prog_1_method_19_code
def yX5_rank : MethodName := ⟨RX5, "rank", "(II)I"⟩
abbrev cX5_select : ByteArray := prog_1_method_20_code
def yX5_select : MethodName := ⟨RX5, "select", "(II)I"⟩
abbrev cX5_would : ByteArray := prog_1_method_21_code
def yX5_would : MethodName := ⟨RX5, "would", "(IIII)I"⟩
abbrev cX5_same : ByteArray := prog_1_method_22_code
def yX5_same : MethodName := ⟨RX5, "same", "(I)I"⟩
abbrev cX5_bestShift : ByteArray := prog_1_method_23_code
def yX5_bestShift : MethodName := ⟨RX5, "bestShift", "(I)I"⟩
abbrev cX5_record : ByteArray := prog_1_method_24_code
def yX5_record : MethodName := ⟨RX5, "record", "(I)V"⟩
abbrev cX5_sum : ByteArray := prog_1_method_25_code
def yX5_sum : MethodName := ⟨RX5, "sum", "(I)I"⟩
abbrev cX5_property : ByteArray := prog_1_method_26_code
def yX5_property : MethodName := ⟨RX5, "property", "(LPackedBits$Bits;I)I"⟩
abbrev cX5_isRow : ByteArray := prog_1_method_27_code
def yX5_isRow : MethodName := ⟨RX5, "isRow", "(I)Z"⟩
abbrev cX5_isPlace : ByteArray := prog_1_method_28_code
def yX5_isPlace : MethodName := ⟨RX5, "isPlace", "(II)Z"⟩
abbrev cX5_isBit : ByteArray := prog_1_method_29_code
def yX5_isBit : MethodName := ⟨RX5, "isBit", "(I)Z"⟩
abbrev cX5_isOperation : ByteArray := prog_1_method_30_code
def yX5_isOperation : MethodName := ⟨RX5, "isOperation", "(I)Z"⟩
abbrev cX5_isWithin : ByteArray := prog_1_method_31_code
def yX5_isWithin : MethodName := ⟨RX5, "isWithin", "(III)Z"⟩
def RX6 : String := "PackedBitsModel"
def TX6 : u_T := fun k => match k with
  | 0 => ("PackedBitsModel", "all", "[I", true)
  | 1 => ("PackedBitsModel", "states", "I", false)
  | 2 => ("PackedBitsModel", "text", "[I", true)
  | 3 => ("PackedBitsModel", "length", "I", false)
  | 4 => ("PackedBitsModel", "ends", "[I", true)
  | 5 => ("PackedBitsModel", "failed", "I", false)
  | 6 => ("PackedBitsModel", "failedAt", "I", false)
  | 7 => ("PackedBitsModel", "failedWithin", "I", false)
  | 8 => ("PackedBitsModel", "pos", "I", false)
  | 9 => ("PackedBitsModel", "signs", "[I", true)
  | 10 => ("PackedBitsModel", "signMany", "I", false)
  | 11 => ("PackedBitsModel", "within", "I", false)
  | 12 => ("PackedBitsModel", "made", "I", false)
  | 13 => ("PackedBitsModel", "does", "Z", false)
  | 14 => ("PackedBitsModel", "wrongAt", "I", false)
  | 15 => ("PackedBitsModel", "wrongWithin", "I", false)
  | _ => ("PackedBitsModel", "number", "I", false)
def tyX6 : Nat → FieldType := fun k => match k with
  | 0 => .array .int
  | 1 => .int
  | 2 => .array .int
  | 3 => .int
  | 4 => .array .int
  | 5 => .int
  | 6 => .int
  | 7 => .int
  | 8 => .int
  | 9 => .array .int
  | 10 => .int
  | 11 => .int
  | 12 => .int
  | 13 => .boolean
  | 14 => .int
  | 15 => .int
  | _ => .int
abbrev wsX60 : List Cond := u_ws RX6 TX6 17
theorem nmX6 : ∀ a, a < 17 → ∀ b, b < 17 → a ≠ b → (TX6 a).2.1 ≠ (TX6 b).2.1 := by decide +kernel
theorem tyX6_ok : ∀ k, k < 17 → parseFieldDescriptor (TX6 k).2.2.1 = some (tyX6 k) := by decide +kernel
abbrev cX6_init : ByteArray := prog_8_method_1_code
def yX6_init : MethodName := ⟨RX6, "<init>", "()V"⟩
abbrev cX6_in : ByteArray := prog_8_method_2_code
def yX6_in : MethodName := ⟨RX6, "in", "(III)Z"⟩
abbrev cX6_copyState : ByteArray := prog_8_method_3_code
def yX6_copyState : MethodName := ⟨RX6, "copyState", "(II)V"⟩
abbrev cX6_record : ByteArray := prog_8_method_4_code
def yX6_record : MethodName := ⟨RX6, "record", "()V"⟩
abbrev cX6_undo : ByteArray := prog_8_method_5_code
def yX6_undo : MethodName := ⟨RX6, "undo", "()I"⟩
abbrev cX6_isRow : ByteArray := prog_8_method_6_code
def yX6_isRow : MethodName := ⟨RX6, "isRow", "(I)Z"⟩
abbrev cX6_at : ByteArray := prog_8_method_7_code
def yX6_at : MethodName := ⟨RX6, "at", "(I)I"⟩
abbrev cX6_asked : ByteArray := prog_8_method_8_code
def yX6_asked : MethodName := ⟨RX6, "asked", "(I)I"⟩
abbrev cX6_bitOf : ByteArray := prog_8_method_9_code
def yX6_bitOf : MethodName := ⟨RX6, "bitOf", "(II)I"⟩
abbrev cX6_put : ByteArray := prog_8_method_10_code
def yX6_put : MethodName := ⟨RX6, "put", "(III)V"⟩
abbrev cX6_copy : ByteArray := prog_8_method_11_code
def yX6_copy : MethodName := ⟨RX6, "copy", "(II)V"⟩
abbrev cX6_ones : ByteArray := prog_8_method_12_code
def yX6_ones : MethodName := ⟨RX6, "ones", "(I)I"⟩
abbrev cX6_groups : ByteArray := prog_8_method_13_code
def yX6_groups : MethodName := ⟨RX6, "groups", "(I)I"⟩
abbrev cX6_group : ByteArray := prog_8_method_14_code
def yX6_group : MethodName := ⟨RX6, "group", "(II)I"⟩
abbrev cX6_kind : ByteArray := prog_8_method_15_code
def yX6_kind : MethodName := ⟨RX6, "kind", "(II)I"⟩
abbrev cX6_behind : ByteArray := prog_8_method_16_code
def yX6_behind : MethodName := ⟨RX6, "behind", "(II)I"⟩
abbrev cX6_words : ByteArray := prog_8_method_17_code
def yX6_words : MethodName := ⟨RX6, "words", "(II)I"⟩
abbrev cX6_codeAt : ByteArray := prog_8_method_18_code
def yX6_codeAt : MethodName := ⟨RX6, "codeAt", "(II)I"⟩
abbrev cX6_result : ByteArray := prog_8_method_19_code
def yX6_result : MethodName := ⟨RX6, "result", "(III)I"⟩
abbrev cX6_operateOn : ByteArray := prog_8_method_20_code
def yX6_operateOn : MethodName := ⟨RX6, "operateOn", "(IIII)V"⟩
abbrev cX6_turn : ByteArray := prog_8_method_21_code
def yX6_turn : MethodName := ⟨RX6, "turn", "(I)V"⟩
abbrev cX6_shiftOn : ByteArray := prog_8_method_22_code
def yX6_shiftOn : MethodName := ⟨RX6, "shiftOn", "(II)V"⟩
abbrev cX6_workOf : ByteArray := prog_8_method_23_code
def yX6_workOf : MethodName := ⟨RX6, "workOf", "(II)I"⟩
abbrev cX6_make : ByteArray := prog_8_method_24_code
def yX6_make : MethodName := ⟨RX6, "make", "()I"⟩
abbrev cX6_push : ByteArray := prog_8_method_25_code
def yX6_push : MethodName := ⟨RX6, "push", "(II)V"⟩
abbrev cX6_append : ByteArray := prog_8_method_26_code
def yX6_append : MethodName := ⟨RX6, "append", "(III)I"⟩
abbrev cX6_write : ByteArray := prog_8_method_27_code
def yX6_write : MethodName := ⟨RX6, "write", "(III)I"⟩
abbrev cX6_isPlace : ByteArray := prog_8_method_28_code
def yX6_isPlace : MethodName := ⟨RX6, "isPlace", "(III)Z"⟩
abbrev cX6_set : ByteArray := prog_8_method_29_code
def yX6_set : MethodName := ⟨RX6, "set", "(III)I"⟩
abbrev cX6_resize : ByteArray := prog_8_method_30_code
def yX6_resize : MethodName := ⟨RX6, "resize", "(II)I"⟩
abbrev cX6_operate : ByteArray := prog_8_method_31_code
def yX6_operate : MethodName := ⟨RX6, "operate", "(IIII)I"⟩
abbrev cX6_not : ByteArray := prog_8_method_32_code
def yX6_not : MethodName := ⟨RX6, "not", "(I)I"⟩
abbrev cX6_shift : ByteArray := prog_8_method_33_code
def yX6_shift : MethodName := ⟨RX6, "shift", "(II)I"⟩
abbrev cX6_type : ByteArray := prog_8_method_34_code
def yX6_type : MethodName := ⟨RX6, "type", "(I)I"⟩
abbrev cX6_clearText : ByteArray := prog_8_method_35_code
def yX6_clearText : MethodName := ⟨RX6, "clearText", "()I"⟩
abbrev cX6_code : ByteArray := prog_8_method_36_code
def yX6_code : MethodName := ⟨RX6, "code", "()I"⟩
abbrev cX6_wrong : ByteArray := prog_8_method_37_code
def yX6_wrong : MethodName := ⟨RX6, "wrong", "(ZI)V"⟩
abbrev cX6_readsNumber : ByteArray := prog_8_method_38_code
def yX6_readsNumber : MethodName := ⟨RX6, "readsNumber", "()Z"⟩
abbrev cX6_push_ : ByteArray := prog_8_method_39_code
def yX6_push_ : MethodName := ⟨RX6, "push", "(I)V"⟩
abbrev cX6_pop : ByteArray := prog_8_method_40_code
def yX6_pop : MethodName := ⟨RX6, "pop", "()I"⟩
abbrev cX6_top : ByteArray := prog_8_method_41_code
def yX6_top : MethodName := ⟨RX6, "top", "()I"⟩
abbrev cX6_rank : ByteArray := prog_8_method_42_code
def yX6_rank : MethodName := ⟨RX6, "rank", "(I)I"⟩
abbrev cX6_operationOf : ByteArray := prog_8_method_43_code
def yX6_operationOf : MethodName := ⟨RX6, "operationOf", "(I)I"⟩
abbrev cX6_doTo : ByteArray := prog_8_method_44_code
def yX6_doTo : MethodName := ⟨RX6, "doTo", "(I)V"⟩
abbrev cX6_closeFactor : ByteArray := prog_8_method_45_code
def yX6_closeFactor : MethodName := ⟨RX6, "closeFactor", "()V"⟩
abbrev cX6_readsRow : ByteArray := prog_8_method_46_code
def yX6_readsRow : MethodName := ⟨RX6, "readsRow", "()Z"⟩
abbrev cX6_readsFactor : ByteArray := prog_8_method_47_code
def yX6_readsFactor : MethodName := ⟨RX6, "readsFactor", "()Z"⟩
abbrev cX6_readsOn : ByteArray := prog_8_method_48_code
def yX6_readsOn : MethodName := ⟨RX6, "readsOn", "()Z"⟩
abbrev cX6_reads : ByteArray := prog_8_method_49_code
def yX6_reads : MethodName := ⟨RX6, "reads", "(Z)Z"⟩
abbrev cX6_fail : ByteArray := prog_8_method_50_code
def yX6_fail : MethodName := ⟨RX6, "fail", "(III)I"⟩
abbrev cX6_evaluate : ByteArray := prog_8_method_51_code
def yX6_evaluate : MethodName := ⟨RX6, "evaluate", "(I)I"⟩
abbrev cX6_failure : ByteArray := prog_8_method_52_code
def yX6_failure : MethodName := ⟨RX6, "failure", "(I)I"⟩
abbrev cX6_count : ByteArray := prog_8_method_53_code
def yX6_count : MethodName := ⟨RX6, "count", "(I)I"⟩
abbrev cX6_placeOf : ByteArray := prog_8_method_54_code
def yX6_placeOf : MethodName := ⟨RX6, "placeOf", "(II)I"⟩
abbrev cX6_row : ByteArray := prog_8_method_55_code
def yX6_row : MethodName := ⟨RX6, "row", "(II)I"⟩
abbrev cX6_word : ByteArray := prog_8_method_56_code
def yX6_word : MethodName := ⟨RX6, "word", "(II)I"⟩
abbrev cX6_bit : ByteArray := prog_8_method_57_code
def yX6_bit : MethodName := ⟨RX6, "bit", "(II)I"⟩
abbrev cX6_rank_ : ByteArray := prog_8_method_58_code
def yX6_rank_ : MethodName := ⟨RX6, "rank", "(II)I"⟩
abbrev cX6_select : ByteArray := prog_8_method_59_code
def yX6_select : MethodName := ⟨RX6, "select", "(II)I"⟩
abbrev cX6_would : ByteArray := prog_8_method_60_code
def yX6_would : MethodName := ⟨RX6, "would", "(IIII)I"⟩
abbrev cX6_areSame : ByteArray := prog_8_method_61_code
def yX6_areSame : MethodName := ⟨RX6, "areSame", "(II)Z"⟩
abbrev cX6_same : ByteArray := prog_8_method_62_code
def yX6_same : MethodName := ⟨RX6, "same", "(I)I"⟩
abbrev cX6_bestShift : ByteArray := prog_8_method_63_code
def yX6_bestShift : MethodName := ⟨RX6, "bestShift", "(I)I"⟩
def RJ6 : String := "java/lang/Integer"
abbrev cJ6_bitCount_0f7a4 : ByteArray := prog_9_method_49_code
def yJ6_bitCount_0f7a4 : MethodName := ⟨RJ6, "bitCount", "(I)I"⟩
def RJ9 : String := "java/lang/Math"
abbrev cJ9_floorDiv_7cf53 : ByteArray := prog_10_method_47_code
def yJ9_floorDiv_7cf53 : MethodName := ⟨RJ9, "floorDiv", "(II)I"⟩
abbrev cJ9_floorMod_7cf53 : ByteArray := prog_10_method_50_code
def yJ9_floorMod_7cf53 : MethodName := ⟨RJ9, "floorMod", "(II)I"⟩
abbrev cJ9_max_7cf53 : ByteArray := prog_10_method_65_code
def yJ9_max_7cf53 : MethodName := ⟨RJ9, "max", "(II)I"⟩
abbrev cJ9_min_7cf53 : ByteArray := prog_10_method_69_code
def yJ9_min_7cf53 : MethodName := ⟨RJ9, "min", "(II)I"⟩
def RJ10 : String := "java/lang/System"
def RL : String := "PackedBitsLaw"
abbrev cL_law : ByteArray := code
def yL_law : MethodName := ⟨RL, "law", "([I)Z"⟩
abbrev vwCl : List vw_C := [(RX0, TX0, 2), (RX1, TX1, 3), (RX2, TX2, 10), (RX3, TX3, 2), (RX5, TX5, 5), (RX6, TX6, 17)]
end
section
/-! THE MEMORY: cells in the order in which they are made, from the address B on; a cell has a kind and a size, numbers I and cells' numbers P -/
abbrev gV : Type := Int32 ⊕ Option Nat
abbrev vi (x : Int32) : gV := .inl x
abbrev vr (a : Nat) : gV := .inr (some a)
abbrev vsc : gV := .inr none
def gv (B b : Nat) (v : gV) : Value := match v with
  | .inl x => .int x
  | .inr (some a) => .ref (B + a)
  | .inr none => .ref b
abbrev gI : Type := Nat → Nat → Int32
abbrev gP : Type := Nat → Nat → Option Nat
abbrev gM : Type := List (Nat × Nat) × gI × gP
/-- number of fields of a class (its place in vwCl), and which of them hold cells -/
def gN (ci : Nat) : Nat := match ci with
  | 0 => 2
  | 1 => 3
  | 2 => 10
  | 3 => 2
  | 4 => 5
  | _ => 17
def gR (ci k : Nat) : Bool := match ci with
  | 0 => k == 0
  | 1 => k == 0
  | 2 => k == 0 || k == 5 || k == 6
  | 3 => k == 0
  | 4 => k == 0 || k == 2 || k == 3 || k == 4
  | _ => k == 0 || k == 2 || k == 4 || k == 9
def gF (B : Nat) (I : gI) (P : gP) (ci a k : Nat) : Value := if gR ci k = true then va_rf ((P a k).map (fun x => B + x)) else .int (I a k)
/-- kinds: 0 to 5 an object of this place in vwCl; 10 ints, 11 chars, 12 rows of bits, 13 changes -/
def gE (Gc : Nat → ClassId) (B : Nat) (I : gI) (P : gP) (a : Nat) (sh : Nat × Nat) : va_E :=
  if sh.1 < 10 then .inr (sh.1, (List.range (gN sh.1)).map (gF B I P sh.1 a))
  else if sh.1 < 12 then .inl (Gc sh.1, sh.2, .inl (I a))
  else .inl (Gc sh.1, sh.2, .inr (.inr (.inr (.inr (fun j => (P a j).map (fun x => B + x))))))
def gW (Gc : Nat → ClassId) (B : Nat) (M : gM) : va_W := M.1.mapIdx fun a sh => (B + a, gE Gc B M.2.1 M.2.2 a sh)
def uI (I : gI) (a k : Nat) (x : Int32) : gI := fun c => if c = a then upd (I c) k x else I c
def uP (P : gP) (a k : Nat) (x : Option Nat) : gP := fun c => if c = a then va_up (P c) k x else P c
theorem gW_at {Gc : Nat → ClassId} {B : Nat} {M : gM} {a : Nat} {sh : Nat × Nat} (h : M.1[a]? = some sh) : (gW Gc B M)[a]? = some (B + a, gE Gc B M.2.1 M.2.2 a sh) := by
  simp [gW, List.getElem?_mapIdx, h]
theorem gW_of {Gc : Nat → ClassId} {B : Nat} {M : gM} {a : Nat} {q : Nat × va_E} (h : (gW Gc B M)[a]? = some q) : ∃ sh, M.1[a]? = some sh ∧ q = (B + a, gE Gc B M.2.1 M.2.2 a sh) := by
  simp only [gW, List.getElem?_mapIdx, Option.map_eq_some_iff] at h
  obtain ⟨sh, h1, h2⟩ := h
  exact ⟨sh, h1, h2.symm⟩
theorem gW_D {Gc : Nat → ClassId} {B : Nat} {M : gM} : va_D (fun q => B ≤ q) (gW Gc B M) := by
  refine ⟨fun i j p q hp hq h => ?_, fun k q hq => ?_⟩
  · obtain ⟨_, _, rfl⟩ := gW_of hp
    obtain ⟨_, _, rfl⟩ := gW_of hq
    have h' : B + i = B + j := h
    omega
  · obtain ⟨_, _, rfl⟩ := gW_of hq
    exact Nat.le_add_right _ _
theorem gE_uI_ne {Gc : Nat → ClassId} {B : Nat} {I : gI} {P : gP} {a c k : Nat} {x : Int32} {sh : Nat × Nat} (h : c ≠ a) : gE Gc B (uI I a k x) P c sh = gE Gc B I P c sh := by
  have e : uI I a k x c = I c := by simp [uI, h]
  have e2 : gF B (uI I a k x) P sh.1 c = gF B I P sh.1 c := by funext j; simp [gF, e]
  simp only [gE, e, e2]
theorem gE_uP_ne {Gc : Nat → ClassId} {B : Nat} {I : gI} {P : gP} {a c k : Nat} {x : Option Nat} {sh : Nat × Nat} (h : c ≠ a) : gE Gc B I (uP P a k x) c sh = gE Gc B I P c sh := by
  have e : uP P a k x c = P c := by simp [uP, h]
  have e2 : gF B I (uP P a k x) sh.1 c = gF B I P sh.1 c := by funext j; simp [gF, e]
  simp only [gE, e, e2]
theorem gW_set {Gc : Nat → ClassId} {B : Nat} {S : List (Nat × Nat)} {I I' : gI} {P P' : gP} {a : Nat} {sh : Nat × Nat} (h : S[a]? = some sh) (hne : ∀ c s, c ≠ a → gE Gc B I' P' c s = gE Gc B I P c s) : gW Gc B (S, I', P') = (gW Gc B (S, I, P)).set a (B + a, gE Gc B I' P' a sh) := by
  apply List.ext_getElem?
  intro i
  by_cases hi : i = a
  · subst hi
    have hlt : i < (gW Gc B (S, I, P)).length := by
      simp only [gW, List.length_mapIdx]
      exact (List.getElem?_eq_some_iff.mp h).1
    rw [List.getElem?_set_self hlt]
    exact gW_at h
  · rw [List.getElem?_set_ne (Ne.symm hi)]
    simp only [gW, List.getElem?_mapIdx]
    cases S[i]? with
    | none => rfl
    | some s => simp [hne i s hi]
theorem gW_uI {Gc : Nat → ClassId} {B : Nat} {S : List (Nat × Nat)} {I : gI} {P : gP} {a k : Nat} {x : Int32} {sh : Nat × Nat} (h : S[a]? = some sh) : gW Gc B (S, uI I a k x, P) = (gW Gc B (S, I, P)).set a (B + a, gE Gc B (uI I a k x) P a sh) := gW_set h fun _ _ hc => gE_uI_ne hc
theorem gW_uP {Gc : Nat → ClassId} {B : Nat} {S : List (Nat × Nat)} {I : gI} {P : gP} {a k : Nat} {x : Option Nat} {sh : Nat × Nat} (h : S[a]? = some sh) : gW Gc B (S, I, uP P a k x) = (gW Gc B (S, I, P)).set a (B + a, gE Gc B I (uP P a k x) a sh) := gW_set h fun _ _ hc => gE_uP_ne hc
theorem gE_obj {Gc : Nat → ClassId} {B : Nat} {I : gI} {P : gP} {a ci n : Nat} (h : ci < 10) : gE Gc B I P a (ci, n) = .inr (ci, (List.range (gN ci)).map (gF B I P ci a)) := by simp [gE, h]
theorem gE_int {Gc : Nat → ClassId} {B : Nat} {I : gI} {P : gP} {a kd n : Nat} (h1 : ¬ kd < 10) (h2 : kd < 12) : gE Gc B I P a (kd, n) = .inl (Gc kd, n, .inl (I a)) := by simp [gE, h1, h2]
theorem gE_ref {Gc : Nat → ClassId} {B : Nat} {I : gI} {P : gP} {a kd n : Nat} (h2 : ¬ kd < 12) : gE Gc B I P a (kd, n) = .inl (Gc kd, n, .inr (.inr (.inr (.inr (fun j => (P a j).map (fun x => B + x)))))) := by
  have h1 : ¬ kd < 10 := by omega
  simp [gE, h1, h2]
theorem gFs_at {B : Nat} {I : gI} {P : gP} {ci a k : Nat} (h : k < gN ci) : ((List.range (gN ci)).map (gF B I P ci a))[k]? = some (gF B I P ci a k) := by
  simp [h]
theorem gFs_uI {B : Nat} {I : gI} {P : gP} {ci a k : Nat} {x : Int32} (h : k < gN ci) (hr : gR ci k = false) : (List.range (gN ci)).map (gF B (uI I a k x) P ci a) = ((List.range (gN ci)).map (gF B I P ci a)).set k (.int x) := by
  apply List.ext_getElem?
  intro i
  by_cases hi : i = k
  · subst hi
    rw [List.getElem?_set_self (by simpa using h), gFs_at h]
    simp [gF, hr, uI, upd]
  · rw [List.getElem?_set_ne (Ne.symm hi)]
    simp only [List.getElem?_map]
    cases hh : (List.range (gN ci))[i]? with
    | none => rfl
    | some j =>
      by_cases hj : j = k
      · exfalso
        obtain ⟨_, h3⟩ := List.getElem?_eq_some_iff.mp hh
        simp at h3
        omega
      · simp [gF, uI, upd, hj]
theorem gFs_uP {B : Nat} {I : gI} {P : gP} {ci a k : Nat} {x : Option Nat} (h : k < gN ci) (hr : gR ci k = true) : (List.range (gN ci)).map (gF B I (uP P a k x) ci a) = ((List.range (gN ci)).map (gF B I P ci a)).set k (va_rf (x.map (fun y => B + y))) := by
  apply List.ext_getElem?
  intro i
  by_cases hi : i = k
  · subst hi
    rw [List.getElem?_set_self (by simpa using h), gFs_at h]
    simp [gF, hr, uP, va_up]
  · rw [List.getElem?_set_ne (Ne.symm hi)]
    simp only [List.getElem?_map]
    cases hh : (List.range (gN ci))[i]? with
    | none => rfl
    | some j =>
      by_cases hj : j = k
      · exfalso
        obtain ⟨_, h3⟩ := List.getElem?_eq_some_iff.mp hh
        simp at h3
        omega
      · simp [gF, uP, va_up, hj]
/-! THE WORDS that every method may use, and what the tables say besides -/
def gT : List Cond := lw_tbl.filter goodWord
theorem gT_in {w : Cond} (i : Nat) (h : lw_tbl[i]? = some w) (hg : goodWord w = true) : w ∈ gT := List.mem_filter.mpr ⟨List.mem_of_getElem? h, hg⟩
theorem gT_good {ws : List Cond} (h : ∀ w ∈ ws, w ∈ gT) : GoodIn gT ws := fun w hw => ⟨h w hw, good_of_word (List.mem_filter.mp (h w hw)).2⟩
def gTy (Gc : Nat → ClassId) : List (ClassId × FieldType) := [(Gc 10, .int), (Gc 11, .char), (Gc 12, .object RX0), (Gc 13, .object RX1)]
def gKK (D : va_G) (Gc : Nat → ClassId) (U : State) : Prop := va_K D vwCl (gTy Gc) U ∧ va_AO RX0 U ∧ va_AO RX1 U ∧ va_Nw (.methodLinkNest RX5 29 yX0_init RX5) U ∧ va_Nw (.methodLinkNest RX1 9 yX0_init RX5) U ∧ va_Nw (.methodLinkNest RX2 24 yX0_init RX5) U ∧ va_Nw (.methodLinkNest RX3 17 yX1_init RX5) U
theorem gKK.moved {D : va_G} {Gc : Nat → ClassId} {s U : State} (hW : s.WarmedH U.vm) (h : gKK D Gc s) : gKK D Gc U :=
  ⟨va_K.moved hW.alike h.1, va_AO.moved hW.alike h.2.1, va_AO.moved hW.alike h.2.2.1, va_Nw.warmM hW h.2.2.2.1, va_Nw.warmM hW h.2.2.2.2.1, va_Nw.warmM hW h.2.2.2.2.2.1, va_Nw.warmM hW h.2.2.2.2.2.2⟩
theorem gKK.same {D : va_G} {Gc : Nat → ClassId} {s U : State} (e : s.vm = U.vm) (h : gKK D Gc s) : gKK D Gc U :=
  ⟨va_K.moved (by rw [e]; exact Vm.Alike.refl _) h.1, va_AO.moved (by rw [e]; exact Vm.Alike.refl _) h.2.1, va_AO.moved (by rw [e]; exact Vm.Alike.refl _) h.2.2.1, va_Nw.same rfl e h.2.2.2.1, va_Nw.same rfl e h.2.2.2.2.1, va_Nw.same rfl e h.2.2.2.2.2.1, va_Nw.same rfl e h.2.2.2.2.2.2⟩
/-! THE JUDGEMENT -/
abbrev gEnv : Type := Launch × va_G × (Nat → ClassId) × Nat × Nat
abbrev gCtx : Type := Program × Env × Room × State × MethodId × Array Value × List Frame × Method × Code × (State → Prop)
def gLk (B b : Nat) (la : Array Slot) (ls : List (Option gV)) : Prop := la.size = ls.length ∧ lv_wf la ∧ ∀ (i : Nat) (v : gV), ls[i]? = some (some v) → la[i]? = some (Slot.val (gv B b v))
def G (E : gEnv) (κ : gCtx) (cells slots pc : Nat) (ls : List (Option gV)) (st : List gV) (M : gM) : Prop := match E, κ with
  | (l, D, Gc, B, b), (p, e, R, s, m, args, below, meth, c, Q) =>
    ∀ (H : Heap) (locs : List Loc) (la : Array Slot), gLk B b la ls → va_P D vwCl (gW Gc B M) H → va_S (fun q => B ≤ q) s.heap H locs → W p l e R s m args below meth c H locs cells slots Q (F0 m pc la (st.map (gv B b)))
def Cx (E : gEnv) (κ : gCtx) (cc : ByteArray) (nL : Nat) (own : String) (ret : Option FieldType) (d cz sz : Nat) : Prop := match E, κ with
  | (_, D, Gc, B, _), (p, _, R, s, m, args, _, meth, c, _) =>
    p.tables.exec = Jvm.exec ∧ c.code = cc ∧ c.maxLocals = nL ∧ s.vm.findClass own = some m.cls ∧ (∀ w ∈ gT, w.before args s = true) ∧ gKK D Gc s ∧ B ≤ s.heap.size ∧ meth.locks = false ∧ meth.sig.returnType = ret ∧ d ≤ R.frames ∧ 40 * d ≤ R.locals ∧ cz ≤ R.cells ∧ sz ≤ R.slots
def gQo (D : va_G) (Gc : Nat → ClassId) (B b : Nat) (rv : Option gV) (M' : gM) : Array Value → State → Outcome → State → Prop := fun _ st oc t => oc = .returned (rv.map (gv B b)) ∧ va_P D vwCl (gW Gc B M') t.heap ∧ va_F (fun q => B ≤ q) st t
def gPr (D : va_G) (Gc : Nat → ClassId) (B : Nat) (M : gM) (U : State) : Prop := va_P D vwCl (gW Gc B M) U.heap ∧ gKK D Gc U ∧ B ≤ U.heap.size
def gRt (E : gEnv) (κ : gCtx) (mc ms : Nat) (rv : Option gV) (M' : gM) : Prop := match E, κ with
  | (_, D, Gc, B, b), (_, _, _, s, _, args, below, _, _, Q) => Q = MQ below (gQo D Gc B b rv M') args s mc ms (fun q => B ≤ q)
def gws (y : MethodName) (b : ByteArray) (nL : Nat) (ret : Option FieldType) : List Cond := .code y b nL ret :: gT
def Ctr (E : gEnv) (y : MethodName) (bc : ByteArray) (nL : Nat) (ret : Option FieldType) (d mc ms : Nat) (av : List gV) (M : gM) (rv : Option gV) (M' : gM) : Prop := match E with
  | (l, D, Gc, B, b) => Met l y (gws y bc nL ret) { frames := d, cells := mc, slots := ms, locals := 40 * d } (va_Pc (av.map (gv B b)) (gPr D Gc B M)) (gQo D Gc B b rv M') mc ms (fun q => B ≤ q)
def gent (nL : Nat) (av : List gV) : List (Option gV) := av.map some ++ List.replicate (nL - av.length) none
theorem gv_cat (B b : Nat) (v : gV) : (gv B b v).category = 1 := by
  rcases v with x | (_ | a) <;> rfl
theorem lg_sl_gv (B b : Nat) : ∀ av : List gV, lg_sl (av.map (gv B b)) = av.map (fun v => Slot.val (gv B b v))
  | [] => rfl
  | v :: r => by
    have ih := lg_sl_gv B b r
    unfold lg_sl at ih ⊢
    rw [List.map_cons, List.flatMap_cons, ih]
    simp [gv_cat]
theorem gLk_entry {B b nL : Nat} {av : List gV} (h : av.length ≤ nL) : gLk B b ((lg_sl (av.map (gv B b)) ++ List.replicate (nL - (lg_sl (av.map (gv B b))).length) Slot.unset).toArray) (gent nL av) := by
  have hlen : (lg_sl (av.map (gv B b))).length = av.length := by rw [lg_sl_gv]; simp
  have h1 := lv_entry (av.map (gv B b)) (n := nL) (by rw [hlen]; exact h)
  refine ⟨by rw [h1.1]; simp [gent]; omega, h1.2.1, fun i v hv => ?_⟩
  simp only [gent] at hv
  simp only [lg_sl_gv]
  by_cases hi : i < av.length
  · rw [List.getElem?_append_left (by simpa using hi)] at hv
    simp only [List.getElem?_map, Option.map_eq_some_iff] at hv
    obtain ⟨w, hw, he⟩ := hv
    cases he
    obtain ⟨_, e⟩ := List.getElem?_eq_some_iff.mp hw
    simp [List.getElem?_append_left, hi, e]
  · rw [List.getElem?_append_right (by simpa using hi)] at hv
    simp [List.getElem?_replicate] at hv
theorem Ctr.mk {E : gEnv} {y : MethodName} {bc : ByteArray} {nL d mc ms : Nat} {ret : Option FieldType} {av : List gV} {M M' : gM} {rv : Option gV} (hy : plainName y.cls = true) (hn : av.length ≤ nL)
    (h : ∀ κ : gCtx, Cx E κ bc nL y.cls ret d mc ms → gRt E κ mc ms rv M' → κ.2.2.2.2.2.2.2.1.name = y.name → G E κ 0 0 0 (gent nL av) [] M) : Ctr E y bc nL ret d mc ms av M rv M' := by
  obtain ⟨l, D, Gc, B, b⟩ := E
  refine Met.ofW (cc := bc) (maxL := nL) (ret := ret) hy rfl ?_
  intro p e s m args below meth c s₁ Bd hml hv
  obtain ⟨rfl, hP, hKK, hB⟩ := hv
  have hts : ∀ w ∈ gT, w.before (av.map (gv B b)).toArray s = true := fun w hw => atoms_spec (ws := gws y bc nL ret) Bd.pre w (List.mem_cons_of_mem _ hw)
  have hown : s.vm.findClass y.cls = some m.cls := findClass_of_methodNamed Bd.named
  have hnm : meth.name = y.name := (name_of_methodNamed Bd.named Bd.method).1
  have h1 := h (p, e, (headSpec (gws y bc nL ret) { frames := d, cells := mc, slots := ms, locals := 40 * d }).room, s, m, (av.map (gv B b)).toArray, below, meth, c, MQ below (gQo D Gc B b rv M') (av.map (gv B b)).toArray s mc ms (fun q => B ≤ q))
    ⟨Bd.exec, Bd.bytes, hml, hown, hts, hKK, hB, Bd.notSynchronized, Bd.returns, Nat.le_refl _, Nat.le_refl _, Nat.le_refl _, Nat.le_refl _⟩ rfl hnm
  rw [lg_entry_eq]
  exact h1 s.heap [] _ (gLk_entry hn) hP va_S.rf
end
section
/-! THE RULES: one instruction each -/
section GRules
variable {E : gEnv} {κ : gCtx} {cc : ByteArray} {nL d cz sz cells slots pc : Nat} {own : String} {ret : Option FieldType} {ls : List (Option gV)} {st : List gV} {M : gM}
theorem G_iconst (X : Cx E κ cc nL own ret d cz sz) {n : Int} {v : Int32} (hd : decode cc pc = .ok (.iconst n, 1)) (hv : Int32.ofInt n = v) (k : G E κ cells slots (pc + 1) ls (vi v :: st) M) : G E κ cells slots pc ls st M := by
  obtain ⟨l, D, Gc, B, b⟩ := E
  obtain ⟨p, e, R, s, m, args, below, meth, c, Q⟩ := κ
  obtain ⟨hx, hb, -⟩ := X
  exact fun H locs la hl hP hS => lv_iconst hx hb hd hv (k H locs la hl hP hS)
theorem G_bipush (X : Cx E κ cc nL own ret d cz sz) {n : Int} {v : Int32} (hd : decode cc pc = .ok (.bipush n, 2)) (hv : (Int8.ofInt n).toInt32 = v) (k : G E κ cells slots (pc + 2) ls (vi v :: st) M) : G E κ cells slots pc ls st M := by
  obtain ⟨l, D, Gc, B, b⟩ := E
  obtain ⟨p, e, R, s, m, args, below, meth, c, Q⟩ := κ
  obtain ⟨hx, hb, -⟩ := X
  exact fun H locs la hl hP hS => lv_bipush hx hb hd hv (k H locs la hl hP hS)
theorem G_sipush (X : Cx E κ cc nL own ret d cz sz) {n : Int} {v : Int32} (hd : decode cc pc = .ok (.sipush n, 3)) (hv : (Int16.ofInt n).toInt32 = v) (k : G E κ cells slots (pc + 3) ls (vi v :: st) M) : G E κ cells slots pc ls st M := by
  obtain ⟨l, D, Gc, B, b⟩ := E
  obtain ⟨p, e, R, s, m, args, below, meth, c, Q⟩ := κ
  obtain ⟨hx, hb, -⟩ := X
  exact fun H locs la hl hP hS => lv_sipush hx hb hd hv (k H locs la hl hP hS)
theorem G_ldc (X : Cx E κ cc nL own ret d cz sz) {ix : Nat} {v : Int32} (hc : Cond.constant own ix v ∈ gT) (hd : decode cc pc = .ok (.ldc ix, 2)) (k : G E κ cells slots (pc + 2) ls (vi v :: st) M) : G E κ cells slots pc ls st M := by
  obtain ⟨l, D, Gc, B, b⟩ := E
  obtain ⟨p, e, R, s, m, args, below, meth, c, Q⟩ := κ
  obtain ⟨hx, hb, -, ho, hts, -⟩ := X
  exact fun H locs la hl hP hS => lv_ldc hx hb ho (hts _ hc) hd (k H locs la hl hP hS)
theorem G_ldc_w (X : Cx E κ cc nL own ret d cz sz) {ix : Nat} {v : Int32} (hc : Cond.constant own ix v ∈ gT) (hd : decode cc pc = .ok (.ldc_w ix, 3)) (k : G E κ cells slots (pc + 3) ls (vi v :: st) M) : G E κ cells slots pc ls st M := by
  obtain ⟨l, D, Gc, B, b⟩ := E
  obtain ⟨p, e, R, s, m, args, below, meth, c, Q⟩ := κ
  obtain ⟨hx, hb, -, ho, hts, -⟩ := X
  exact fun H locs la hl hP hS => lv_ldcw hx hb ho (hts _ hc) hd (k H locs la hl hP hS)
theorem G_iload_n (X : Cx E κ cc nL own ret d cz sz) {j : Fin 4} {i : Nat} {x : Int32} (hd : decode cc pc = .ok (.iload_n j, 1)) (hi : (j : Nat) = i) (hv : ls[i]? = some (some (vi x))) (k : G E κ cells slots (pc + 1) ls (vi x :: st) M) : G E κ cells slots pc ls st M := by
  obtain ⟨l, D, Gc, B, b⟩ := E
  obtain ⟨p, e, R, s, m, args, below, meth, c, Q⟩ := κ
  obtain ⟨hx, hb, -⟩ := X
  exact fun H locs la hl hP hS => lv_iload_n hx hb hd hi (hl.2.2 i _ hv) (k H locs la hl hP hS)
theorem G_iload (X : Cx E κ cc nL own ret d cz sz) {i : Nat} {x : Int32} (hd : decode cc pc = .ok (.iload i, 2)) (hv : ls[i]? = some (some (vi x))) (k : G E κ cells slots (pc + 2) ls (vi x :: st) M) : G E κ cells slots pc ls st M := by
  obtain ⟨l, D, Gc, B, b⟩ := E
  obtain ⟨p, e, R, s, m, args, below, meth, c, Q⟩ := κ
  obtain ⟨hx, hb, -⟩ := X
  exact fun H locs la hl hP hS => lv_iload hx hb hd (hl.2.2 i _ hv) (k H locs la hl hP hS)
theorem G_aload_n (X : Cx E κ cc nL own ret d cz sz) {j : Fin 4} {i : Nat} {x : Option Nat} (hd : decode cc pc = .ok (.aload_n j, 1)) (hi : (j : Nat) = i) (hv : ls[i]? = some (some (.inr x))) (k : G E κ cells slots (pc + 1) ls (.inr x :: st) M) : G E κ cells slots pc ls st M := by
  obtain ⟨l, D, Gc, B, b⟩ := E
  obtain ⟨p, e, R, s, m, args, below, meth, c, Q⟩ := κ
  obtain ⟨hx, hb, -⟩ := X
  intro H locs la hl hP hS
  cases x with
  | none => exact lv_aload_n hx hb hd hi (hl.2.2 i _ hv) (k H locs la hl hP hS)
  | some a => exact lv_aload_n hx hb hd hi (hl.2.2 i _ hv) (k H locs la hl hP hS)
theorem G_aload (X : Cx E κ cc nL own ret d cz sz) {i : Nat} {x : Option Nat} (hd : decode cc pc = .ok (.aload i, 2)) (hv : ls[i]? = some (some (.inr x))) (k : G E κ cells slots (pc + 2) ls (.inr x :: st) M) : G E κ cells slots pc ls st M := by
  obtain ⟨l, D, Gc, B, b⟩ := E
  obtain ⟨p, e, R, s, m, args, below, meth, c, Q⟩ := κ
  obtain ⟨hx, hb, -⟩ := X
  intro H locs la hl hP hS
  cases x with
  | none => exact lv_aload hx hb hd (hl.2.2 i _ hv) (k H locs la hl hP hS)
  | some a => exact lv_aload hx hb hd (hl.2.2 i _ hv) (k H locs la hl hP hS)
/-- all that is known of the locals, as the kit lists it -/
def gls (B b : Nat) (ls : List (Option gV)) : List (Nat × Value) := (List.range ls.length).filterMap (fun i => (ls[i]?.join).map (fun v => (i, gv B b v)))
theorem gls_has {B b : Nat} {la : Array Slot} {ls : List (Option gV)} (h : gLk B b la ls) : lv_has la ls.length (gls B b ls) := by
  refine ⟨h.1, h.2.1, fun q hq => ?_⟩
  obtain ⟨i, -, hi⟩ := List.mem_filterMap.mp hq
  rw [Option.map_eq_some_iff] at hi
  obtain ⟨v, hv, rfl⟩ := hi
  refine h.2.2 i v ?_
  cases h3 : ls[i]? with
  | none => rw [h3] at hv; cases hv
  | some w => rw [h3] at hv; simp at hv; rw [hv]
theorem gls_set {B b : Nat} {la : Array Slot} {ls : List (Option gV)} {i : Nat} {v : gV} (hi : i < ls.length) (h : lv_has la ls.length ((i, gv B b v) :: (gls B b ls).filter (fun q => !(q.1 == i) && !(q.1 + 1 == i && q.2.category == 2)))) : gLk B b la (ls.set i (some v)) := by
  refine ⟨by rw [h.1]; simp, h.2.1, fun j w hw => ?_⟩
  by_cases hj : j = i
  · subst hj
    rw [List.getElem?_set_self hi] at hw
    cases hw
    exact h.2.2 (j, gv B b v) List.mem_cons_self
  · rw [List.getElem?_set_ne (Ne.symm hj)] at hw
    refine h.2.2 (j, gv B b w) (List.mem_cons_of_mem _ (List.mem_filter.mpr ⟨List.mem_filterMap.mpr ⟨j, ?_, ?_⟩, ?_⟩))
    · exact List.mem_range.mpr (List.getElem?_eq_some_iff.mp hw).1
    · simp [hw]
    · simp [hj, gv_cat]
theorem gls_self {ls : List (Option gV)} {B b : Nat} {la : Array Slot} {nL : Nat} (h : gLk B b la ls) (hn : ls.length = nL) : lv_has la nL (gls B b ls) := by
  subst hn; exact gls_has h
theorem G_istore_n (X : Cx E κ cc nL own ret d cz sz) {j : Fin 4} {i : Nat} {x : Int32} {ls' : List (Option gV)} (hd : decode cc pc = .ok (.istore_n j, 1)) (hi : (j : Nat) = i) (hn : i < ls.length) (hs : ls.set i (some (vi x)) = ls') (k : G E κ cells slots (pc + 1) ls' st M) : G E κ cells slots pc ls (vi x :: st) M := by
  subst hs
  obtain ⟨l, D, Gc, B, b⟩ := E
  obtain ⟨p, e, R, s, m, args, below, meth, c, Q⟩ := κ
  obtain ⟨hx, hb, -⟩ := X
  exact fun H locs la hl hP hS => lv_istore_n hx hb hd hi (gls_has hl) hn rfl (fun la' hl' => k H locs la' (gls_set hn hl') hP hS)
theorem G_istore (X : Cx E κ cc nL own ret d cz sz) {i : Nat} {x : Int32} {ls' : List (Option gV)} (hd : decode cc pc = .ok (.istore i, 2)) (hn : i < ls.length) (hs : ls.set i (some (vi x)) = ls') (k : G E κ cells slots (pc + 2) ls' st M) : G E κ cells slots pc ls (vi x :: st) M := by
  subst hs
  obtain ⟨l, D, Gc, B, b⟩ := E
  obtain ⟨p, e, R, s, m, args, below, meth, c, Q⟩ := κ
  obtain ⟨hx, hb, -⟩ := X
  exact fun H locs la hl hP hS => lv_istore hx hb hd (gls_has hl) hn rfl (fun la' hl' => k H locs la' (gls_set hn hl') hP hS)
theorem G_astore_n (X : Cx E κ cc nL own ret d cz sz) {j : Fin 4} {i : Nat} {x : Nat} {ls' : List (Option gV)} (hd : decode cc pc = .ok (.astore_n j, 1)) (hi : (j : Nat) = i) (hn : i < ls.length) (hs : ls.set i (some (vr x)) = ls') (k : G E κ cells slots (pc + 1) ls' st M) : G E κ cells slots pc ls (vr x :: st) M := by
  subst hs
  obtain ⟨l, D, Gc, B, b⟩ := E
  obtain ⟨p, e, R, s, m, args, below, meth, c, Q⟩ := κ
  obtain ⟨hx, hb, -⟩ := X
  exact fun H locs la hl hP hS => lv_astore_n hx hb hd hi (gls_has hl) hn rfl (fun la' hl' => k H locs la' (gls_set (v := vr x) hn hl') hP hS)
theorem G_astore (X : Cx E κ cc nL own ret d cz sz) {i : Nat} {x : Nat} {ls' : List (Option gV)} (hd : decode cc pc = .ok (.astore i, 2)) (hn : i < ls.length) (hs : ls.set i (some (vr x)) = ls') (k : G E κ cells slots (pc + 2) ls' st M) : G E κ cells slots pc ls (vr x :: st) M := by
  subst hs
  obtain ⟨l, D, Gc, B, b⟩ := E
  obtain ⟨p, e, R, s, m, args, below, meth, c, Q⟩ := κ
  obtain ⟨hx, hb, -⟩ := X
  exact fun H locs la hl hP hS => lv_astore hx hb hd (gls_has hl) hn rfl (fun la' hl' => k H locs la' (gls_set (v := vr x) hn hl') hP hS)
theorem gls_at {B b : Nat} {ls : List (Option gV)} {i : Nat} {v : gV} (h : ls[i]? = some (some v)) : ∃ k : Nat, (gls B b ls)[k]? = some (i, gv B b v) :=
  List.getElem?_of_mem (List.mem_filterMap.mpr ⟨i, List.mem_range.mpr (List.getElem?_eq_some_iff.mp h).1, by simp [h]⟩)
theorem G_iinc (X : Cx E κ cc nL own ret d cz sz) {i : Nat} {n : Int} {x v : Int32} {ls' : List (Option gV)} (hd : decode cc pc = .ok (.iinc i n, 3)) (hv : ls[i]? = some (some (vi x))) (hn : Int32.ofInt n = v) (hs : ls.set i (some (vi (x + v))) = ls') (k : G E κ cells slots (pc + 3) ls' st M) : G E κ cells slots pc ls st M := by
  subst hs
  subst hn
  obtain ⟨l, D, Gc, B, b⟩ := E
  obtain ⟨p, e, R, s, m, args, below, meth, c, Q⟩ := κ
  obtain ⟨hx, hb, -⟩ := X
  intro H locs la hl hP hS
  have hn : i < ls.length := (List.getElem?_eq_some_iff.mp hv).1
  obtain ⟨k0, hk0⟩ := gls_at (B := B) (b := b) hv
  exact lv_iinc hx hb hd (gls_has hl) hk0 rfl hn rfl (fun la' hl' => k H locs la' (gls_set (v := vi (x + Int32.ofInt n)) hn hl') hP hS)
/-- less is known of the locals -/
theorem G_weak {ls' : List (Option gV)} (h : ls.length = ls'.length ∧ ∀ (i : Nat) (v : gV), ls'[i]? = some (some v) → ls[i]? = some (some v)) (k : G E κ cells slots pc ls' st M) : G E κ cells slots pc ls st M := by
  obtain ⟨l, D, Gc, B, b⟩ := E
  obtain ⟨p, e, R, s, m, args, below, meth, c, Q⟩ := κ
  exact fun H locs la hl hP hS => k H locs la ⟨hl.1.trans h.1, hl.2.1, fun i v hv => hl.2.2 i v (h.2 i v hv)⟩ hP hS
end GRules
section GRules2
variable {E : gEnv} {κ : gCtx} {cc : ByteArray} {nL d cz sz cells slots pc : Nat} {own : String} {ret : Option FieldType} {ls : List (Option gV)} {st : List gV} {M : gM}
theorem G_iadd (X : Cx E κ cc nL own ret d cz sz) {x y : Int32} (hd : decode cc pc = .ok (.iadd, 1)) (k : G E κ cells slots (pc + 1) ls (vi (x + y) :: st) M) : G E κ cells slots pc ls (vi y :: vi x :: st) M := by
  obtain ⟨l, D, Gc, B, b⟩ := E
  obtain ⟨p, e, R, s, m, args, below, meth, c, Q⟩ := κ
  obtain ⟨hx, hb, -⟩ := X
  exact fun H locs la hl hP hS => lv_iadd hx hb hd (k H locs la hl hP hS)
theorem G_isub (X : Cx E κ cc nL own ret d cz sz) {x y : Int32} (hd : decode cc pc = .ok (.isub, 1)) (k : G E κ cells slots (pc + 1) ls (vi (x - y) :: st) M) : G E κ cells slots pc ls (vi y :: vi x :: st) M := by
  obtain ⟨l, D, Gc, B, b⟩ := E
  obtain ⟨p, e, R, s, m, args, below, meth, c, Q⟩ := κ
  obtain ⟨hx, hb, -⟩ := X
  exact fun H locs la hl hP hS => lv_isub hx hb hd (k H locs la hl hP hS)
theorem G_imul (X : Cx E κ cc nL own ret d cz sz) {x y : Int32} (hd : decode cc pc = .ok (.imul, 1)) (k : G E κ cells slots (pc + 1) ls (vi (x * y) :: st) M) : G E κ cells slots pc ls (vi y :: vi x :: st) M := by
  obtain ⟨l, D, Gc, B, b⟩ := E
  obtain ⟨p, e, R, s, m, args, below, meth, c, Q⟩ := κ
  obtain ⟨hx, hb, -⟩ := X
  exact fun H locs la hl hP hS => lv_imul hx hb hd (k H locs la hl hP hS)
theorem G_iand (X : Cx E κ cc nL own ret d cz sz) {x y : Int32} (hd : decode cc pc = .ok (.iand, 1)) (k : G E κ cells slots (pc + 1) ls (vi (x &&& y) :: st) M) : G E κ cells slots pc ls (vi y :: vi x :: st) M := by
  obtain ⟨l, D, Gc, B, b⟩ := E
  obtain ⟨p, e, R, s, m, args, below, meth, c, Q⟩ := κ
  obtain ⟨hx, hb, -⟩ := X
  exact fun H locs la hl hP hS => lv_iand hx hb hd (k H locs la hl hP hS)
theorem G_ior (X : Cx E κ cc nL own ret d cz sz) {x y : Int32} (hd : decode cc pc = .ok (.ior, 1)) (k : G E κ cells slots (pc + 1) ls (vi (x ||| y) :: st) M) : G E κ cells slots pc ls (vi y :: vi x :: st) M := by
  obtain ⟨l, D, Gc, B, b⟩ := E
  obtain ⟨p, e, R, s, m, args, below, meth, c, Q⟩ := κ
  obtain ⟨hx, hb, -⟩ := X
  exact fun H locs la hl hP hS => lv_ior hx hb hd (k H locs la hl hP hS)
theorem G_ixor (X : Cx E κ cc nL own ret d cz sz) {x y : Int32} (hd : decode cc pc = .ok (.ixor, 1)) (k : G E κ cells slots (pc + 1) ls (vi (x ^^^ y) :: st) M) : G E κ cells slots pc ls (vi y :: vi x :: st) M := by
  obtain ⟨l, D, Gc, B, b⟩ := E
  obtain ⟨p, e, R, s, m, args, below, meth, c, Q⟩ := κ
  obtain ⟨hx, hb, -⟩ := X
  exact fun H locs la hl hP hS => lv_ixor hx hb hd (k H locs la hl hP hS)
theorem G_ishl (X : Cx E κ cc nL own ret d cz sz) {x y : Int32} (hd : decode cc pc = .ok (.ishl, 1)) (k : G E κ cells slots (pc + 1) ls (vi (x <<< (y &&& 31)) :: st) M) : G E κ cells slots pc ls (vi y :: vi x :: st) M := by
  obtain ⟨l, D, Gc, B, b⟩ := E
  obtain ⟨p, e, R, s, m, args, below, meth, c, Q⟩ := κ
  obtain ⟨hx, hb, -⟩ := X
  exact fun H locs la hl hP hS => lv_ishl hx hb hd (k H locs la hl hP hS)
theorem G_ishr (X : Cx E κ cc nL own ret d cz sz) {x y : Int32} (hd : decode cc pc = .ok (.ishr, 1)) (k : G E κ cells slots (pc + 1) ls (vi (x >>> (y &&& 31)) :: st) M) : G E κ cells slots pc ls (vi y :: vi x :: st) M := by
  obtain ⟨l, D, Gc, B, b⟩ := E
  obtain ⟨p, e, R, s, m, args, below, meth, c, Q⟩ := κ
  obtain ⟨hx, hb, -⟩ := X
  exact fun H locs la hl hP hS => lv_ishr hx hb hd (k H locs la hl hP hS)
theorem G_idiv (X : Cx E κ cc nL own ret d cz sz) {x y : Int32} (hd : decode cc pc = .ok (.idiv, 1)) (hne : ¬ y = 0) (k : G E κ cells slots (pc + 1) ls (vi (x / y) :: st) M) : G E κ cells slots pc ls (vi y :: vi x :: st) M := by
  obtain ⟨l, D, Gc, B, b⟩ := E
  obtain ⟨p, e, R, s, m, args, below, meth, c, Q⟩ := κ
  obtain ⟨hx, hb, -⟩ := X
  exact fun H locs la hl hP hS => lv_idiv hx hb hd hne (k H locs la hl hP hS)
theorem G_irem (X : Cx E κ cc nL own ret d cz sz) {x y : Int32} (hd : decode cc pc = .ok (.irem, 1)) (hne : ¬ y = 0) (k : G E κ cells slots (pc + 1) ls (vi (x - x / y * y) :: st) M) : G E κ cells slots pc ls (vi y :: vi x :: st) M := by
  obtain ⟨l, D, Gc, B, b⟩ := E
  obtain ⟨p, e, R, s, m, args, below, meth, c, Q⟩ := κ
  obtain ⟨hx, hb, -⟩ := X
  exact fun H locs la hl hP hS => lv_irem hx hb hd hne (k H locs la hl hP hS)
theorem G_ineg (X : Cx E κ cc nL own ret d cz sz) {x : Int32} (hd : decode cc pc = .ok (.ineg, 1)) (k : G E κ cells slots (pc + 1) ls (vi (-x) :: st) M) : G E κ cells slots pc ls (vi x :: st) M := by
  obtain ⟨l, D, Gc, B, b⟩ := E
  obtain ⟨p, e, R, s, m, args, below, meth, c, Q⟩ := κ
  obtain ⟨hx, hb, -⟩ := X
  exact fun H locs la hl hP hS => lv_ineg hx hb hd (k H locs la hl hP hS)
theorem G_iushr (X : Cx E κ cc nL own ret d cz sz) {x y : Int32} (hd : decode cc pc = .ok (.iushr, 1)) (k : G E κ cells slots (pc + 1) ls (vi ((x.toUInt32 >>> (y.toUInt32 &&& Int32.toUInt32 31)).toInt32) :: st) M) : G E κ cells slots pc ls (vi y :: vi x :: st) M := by
  obtain ⟨l, D, Gc, B, b⟩ := E
  obtain ⟨p, e, R, s, m, args, below, meth, c, Q⟩ := κ
  obtain ⟨hx, hb, -⟩ := X
  exact fun H locs la hl hP hS => lv_iushr hx hb hd rfl (k H locs la hl hP hS)
theorem G_i2c (X : Cx E κ cc nL own ret d cz sz) {x : Int32} (hd : decode cc pc = .ok (.i2c, 1)) (k : G E κ cells slots (pc + 1) ls (vi ((x.toUInt32 % 65536).toInt32) :: st) M) : G E κ cells slots pc ls (vi x :: st) M := by
  obtain ⟨l, D, Gc, B, b⟩ := E
  obtain ⟨p, e, R, s, m, args, below, meth, c, Q⟩ := κ
  obtain ⟨hx, hb, -⟩ := X
  exact fun H locs la hl hP hS => lv_i2c hx hb hd rfl (k H locs la hl hP hS)
theorem G_dup (X : Cx E κ cc nL own ret d cz sz) {v : gV} (hd : decode cc pc = .ok (.dup, 1)) (k : G E κ cells slots (pc + 1) ls (v :: v :: st) M) : G E κ cells slots pc ls (v :: st) M := by
  obtain ⟨l, D, Gc, B, b⟩ := E
  obtain ⟨p, e, R, s, m, args, below, meth, c, Q⟩ := κ
  obtain ⟨hx, hb, -⟩ := X
  exact fun H locs la hl hP hS => lv_dup hx hb hd (gv_cat _ _ _) (k H locs la hl hP hS)
theorem G_dup2 (X : Cx E κ cc nL own ret d cz sz) {v w : gV} (hd : decode cc pc = .ok (.dup2, 1)) (k : G E κ cells slots (pc + 1) ls (v :: w :: v :: w :: st) M) : G E κ cells slots pc ls (v :: w :: st) M := by
  obtain ⟨l, D, Gc, B, b⟩ := E
  obtain ⟨p, e, R, s, m, args, below, meth, c, Q⟩ := κ
  obtain ⟨hx, hb, -⟩ := X
  exact fun H locs la hl hP hS => lv_dup2_11 hx hb hd (gv_cat _ _ _) (gv_cat _ _ _) (k H locs la hl hP hS)
theorem G_pop (X : Cx E κ cc nL own ret d cz sz) {v : gV} (hd : decode cc pc = .ok (.pop, 1)) (k : G E κ cells slots (pc + 1) ls st M) : G E κ cells slots pc ls (v :: st) M := by
  obtain ⟨l, D, Gc, B, b⟩ := E
  obtain ⟨p, e, R, s, m, args, below, meth, c, Q⟩ := κ
  obtain ⟨hx, hb, -⟩ := X
  exact fun H locs la hl hP hS => lv_pop hx hb hd (gv_cat _ _ _) (k H locs la hl hP hS)
theorem G_if_eq (X : Cx E κ cc nL own ret d cz sz) {x : Int32} {off : Int} {tgt : Nat} (hd : decode cc pc = .ok (.ifCond .eq off, 3)) (ht : (pc : Int) + off = (tgt : Int)) (kt : x = 0 → G E κ cells slots tgt ls st M) (kf : ¬ x = 0 → G E κ cells slots (pc + 3) ls st M) : G E κ cells slots pc ls (vi x :: st) M := by
  obtain ⟨l, D, Gc, B, b⟩ := E
  obtain ⟨p, e, R, s, m, args, below, meth, c, Q⟩ := κ
  obtain ⟨hx, hb, -⟩ := X
  exact fun H locs la hl hP hS => lv_if_eq hx hb hd ht (fun q => kt q H locs la hl hP hS) (fun q => kf q H locs la hl hP hS)
theorem G_icmp_eq (X : Cx E κ cc nL own ret d cz sz) {x y : Int32} {off : Int} {tgt : Nat} (hd : decode cc pc = .ok (.if_icmp .eq off, 3)) (ht : (pc : Int) + off = (tgt : Int)) (kt : x = y → G E κ cells slots tgt ls st M) (kf : ¬ x = y → G E κ cells slots (pc + 3) ls st M) : G E κ cells slots pc ls (vi y :: vi x :: st) M := by
  obtain ⟨l, D, Gc, B, b⟩ := E
  obtain ⟨p, e, R, s, m, args, below, meth, c, Q⟩ := κ
  obtain ⟨hx, hb, -⟩ := X
  exact fun H locs la hl hP hS => lv_icmp_eq hx hb hd ht (fun q => kt q H locs la hl hP hS) (fun q => kf q H locs la hl hP hS)
theorem G_if_ne (X : Cx E κ cc nL own ret d cz sz) {x : Int32} {off : Int} {tgt : Nat} (hd : decode cc pc = .ok (.ifCond .ne off, 3)) (ht : (pc : Int) + off = (tgt : Int)) (kt : ¬ x = 0 → G E κ cells slots tgt ls st M) (kf : x = 0 → G E κ cells slots (pc + 3) ls st M) : G E κ cells slots pc ls (vi x :: st) M := by
  obtain ⟨l, D, Gc, B, b⟩ := E
  obtain ⟨p, e, R, s, m, args, below, meth, c, Q⟩ := κ
  obtain ⟨hx, hb, -⟩ := X
  exact fun H locs la hl hP hS => lv_if_ne hx hb hd ht (fun q => kt q H locs la hl hP hS) (fun q => kf q H locs la hl hP hS)
theorem G_icmp_ne (X : Cx E κ cc nL own ret d cz sz) {x y : Int32} {off : Int} {tgt : Nat} (hd : decode cc pc = .ok (.if_icmp .ne off, 3)) (ht : (pc : Int) + off = (tgt : Int)) (kt : ¬ x = y → G E κ cells slots tgt ls st M) (kf : x = y → G E κ cells slots (pc + 3) ls st M) : G E κ cells slots pc ls (vi y :: vi x :: st) M := by
  obtain ⟨l, D, Gc, B, b⟩ := E
  obtain ⟨p, e, R, s, m, args, below, meth, c, Q⟩ := κ
  obtain ⟨hx, hb, -⟩ := X
  exact fun H locs la hl hP hS => lv_icmp_ne hx hb hd ht (fun q => kt q H locs la hl hP hS) (fun q => kf q H locs la hl hP hS)
theorem G_if_lt (X : Cx E κ cc nL own ret d cz sz) {x : Int32} {off : Int} {tgt : Nat} (hd : decode cc pc = .ok (.ifCond .lt off, 3)) (ht : (pc : Int) + off = (tgt : Int)) (kt : x < 0 → G E κ cells slots tgt ls st M) (kf : ¬ x < 0 → G E κ cells slots (pc + 3) ls st M) : G E κ cells slots pc ls (vi x :: st) M := by
  obtain ⟨l, D, Gc, B, b⟩ := E
  obtain ⟨p, e, R, s, m, args, below, meth, c, Q⟩ := κ
  obtain ⟨hx, hb, -⟩ := X
  exact fun H locs la hl hP hS => lv_if_lt hx hb hd ht (fun q => kt q H locs la hl hP hS) (fun q => kf q H locs la hl hP hS)
theorem G_icmp_lt (X : Cx E κ cc nL own ret d cz sz) {x y : Int32} {off : Int} {tgt : Nat} (hd : decode cc pc = .ok (.if_icmp .lt off, 3)) (ht : (pc : Int) + off = (tgt : Int)) (kt : x < y → G E κ cells slots tgt ls st M) (kf : ¬ x < y → G E κ cells slots (pc + 3) ls st M) : G E κ cells slots pc ls (vi y :: vi x :: st) M := by
  obtain ⟨l, D, Gc, B, b⟩ := E
  obtain ⟨p, e, R, s, m, args, below, meth, c, Q⟩ := κ
  obtain ⟨hx, hb, -⟩ := X
  exact fun H locs la hl hP hS => lv_icmp_lt hx hb hd ht (fun q => kt q H locs la hl hP hS) (fun q => kf q H locs la hl hP hS)
theorem G_if_ge (X : Cx E κ cc nL own ret d cz sz) {x : Int32} {off : Int} {tgt : Nat} (hd : decode cc pc = .ok (.ifCond .ge off, 3)) (ht : (pc : Int) + off = (tgt : Int)) (kt : 0 ≤ x → G E κ cells slots tgt ls st M) (kf : ¬ 0 ≤ x → G E κ cells slots (pc + 3) ls st M) : G E κ cells slots pc ls (vi x :: st) M := by
  obtain ⟨l, D, Gc, B, b⟩ := E
  obtain ⟨p, e, R, s, m, args, below, meth, c, Q⟩ := κ
  obtain ⟨hx, hb, -⟩ := X
  exact fun H locs la hl hP hS => lv_if_ge hx hb hd ht (fun q => kt q H locs la hl hP hS) (fun q => kf q H locs la hl hP hS)
theorem G_icmp_ge (X : Cx E κ cc nL own ret d cz sz) {x y : Int32} {off : Int} {tgt : Nat} (hd : decode cc pc = .ok (.if_icmp .ge off, 3)) (ht : (pc : Int) + off = (tgt : Int)) (kt : y ≤ x → G E κ cells slots tgt ls st M) (kf : ¬ y ≤ x → G E κ cells slots (pc + 3) ls st M) : G E κ cells slots pc ls (vi y :: vi x :: st) M := by
  obtain ⟨l, D, Gc, B, b⟩ := E
  obtain ⟨p, e, R, s, m, args, below, meth, c, Q⟩ := κ
  obtain ⟨hx, hb, -⟩ := X
  exact fun H locs la hl hP hS => lv_icmp_ge hx hb hd ht (fun q => kt q H locs la hl hP hS) (fun q => kf q H locs la hl hP hS)
theorem G_if_gt (X : Cx E κ cc nL own ret d cz sz) {x : Int32} {off : Int} {tgt : Nat} (hd : decode cc pc = .ok (.ifCond .gt off, 3)) (ht : (pc : Int) + off = (tgt : Int)) (kt : 0 < x → G E κ cells slots tgt ls st M) (kf : ¬ 0 < x → G E κ cells slots (pc + 3) ls st M) : G E κ cells slots pc ls (vi x :: st) M := by
  obtain ⟨l, D, Gc, B, b⟩ := E
  obtain ⟨p, e, R, s, m, args, below, meth, c, Q⟩ := κ
  obtain ⟨hx, hb, -⟩ := X
  exact fun H locs la hl hP hS => lv_if_gt hx hb hd ht (fun q => kt q H locs la hl hP hS) (fun q => kf q H locs la hl hP hS)
theorem G_icmp_gt (X : Cx E κ cc nL own ret d cz sz) {x y : Int32} {off : Int} {tgt : Nat} (hd : decode cc pc = .ok (.if_icmp .gt off, 3)) (ht : (pc : Int) + off = (tgt : Int)) (kt : y < x → G E κ cells slots tgt ls st M) (kf : ¬ y < x → G E κ cells slots (pc + 3) ls st M) : G E κ cells slots pc ls (vi y :: vi x :: st) M := by
  obtain ⟨l, D, Gc, B, b⟩ := E
  obtain ⟨p, e, R, s, m, args, below, meth, c, Q⟩ := κ
  obtain ⟨hx, hb, -⟩ := X
  exact fun H locs la hl hP hS => lv_icmp_gt hx hb hd ht (fun q => kt q H locs la hl hP hS) (fun q => kf q H locs la hl hP hS)
theorem G_if_le (X : Cx E κ cc nL own ret d cz sz) {x : Int32} {off : Int} {tgt : Nat} (hd : decode cc pc = .ok (.ifCond .le off, 3)) (ht : (pc : Int) + off = (tgt : Int)) (kt : x ≤ 0 → G E κ cells slots tgt ls st M) (kf : ¬ x ≤ 0 → G E κ cells slots (pc + 3) ls st M) : G E κ cells slots pc ls (vi x :: st) M := by
  obtain ⟨l, D, Gc, B, b⟩ := E
  obtain ⟨p, e, R, s, m, args, below, meth, c, Q⟩ := κ
  obtain ⟨hx, hb, -⟩ := X
  exact fun H locs la hl hP hS => lv_if_le hx hb hd ht (fun q => kt q H locs la hl hP hS) (fun q => kf q H locs la hl hP hS)
theorem G_icmp_le (X : Cx E κ cc nL own ret d cz sz) {x y : Int32} {off : Int} {tgt : Nat} (hd : decode cc pc = .ok (.if_icmp .le off, 3)) (ht : (pc : Int) + off = (tgt : Int)) (kt : x ≤ y → G E κ cells slots tgt ls st M) (kf : ¬ x ≤ y → G E κ cells slots (pc + 3) ls st M) : G E κ cells slots pc ls (vi y :: vi x :: st) M := by
  obtain ⟨l, D, Gc, B, b⟩ := E
  obtain ⟨p, e, R, s, m, args, below, meth, c, Q⟩ := κ
  obtain ⟨hx, hb, -⟩ := X
  exact fun H locs la hl hP hS => lv_icmp_le hx hb hd ht (fun q => kt q H locs la hl hP hS) (fun q => kf q H locs la hl hP hS)
theorem G_goto (X : Cx E κ cc nL own ret d cz sz) {off : Int} {tgt : Nat} (hd : decode cc pc = .ok (.goto off, 3)) (ht : (pc : Int) + off = (tgt : Int)) (k : G E κ cells slots tgt ls st M) : G E κ cells slots pc ls st M := by
  obtain ⟨l, D, Gc, B, b⟩ := E
  obtain ⟨p, e, R, s, m, args, below, meth, c, Q⟩ := κ
  obtain ⟨hx, hb, -⟩ := X
  exact fun H locs la hl hP hS => lv_goto hx hb hd ht (k H locs la hl hP hS)
theorem G_tableOut (X : Cx E κ cc nL own ret d cz sz) {dflt lo hi : Int} {offs : Array Int} {len : Nat} {x : Int32} {tgt : Nat} (hd : decode cc pc = .ok (.tableswitch dflt lo hi offs, len)) (h : x.toInt < lo ∨ hi < x.toInt) (ht : (pc : Int) + dflt = (tgt : Int)) (k : G E κ cells slots tgt ls st M) : G E κ cells slots pc ls (vi x :: st) M := by
  obtain ⟨l, D, Gc, B, b⟩ := E
  obtain ⟨p, e, R, s, m, args, below, meth, c, Q⟩ := κ
  obtain ⟨hx, hb, -⟩ := X
  exact fun H locs la hl hP hS => lv_tableOut hx hb hd h ht (k H locs la hl hP hS)
theorem G_tableIn (X : Cx E κ cc nL own ret d cz sz) {dflt lo hi : Int} {offs : Array Int} {len : Nat} {x : Int32} {off : Int} {tgt : Nat} (hd : decode cc pc = .ok (.tableswitch dflt lo hi offs, len)) (h1 : ¬ x.toInt < lo) (h2 : ¬ hi < x.toInt) (ho : offs[(x.toInt - lo).toNat]? = some off) (ht : (pc : Int) + off = (tgt : Int)) (k : G E κ cells slots tgt ls st M) : G E κ cells slots pc ls (vi x :: st) M := by
  obtain ⟨l, D, Gc, B, b⟩ := E
  obtain ⟨p, e, R, s, m, args, below, meth, c, Q⟩ := κ
  obtain ⟨hx, hb, -⟩ := X
  exact fun H locs la hl hP hS => lv_tableIn hx hb hd h1 h2 ho ht (k H locs la hl hP hS)
theorem G_lookup (X : Cx E κ cc nL own ret d cz sz) {dflt : Int} {ps : Array (Int × Int)} {len : Nat} {x : Int32} {off : Int} {tgt : Nat} (hd : decode cc pc = .ok (.lookupswitch dflt ps, len)) (hp : (ps.toList.zip (ps.toList.drop 1)).all (fun (a, next) => a.1 < next.1) = true) (ho : Op.lookupswitch.offset ps.toList dflt x.toInt = off) (ht : (pc : Int) + off = (tgt : Int)) (k : G E κ cells slots tgt ls st M) : G E κ cells slots pc ls (vi x :: st) M := by
  obtain ⟨l, D, Gc, B, b⟩ := E
  obtain ⟨p, e, R, s, m, args, below, meth, c, Q⟩ := κ
  obtain ⟨hx, hb, -⟩ := X
  exact fun H locs la hl hP hS => lv_lookup hx hb hd hp ho ht (k H locs la hl hP hS)
end GRules2
end
section
/-! THE RULES for fields, arrays, calls and returns -/
def uC (I : gI) (a : Nat) (f : Nat → Int32) : gI := fun c => if c = a then f else I c
def uQ (P : gP) (a : Nat) (f : Nat → Option Nat) : gP := fun c => if c = a then f else P c
/-- a field, as an instruction of the class 'own' names it -/
def gFd (own : String) (ix ci k : Nat) (fin : Bool) (ty : FieldType) : Prop := ∃ (C : String) (T : u_T) (N : Nat) (tys : Nat → FieldType), vwCl[ci]? = some (C, T, N) ∧ N = gN ci ∧ (∀ w ∈ u_ws C T N, w ∈ gT) ∧ k < N ∧ Cond.fieldLink own ix C (T k).2.1 (T k).2.2.1 ∈ gT ∧ (T k).1 = C ∧ (T k).2.2.2 = fin ∧ parseFieldDescriptor (T k).2.2.1 = some ty ∧ (∀ j, j < N → parseFieldDescriptor (T j).2.2.1 = some (tys j)) ∧ (∀ a, a < N → ∀ b, b < N → a ≠ b → (T a).2.1 ≠ (T b).2.1)
def gCB (own : String) (ix : Nat) (y : MethodName) (bc : ByteArray) (nL : Nat) (ret : Option FieldType) (n : Nat) : Prop := Cond.methodLink own ix y ∈ gT ∧ Cond.initialized y.cls ∈ gT ∧ Cond.code y bc nL ret ∈ gT ∧ (y.cls ≠ "java/lang/invoke/MethodHandle" ∧ y.cls ≠ "java/lang/invoke/VarHandle" ∧ (parseMethodDescriptor y.desc).map (fun d => d.parameters.length) = some n)
def gCN (y : MethodName) (bc : ByteArray) (nL : Nat) (ret : Option FieldType) (n : Nat) : Prop := Cond.initialized y.cls ∈ gT ∧ Cond.code y bc nL ret ∈ gT ∧ (y.cls ≠ "java/lang/invoke/MethodHandle" ∧ y.cls ≠ "java/lang/invoke/VarHandle" ∧ (parseMethodDescriptor y.desc).map (fun d => d.parameters.length) = some n)
def gVI (y : MethodName) : Prop := Cond.instanceMethod y ∈ gT ∧ Cond.selects y.cls y y ∈ gT
theorem lt10 {ci : Nat} {q : vw_C} (h : vwCl[ci]? = some q) : ci < 10 := by
  have h1 : ci < 6 := (List.getElem?_eq_some_iff.mp h).1
  omega
section GMem
variable {E : gEnv} {κ : gCtx} {cc : ByteArray} {nL d cz sz cells slots pc : Nat} {own : String} {ret : Option FieldType} {ls : List (Option gV)} {st : List gV} {S : List (Nat × Nat)} {I : gI} {P : gP}
theorem G_getI (X : Cx E κ cc nL own ret d cz sz) {ix ci k a n : Nat} {fin : Bool} {ty : FieldType} (hF : gFd own ix ci k fin ty) (hr : gR ci k = false) (hsh : S[a]? = some (ci, n)) (hd : decode cc pc = .ok (.getfield ix, 3)) (kk : G E κ cells slots (pc + 3) ls (vi (I a k) :: st) (S, I, P)) : G E κ cells slots pc ls (vr a :: st) (S, I, P) := by
  obtain ⟨l, D, Gc, B, b⟩ := E
  obtain ⟨p, e, R, s, m, args, below, meth, c, Q⟩ := κ
  obtain ⟨hx, hb, -, ho, hts, hK, -⟩ := X
  obtain ⟨C, T, N, tys, hc, hN, hin, hk, hl, hT, -⟩ := hF
  intro H locs la hl0 hP hS
  have h10 := lt10 hc
  have he := gW_at (Gc := Gc) (B := B) (M := (S, I, P)) hsh
  rw [gE_obj h10] at he
  refine va_get (D := D) hx hb hts hin ho hK.1 hP a he hc k hk (hts _ hl) (fun x h => by rw [hT] at h; exact h) (v := .int (I a k)) ?_ hd (kk H locs la hl0 hP hS)
  rw [gFs_at (by rw [← hN]; exact hk)]
  simp [gF, hr]
theorem G_getR (X : Cx E κ cc nL own ret d cz sz) {ix ci k a n r : Nat} {fin : Bool} {ty : FieldType} (hF : gFd own ix ci k fin ty) (hr : gR ci k = true) (hsh : S[a]? = some (ci, n)) (hv : P a k = some r) (hd : decode cc pc = .ok (.getfield ix, 3)) (kk : G E κ cells slots (pc + 3) ls (vr r :: st) (S, I, P)) : G E κ cells slots pc ls (vr a :: st) (S, I, P) := by
  obtain ⟨l, D, Gc, B, b⟩ := E
  obtain ⟨p, e, R, s, m, args, below, meth, c, Q⟩ := κ
  obtain ⟨hx, hb, -, ho, hts, hK, -⟩ := X
  obtain ⟨C, T, N, tys, hc, hN, hin, hk, hl, hT, -⟩ := hF
  intro H locs la hl0 hP hS
  have h10 := lt10 hc
  have he := gW_at (Gc := Gc) (B := B) (M := (S, I, P)) hsh
  rw [gE_obj h10] at he
  refine va_get (D := D) hx hb hts hin ho hK.1 hP a he hc k hk (hts _ hl) (fun x h => by rw [hT] at h; exact h) (v := .ref (B + r)) ?_ hd (kk H locs la hl0 hP hS)
  rw [gFs_at (by rw [← hN]; exact hk)]
  simp [gF, hr, hv, va_rf]
theorem G_putI (X : Cx E κ cc nL own ret d cz sz) {ix ci k a n : Nat} {ty : FieldType} {x : Int32} (hF : gFd own ix ci k false ty) (hr : gR ci k = false) (hsh : S[a]? = some (ci, n)) (hn : narrow ty (.int x) = .int x) (hf : fits ty (.int x) = true) (hd : decode cc pc = .ok (.putfield ix, 3)) (kk : G E κ cells slots (pc + 3) ls st (S, uI I a k x, P)) : G E κ cells slots pc ls (vi x :: vr a :: st) (S, I, P) := by
  obtain ⟨l, D, Gc, B, b⟩ := E
  obtain ⟨p, e, R, s, m, args, below, meth, c, Q⟩ := κ
  obtain ⟨hx, hb, -, ho, hts, hK, -⟩ := X
  obtain ⟨C, T, N, tys, hc, hN, hin, hk, hl, hT, hfin, hpd, hty, hnm⟩ := hF
  intro H locs la hl0 hP hS
  have h10 := lt10 hc
  have he := gW_at (Gc := Gc) (B := B) (M := (S, I, P)) hsh
  rw [gE_obj h10] at he
  have hk' : k < gN ci := by rw [← hN]; exact hk
  refine va_put (D := D) hx hb hts hin tys hty hnm ho hK.1 hP gW_D hS a he hc k hk (hts _ hl) (fun x h => by rw [hT] at h; exact h) hfin hpd hn hf (by simpa using hk') hd (fun H1 locs1 hP1 _ hS1 => kk H1 locs1 la hl0 ?_ hS1)
  rw [gW_uI hsh, gE_obj h10, gFs_uI hk' hr]
  exact hP1
theorem G_putR (X : Cx E κ cc nL own ret d cz sz) {ix ci k a n r : Nat} {ty : FieldType} (hF : gFd own ix ci k false ty) (hr : gR ci k = true) (hsh : S[a]? = some (ci, n)) (hn : ∀ q, narrow ty (.ref q) = .ref q) (hf : ∀ q, fits ty (.ref q) = true) (hd : decode cc pc = .ok (.putfield ix, 3)) (kk : G E κ cells slots (pc + 3) ls st (S, I, uP P a k (some r))) : G E κ cells slots pc ls (vr r :: vr a :: st) (S, I, P) := by
  obtain ⟨l, D, Gc, B, b⟩ := E
  obtain ⟨p, e, R, s, m, args, below, meth, c, Q⟩ := κ
  obtain ⟨hx, hb, -, ho, hts, hK, -⟩ := X
  obtain ⟨C, T, N, tys, hc, hN, hin, hk, hl, hT, hfin, hpd, hty, hnm⟩ := hF
  intro H locs la hl0 hP hS
  have h10 := lt10 hc
  have he := gW_at (Gc := Gc) (B := B) (M := (S, I, P)) hsh
  rw [gE_obj h10] at he
  have hk' : k < gN ci := by rw [← hN]; exact hk
  refine va_put (D := D) (v := .ref (B + r)) hx hb hts hin tys hty hnm ho hK.1 hP gW_D hS a he hc k hk (hts _ hl) (fun x h => by rw [hT] at h; exact h) hfin hpd (hn _) (hf _) (by simpa using hk') hd (fun H1 locs1 hP1 _ hS1 => kk H1 locs1 la hl0 ?_ hS1)
  rw [gW_uP hsh, gE_obj h10, gFs_uP hk' hr]
  exact hP1
theorem G_putF (X : Cx E κ cc nL own ret d cz sz) {ix ci k a n r : Nat} {ty : FieldType} (hF : gFd own ix ci k true ty) (hO : ∀ q : vw_C, vwCl[ci]? = some q → q.1 = own) (hr : gR ci k = true) (hsh : S[a]? = some (ci, n)) (hn : ∀ q, narrow ty (.ref q) = .ref q) (hf : ∀ q, fits ty (.ref q) = true) (hnm2 : κ.2.2.2.2.2.2.2.1.name = "<init>") (hd : decode cc pc = .ok (.putfield ix, 3)) (kk : G E κ cells slots (pc + 3) ls st (S, I, uP P a k (some r))) : G E κ cells slots pc ls (vr r :: vr a :: st) (S, I, P) := by
  obtain ⟨l, D, Gc, B, b⟩ := E
  obtain ⟨p, e, R, s, m, args, below, meth, c, Q⟩ := κ
  obtain ⟨hx, hb, -, ho, hts, hK, -⟩ := X
  obtain ⟨C, T, N, tys, hc, hN, hin, hk, hl, hT, hfin, hpd, hty, hnm⟩ := hF
  intro H locs la hl0 hP hS
  have h10 := lt10 hc
  have he := gW_at (Gc := Gc) (B := B) (M := (S, I, P)) hsh
  rw [gE_obj h10] at he
  have hk' : k < gN ci := by rw [← hN]; exact hk
  have hO' : C = own := hO _ hc
  refine va_putF (D := D) (v := .ref (B + r)) hx hb hts hin tys hty hnm ho hK.1 hP gW_D hS a he hc k hk (hts _ hl) (fun x h => by rw [hT] at h; exact h) hfin hnm2 (by rw [hT, hO']) hpd (hn _) (hf _) (by simpa using hk') hd (fun H1 locs1 hP1 _ hS1 => kk H1 locs1 la hl0 ?_ hS1)
  rw [gW_uP hsh, gE_obj h10, gFs_uP hk' hr]
  exact hP1
theorem G_iald (X : Cx E κ cc nL own ret d cz sz) {a n : Nat} {i : Int32} (hsh : S[a]? = some (10, n)) (hin : vp_in i n) (hd : decode cc pc = .ok (.iaload, 1)) (kk : G E κ cells slots (pc + 1) ls (vi (I a i.toNatClampNeg) :: st) (S, I, P)) : G E κ cells slots pc ls (vi i :: vr a :: st) (S, I, P) := by
  obtain ⟨l, D, Gc, B, b⟩ := E
  obtain ⟨p, e, R, s, m, args, below, meth, c, Q⟩ := κ
  obtain ⟨hx, hb, -, ho, hts, hK, -⟩ := X
  intro H locs la hl0 hP hS
  have he := gW_at (Gc := Gc) (B := B) (M := (S, I, P)) hsh
  rw [gE_int (by decide) (by decide)] at he
  exact va_iald hx hb hK.1 hP a 0 he rfl hin hd (kk H locs la hl0 hP hS)
theorem G_cald (X : Cx E κ cc nL own ret d cz sz) {a n : Nat} {i : Int32} (hsh : S[a]? = some (11, n)) (hin : vp_in i n) (hd : decode cc pc = .ok (.caload, 1)) (kk : G E κ cells slots (pc + 1) ls (vi (I a i.toNatClampNeg) :: st) (S, I, P)) : G E κ cells slots pc ls (vi i :: vr a :: st) (S, I, P) := by
  obtain ⟨l, D, Gc, B, b⟩ := E
  obtain ⟨p, e, R, s, m, args, below, meth, c, Q⟩ := κ
  obtain ⟨hx, hb, -, ho, hts, hK, -⟩ := X
  intro H locs la hl0 hP hS
  have he := gW_at (Gc := Gc) (B := B) (M := (S, I, P)) hsh
  rw [gE_int (by decide) (by decide)] at he
  exact va_cald hx hb hK.1 hP a 1 he rfl hin hd (kk H locs la hl0 hP hS)
theorem G_iast (X : Cx E κ cc nL own ret d cz sz) {a n : Nat} {i x : Int32} (hsh : S[a]? = some (10, n)) (hin : vp_in i n) (hd : decode cc pc = .ok (.iastore, 1)) (kk : G E κ cells slots (pc + 1) ls st (S, uI I a i.toNatClampNeg x, P)) : G E κ cells slots pc ls (vi x :: vi i :: vr a :: st) (S, I, P) := by
  obtain ⟨l, D, Gc, B, b⟩ := E
  obtain ⟨p, e, R, s, m, args, below, meth, c, Q⟩ := κ
  obtain ⟨hx, hb, -, ho, hts, hK, -⟩ := X
  intro H locs la hl0 hP hS
  have he := gW_at (Gc := Gc) (B := B) (M := (S, I, P)) hsh
  rw [gE_int (by decide) (by decide)] at he
  refine va_iast hx hb hK.1 hP gW_D hS a 0 he rfl hin hd (fun H1 locs1 hP1 _ hS1 => kk H1 locs1 la hl0 ?_ hS1)
  rw [gW_uI hsh, gE_int (by decide) (by decide)]
  have e : uI I a i.toNatClampNeg x a = upd (I a) i.toNatClampNeg x := by simp [uI]
  rw [e]
  exact hP1
theorem G_cast (X : Cx E κ cc nL own ret d cz sz) {a n : Nat} {i x : Int32} (hsh : S[a]? = some (11, n)) (hin : vp_in i n) (hd : decode cc pc = .ok (.castore, 1)) (kk : G E κ cells slots (pc + 1) ls st (S, uI I a i.toNatClampNeg (vp_nar .char x), P)) : G E κ cells slots pc ls (vi x :: vi i :: vr a :: st) (S, I, P) := by
  obtain ⟨l, D, Gc, B, b⟩ := E
  obtain ⟨p, e, R, s, m, args, below, meth, c, Q⟩ := κ
  obtain ⟨hx, hb, -, ho, hts, hK, -⟩ := X
  intro H locs la hl0 hP hS
  have he := gW_at (Gc := Gc) (B := B) (M := (S, I, P)) hsh
  rw [gE_int (by decide) (by decide)] at he
  refine va_cast hx hb hK.1 hP gW_D hS a 1 he rfl hin hd (fun H1 locs1 hP1 _ hS1 => kk H1 locs1 la hl0 ?_ hS1)
  rw [gW_uI hsh, gE_int (by decide) (by decide)]
  have e : uI I a i.toNatClampNeg (vp_nar .char x) a = upd (I a) i.toNatClampNeg (vp_nar .char x) := by simp [uI]
  rw [e]
  exact hP1
theorem gTy_at (Gc : Nat → ClassId) {kd : Nat} (h : kd = 12 ∨ kd = 13) : (gTy Gc)[kd - 10]? = some (Gc kd, .object (if kd = 12 then RX0 else RX1)) := by
  rcases h with rfl | rfl <;> rfl
theorem G_aald (X : Cx E κ cc nL own ret d cz sz) {a n kd r : Nat} {i : Int32} (hsh : S[a]? = some (kd, n)) (hkd : kd = 12 ∨ kd = 13) (hin : vp_in i n) (hv : P a i.toNatClampNeg = some r) (hd : decode cc pc = .ok (.aaload, 1)) (kk : G E κ cells slots (pc + 1) ls (vr r :: st) (S, I, P)) : G E κ cells slots pc ls (vi i :: vr a :: st) (S, I, P) := by
  obtain ⟨l, D, Gc, B, b⟩ := E
  obtain ⟨p, e, R, s, m, args, below, meth, c, Q⟩ := κ
  obtain ⟨hx, hb, -, ho, hts, hK, -⟩ := X
  intro H locs la hl0 hP hS
  have he := gW_at (Gc := Gc) (B := B) (M := (S, I, P)) hsh
  rw [gE_ref (by omega)] at he
  refine va_aldq hx hb hK.1 hP a (kd - 10) he (gTy_at Gc hkd) hin hd ?_
  have e : va_rf ((fun j => (P a j).map (fun x => B + x)) i.toNatClampNeg) = .ref (B + r) := by simp [hv, va_rf]
  rw [e]
  exact kk H locs la hl0 hP hS
theorem G_aast (X : Cx E κ cc nL own ret d cz sz) {a n kd r nr : Nat} {i : Int32} (hsh : S[a]? = some (kd, n)) (hkd : kd = 12 ∨ kd = 13) (hr : S[r]? = some (kd - 12, nr)) (hin : vp_in i n) (hd : decode cc pc = .ok (.aastore, 1)) (kk : G E κ cells slots (pc + 1) ls st (S, I, uP P a i.toNatClampNeg (some r))) : G E κ cells slots pc ls (vr r :: vi i :: vr a :: st) (S, I, P) := by
  obtain ⟨l, D, Gc, B, b⟩ := E
  obtain ⟨p, e, R, s, m, args, below, meth, c, Q⟩ := κ
  obtain ⟨hx, hb, -, ho, hts, hK, -⟩ := X
  intro H locs la hl0 hP hS
  have he := gW_at (Gc := Gc) (B := B) (M := (S, I, P)) hsh
  rw [gE_ref (by omega)] at he
  have hv := gW_at (Gc := Gc) (B := B) (M := (S, I, P)) hr
  rw [gE_obj (by omega)] at hv
  have hc : ∃ q : vw_C, vwCl[kd - 12]? = some q ∧ (if kd = 12 then RX0 else RX1) = q.1 := by
    rcases hkd with rfl | rfl
    · exact ⟨_, rfl, rfl⟩
    · exact ⟨_, rfl, rfl⟩
  obtain ⟨q, hq, hqe⟩ := hc
  have ht := gTy_at Gc hkd
  rw [hqe] at ht
  refine va_astq hx hb hK.1 hP gW_D hS a (kd - 10) r (kd - 12) he ht hv hq hin hd (fun H1 locs1 hP1 _ hS1 => kk H1 locs1 la hl0 ?_ hS1)
  rw [gW_uP hsh, gE_ref (by omega)]
  have e : (fun j => (uP P a i.toNatClampNeg (some r) a j).map (fun x => B + x)) = va_up (fun j => (P a j).map (fun x => B + x)) i.toNatClampNeg (some (B + r)) := by
    funext j
    by_cases hj : j = i.toNatClampNeg
    · simp [uP, va_up, hj]
    · simp [uP, va_up, hj]
  rw [e]
  exact hP1
theorem G_alen (X : Cx E κ cc nL own ret d cz sz) {a n kd : Nat} (hsh : S[a]? = some (kd, n)) (hkd : kd = 10 ∨ kd = 11 ∨ kd = 12 ∨ kd = 13) (hd : decode cc pc = .ok (.arraylength, 1)) (kk : G E κ cells slots (pc + 1) ls (vi (nI n) :: st) (S, I, P)) : G E κ cells slots pc ls (vr a :: st) (S, I, P) := by
  obtain ⟨l, D, Gc, B, b⟩ := E
  obtain ⟨p, e, R, s, m, args, below, meth, c, Q⟩ := κ
  obtain ⟨hx, hb, -, ho, hts, hK, -⟩ := X
  intro H locs la hl0 hP hS
  have he := gW_at (Gc := Gc) (B := B) (M := (S, I, P)) hsh
  rcases hkd with rfl | rfl | rfl | rfl
  · rw [gE_int (by decide) (by decide)] at he
    exact va_alen hx hb hK.1 hP a 0 he rfl rfl hd (kk H locs la hl0 hP hS)
  · rw [gE_int (by decide) (by decide)] at he
    exact va_alen hx hb hK.1 hP a 1 he rfl rfl hd (kk H locs la hl0 hP hS)
  · rw [gE_ref (by decide)] at he
    exact va_alen hx hb hK.1 hP a 2 he rfl rfl hd (kk H locs la hl0 hP hS)
  · rw [gE_ref (by decide)] at he
    exact va_alen hx hb hK.1 hP a 3 he rfl rfl hd (kk H locs la hl0 hP hS)
/-- the law's script -/
def gX (E : gEnv) (κ : gCtx) (L : Nat) (xs : Nat → Int32) : Prop := match E, κ with
  | (_, _, _, B, b), (_, _, _, s, _) => va_X b L xs s s.heap ∧ b < B ∧ b < s.heap.size
theorem G_sld (X : Cx E κ cc nL own ret d cz sz) {L : Nat} {xs : Nat → Int32} {M : gM} (hX : gX E κ L xs) {i : Int32} (hin : vp_in i L) (hd : decode cc pc = .ok (.iaload, 1)) (kk : G E κ cells slots (pc + 1) ls (vi (xs i.toNatClampNeg) :: st) M) : G E κ cells slots pc ls (vi i :: vsc :: st) M := by
  obtain ⟨l, D, Gc, B, b⟩ := E
  obtain ⟨p, e, R, s, m, args, below, meth, c, Q⟩ := κ
  obtain ⟨hx, hb, -, ho, hts, hK, -⟩ := X
  intro H locs la hl0 hP hS
  exact va_sld hx hb hX.1 hX.2.2 (Nat.not_le.mpr hX.2.1) hS hin hd (kk H locs la hl0 hP hS)
theorem G_slen (X : Cx E κ cc nL own ret d cz sz) {L : Nat} {xs : Nat → Int32} {M : gM} (hX : gX E κ L xs) (hd : decode cc pc = .ok (.arraylength, 1)) (kk : G E κ cells slots (pc + 1) ls (vi (nI L) :: st) M) : G E κ cells slots pc ls (vsc :: st) M := by
  obtain ⟨l, D, Gc, B, b⟩ := E
  obtain ⟨p, e, R, s, m, args, below, meth, c, Q⟩ := κ
  obtain ⟨hx, hb, -, ho, hts, hK, -⟩ := X
  intro H locs la hl0 hP hS
  exact va_slen hx hb hX.1 hX.2.2 (Nat.not_le.mpr hX.2.1) hS hd (kk H locs la hl0 hP hS)
theorem gcat_sum (B b : Nat) : ∀ st : List gV, ((st.map (gv B b)).map fun v => v.category).sum = st.length
  | [] => rfl
  | v :: r => by
    rw [List.map_cons, List.map_cons, List.sum_cons, gcat_sum B b r, gv_cat, List.length_cons]
    omega
theorem groom (B b : Nat) {m : MethodId} {pc : Nat} {la : Array Slot} {s0 : List Value} {st : List gV} (h : st.length ≤ 8) : 2 * (F0 m pc la s0).monitorRoom + ((st.map (gv B b)).map fun v => v.category).sum ≤ 8 := lv_room (by rw [gcat_sum]; exact h)
theorem gws_good {y : MethodName} {bc : ByteArray} {nL' : Nat} {ret' : Option FieldType} (h : Cond.code y bc nL' ret' ∈ gT) : GoodIn gT (gws y bc nL' ret') := gT_good fun w hw => by
  rcases List.mem_cons.mp hw with rfl | h1
  · exact h
  · exact h1
theorem gPr_blind {D : va_G} {Gc : Nat → ClassId} {B : Nat} {M : gM} {av : List Value} : FrameBlind (va_Pc av (gPr D Gc B M)) := fun a U g mk q => ⟨q.1, q.2.1, gKK.same (s := U) (U := U.calling g mk a) rfl q.2.2.1, q.2.2.2⟩
/-- behind a call, whatever the kind of the invoke -/
theorem G_back {l : Launch} {D : va_G} {Gc : Nat → ClassId} {B b : Nat} {p : Program} {e : Env} {R : Room} {s : State} {m : MethodId} {args : Array Value} {below : List Frame} {meth : Method} {c : Code} {Q : State → Prop} {H : Heap} {locs : List Loc} {la : Array Slot} {s0 : List Value} {a : Array Value} {mc ms : Nat} {rv : Option gV} {M1 : gM} (hB : B ≤ s.heap.size)
    (hr : va_Run p l e R s m args below meth c H locs cells slots mc ms (F0 m pc la s0) (st.map (gv B b)) (gQo D Gc B b rv M1 a) (fun q => B ≤ q)) (hl0 : gLk B b la ls) (hS : va_S (fun q => B ≤ q) s.heap H locs)
    (kk : G (l, D, Gc, B, b) (p, e, R, s, m, args, below, meth, c, Q) (cells + mc) (slots + ms) (pc + 3) ls (rv.toList ++ st) M1) : W p l e R s m args below meth c H locs cells slots Q (F0 m pc la s0) := by
  intro T hT X
  obtain ⟨v, st₀, t, T', L, h0, X', hL, e1, e2, ⟨hv, hP, hz, hk⟩, st1⟩ := hr T hT X
  cases hv
  rw [h0] at hz hk
  have hS' : va_S (fun q => B ≤ q) s.heap T'.heap (locs ++ L) := ⟨Nat.le_trans hS.1 (by rw [e1]; exact hz), fun q h1 h2 => by
      rw [e1, hk q (Nat.lt_of_lt_of_le h1 hS.1) h2]
      exact hS.2.1 q h1 h2, fun q hq => by
      rcases List.mem_append.mp hq with h | h
      · exact hS.2.2 q h
      · exact hL q h⟩
  obtain ⟨t2, a1, b1⟩ := kk T'.heap (locs ++ L) la hl0 (by rw [e1]; exact hP) hS' T' rfl X'
  refine ⟨t2, st1 t2 ?_, b1⟩
  cases rv with
  | none => exact a1
  | some w => exact a1
theorem G_callV (X : Cx E κ cc nL own ret d cz sz) {y : MethodName} {bc : ByteArray} {nL' ix n d' mc ms a ci k : Nat} {ret' : Option FieldType} {As sk : List gV} {M M1 : gM} {rv : Option gV} {C : String} {T : u_T} {N : Nat} (hM : Ctr E y bc nL' ret' d' mc ms (vr a :: As) M rv M1) (hw : gCB own ix y bc nL' ret' n) (hv : gVI y) (hc : vwCl[ci]? = some (C, T, N)) (hC : y.cls = C) (hsh : M.1[a]? = some (ci, k))
    (hn : As.length = n) (hsk : sk = As.reverse ++ vr a :: st) (hst : st.length ≤ 8) (hfr : d' + 1 ≤ d) (hnL : nL' ≤ 21) (hlen : ls.length = nL) (hcz : cells + mc ≤ cz) (hsz : slots + ms ≤ sz) (hd : decode cc pc = .ok (.invokevirtual ix, 3)) (kk : G E κ (cells + mc) (slots + ms) (pc + 3) ls (rv.toList ++ st) M1) : G E κ cells slots pc ls sk M := by
  subst hsk
  obtain ⟨l, D, Gc, B, b⟩ := E
  obtain ⟨p, e, R, s, m, args, below, meth, c, Q⟩ := κ
  obtain ⟨hx, hb, hml, ho, hts, hK, hB, -, -, hfr2, hlo, hcz2, hsz2⟩ := X
  obtain ⟨w1, w2, w3, w4⟩ := hw
  intro H locs la hl0 hP hS
  have h10 := lt10 hc
  have he := gW_at (Gc := Gc) (B := B) (M := M) hsh
  rw [gE_obj h10] at he
  have cb : CallB R s args own ix y bc nL' ret' (gws y bc nL' ret') { frames := d', cells := mc, slots := ms, locals := 40 * d' } mc ms n :=
    callB_of n hts (gws_good w3) rfl rfl rfl (hts _ w2) (hts _ w1) w4 ⟨by show d' + 1 ≤ R.frames; omega, by show 8 + (nL' + 11) + 40 * d' ≤ R.locals; omega⟩
  subst hC
  have hr := va_runV (b := B + a) (As := As.map (gv B b)) (rest := st.map (gv B b)) (g := F0 m pc la ((As.reverse ++ vr a :: st).map (gv B b))) (cells := cells) (slots := slots) (locs := locs) (below := below) (meth := meth) (e := e) (H := H) (C := y.cls) ⟨hx, hb, hml, ho, hts⟩ hM ⟨cb, hts _ hv.1, hts _ hv.2⟩
    ⟨gPr_blind, va_recv hK.1 hP hc he, fun U hU hW => ⟨rfl, by rw [hU]; exact hP, gKK.moved hW hK, by rw [hU]; exact Nat.le_trans hB hS.1⟩⟩ rfl (by simpa using hn) (hl0.1.trans hlen) (by simp [gv]) (groom B b hst) hd ⟨by omega, by omega⟩
  exact G_back hB hr hl0 hS kk
theorem G_callS (X : Cx E κ cc nL own ret d cz sz) {y : MethodName} {bc : ByteArray} {nL' ix n d' mc ms : Nat} {ret' : Option FieldType} {As sk : List gV} {M M1 : gM} {rv : Option gV} (hM : Ctr E y bc nL' ret' d' mc ms As M rv M1) (hw : gCB own ix y bc nL' ret' n) (hv : Cond.static y ∈ gT)
    (hn : As.length = n) (hsk : sk = As.reverse ++ st) (hst : st.length ≤ 8) (hfr : d' + 1 ≤ d) (hnL : nL' ≤ 21) (hlen : ls.length = nL) (hcz : cells + mc ≤ cz) (hsz : slots + ms ≤ sz) (hd : decode cc pc = .ok (.invokestatic ix, 3)) (kk : G E κ (cells + mc) (slots + ms) (pc + 3) ls (rv.toList ++ st) M1) : G E κ cells slots pc ls sk M := by
  subst hsk
  obtain ⟨l, D, Gc, B, b⟩ := E
  obtain ⟨p, e, R, s, m, args, below, meth, c, Q⟩ := κ
  obtain ⟨hx, hb, hml, ho, hts, hK, hB, -, -, hfr2, hlo, hcz2, hsz2⟩ := X
  obtain ⟨w1, w2, w3, w4⟩ := hw
  intro H locs la hl0 hP hS
  have cb : CallB R s args own ix y bc nL' ret' (gws y bc nL' ret') { frames := d', cells := mc, slots := ms, locals := 40 * d' } mc ms n :=
    callB_of n hts (gws_good w3) rfl rfl rfl (hts _ w2) (hts _ w1) w4 ⟨by show d' + 1 ≤ R.frames; omega, by show 8 + (nL' + 11) + 40 * d' ≤ R.locals; omega⟩
  have hr := va_runS (As := As.map (gv B b)) (rest := st.map (gv B b)) (g := F0 m pc la ((As.reverse ++ st).map (gv B b))) (cells := cells) (slots := slots) (locs := locs) (below := below) (meth := meth) (e := e) (H := H) ⟨hx, hb, hml, ho, hts⟩ hM ⟨cb, hts _ hv⟩
    ⟨gPr_blind, fun U hU hW => ⟨rfl, by rw [hU]; exact hP, gKK.moved hW hK, by rw [hU]; exact Nat.le_trans hB hS.1⟩⟩ rfl (by simpa using hn) (hl0.1.trans hlen) (by simp) (groom B b hst) hd ⟨by omega, by omega⟩
  exact G_back hB hr hl0 hS kk
theorem G_callI (X : Cx E κ cc nL own ret d cz sz) {y : MethodName} {bc : ByteArray} {nL' ix n d' mc ms a : Nat} {As sk : List gV} {M M1 : gM} {rv : Option gV} (hM : Ctr E y bc nL' none d' mc ms (vr a :: As) M rv M1) (hw : gCB own ix y bc nL' none n) (hv : Cond.instanceMethod y ∈ gT) (hy : y.name = "<init>")
    (hn : As.length = n) (hsk : sk = As.reverse ++ vr a :: st) (hst : st.length ≤ 8) (hfr : d' + 1 ≤ d) (hnL : nL' ≤ 21) (hlen : ls.length = nL) (hcz : cells + mc ≤ cz) (hsz : slots + ms ≤ sz) (hd : decode cc pc = .ok (.invokespecial ix, 3)) (kk : G E κ (cells + mc) (slots + ms) (pc + 3) ls (rv.toList ++ st) M1) : G E κ cells slots pc ls sk M := by
  subst hsk
  obtain ⟨l, D, Gc, B, b⟩ := E
  obtain ⟨p, e, R, s, m, args, below, meth, c, Q⟩ := κ
  obtain ⟨hx, hb, hml, ho, hts, hK, hB, -, -, hfr2, hlo, hcz2, hsz2⟩ := X
  obtain ⟨w1, w2, w3, w4⟩ := hw
  intro H locs la hl0 hP hS
  have cb : CallB R s args own ix y bc nL' none (gws y bc nL' none) { frames := d', cells := mc, slots := ms, locals := 40 * d' } mc ms n :=
    callB_of n hts (gws_good w3) rfl rfl rfl (hts _ w2) (hts _ w1) w4 ⟨by show d' + 1 ≤ R.frames; omega, by show 8 + (nL' + 11) + 40 * d' ≤ R.locals; omega⟩
  have hr := va_runI (b := B + a) (As := As.map (gv B b)) (rest := st.map (gv B b)) (g := F0 m pc la ((As.reverse ++ vr a :: st).map (gv B b))) (cells := cells) (slots := slots) (locs := locs) (below := below) (meth := meth) (e := e) (H := H) ⟨hx, hb, hml, ho, hts⟩ hM ⟨cb, hy, hts _ hv⟩
    ⟨gPr_blind, fun U hU hW => ⟨rfl, by rw [hU]; exact hP, gKK.moved hW hK, by rw [hU]; exact Nat.le_trans hB hS.1⟩⟩ rfl (by simpa using hn) (hl0.1.trans hlen) (by simp [gv]) (groom B b hst) hd ⟨by omega, by omega⟩
  exact G_back hB hr hl0 hS kk
def gNw (E : gEnv) (κ : gCtx) (w : Cond) : Prop := va_Nw w κ.2.2.2.1
theorem G_callIN (X : Cx E κ cc nL own ret d cz sz) {y : MethodName} {bc : ByteArray} {nL' ix n d' mc ms a : Nat} {As sk : List gV} {M M1 : gM} {rv : Option gV} {host : String} (hM : Ctr E y bc nL' none d' mc ms (vr a :: As) M rv M1) (hw : gCN y bc nL' none n) (hNw : gNw E κ (.methodLinkNest own ix y host)) (hv : Cond.instanceMethod y ∈ gT) (hy : y.name = "<init>")
    (hn : As.length = n) (hsk : sk = As.reverse ++ vr a :: st) (hst : st.length ≤ 8) (hfr : d' + 1 ≤ d) (hnL : nL' ≤ 21) (hlen : ls.length = nL) (hcz : cells + mc ≤ cz) (hsz : slots + ms ≤ sz) (hd : decode cc pc = .ok (.invokespecial ix, 3)) (kk : G E κ (cells + mc) (slots + ms) (pc + 3) ls (rv.toList ++ st) M1) : G E κ cells slots pc ls sk M := by
  subst hsk
  obtain ⟨l, D, Gc, B, b⟩ := E
  obtain ⟨p, e, R, s, m, args, below, meth, c, Q⟩ := κ
  obtain ⟨hx, hb, hml, ho, hts, hK, hB, -, -, hfr2, hlo, hcz2, hsz2⟩ := X
  obtain ⟨w2, w3, w4⟩ := hw
  intro H locs la hl0 hP hS
  have cb : va_CN R s args own ix y host bc nL' none (gws y bc nL' none) { frames := d', cells := mc, slots := ms, locals := 40 * d' } mc ms n :=
    va_cnB n hts (gws_good w3) rfl rfl rfl hNw (hts _ w2) w4 ⟨by show d' + 1 ≤ R.frames; omega, by show 8 + (nL' + 11) + 40 * d' ≤ R.locals; omega⟩
  have hr := va_runIN (b := B + a) (As := As.map (gv B b)) (rest := st.map (gv B b)) (g := F0 m pc la ((As.reverse ++ vr a :: st).map (gv B b))) (cells := cells) (slots := slots) (locs := locs) (below := below) (meth := meth) (e := e) (H := H) ⟨hx, hb, hml, ho, hts⟩ hM ⟨cb, hy, hts _ hv⟩
    ⟨gPr_blind, fun U hU hW => ⟨rfl, by rw [hU]; exact hP, gKK.moved hW hK, by rw [hU]; exact Nat.le_trans hB hS.1⟩⟩ rfl (by simpa using hn) (hl0.1.trans hlen) (by simp [gv]) (groom B b hst) hd ⟨by omega, by omega⟩
  exact G_back hB hr hl0 hS kk
theorem G_objInit (X : Cx E κ cc nL own ret d cz sz) {ix : Nat} {a : Nat} {M : gM} (h1 : Cond.methodLink own ix Lib.objectInit ∈ gT) (h2 : Cond.instanceMethod Lib.objectInit ∈ gT) (h3 : Cond.code Lib.objectInit ⟨#[0xb1]⟩ 1 none ∈ gT) (hst : st.length ≤ 8) (hfr : 1 ≤ d) (hlen : ls.length = nL) (hd : decode cc pc = .ok (.invokespecial ix, 3)) (kk : G E κ cells slots (pc + 3) ls st M) : G E κ cells slots pc ls (vr a :: st) M := by
  obtain ⟨l, D, Gc, B, b⟩ := E
  obtain ⟨p, e, R, s, m, args, below, meth, c, Q⟩ := κ
  obtain ⟨hx, hb, hml, ho, hts, hK, hB, -, -, hfr2, hlo, hcz2, hsz2⟩ := X
  intro H locs la hl0 hP hS
  refine W.objInit hx hb ho (hts _ h1) (hts _ h2) (hts _ h3) (g := F0 m pc la ((vr a :: st).map (gv B b))) rfl (by rw [hml]; exact hl0.1.trans hlen) rfl hd (by omega) ?_ (kk H locs la hl0 hP hS)
  have := groom B b (m := m) (pc := pc) (la := la) (s0 := (vr a :: st).map (gv B b)) hst
  omega
theorem G_iret (X : Cx E κ cc nL own ret d cz sz) {x : Int32} {M : gM} {ty : FieldType} (hR : gRt E κ cells slots (some (vi x)) M) (hret : ret = some ty) (hn : narrow ty (.int x) = .int x) (hd : decode cc pc = .ok (.ireturn, 1)) : G E κ cells slots pc ls [vi x] M := by
  subst hret
  obtain ⟨l, D, Gc, B, b⟩ := E
  obtain ⟨p, e, R, s, m, args, below, meth, c, Q⟩ := κ
  obtain ⟨hx, hb, hml, ho, hts, hK, hB, hlk, hr, -⟩ := X
  have hR : Q = _ := hR
  subst hR
  intro H locs la hl0 hP hS
  exact W.zret hx hb hr hn (fun t ht hW => ⟨rfl, by rw [ht]; exact hP, hS.F ht⟩) hS.2.2 hd hlk
theorem G_vret (X : Cx E κ cc nL own ret d cz sz) {M : gM} (hR : gRt E κ cells slots none M) (hret : ret = none) (hd : decode cc pc = .ok (.return_, 1)) : G E κ cells slots pc ls [] M := by
  subst hret
  obtain ⟨l, D, Gc, B, b⟩ := E
  obtain ⟨p, e, R, s, m, args, below, meth, c, Q⟩ := κ
  obtain ⟨hx, hb, hml, ho, hts, hK, hB, hlk, hr, -⟩ := X
  have hR : Q = _ := hR
  subst hR
  intro H locs la hl0 hP hS
  exact W.vret hx hb hr (fun t ht hW => ⟨rfl, by rw [ht]; exact hP, hS.F ht⟩) hS.2.2 hd hlk
theorem G_aret (X : Cx E κ cc nL own ret d cz sz) {a : Nat} {M : gM} {C : String} (hR : gRt E κ cells slots (some (vr a)) M) (hret : ret = some (.object C)) (hd : decode cc pc = .ok (.areturn, 1)) : G E κ cells slots pc ls [vr a] M := by
  subst hret
  obtain ⟨l, D, Gc, B, b⟩ := E
  obtain ⟨p, e, R, s, m, args, below, meth, c, Q⟩ := κ
  obtain ⟨hx, hb, hml, ho, hts, hK, hB, hlk, hr, -⟩ := X
  have hR : Q = _ := hR
  subst hR
  intro H locs la hl0 hP hS
  exact W.aret hx hb hr (Or.inl ⟨_, rfl⟩) (Or.inr ⟨_, rfl⟩) (fun t ht hW => ⟨rfl, by rw [ht]; exact hP, hS.F ht⟩) hS.2.2 hd hlk
end GMem
end
section
/-! THE RULES for what is made, and for the library's members -/
/-- the cells so far: those of the start and those that were made -/
def gSz (E : gEnv) (κ : gCtx) (cells n : Nat) : Prop := κ.2.2.2.1.heap.size + cells = E.2.2.2.1 + n
def uZ (I : gI) (a : Nat) : gI := uC I a (fun _ => 0)
def uZP (P : gP) (a : Nat) : gP := uQ P a (fun _ => none)
section GNew
variable {E : gEnv} {κ : gCtx} {cc : ByteArray} {nL d cz sz cells slots pc : Nat} {own : String} {ret : Option FieldType} {ls : List (Option gV)} {st : List gV} {S : List (Nat × Nat)} {I : gI} {P : gP}
theorem gE_uC_ne {Gc : Nat → ClassId} {B : Nat} {I : gI} {P : gP} {a c : Nat} {f : Nat → Int32} {sh : Nat × Nat} (h : c ≠ a) : gE Gc B (uC I a f) P c sh = gE Gc B I P c sh := by
  have e : uC I a f c = I c := by simp [uC, h]
  have e2 : gF B (uC I a f) P sh.1 c = gF B I P sh.1 c := by funext j; simp [gF, e]
  simp only [gE, e, e2]
theorem gE_uQ_ne {Gc : Nat → ClassId} {B : Nat} {I : gI} {P : gP} {a c : Nat} {f : Nat → Option Nat} {sh : Nat × Nat} (h : c ≠ a) : gE Gc B I (uQ P a f) c sh = gE Gc B I P c sh := by
  have e : uQ P a f c = P c := by simp [uQ, h]
  have e2 : gF B I (uQ P a f) sh.1 c = gF B I P sh.1 c := by funext j; simp [gF, e]
  simp only [gE, e, e2]
theorem gW_push {Gc : Nat → ClassId} {B : Nat} {f : Nat → Int32} {g : Nat → Option Nat} (sh : Nat × Nat) : gW Gc B (S ++ [sh], uC I S.length f, uQ P S.length g) = gW Gc B (S, I, P) ++ [(B + S.length, gE Gc B (uC I S.length f) (uQ P S.length g) S.length sh)] := by
  apply List.ext_getElem?
  intro i
  by_cases hi : i < S.length
  · rw [List.getElem?_append_left (by simpa [gW] using hi)]
    simp only [gW, List.getElem?_mapIdx, List.getElem?_append_left hi]
    rw [List.getElem?_eq_getElem hi]
    simp only [Option.map_some]
    rw [gE_uQ_ne (by omega), gE_uC_ne (by omega)]
  · by_cases hj : i = S.length
    · subst hj
      rw [List.getElem?_append_right (by simp [gW])]
      simp [gW]
    · rw [List.getElem?_eq_none (by simp [gW]; omega), List.getElem?_eq_none (by simp [gW]; omega)]
/-- how many cells there can be -/
theorem W_sz {p : Program} {l : Launch} {e : Env} {R : Room} {s : State} {m : MethodId} {args : Array Value} {below : List Frame} {meth : Method} {c : Code} {H : Heap} {locs : List Loc} {cells slots : Nat} {Q : State → Prop} {g : JFrame} (h : H.size ≤ s.heap.size + cells → W p l e R s m args below meth c H locs cells slots Q g) : W p l e R s m args below meth c H locs cells slots Q g := by
  intro T hT X
  exact h (by rw [← hT]; exact X.heapSize) T hT X
theorem gW_len {Gc : Nat → ClassId} {B : Nat} {M : gM} : (gW Gc B M).length = M.1.length := by simp [gW]
/-- the new cell's place -/
theorem g_fresh {Gc : Nat → ClassId} {B q : Nat} {M : gM} {x : va_E} {D : va_G} {H1 : Heap} {n : Nat} (hP : va_P D vwCl (gW Gc B M ++ [(q, x)]) H1) (hD : va_D (fun q => B ≤ q) (gW Gc B M ++ [(q, x)])) (hz : H1.size ≤ B + n + 1) (hn : M.1.length = n) : q = B + n := by
  subst hn
  have hq : (gW Gc B M ++ [(q, x)])[M.1.length]? = some (q, x) := by
    rw [List.getElem?_append_right (by rw [gW_len]; exact Nat.le_refl _), gW_len]
    simp
  have h1 : B ≤ q := hD.2 _ _ hq
  have h2 : q < H1.size := (hP _ _ hq).lt
  by_cases h3 : q = B + M.1.length
  · exact h3
  · exfalso
    have h4 : q - B < M.1.length := by omega
    obtain ⟨sh, hsh⟩ : ∃ sh, M.1[q - B]? = some sh := ⟨_, List.getElem?_eq_getElem h4⟩
    have h5 := gW_at (Gc := Gc) (B := B) hsh
    have h6 : (gW Gc B M ++ [(q, x)])[q - B]? = some (B + (q - B), gE Gc B M.2.1 M.2.2 (q - B) sh) := by
      rw [List.getElem?_append_left (by rw [gW_len]; exact h4)]
      exact h5
    have h7 := hD.1 _ _ _ _ hq h6 (by show q = B + (q - B); omega)
    omega
def gCl (own : String) (ix ci : Nat) : Prop := ∃ (C : String) (T : u_T) (N : Nat) (tys : Nat → FieldType), vwCl[ci]? = some (C, T, N) ∧ N = gN ci ∧ (∀ w ∈ u_ws C T N, w ∈ gT) ∧ (∀ j, j < N → parseFieldDescriptor (T j).2.2.1 = some (tys j)) ∧ Cond.classLink own ix C ∈ gT ∧ Cond.instantiable C N ∈ gT ∧ Cond.initialized C ∈ gT ∧ ∀ j, j < N → defaultValue (tys j) = if gR ci j = true then .null else .int 0
theorem G_new (X : Cx E κ cc nL own ret d cz sz) {ix ci : Nat} (hcl : gCl own ix ci) (hZ : gSz E κ cells S.length) (hcz : cells + 1 ≤ cz) (hsz : slots + gN ci ≤ sz) (hd : decode cc pc = .ok (.new ix, 3)) (kk : G E κ (cells + 1) (slots + gN ci) (pc + 3) ls (vr S.length :: st) (S ++ [(ci, 0)], uZ I S.length, uZP P S.length)) : G E κ cells slots pc ls st (S, I, P) := by
  obtain ⟨l, D, Gc, B, b⟩ := E
  obtain ⟨p, e, R, s, m, args, below, meth, c, Q⟩ := κ
  obtain ⟨hx, hb, hml, ho, hts, hK, hB, -, -, hfr2, hlo, hcz2, hsz2⟩ := X
  obtain ⟨C, T, N, tys, hc, hN, hin, hty, w1, w2, w3, hdf⟩ := hcl
  have hZ : s.heap.size + cells = B + S.length := hZ
  have h10 := lt10 hc
  subst hN
  intro H locs la hl0 hP hS
  refine va_new (D := D) (fs := (List.range (gN ci)).map (gF B (uZ I S.length) (uZP P S.length) ci S.length)) hx hb hts hin tys hty ho (hts _ w1) (hts _ w2) (hts _ w3) hK.1 hP gW_D hS (fun q hq => Nat.le_trans hB hq) hc (fun j hj => ?_) (by omega) (by omega) hd (fun q H1 hP1 hD1 hS1 => W_sz fun hz => ?_)
  · rw [hdf j hj]
    simp only [vp_V, List.getD, gFs_at hj, Option.getD_some]
    unfold gF
    split <;> simp [uZ, uZP, uC, uQ, va_rf]
  · have hq : q = B + S.length := g_fresh hP1 hD1 (by omega) rfl
    subst hq
    refine kk H1 locs la hl0 ?_ hS1
    have e := gW_push (Gc := Gc) (B := B) (S := S) (I := I) (P := P) (f := fun _ => 0) (g := fun _ => none) (ci, 0)
    rw [gE_obj h10] at e
    show va_P D vwCl (gW Gc B (S ++ [(ci, 0)], uC I S.length (fun _ => 0), uQ P S.length (fun _ => none))) H1
    rw [e]
    exact hP1
theorem va_RA_inj {U : State} {c1 c2 : ClassId} {ty : FieldType} (h1 : va_RA U c1 ty) (h2 : va_RA U c2 ty) : c1 = c2 := by
  cases ty with
  | object C =>
    obtain ⟨_, _, _, _, _, h⟩ := h1
    obtain ⟨_, _, _, _, _, h'⟩ := h2
    exact Option.some.inj (h.symm.trans h')
  | _ => exact Option.some.inj (h1.symm.trans h2)
theorem G_newa_int (X : Cx E κ cc nL own ret d cz sz) {n : Int32} {N : Nat} (hw : Cond.arrayClass .int ∈ gT) (hn : ¬ n < 0) (hN : n.toNatClampNeg = N) (hby : N ≤ 100000) (hZ : gSz E κ cells S.length) (hcz : cells + 1 ≤ cz) (hsz : slots + N ≤ sz) (hd : decode cc pc = .ok (.newarray .int, 2)) (kk : G E κ (cells + 1) (slots + N) (pc + 2) ls (vr S.length :: st) (S ++ [(10, N)], uZ I S.length, uZP P S.length)) : G E κ cells slots pc ls (vi n :: st) (S, I, P) := by
  obtain ⟨l, D, Gc, B, b⟩ := E
  obtain ⟨p, e, R, s, m, args, below, meth, c, Q⟩ := κ
  obtain ⟨hx, hb, hml, ho, hts, hK, hB, -, -, hfr2, hlo, hcz2, hsz2⟩ := X
  have hZ : s.heap.size + cells = B + S.length := hZ
  intro H locs la hl0 hP hS
  refine va_newa (atype := .int) (D := D) (ty := .int) (a0 := (N, .inl (fun _ => 0))) hx hb (hts _ hw) rfl hK.1 hP gW_D hS (fun q hq => Nat.le_trans hB hq) (fun cA => rfl) hn hN (by show N * 4 ≤ _; omega) (by omega) (by omega) hd (fun q cA H1 hK1 hP1 hD1 hS1 => W_sz fun hz => ?_)
  have hc : cA = Gc 10 := va_RA_inj (hK1.2 4 (cA, .int) rfl).2 (hK1.2 0 (Gc 10, .int) rfl).2
  subst hc
  have hq : q = B + S.length := g_fresh hP1 hD1 (by omega) rfl
  subst hq
  refine kk H1 locs la hl0 ?_ hS1
  have e := gW_push (Gc := Gc) (B := B) (S := S) (I := I) (P := P) (f := fun _ => 0) (g := fun _ => none) (10, N)
  rw [gE_int (by decide) (by decide)] at e
  show va_P D vwCl (gW Gc B (S ++ [(10, N)], uC I S.length (fun _ => 0), uQ P S.length (fun _ => none))) H1
  rw [e]
  have e2 : uC I S.length (fun _ => 0) S.length = fun _ => 0 := by simp [uC]
  rw [e2]
  exact hP1
theorem G_newa_char (X : Cx E κ cc nL own ret d cz sz) {n : Int32} {N : Nat} (hw : Cond.arrayClass .char ∈ gT) (hn : ¬ n < 0) (hN : n.toNatClampNeg = N) (hby : N ≤ 100000) (hZ : gSz E κ cells S.length) (hcz : cells + 1 ≤ cz) (hsz : slots + N ≤ sz) (hd : decode cc pc = .ok (.newarray .char, 2)) (kk : G E κ (cells + 1) (slots + N) (pc + 2) ls (vr S.length :: st) (S ++ [(11, N)], uZ I S.length, uZP P S.length)) : G E κ cells slots pc ls (vi n :: st) (S, I, P) := by
  obtain ⟨l, D, Gc, B, b⟩ := E
  obtain ⟨p, e, R, s, m, args, below, meth, c, Q⟩ := κ
  obtain ⟨hx, hb, hml, ho, hts, hK, hB, -, -, hfr2, hlo, hcz2, hsz2⟩ := X
  have hZ : s.heap.size + cells = B + S.length := hZ
  intro H locs la hl0 hP hS
  refine va_newa (atype := .char) (D := D) (ty := .char) (a0 := (N, .inl (fun _ => 0))) hx hb (hts _ hw) rfl hK.1 hP gW_D hS (fun q hq => Nat.le_trans hB hq) (fun cA => rfl) hn hN (by show N * 2 ≤ _; omega) (by omega) (by omega) hd (fun q cA H1 hK1 hP1 hD1 hS1 => W_sz fun hz => ?_)
  have hc : cA = Gc 11 := va_RA_inj (hK1.2 4 (cA, .char) rfl).2 (hK1.2 1 (Gc 11, .char) rfl).2
  subst hc
  have hq : q = B + S.length := g_fresh hP1 hD1 (by omega) rfl
  subst hq
  refine kk H1 locs la hl0 ?_ hS1
  have e := gW_push (Gc := Gc) (B := B) (S := S) (I := I) (P := P) (f := fun _ => 0) (g := fun _ => none) (11, N)
  rw [gE_int (by decide) (by decide)] at e
  show va_P D vwCl (gW Gc B (S ++ [(11, N)], uC I S.length (fun _ => 0), uQ P S.length (fun _ => none))) H1
  rw [e]
  have e2 : uC I S.length (fun _ => 0) S.length = fun _ => 0 := by simp [uC]
  rw [e2]
  exact hP1
theorem G_newq (X : Cx E κ cc nL own ret d cz sz) {ix kd : Nat} {n : Int32} {N : Nat} (hkd : kd = 12 ∨ kd = 13) (hw : Cond.classLink own ix (if kd = 12 then RX0 else RX1) ∈ gT) (hn : ¬ n < 0) (hN : n.toNatClampNeg = N) (hby : N ≤ 100000) (hZ : gSz E κ cells S.length) (hcz : cells + 1 ≤ cz) (hsz : slots + N ≤ sz) (hd : decode cc pc = .ok (.anewarray ix, 3)) (kk : G E κ (cells + 1) (slots + N) (pc + 3) ls (vr S.length :: st) (S ++ [(kd, N)], uZ I S.length, uZP P S.length)) : G E κ cells slots pc ls (vi n :: st) (S, I, P) := by
  obtain ⟨l, D, Gc, B, b⟩ := E
  obtain ⟨p, e, R, s, m, args, below, meth, c, Q⟩ := κ
  obtain ⟨hx, hb, hml, ho, hts, hK, hB, -, -, hfr2, hlo, hcz2, hsz2⟩ := X
  have hZ : s.heap.size + cells = B + S.length := hZ
  have hao : va_AO (if kd = 12 then RX0 else RX1) s := by
    split
    · exact hK.2.1
    · exact hK.2.2.1
  intro H locs la hl0 hP hS
  refine va_newq (D := D) (C := if kd = 12 then RX0 else RX1) hx hb ho (hts _ hw) hao hK.1 hP gW_D hS (fun q hq => Nat.le_trans hB hq) hn hN (by omega) (by omega) (by omega) hd (fun q cA H1 hK1 hP1 hD1 hS1 => W_sz fun hz => ?_)
  have hc : cA = Gc kd := by
    have h1 := gTy_at Gc hkd
    have h2 : kd - 10 < (gTy Gc).length := (List.getElem?_eq_some_iff.mp h1).1
    exact va_RA_inj (hK1.2 4 (cA, .object (if kd = 12 then RX0 else RX1)) rfl).2 (hK1.2 (kd - 10) _ (by rw [List.getElem?_append_left h2]; exact h1)).2
  subst hc
  have hq : q = B + S.length := g_fresh hP1 hD1 (by omega) rfl
  subst hq
  refine kk H1 locs la hl0 ?_ hS1
  have e := gW_push (Gc := Gc) (B := B) (S := S) (I := I) (P := P) (f := fun _ => 0) (g := fun _ => none) (kd, N)
  rw [gE_ref (by omega)] at e
  show va_P D vwCl (gW Gc B (S ++ [(kd, N)], uC I S.length (fun _ => 0), uQ P S.length (fun _ => none))) H1
  rw [e]
  have e2 : (fun j => (uQ P S.length (fun _ => none) S.length j).map (fun x => B + x)) = fun _ => none := by funext j; simp [uQ]
  rw [e2]
  exact hP1
theorem G_max (X : Cx E κ cc nL own ret d cz sz) {ix : Nat} {x y : Int32} {M : gM} (hw1 : Cond.methodLink own ix Lib.Math.max.name ∈ gT) (hw2 : Cond.static Lib.Math.max.name ∈ gT) (hw3 : Cond.initialized "java/lang/Math" ∈ gT) (hw4 : Cond.code Lib.Math.max.name Lib.Math.max.code 2 (some .int) ∈ gT) (hst : st.length ≤ 8) (hfr : 1 ≤ d) (hlen : ls.length = nL) (hcz : cells ≤ cz) (hsz : slots ≤ sz) (hd : decode cc pc = .ok (.invokestatic ix, 3)) (kk : G E κ cells slots (pc + 3) ls (vi (if x < y then y else x) :: st) M) : G E κ cells slots pc ls (vi y :: vi x :: st) M := by
  obtain ⟨l, D, Gc, B, b⟩ := E
  obtain ⟨p, e, R, s, m, args, below, meth, c, Q⟩ := κ
  obtain ⟨hx, hb, hml, ho, hts, hK, hB, -, -, hfr2, hlo, hcz2, hsz2⟩ := X
  intro H locs la hl0 hP hS
  exact va_mmax hx hb (hml.trans (hlen.symm.trans hl0.1.symm)) ho (hts _ hw1) (hts _ hw2) (hts _ hw3) (hts _ hw4) (by omega) (by rw [gcat_sum]; omega) (by omega) (by omega) hd (kk H locs la hl0 hP hS)
theorem G_min (X : Cx E κ cc nL own ret d cz sz) {ix : Nat} {x y : Int32} {M : gM} (hw1 : Cond.methodLink own ix Lib.Math.min.name ∈ gT) (hw2 : Cond.static Lib.Math.min.name ∈ gT) (hw3 : Cond.initialized "java/lang/Math" ∈ gT) (hw4 : Cond.code Lib.Math.min.name Lib.Math.min.code 2 (some .int) ∈ gT) (hst : st.length ≤ 8) (hfr : 1 ≤ d) (hlen : ls.length = nL) (hcz : cells ≤ cz) (hsz : slots ≤ sz) (hd : decode cc pc = .ok (.invokestatic ix, 3)) (kk : G E κ cells slots (pc + 3) ls (vi (if y < x then y else x) :: st) M) : G E κ cells slots pc ls (vi y :: vi x :: st) M := by
  obtain ⟨l, D, Gc, B, b⟩ := E
  obtain ⟨p, e, R, s, m, args, below, meth, c, Q⟩ := κ
  obtain ⟨hx, hb, hml, ho, hts, hK, hB, -, -, hfr2, hlo, hcz2, hsz2⟩ := X
  intro H locs la hl0 hP hS
  exact va_mmin hx hb (hml.trans (hlen.symm.trans hl0.1.symm)) ho (hts _ hw1) (hts _ hw2) (hts _ hw3) (hts _ hw4) (by omega) (by rw [gcat_sum]; omega) (by omega) (by omega) hd (kk H locs la hl0 hP hS)
theorem G_copyi (X : Cx E κ cc nL own ret d cz sz) {ix a0 a n0 n1 : Nat} {sp dp n : Int32} (hw1 : Cond.methodLink own ix arraycopyName ∈ gT) (hw2 : Cond.native arraycopyName ∈ gT) (hw3 : Cond.static arraycopyName ∈ gT) (hw4 : Cond.initialized "java/lang/System" ∈ gT) (hs0 : S[a0]? = some (10, n0)) (hs1 : S[a]? = some (10, n1))
    (h1 : ¬ sp < 0) (h2 : ¬ dp < 0) (h3 : ¬ n < 0) (h4 : sp.toNatClampNeg + n.toNatClampNeg ≤ n0) (h5 : dp.toNatClampNeg + n.toNatClampNeg ≤ n1) (hst : st.length ≤ 8) (hfr : 1 ≤ d) (hlen : ls.length = nL) (hd : decode cc pc = .ok (.invokestatic ix, 3))
    (kk : G E κ cells slots (pc + 3) ls st (S, uC I a (va_cpy (I a0) (I a) sp.toNatClampNeg dp.toNatClampNeg n.toNatClampNeg), P)) : G E κ cells slots pc ls (vi n :: vi dp :: vr a :: vi sp :: vr a0 :: st) (S, I, P) := by
  obtain ⟨l, D, Gc, B, b⟩ := E
  obtain ⟨p, e, R, s, m, args, below, meth, c, Q⟩ := κ
  obtain ⟨hx, hb, hml, ho, hts, hK, hB, -, -, hfr2, hlo, hcz2, hsz2⟩ := X
  intro H locs la hl0 hP hS
  have he0 := gW_at (Gc := Gc) (B := B) (M := (S, I, P)) hs0
  rw [gE_int (by decide) (by decide)] at he0
  have he1 := gW_at (Gc := Gc) (B := B) (M := (S, I, P)) hs1
  rw [gE_int (by decide) (by decide)] at he1
  refine va_copyi hx hb (hml.trans (hlen.symm.trans hl0.1.symm)) ho (hts _ hw1) (hts _ hw2) (hts _ hw3) (hts _ hw4) hK.1 hP gW_D hS a0 a 0 0 he0 he1 rfl rfl rfl h1 h2 h3 h4 h5 (fun i _ => rfl) (by omega) ?_ hd (fun H1 locs1 hP1 _ hS1 => kk H1 locs1 la hl0 ?_ hS1)
  · rw [gcat_sum]
    have : nativeFrameWords "java/lang/System" "arraycopy" 5 ≤ 20 := by decide +kernel
    omega
  · have e := gW_set (Gc := Gc) (B := B) (I := I) (P := P) (P' := P) (I' := uC I a (va_cpy (I a0) (I a) sp.toNatClampNeg dp.toNatClampNeg n.toNatClampNeg)) hs1 (fun _ _ hc => gE_uC_ne hc)
    rw [e, gE_int (by decide) (by decide)]
    have e2 : uC I a (va_cpy (I a0) (I a) sp.toNatClampNeg dp.toNatClampNeg n.toNatClampNeg) a = va_cpy (I a0) (I a) sp.toNatClampNeg dp.toNatClampNeg n.toNatClampNeg := by simp [uC]
    rw [e2]
    exact hP1
end GNew
end
