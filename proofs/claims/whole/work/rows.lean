section
-- ===== PART A: goes FIRST, ahead of the names: the tables' words, and 'selects' of the private methods out of them =====
/-- a private method of a class that the tables say can be made, by its rows of tables_1 -/
def lw_okq (q : MethodName × Nat) : Prop := (q.1.cls ≠ "java/lang/invoke/MethodHandle" ∧ q.1.cls ≠ "java/lang/invoke/VarHandle") ∧ Cond.instantiable q.1.cls q.2 ∈ tables_1 ∧ Cond.privateMethod q.1 ∈ tables_1 ∧ Cond.instanceMethod q.1 ∈ tables_1
theorem lw_p0 : lw_okq (⟨"PackedBits", "record", "(I)V"⟩, 5) := ⟨⟨by decide +kernel, by decide +kernel⟩, List.mem_of_getElem? (i := 12) (by decide +kernel), List.mem_of_getElem? (i := 137) (by decide +kernel), List.mem_of_getElem? (i := 138) (by decide +kernel)⟩
theorem lw_p1 : lw_okq (⟨"PackedBits$History", "dropOldest", "()V"⟩, 2) := ⟨⟨by decide +kernel, by decide +kernel⟩, List.mem_of_getElem? (i := 22) (by decide +kernel), List.mem_of_getElem? (i := 145) (by decide +kernel), List.mem_of_getElem? (i := 146) (by decide +kernel)⟩
theorem lw_p2 : lw_okq (⟨"PackedBits", "isRow", "(I)Z"⟩, 5) := ⟨⟨by decide +kernel, by decide +kernel⟩, List.mem_of_getElem? (i := 12) (by decide +kernel), List.mem_of_getElem? (i := 173) (by decide +kernel), List.mem_of_getElem? (i := 174) (by decide +kernel)⟩
theorem lw_p3 : lw_okq (⟨"PackedBits", "isPlace", "(II)Z"⟩, 5) := ⟨⟨by decide +kernel, by decide +kernel⟩, List.mem_of_getElem? (i := 12) (by decide +kernel), List.mem_of_getElem? (i := 228) (by decide +kernel), List.mem_of_getElem? (i := 229) (by decide +kernel)⟩
theorem lw_p4 : lw_okq (⟨"PackedBits$Expression", "readSum", "(II)Z"⟩, 10) := ⟨⟨by decide +kernel, by decide +kernel⟩, List.mem_of_getElem? (i := 72) (by decide +kernel), List.mem_of_getElem? (i := 326) (by decide +kernel), List.mem_of_getElem? (i := 327) (by decide +kernel)⟩
theorem lw_p5 : lw_okq (⟨"PackedBits$Expression", "readProduct", "(II)Z"⟩, 10) := ⟨⟨by decide +kernel, by decide +kernel⟩, List.mem_of_getElem? (i := 72) (by decide +kernel), List.mem_of_getElem? (i := 330) (by decide +kernel), List.mem_of_getElem? (i := 331) (by decide +kernel)⟩
theorem lw_p6 : lw_okq (⟨"PackedBits$Expression", "readFactor", "(II)Z"⟩, 10) := ⟨⟨by decide +kernel, by decide +kernel⟩, List.mem_of_getElem? (i := 72) (by decide +kernel), List.mem_of_getElem? (i := 334) (by decide +kernel), List.mem_of_getElem? (i := 335) (by decide +kernel)⟩
theorem lw_p7 : lw_okq (⟨"PackedBits$Expression", "nextSign", "()C"⟩, 10) := ⟨⟨by decide +kernel, by decide +kernel⟩, List.mem_of_getElem? (i := 72) (by decide +kernel), List.mem_of_getElem? (i := 338) (by decide +kernel), List.mem_of_getElem? (i := 339) (by decide +kernel)⟩
theorem lw_p8 : lw_okq (⟨"PackedBits$Expression", "signHere", "()C"⟩, 10) := ⟨⟨by decide +kernel, by decide +kernel⟩, List.mem_of_getElem? (i := 72) (by decide +kernel), List.mem_of_getElem? (i := 342) (by decide +kernel), List.mem_of_getElem? (i := 343) (by decide +kernel)⟩
theorem lw_p9 : lw_okq (⟨"PackedBits$Expression", "readRow", "(II)Z"⟩, 10) := ⟨⟨by decide +kernel, by decide +kernel⟩, List.mem_of_getElem? (i := 72) (by decide +kernel), List.mem_of_getElem? (i := 346) (by decide +kernel), List.mem_of_getElem? (i := 347) (by decide +kernel)⟩
theorem lw_p10 : lw_okq (⟨"PackedBits$Expression", "readNumber", "(II)I"⟩, 10) := ⟨⟨by decide +kernel, by decide +kernel⟩, List.mem_of_getElem? (i := 72) (by decide +kernel), List.mem_of_getElem? (i := 350) (by decide +kernel), List.mem_of_getElem? (i := 351) (by decide +kernel)⟩
theorem lw_p11 : lw_okq (⟨"PackedBits$Expression", "breakOff", "(I)Z"⟩, 10) := ⟨⟨by decide +kernel, by decide +kernel⟩, List.mem_of_getElem? (i := 72) (by decide +kernel), List.mem_of_getElem? (i := 357) (by decide +kernel), List.mem_of_getElem? (i := 358) (by decide +kernel)⟩
theorem lw_p12 : lw_okq (⟨"PackedBits$Expression", "fail", "(III)V"⟩, 10) := ⟨⟨by decide +kernel, by decide +kernel⟩, List.mem_of_getElem? (i := 72) (by decide +kernel), List.mem_of_getElem? (i := 361) (by decide +kernel), List.mem_of_getElem? (i := 362) (by decide +kernel)⟩
theorem lw_p13 : lw_okq (⟨"PackedBits$Expression", "readBracket", "(II)Z"⟩, 10) := ⟨⟨by decide +kernel, by decide +kernel⟩, List.mem_of_getElem? (i := 72) (by decide +kernel), List.mem_of_getElem? (i := 366) (by decide +kernel), List.mem_of_getElem? (i := 367) (by decide +kernel)⟩
theorem lw_p14 : lw_okq (⟨"PackedBits$Expression", "combineAt", "(II)V"⟩, 10) := ⟨⟨by decide +kernel, by decide +kernel⟩, List.mem_of_getElem? (i := 72) (by decide +kernel), List.mem_of_getElem? (i := 371) (by decide +kernel), List.mem_of_getElem? (i := 372) (by decide +kernel)⟩
theorem lw_p15 : lw_okq (⟨"PackedBits", "sum", "(I)I"⟩, 5) := ⟨⟨by decide +kernel, by decide +kernel⟩, List.mem_of_getElem? (i := 12) (by decide +kernel), List.mem_of_getElem? (i := 388) (by decide +kernel), List.mem_of_getElem? (i := 389) (by decide +kernel)⟩
def lw_privs_1 : List (MethodName × Nat) := [(⟨"PackedBits", "record", "(I)V"⟩, 5), (⟨"PackedBits$History", "dropOldest", "()V"⟩, 2), (⟨"PackedBits", "isRow", "(I)Z"⟩, 5), (⟨"PackedBits", "isPlace", "(II)Z"⟩, 5), (⟨"PackedBits$Expression", "readSum", "(II)Z"⟩, 10), (⟨"PackedBits$Expression", "readProduct", "(II)Z"⟩, 10), (⟨"PackedBits$Expression", "readFactor", "(II)Z"⟩, 10), (⟨"PackedBits$Expression", "nextSign", "()C"⟩, 10), (⟨"PackedBits$Expression", "signHere", "()C"⟩, 10), (⟨"PackedBits$Expression", "readRow", "(II)Z"⟩, 10), (⟨"PackedBits$Expression", "readNumber", "(II)I"⟩, 10), (⟨"PackedBits$Expression", "breakOff", "(I)Z"⟩, 10), (⟨"PackedBits$Expression", "fail", "(III)V"⟩, 10), (⟨"PackedBits$Expression", "readBracket", "(II)Z"⟩, 10), (⟨"PackedBits$Expression", "combineAt", "(II)V"⟩, 10), (⟨"PackedBits", "sum", "(I)I"⟩, 5)]
theorem lw_r1 : ∀ q ∈ lw_privs_1, lw_okq q := List.forall_mem_cons.mpr ⟨lw_p0, List.forall_mem_cons.mpr ⟨lw_p1, List.forall_mem_cons.mpr ⟨lw_p2, List.forall_mem_cons.mpr ⟨lw_p3, List.forall_mem_cons.mpr ⟨lw_p4, List.forall_mem_cons.mpr ⟨lw_p5, List.forall_mem_cons.mpr ⟨lw_p6, List.forall_mem_cons.mpr ⟨lw_p7, List.forall_mem_cons.mpr ⟨lw_p8, List.forall_mem_cons.mpr ⟨lw_p9, List.forall_mem_cons.mpr ⟨lw_p10, List.forall_mem_cons.mpr ⟨lw_p11, List.forall_mem_cons.mpr ⟨lw_p12, List.forall_mem_cons.mpr ⟨lw_p13, List.forall_mem_cons.mpr ⟨lw_p14, List.forall_mem_cons.mpr ⟨lw_p15, fun _ h => absurd h List.not_mem_nil⟩⟩⟩⟩⟩⟩⟩⟩⟩⟩⟩⟩⟩⟩⟩⟩
theorem lw_p16 : lw_okq (⟨"PackedBitsModel", "copyState", "(II)V"⟩, 17) := ⟨⟨by decide +kernel, by decide +kernel⟩, List.mem_of_getElem? (i := 449) (by decide +kernel), List.mem_of_getElem? (i := 512) (by decide +kernel), List.mem_of_getElem? (i := 513) (by decide +kernel)⟩
theorem lw_p17 : lw_okq (⟨"PackedBitsModel", "record", "()V"⟩, 17) := ⟨⟨by decide +kernel, by decide +kernel⟩, List.mem_of_getElem? (i := 449) (by decide +kernel), List.mem_of_getElem? (i := 520) (by decide +kernel), List.mem_of_getElem? (i := 521) (by decide +kernel)⟩
theorem lw_p18 : lw_okq (⟨"PackedBitsModel", "isRow", "(I)Z"⟩, 17) := ⟨⟨by decide +kernel, by decide +kernel⟩, List.mem_of_getElem? (i := 449) (by decide +kernel), List.mem_of_getElem? (i := 531) (by decide +kernel), List.mem_of_getElem? (i := 532) (by decide +kernel)⟩
theorem lw_p19 : lw_okq (⟨"PackedBitsModel", "push", "(II)V"⟩, 17) := ⟨⟨by decide +kernel, by decide +kernel⟩, List.mem_of_getElem? (i := 449) (by decide +kernel), List.mem_of_getElem? (i := 538) (by decide +kernel), List.mem_of_getElem? (i := 539) (by decide +kernel)⟩
theorem lw_p20 : lw_okq (⟨"PackedBitsModel", "put", "(III)V"⟩, 17) := ⟨⟨by decide +kernel, by decide +kernel⟩, List.mem_of_getElem? (i := 449) (by decide +kernel), List.mem_of_getElem? (i := 542) (by decide +kernel), List.mem_of_getElem? (i := 543) (by decide +kernel)⟩
theorem lw_p21 : lw_okq (⟨"PackedBitsModel", "words", "(II)I"⟩, 17) := ⟨⟨by decide +kernel, by decide +kernel⟩, List.mem_of_getElem? (i := 449) (by decide +kernel), List.mem_of_getElem? (i := 551) (by decide +kernel), List.mem_of_getElem? (i := 552) (by decide +kernel)⟩
theorem lw_p22 : lw_okq (⟨"PackedBitsModel", "groups", "(I)I"⟩, 17) := ⟨⟨by decide +kernel, by decide +kernel⟩, List.mem_of_getElem? (i := 449) (by decide +kernel), List.mem_of_getElem? (i := 555) (by decide +kernel), List.mem_of_getElem? (i := 556) (by decide +kernel)⟩
theorem lw_p23 : lw_okq (⟨"PackedBitsModel", "kind", "(II)I"⟩, 17) := ⟨⟨by decide +kernel, by decide +kernel⟩, List.mem_of_getElem? (i := 449) (by decide +kernel), List.mem_of_getElem? (i := 559) (by decide +kernel), List.mem_of_getElem? (i := 560) (by decide +kernel)⟩
theorem lw_p24 : lw_okq (⟨"PackedBitsModel", "group", "(II)I"⟩, 17) := ⟨⟨by decide +kernel, by decide +kernel⟩, List.mem_of_getElem? (i := 449) (by decide +kernel), List.mem_of_getElem? (i := 563) (by decide +kernel), List.mem_of_getElem? (i := 564) (by decide +kernel)⟩
theorem lw_p25 : lw_okq (⟨"PackedBitsModel", "bitOf", "(II)I"⟩, 17) := ⟨⟨by decide +kernel, by decide +kernel⟩, List.mem_of_getElem? (i := 449) (by decide +kernel), List.mem_of_getElem? (i := 567) (by decide +kernel), List.mem_of_getElem? (i := 568) (by decide +kernel)⟩
theorem lw_p26 : lw_okq (⟨"PackedBitsModel", "behind", "(II)I"⟩, 17) := ⟨⟨by decide +kernel, by decide +kernel⟩, List.mem_of_getElem? (i := 449) (by decide +kernel), List.mem_of_getElem? (i := 571) (by decide +kernel), List.mem_of_getElem? (i := 572) (by decide +kernel)⟩
theorem lw_p27 : lw_okq (⟨"PackedBitsModel", "isPlace", "(III)Z"⟩, 17) := ⟨⟨by decide +kernel, by decide +kernel⟩, List.mem_of_getElem? (i := 449) (by decide +kernel), List.mem_of_getElem? (i := 579) (by decide +kernel), List.mem_of_getElem? (i := 580) (by decide +kernel)⟩
theorem lw_p28 : lw_okq (⟨"PackedBitsModel", "workOf", "(II)I"⟩, 17) := ⟨⟨by decide +kernel, by decide +kernel⟩, List.mem_of_getElem? (i := 449) (by decide +kernel), List.mem_of_getElem? (i := 591) (by decide +kernel), List.mem_of_getElem? (i := 592) (by decide +kernel)⟩
theorem lw_p29 : lw_okq (⟨"PackedBitsModel", "operateOn", "(IIII)V"⟩, 17) := ⟨⟨by decide +kernel, by decide +kernel⟩, List.mem_of_getElem? (i := 449) (by decide +kernel), List.mem_of_getElem? (i := 595) (by decide +kernel), List.mem_of_getElem? (i := 596) (by decide +kernel)⟩
theorem lw_p30 : lw_okq (⟨"PackedBitsModel", "copy", "(II)V"⟩, 17) := ⟨⟨by decide +kernel, by decide +kernel⟩, List.mem_of_getElem? (i := 449) (by decide +kernel), List.mem_of_getElem? (i := 605) (by decide +kernel), List.mem_of_getElem? (i := 606) (by decide +kernel)⟩
theorem lw_p31 : lw_okq (⟨"PackedBitsModel", "turn", "(I)V"⟩, 17) := ⟨⟨by decide +kernel, by decide +kernel⟩, List.mem_of_getElem? (i := 449) (by decide +kernel), List.mem_of_getElem? (i := 613) (by decide +kernel), List.mem_of_getElem? (i := 614) (by decide +kernel)⟩
def lw_privs_2 : List (MethodName × Nat) := [(⟨"PackedBitsModel", "copyState", "(II)V"⟩, 17), (⟨"PackedBitsModel", "record", "()V"⟩, 17), (⟨"PackedBitsModel", "isRow", "(I)Z"⟩, 17), (⟨"PackedBitsModel", "push", "(II)V"⟩, 17), (⟨"PackedBitsModel", "put", "(III)V"⟩, 17), (⟨"PackedBitsModel", "words", "(II)I"⟩, 17), (⟨"PackedBitsModel", "groups", "(I)I"⟩, 17), (⟨"PackedBitsModel", "kind", "(II)I"⟩, 17), (⟨"PackedBitsModel", "group", "(II)I"⟩, 17), (⟨"PackedBitsModel", "bitOf", "(II)I"⟩, 17), (⟨"PackedBitsModel", "behind", "(II)I"⟩, 17), (⟨"PackedBitsModel", "isPlace", "(III)Z"⟩, 17), (⟨"PackedBitsModel", "workOf", "(II)I"⟩, 17), (⟨"PackedBitsModel", "operateOn", "(IIII)V"⟩, 17), (⟨"PackedBitsModel", "copy", "(II)V"⟩, 17), (⟨"PackedBitsModel", "turn", "(I)V"⟩, 17)]
theorem lw_r2 : ∀ q ∈ lw_privs_2, lw_okq q := List.forall_mem_cons.mpr ⟨lw_p16, List.forall_mem_cons.mpr ⟨lw_p17, List.forall_mem_cons.mpr ⟨lw_p18, List.forall_mem_cons.mpr ⟨lw_p19, List.forall_mem_cons.mpr ⟨lw_p20, List.forall_mem_cons.mpr ⟨lw_p21, List.forall_mem_cons.mpr ⟨lw_p22, List.forall_mem_cons.mpr ⟨lw_p23, List.forall_mem_cons.mpr ⟨lw_p24, List.forall_mem_cons.mpr ⟨lw_p25, List.forall_mem_cons.mpr ⟨lw_p26, List.forall_mem_cons.mpr ⟨lw_p27, List.forall_mem_cons.mpr ⟨lw_p28, List.forall_mem_cons.mpr ⟨lw_p29, List.forall_mem_cons.mpr ⟨lw_p30, List.forall_mem_cons.mpr ⟨lw_p31, fun _ h => absurd h List.not_mem_nil⟩⟩⟩⟩⟩⟩⟩⟩⟩⟩⟩⟩⟩⟩⟩⟩
theorem lw_p32 : lw_okq (⟨"PackedBitsModel", "ones", "(I)I"⟩, 17) := ⟨⟨by decide +kernel, by decide +kernel⟩, List.mem_of_getElem? (i := 449) (by decide +kernel), List.mem_of_getElem? (i := 617) (by decide +kernel), List.mem_of_getElem? (i := 618) (by decide +kernel)⟩
theorem lw_p33 : lw_okq (⟨"PackedBitsModel", "shiftOn", "(II)V"⟩, 17) := ⟨⟨by decide +kernel, by decide +kernel⟩, List.mem_of_getElem? (i := 449) (by decide +kernel), List.mem_of_getElem? (i := 625) (by decide +kernel), List.mem_of_getElem? (i := 626) (by decide +kernel)⟩
theorem lw_p34 : lw_okq (⟨"PackedBitsModel", "reads", "(Z)Z"⟩, 17) := ⟨⟨by decide +kernel, by decide +kernel⟩, List.mem_of_getElem? (i := 449) (by decide +kernel), List.mem_of_getElem? (i := 641) (by decide +kernel), List.mem_of_getElem? (i := 642) (by decide +kernel)⟩
theorem lw_p35 : lw_okq (⟨"PackedBitsModel", "readsFactor", "()Z"⟩, 17) := ⟨⟨by decide +kernel, by decide +kernel⟩, List.mem_of_getElem? (i := 449) (by decide +kernel), List.mem_of_getElem? (i := 645) (by decide +kernel), List.mem_of_getElem? (i := 646) (by decide +kernel)⟩
theorem lw_p36 : lw_okq (⟨"PackedBitsModel", "code", "()I"⟩, 17) := ⟨⟨by decide +kernel, by decide +kernel⟩, List.mem_of_getElem? (i := 449) (by decide +kernel), List.mem_of_getElem? (i := 649) (by decide +kernel), List.mem_of_getElem? (i := 650) (by decide +kernel)⟩
theorem lw_p37 : lw_okq (⟨"PackedBitsModel", "push", "(I)V"⟩, 17) := ⟨⟨by decide +kernel, by decide +kernel⟩, List.mem_of_getElem? (i := 449) (by decide +kernel), List.mem_of_getElem? (i := 653) (by decide +kernel), List.mem_of_getElem? (i := 654) (by decide +kernel)⟩
theorem lw_p38 : lw_okq (⟨"PackedBitsModel", "readsRow", "()Z"⟩, 17) := ⟨⟨by decide +kernel, by decide +kernel⟩, List.mem_of_getElem? (i := 449) (by decide +kernel), List.mem_of_getElem? (i := 657) (by decide +kernel), List.mem_of_getElem? (i := 658) (by decide +kernel)⟩
theorem lw_p39 : lw_okq (⟨"PackedBitsModel", "readsNumber", "()Z"⟩, 17) := ⟨⟨by decide +kernel, by decide +kernel⟩, List.mem_of_getElem? (i := 449) (by decide +kernel), List.mem_of_getElem? (i := 661) (by decide +kernel), List.mem_of_getElem? (i := 662) (by decide +kernel)⟩
theorem lw_p40 : lw_okq (⟨"PackedBitsModel", "wrong", "(ZI)V"⟩, 17) := ⟨⟨by decide +kernel, by decide +kernel⟩, List.mem_of_getElem? (i := 449) (by decide +kernel), List.mem_of_getElem? (i := 665) (by decide +kernel), List.mem_of_getElem? (i := 666) (by decide +kernel)⟩
theorem lw_p41 : lw_okq (⟨"PackedBitsModel", "closeFactor", "()V"⟩, 17) := ⟨⟨by decide +kernel, by decide +kernel⟩, List.mem_of_getElem? (i := 449) (by decide +kernel), List.mem_of_getElem? (i := 669) (by decide +kernel), List.mem_of_getElem? (i := 670) (by decide +kernel)⟩
theorem lw_p42 : lw_okq (⟨"PackedBitsModel", "top", "()I"⟩, 17) := ⟨⟨by decide +kernel, by decide +kernel⟩, List.mem_of_getElem? (i := 449) (by decide +kernel), List.mem_of_getElem? (i := 673) (by decide +kernel), List.mem_of_getElem? (i := 674) (by decide +kernel)⟩
theorem lw_p43 : lw_okq (⟨"PackedBitsModel", "pop", "()I"⟩, 17) := ⟨⟨by decide +kernel, by decide +kernel⟩, List.mem_of_getElem? (i := 449) (by decide +kernel), List.mem_of_getElem? (i := 677) (by decide +kernel), List.mem_of_getElem? (i := 678) (by decide +kernel)⟩
theorem lw_p44 : lw_okq (⟨"PackedBitsModel", "readsOn", "()Z"⟩, 17) := ⟨⟨by decide +kernel, by decide +kernel⟩, List.mem_of_getElem? (i := 449) (by decide +kernel), List.mem_of_getElem? (i := 681) (by decide +kernel), List.mem_of_getElem? (i := 682) (by decide +kernel)⟩
theorem lw_p45 : lw_okq (⟨"PackedBitsModel", "doTo", "(I)V"⟩, 17) := ⟨⟨by decide +kernel, by decide +kernel⟩, List.mem_of_getElem? (i := 449) (by decide +kernel), List.mem_of_getElem? (i := 685) (by decide +kernel), List.mem_of_getElem? (i := 686) (by decide +kernel)⟩
theorem lw_p46 : lw_okq (⟨"PackedBitsModel", "fail", "(III)I"⟩, 17) := ⟨⟨by decide +kernel, by decide +kernel⟩, List.mem_of_getElem? (i := 449) (by decide +kernel), List.mem_of_getElem? (i := 695) (by decide +kernel), List.mem_of_getElem? (i := 696) (by decide +kernel)⟩
theorem lw_p47 : lw_okq (⟨"PackedBitsModel", "placeOf", "(II)I"⟩, 17) := ⟨⟨by decide +kernel, by decide +kernel⟩, List.mem_of_getElem? (i := 449) (by decide +kernel), List.mem_of_getElem? (i := 711) (by decide +kernel), List.mem_of_getElem? (i := 712) (by decide +kernel)⟩
def lw_privs_3 : List (MethodName × Nat) := [(⟨"PackedBitsModel", "ones", "(I)I"⟩, 17), (⟨"PackedBitsModel", "shiftOn", "(II)V"⟩, 17), (⟨"PackedBitsModel", "reads", "(Z)Z"⟩, 17), (⟨"PackedBitsModel", "readsFactor", "()Z"⟩, 17), (⟨"PackedBitsModel", "code", "()I"⟩, 17), (⟨"PackedBitsModel", "push", "(I)V"⟩, 17), (⟨"PackedBitsModel", "readsRow", "()Z"⟩, 17), (⟨"PackedBitsModel", "readsNumber", "()Z"⟩, 17), (⟨"PackedBitsModel", "wrong", "(ZI)V"⟩, 17), (⟨"PackedBitsModel", "closeFactor", "()V"⟩, 17), (⟨"PackedBitsModel", "top", "()I"⟩, 17), (⟨"PackedBitsModel", "pop", "()I"⟩, 17), (⟨"PackedBitsModel", "readsOn", "()Z"⟩, 17), (⟨"PackedBitsModel", "doTo", "(I)V"⟩, 17), (⟨"PackedBitsModel", "fail", "(III)I"⟩, 17), (⟨"PackedBitsModel", "placeOf", "(II)I"⟩, 17)]
theorem lw_r3 : ∀ q ∈ lw_privs_3, lw_okq q := List.forall_mem_cons.mpr ⟨lw_p32, List.forall_mem_cons.mpr ⟨lw_p33, List.forall_mem_cons.mpr ⟨lw_p34, List.forall_mem_cons.mpr ⟨lw_p35, List.forall_mem_cons.mpr ⟨lw_p36, List.forall_mem_cons.mpr ⟨lw_p37, List.forall_mem_cons.mpr ⟨lw_p38, List.forall_mem_cons.mpr ⟨lw_p39, List.forall_mem_cons.mpr ⟨lw_p40, List.forall_mem_cons.mpr ⟨lw_p41, List.forall_mem_cons.mpr ⟨lw_p42, List.forall_mem_cons.mpr ⟨lw_p43, List.forall_mem_cons.mpr ⟨lw_p44, List.forall_mem_cons.mpr ⟨lw_p45, List.forall_mem_cons.mpr ⟨lw_p46, List.forall_mem_cons.mpr ⟨lw_p47, fun _ h => absurd h List.not_mem_nil⟩⟩⟩⟩⟩⟩⟩⟩⟩⟩⟩⟩⟩⟩⟩⟩
theorem lw_p48 : lw_okq (⟨"PackedBitsModel", "codeAt", "(II)I"⟩, 17) := ⟨⟨by decide +kernel, by decide +kernel⟩, List.mem_of_getElem? (i := 449) (by decide +kernel), List.mem_of_getElem? (i := 719) (by decide +kernel), List.mem_of_getElem? (i := 720) (by decide +kernel)⟩
theorem lw_p49 : lw_okq (⟨"PackedBitsModel", "areSame", "(II)Z"⟩, 17) := ⟨⟨by decide +kernel, by decide +kernel⟩, List.mem_of_getElem? (i := 449) (by decide +kernel), List.mem_of_getElem? (i := 745) (by decide +kernel), List.mem_of_getElem? (i := 746) (by decide +kernel)⟩
def lw_privs_4 : List (MethodName × Nat) := [(⟨"PackedBitsModel", "codeAt", "(II)I"⟩, 17), (⟨"PackedBitsModel", "areSame", "(II)Z"⟩, 17)]
theorem lw_r4 : ∀ q ∈ lw_privs_4, lw_okq q := List.forall_mem_cons.mpr ⟨lw_p48, List.forall_mem_cons.mpr ⟨lw_p49, fun _ h => absurd h List.not_mem_nil⟩⟩
def lw_privs : List (MethodName × Nat) := lw_privs_1 ++ (lw_privs_2 ++ (lw_privs_3 ++ (lw_privs_4)))
def lw_tbl : List Cond := k2_sels lw_privs ++ tables_1
theorem lw_privs_ok : ∀ q ∈ lw_privs, lw_okq q := by
  show ∀ q ∈ lw_privs_1 ++ (lw_privs_2 ++ (lw_privs_3 ++ (lw_privs_4))), lw_okq q
  exact List.forall_mem_append.mpr ⟨lw_r1, List.forall_mem_append.mpr ⟨lw_r2, List.forall_mem_append.mpr ⟨lw_r3, lw_r4⟩⟩⟩
def RX0 : String := "PackedBits$Bits"
def TX0 : u_T := fun k => match k with
  | 0 => ("PackedBits$Bits", "groups", "[I", true)
  | _ => ("PackedBits$Bits", "length", "I", false)
def tyX0 : Nat → FieldType := fun k => match k with
  | 0 => .array .int
  | _ => .int
abbrev wsX00 : List Cond := u_ws RX0 TX0 2
theorem nmX0 : ∀ a, a < 2 → ∀ b, b < 2 → a ≠ b → (TX0 a).2.1 ≠ (TX0 b).2.1 := by decide +kernel
theorem tyX0_ok : ∀ k, k < 2 → parseFieldDescriptor (TX0 k).2.2.1 = some (tyX0 k) := by decide +kernel
abbrev cX0_init : ByteArray := prog_2_method_1_code
def yX0_init : MethodName := ⟨RX0, "<init>", "()V"⟩
abbrev cX0_groupCount : ByteArray := prog_2_method_2_code
def yX0_groupCount : MethodName := ⟨RX0, "groupCount", "()I"⟩
abbrev cX0_groupAt : ByteArray := prog_2_method_3_code
def yX0_groupAt : MethodName := ⟨RX0, "groupAt", "(I)I"⟩
abbrev cX0_valueAt : ByteArray := prog_2_method_4_code
def yX0_valueAt : MethodName := ⟨RX0, "valueAt", "(I)I"⟩
abbrev cX0_putAt : ByteArray := prog_2_method_5_code
def yX0_putAt : MethodName := ⟨RX0, "putAt", "(II)V"⟩
abbrev cX0_copyFrom : ByteArray := prog_2_method_6_code
def yX0_copyFrom : MethodName := ⟨RX0, "copyFrom", "(LPackedBits$Bits;)V"⟩
abbrev cX0_cutTo : ByteArray := prog_2_method_7_code
def yX0_cutTo : MethodName := ⟨RX0, "cutTo", "(I)V"⟩
abbrev cX0_addRun : ByteArray := prog_2_method_8_code
def yX0_addRun : MethodName := ⟨RX0, "addRun", "(II)V"⟩
abbrev cX0_addNumber : ByteArray := prog_2_method_9_code
def yX0_addNumber : MethodName := ⟨RX0, "addNumber", "(II)V"⟩
abbrev cX0_invert : ByteArray := prog_2_method_10_code
def yX0_invert : MethodName := ⟨RX0, "invert", "()V"⟩
abbrev cX0_combine : ByteArray := prog_2_method_11_code
def yX0_combine : MethodName := ⟨RX0, "combine", "(ILPackedBits$Bits;LPackedBits$Bits;)V"⟩
abbrev cX0_combined : ByteArray := prog_2_method_12_code
def yX0_combined : MethodName := ⟨RX0, "combined", "(III)I"⟩
abbrev cX0_moveFrom : ByteArray := prog_2_method_13_code
def yX0_moveFrom : MethodName := ⟨RX0, "moveFrom", "(LPackedBits$Bits;I)V"⟩
abbrev cX0_ones : ByteArray := prog_2_method_14_code
def yX0_ones : MethodName := ⟨RX0, "ones", "()I"⟩
abbrev cX0_onesBefore : ByteArray := prog_2_method_15_code
def yX0_onesBefore : MethodName := ⟨RX0, "onesBefore", "(I)I"⟩
abbrev cX0_placeOfOne : ByteArray := prog_2_method_16_code
def yX0_placeOfOne : MethodName := ⟨RX0, "placeOfOne", "(I)I"⟩
abbrev cX0_placeInGroup : ByteArray := prog_2_method_17_code
def yX0_placeInGroup : MethodName := ⟨RX0, "placeInGroup", "(II)I"⟩
abbrev cX0_matches : ByteArray := prog_2_method_18_code
def yX0_matches : MethodName := ⟨RX0, "matches", "(LPackedBits$Bits;)Z"⟩
abbrev cX0_maskBefore : ByteArray := prog_2_method_19_code
def yX0_maskBefore : MethodName := ⟨RX0, "maskBefore", "(II)I"⟩
def RX1 : String := "PackedBits$Change"
def TX1 : u_T := fun k => match k with
  | 0 => ("PackedBits$Change", "before", "LPackedBits$Bits;", true)
  | 1 => ("PackedBits$Change", "made", "I", false)
  | _ => ("PackedBits$Change", "number", "I", false)
def tyX1 : Nat → FieldType := fun k => match k with
  | 0 => .object "PackedBits$Bits"
  | 1 => .int
  | _ => .int
abbrev wsX10 : List Cond := u_ws RX1 TX1 3
theorem nmX1 : ∀ a, a < 3 → ∀ b, b < 3 → a ≠ b → (TX1 a).2.1 ≠ (TX1 b).2.1 := by decide +kernel
theorem tyX1_ok : ∀ k, k < 3 → parseFieldDescriptor (TX1 k).2.2.1 = some (tyX1 k) := by decide +kernel
abbrev cX1_init : ByteArray := prog_3_method_1_code
def yX1_init : MethodName := ⟨RX1, "<init>", "()V"⟩
def RX2 : String := "PackedBits$Expression"
def TX2 : u_T := fun k => match k with
  | 0 => ("PackedBits$Expression", "signs", "[C", true)
  | 1 => ("PackedBits$Expression", "length", "I", false)
  | 2 => ("PackedBits$Expression", "kind", "I", false)
  | 3 => ("PackedBits$Expression", "place", "I", false)
  | 4 => ("PackedBits$Expression", "within", "I", false)
  | 5 => ("PackedBits$Expression", "values", "[LPackedBits$Bits;", true)
  | 6 => ("PackedBits$Expression", "rows", "[LPackedBits$Bits;", false)
  | 7 => ("PackedBits$Expression", "made", "I", false)
  | 8 => ("PackedBits$Expression", "at", "I", false)
  | _ => ("PackedBits$Expression", "failed", "Z", false)
def tyX2 : Nat → FieldType := fun k => match k with
  | 0 => .array .char
  | 1 => .int
  | 2 => .int
  | 3 => .int
  | 4 => .int
  | 5 => .array (.object "PackedBits$Bits")
  | 6 => .array (.object "PackedBits$Bits")
  | 7 => .int
  | 8 => .int
  | _ => .boolean
abbrev wsX20 : List Cond := u_ws RX2 TX2 10
theorem nmX2 : ∀ a, a < 10 → ∀ b, b < 10 → a ≠ b → (TX2 a).2.1 ≠ (TX2 b).2.1 := by decide +kernel
theorem tyX2_ok : ∀ k, k < 10 → parseFieldDescriptor (TX2 k).2.2.1 = some (tyX2 k) := by decide +kernel
abbrev cX2_init : ByteArray := prog_4_method_1_code
def yX2_init : MethodName := ⟨RX2, "<init>", "()V"⟩
abbrev cX2_addSign : ByteArray := prog_4_method_2_code
def yX2_addSign : MethodName := ⟨RX2, "addSign", "(C)V"⟩
abbrev cX2_result : ByteArray := prog_4_method_3_code
def yX2_result : MethodName := ⟨RX2, "result", "()LPackedBits$Bits;"⟩
abbrev cX2_read : ByteArray := prog_4_method_4_code
def yX2_read : MethodName := ⟨RX2, "read", "([LPackedBits$Bits;I)Z"⟩
abbrev cX2_readSum : ByteArray := prog_4_method_5_code
def yX2_readSum : MethodName := ⟨RX2, "readSum", "(II)Z"⟩
abbrev cX2_readProduct : ByteArray := prog_4_method_6_code
def yX2_readProduct : MethodName := ⟨RX2, "readProduct", "(II)Z"⟩
abbrev cX2_combineAt : ByteArray := prog_4_method_7_code
def yX2_combineAt : MethodName := ⟨RX2, "combineAt", "(II)V"⟩
abbrev cX2_readFactor : ByteArray := prog_4_method_8_code
def yX2_readFactor : MethodName := ⟨RX2, "readFactor", "(II)Z"⟩
abbrev cX2_readBracket : ByteArray := prog_4_method_9_code
def yX2_readBracket : MethodName := ⟨RX2, "readBracket", "(II)Z"⟩
abbrev cX2_readRow : ByteArray := prog_4_method_10_code
def yX2_readRow : MethodName := ⟨RX2, "readRow", "(II)Z"⟩
abbrev cX2_readNumber : ByteArray := prog_4_method_11_code
def yX2_readNumber : MethodName := ⟨RX2, "readNumber", "(II)I"⟩
abbrev cX2_nextSign : ByteArray := prog_4_method_12_code
def yX2_nextSign : MethodName := ⟨RX2, "nextSign", "()C"⟩
abbrev cX2_signHere : ByteArray := prog_4_method_13_code
def yX2_signHere : MethodName := ⟨RX2, "signHere", "()C"⟩
abbrev cX2_isDigit : ByteArray := prog_4_method_14_code
def yX2_isDigit : MethodName := ⟨RX2, "isDigit", "(C)Z"⟩
abbrev cX2_breakOff : ByteArray := prog_4_method_15_code
def yX2_breakOff : MethodName := ⟨RX2, "breakOff", "(I)Z"⟩
abbrev cX2_fail : ByteArray := prog_4_method_16_code
def yX2_fail : MethodName := ⟨RX2, "fail", "(III)V"⟩
def RX3 : String := "PackedBits$History"
def TX3 : u_T := fun k => match k with
  | 0 => ("PackedBits$History", "changes", "[LPackedBits$Change;", true)
  | _ => ("PackedBits$History", "kept", "I", false)
def tyX3 : Nat → FieldType := fun k => match k with
  | 0 => .array (.object "PackedBits$Change")
  | _ => .int
abbrev wsX30 : List Cond := u_ws RX3 TX3 2
theorem nmX3 : ∀ a, a < 2 → ∀ b, b < 2 → a ≠ b → (TX3 a).2.1 ≠ (TX3 b).2.1 := by decide +kernel
theorem tyX3_ok : ∀ k, k < 2 → parseFieldDescriptor (TX3 k).2.2.1 = some (tyX3 k) := by decide +kernel
abbrev cX3_init : ByteArray := prog_5_method_1_code
def yX3_init : MethodName := ⟨RX3, "<init>", "()V"⟩
abbrev cX3_add : ByteArray := prog_5_method_2_code
def yX3_add : MethodName := ⟨RX3, "add", "(IILPackedBits$Bits;)V"⟩
abbrev cX3_dropOldest : ByteArray := prog_5_method_3_code
def yX3_dropOldest : MethodName := ⟨RX3, "dropOldest", "()V"⟩
abbrev cX3_removeLatest : ByteArray := prog_5_method_4_code
def yX3_removeLatest : MethodName := ⟨RX3, "removeLatest", "()LPackedBits$Change;"⟩
def RX4 : String := "PackedBits$Words"
def TX4 : u_T := fun k => match k with
  | _ => ("", "", "", false)
def tyX4 : Nat → FieldType := fun k => match k with
  | _ => .int
abbrev wsX40 : List Cond := u_ws RX4 TX4 0
theorem nmX4 : ∀ a, a < 0 → ∀ b, b < 0 → a ≠ b → (TX4 a).2.1 ≠ (TX4 b).2.1 := by decide +kernel
theorem tyX4_ok : ∀ k, k < 0 → parseFieldDescriptor (TX4 k).2.2.1 = some (tyX4 k) := by decide +kernel
abbrev cX4_isLiteral : ByteArray := prog_6_method_2_code
def yX4_isLiteral : MethodName := ⟨RX4, "isLiteral", "(I)Z"⟩
abbrev cX4_endOf : ByteArray := prog_6_method_3_code
def yX4_endOf : MethodName := ⟨RX4, "endOf", "(LPackedBits$Bits;I)I"⟩
abbrev cX4_size : ByteArray := prog_6_method_4_code
def yX4_size : MethodName := ⟨RX4, "size", "(LPackedBits$Bits;)I"⟩
abbrev cX4_literals : ByteArray := prog_6_method_5_code
def yX4_literals : MethodName := ⟨RX4, "literals", "(LPackedBits$Bits;)I"⟩
abbrev cX4_fillsOf : ByteArray := prog_6_method_6_code
def yX4_fillsOf : MethodName := ⟨RX4, "fillsOf", "(LPackedBits$Bits;I)I"⟩
abbrev cX4_codeOf : ByteArray := prog_6_method_7_code
def yX4_codeOf : MethodName := ⟨RX4, "codeOf", "(LPackedBits$Bits;I)I"⟩
abbrev cX4_code : ByteArray := prog_6_method_8_code
def yX4_code : MethodName := ⟨RX4, "code", "(II)I"⟩
abbrev cX4_work : ByteArray := prog_6_method_9_code
def yX4_work : MethodName := ⟨RX4, "work", "(LPackedBits$Bits;LPackedBits$Bits;)I"⟩
def RX5 : String := "PackedBits"
def TX5 : u_T := fun k => match k with
  | 0 => ("PackedBits", "rows", "[LPackedBits$Bits;", true)
  | 1 => ("PackedBits", "made", "I", false)
  | 2 => ("PackedBits", "history", "LPackedBits$History;", true)
  | 3 => ("PackedBits", "text", "LPackedBits$Expression;", true)
  | _ => ("PackedBits", "spare", "LPackedBits$Bits;", true)
def tyX5 : Nat → FieldType := fun k => match k with
  | 0 => .array (.object "PackedBits$Bits")
  | 1 => .int
  | 2 => .object "PackedBits$History"
  | 3 => .object "PackedBits$Expression"
  | _ => .object "PackedBits$Bits"
abbrev wsX50 : List Cond := u_ws RX5 TX5 5
theorem nmX5 : ∀ a, a < 5 → ∀ b, b < 5 → a ≠ b → (TX5 a).2.1 ≠ (TX5 b).2.1 := by decide +kernel
theorem tyX5_ok : ∀ k, k < 5 → parseFieldDescriptor (TX5 k).2.2.1 = some (tyX5 k) := by decide +kernel
abbrev cX5_init : ByteArray := prog_1_method_1_code
def yX5_init : MethodName := ⟨RX5, "<init>", "()V"⟩
abbrev cX5_make : ByteArray := prog_1_method_2_code
def yX5_make : MethodName := ⟨RX5, "make", "()I"⟩
abbrev cX5_append : ByteArray := prog_1_method_3_code
def yX5_append : MethodName := ⟨RX5, "append", "(III)I"⟩
abbrev cX5_write : ByteArray := prog_1_method_4_code
def yX5_write : MethodName := ⟨RX5, "write", "(III)I"⟩
abbrev cX5_set : ByteArray := prog_1_method_5_code
def yX5_set : MethodName := ⟨RX5, "set", "(III)I"⟩
abbrev cX5_resize : ByteArray := prog_1_method_6_code
def yX5_resize : MethodName := ⟨RX5, "resize", "(II)I"⟩
abbrev cX5_operate : ByteArray := prog_1_method_7_code
def yX5_operate : MethodName := ⟨RX5, "operate", "(IIII)I"⟩
abbrev cX5_not : ByteArray := prog_1_method_8_code
def yX5_not : MethodName := ⟨RX5, "not", "(I)I"⟩
abbrev cX5_shift : ByteArray := prog_1_method_9_code
def yX5_shift : MethodName := ⟨RX5, "shift", "(II)I"⟩
abbrev cX5_undo : ByteArray := prog_1_method_10_code
def yX5_undo : MethodName := ⟨RX5, "undo", "()I"⟩
abbrev cX5_type : ByteArray := prog_1_method_11_code
def yX5_type : MethodName := ⟨RX5, "type", "(I)I"⟩
abbrev cX5_clearText : ByteArray := prog_1_method_12_code
def yX5_clearText : MethodName := ⟨RX5, "clearText", "()I"⟩
abbrev cX5_evaluate : ByteArray := prog_1_method_13_code
def yX5_evaluate : MethodName := ⟨RX5, "evaluate", "(I)I"⟩
abbrev cX5_failure : ByteArray := prog_1_method_14_code
def yX5_failure : MethodName := ⟨RX5, "failure", "(I)I"⟩
abbrev cX5_count : ByteArray := prog_1_method_15_code
def yX5_count : MethodName := ⟨RX5, "count", "(I)I"⟩
abbrev cX5_row : ByteArray := prog_1_method_16_code
def yX5_row : MethodName := ⟨RX5, "row", "(II)I"⟩
abbrev cX5_word : ByteArray := prog_1_method_17_code
def yX5_word : MethodName := ⟨RX5, "word", "(II)I"⟩
abbrev cX5_bit : ByteArray := prog_1_method_18_code
def yX5_bit : MethodName := ⟨RX5, "bit", "(II)I"⟩
abbrev cX5_rank : ByteArray := prog_1_method_19_code
def yX5_rank : MethodName := ⟨RX5, "rank", "(II)I"⟩
abbrev cX5_select : ByteArray := prog_1_method_20_code
def yX5_select : MethodName := ⟨RX5, "select", "(II)I"⟩
abbrev cX5_would : ByteArray := prog_1_method_21_code
def yX5_would : MethodName := ⟨RX5, "would", "(IIII)I"⟩
abbrev cX5_same : ByteArray := prog_1_method_22_code
def yX5_same : MethodName := ⟨RX5, "same", "(I)I"⟩
abbrev cX5_bestShift : ByteArray := prog_1_method_23_code
def yX5_bestShift : MethodName := ⟨RX5, "bestShift", "(I)I"⟩
abbrev cX5_record : ByteArray := prog_1_method_24_code
def yX5_record : MethodName := ⟨RX5, "record", "(I)V"⟩
abbrev cX5_sum : ByteArray := prog_1_method_25_code
def yX5_sum : MethodName := ⟨RX5, "sum", "(I)I"⟩
abbrev cX5_property : ByteArray := prog_1_method_26_code
def yX5_property : MethodName := ⟨RX5, "property", "(LPackedBits$Bits;I)I"⟩
abbrev cX5_isRow : ByteArray := prog_1_method_27_code
def yX5_isRow : MethodName := ⟨RX5, "isRow", "(I)Z"⟩
abbrev cX5_isPlace : ByteArray := prog_1_method_28_code
def yX5_isPlace : MethodName := ⟨RX5, "isPlace", "(II)Z"⟩
abbrev cX5_isBit : ByteArray := prog_1_method_29_code
def yX5_isBit : MethodName := ⟨RX5, "isBit", "(I)Z"⟩
abbrev cX5_isOperation : ByteArray := prog_1_method_30_code
def yX5_isOperation : MethodName := ⟨RX5, "isOperation", "(I)Z"⟩
abbrev cX5_isWithin : ByteArray := prog_1_method_31_code
def yX5_isWithin : MethodName := ⟨RX5, "isWithin", "(III)Z"⟩
def RX6 : String := "PackedBitsModel"
def TX6 : u_T := fun k => match k with
  | 0 => ("PackedBitsModel", "all", "[I", true)
  | 1 => ("PackedBitsModel", "states", "I", false)
  | 2 => ("PackedBitsModel", "text", "[I", true)
  | 3 => ("PackedBitsModel", "length", "I", false)
  | 4 => ("PackedBitsModel", "ends", "[I", true)
  | 5 => ("PackedBitsModel", "failed", "I", false)
  | 6 => ("PackedBitsModel", "failedAt", "I", false)
  | 7 => ("PackedBitsModel", "failedWithin", "I", false)
  | 8 => ("PackedBitsModel", "pos", "I", false)
  | 9 => ("PackedBitsModel", "signs", "[I", true)
  | 10 => ("PackedBitsModel", "signMany", "I", false)
  | 11 => ("PackedBitsModel", "within", "I", false)
  | 12 => ("PackedBitsModel", "made", "I", false)
  | 13 => ("PackedBitsModel", "does", "Z", false)
  | 14 => ("PackedBitsModel", "wrongAt", "I", false)
  | 15 => ("PackedBitsModel", "wrongWithin", "I", false)
  | _ => ("PackedBitsModel", "number", "I", false)
def tyX6 : Nat → FieldType := fun k => match k with
  | 0 => .array .int
  | 1 => .int
  | 2 => .array .int
  | 3 => .int
  | 4 => .array .int
  | 5 => .int
  | 6 => .int
  | 7 => .int
  | 8 => .int
  | 9 => .array .int
  | 10 => .int
  | 11 => .int
  | 12 => .int
  | 13 => .boolean
  | 14 => .int
  | 15 => .int
  | _ => .int
abbrev wsX60 : List Cond := u_ws RX6 TX6 17
theorem nmX6 : ∀ a, a < 17 → ∀ b, b < 17 → a ≠ b → (TX6 a).2.1 ≠ (TX6 b).2.1 := by decide +kernel
theorem tyX6_ok : ∀ k, k < 17 → parseFieldDescriptor (TX6 k).2.2.1 = some (tyX6 k) := by decide +kernel
abbrev cX6_init : ByteArray := prog_8_method_1_code
def yX6_init : MethodName := ⟨RX6, "<init>", "()V"⟩
abbrev cX6_in : ByteArray := prog_8_method_2_code
def yX6_in : MethodName := ⟨RX6, "in", "(III)Z"⟩
abbrev cX6_copyState : ByteArray := prog_8_method_3_code
def yX6_copyState : MethodName := ⟨RX6, "copyState", "(II)V"⟩
abbrev cX6_record : ByteArray := prog_8_method_4_code
def yX6_record : MethodName := ⟨RX6, "record", "()V"⟩
abbrev cX6_undo : ByteArray := prog_8_method_5_code
def yX6_undo : MethodName := ⟨RX6, "undo", "()I"⟩
abbrev cX6_isRow : ByteArray := prog_8_method_6_code
def yX6_isRow : MethodName := ⟨RX6, "isRow", "(I)Z"⟩
abbrev cX6_at : ByteArray := prog_8_method_7_code
def yX6_at : MethodName := ⟨RX6, "at", "(I)I"⟩
abbrev cX6_asked : ByteArray := prog_8_method_8_code
def yX6_asked : MethodName := ⟨RX6, "asked", "(I)I"⟩
abbrev cX6_bitOf : ByteArray := prog_8_method_9_code
def yX6_bitOf : MethodName := ⟨RX6, "bitOf", "(II)I"⟩
abbrev cX6_put : ByteArray := prog_8_method_10_code
def yX6_put : MethodName := ⟨RX6, "put", "(III)V"⟩
abbrev cX6_copy : ByteArray := prog_8_method_11_code
def yX6_copy : MethodName := ⟨RX6, "copy", "(II)V"⟩
abbrev cX6_ones : ByteArray := prog_8_method_12_code
def yX6_ones : MethodName := ⟨RX6, "ones", "(I)I"⟩
abbrev cX6_groups : ByteArray := prog_8_method_13_code
def yX6_groups : MethodName := ⟨RX6, "groups", "(I)I"⟩
abbrev cX6_group : ByteArray := prog_8_method_14_code
def yX6_group : MethodName := ⟨RX6, "group", "(II)I"⟩
abbrev cX6_kind : ByteArray := prog_8_method_15_code
def yX6_kind : MethodName := ⟨RX6, "kind", "(II)I"⟩
abbrev cX6_behind : ByteArray := prog_8_method_16_code
def yX6_behind : MethodName := ⟨RX6, "behind", "(II)I"⟩
abbrev cX6_words : ByteArray := prog_8_method_17_code
def yX6_words : MethodName := ⟨RX6, "words", "(II)I"⟩
abbrev cX6_codeAt : ByteArray := prog_8_method_18_code
def yX6_codeAt : MethodName := ⟨RX6, "codeAt", "(II)I"⟩
abbrev cX6_result : ByteArray := prog_8_method_19_code
def yX6_result : MethodName := ⟨RX6, "result", "(III)I"⟩
abbrev cX6_operateOn : ByteArray := prog_8_method_20_code
def yX6_operateOn : MethodName := ⟨RX6, "operateOn", "(IIII)V"⟩
abbrev cX6_turn : ByteArray := prog_8_method_21_code
def yX6_turn : MethodName := ⟨RX6, "turn", "(I)V"⟩
abbrev cX6_shiftOn : ByteArray := prog_8_method_22_code
def yX6_shiftOn : MethodName := ⟨RX6, "shiftOn", "(II)V"⟩
abbrev cX6_workOf : ByteArray := prog_8_method_23_code
def yX6_workOf : MethodName := ⟨RX6, "workOf", "(II)I"⟩
abbrev cX6_make : ByteArray := prog_8_method_24_code
def yX6_make : MethodName := ⟨RX6, "make", "()I"⟩
abbrev cX6_push : ByteArray := prog_8_method_25_code
def yX6_push : MethodName := ⟨RX6, "push", "(II)V"⟩
abbrev cX6_append : ByteArray := prog_8_method_26_code
def yX6_append : MethodName := ⟨RX6, "append", "(III)I"⟩
abbrev cX6_write : ByteArray := prog_8_method_27_code
def yX6_write : MethodName := ⟨RX6, "write", "(III)I"⟩
abbrev cX6_isPlace : ByteArray := prog_8_method_28_code
def yX6_isPlace : MethodName := ⟨RX6, "isPlace", "(III)Z"⟩
abbrev cX6_set : ByteArray := prog_8_method_29_code
def yX6_set : MethodName := ⟨RX6, "set", "(III)I"⟩
abbrev cX6_resize : ByteArray := prog_8_method_30_code
def yX6_resize : MethodName := ⟨RX6, "resize", "(II)I"⟩
abbrev cX6_operate : ByteArray := prog_8_method_31_code
def yX6_operate : MethodName := ⟨RX6, "operate", "(IIII)I"⟩
abbrev cX6_not : ByteArray := prog_8_method_32_code
def yX6_not : MethodName := ⟨RX6, "not", "(I)I"⟩
abbrev cX6_shift : ByteArray := prog_8_method_33_code
def yX6_shift : MethodName := ⟨RX6, "shift", "(II)I"⟩
abbrev cX6_type : ByteArray := prog_8_method_34_code
def yX6_type : MethodName := ⟨RX6, "type", "(I)I"⟩
abbrev cX6_clearText : ByteArray := prog_8_method_35_code
def yX6_clearText : MethodName := ⟨RX6, "clearText", "()I"⟩
abbrev cX6_code : ByteArray := prog_8_method_36_code
def yX6_code : MethodName := ⟨RX6, "code", "()I"⟩
abbrev cX6_wrong : ByteArray := prog_8_method_37_code
def yX6_wrong : MethodName := ⟨RX6, "wrong", "(ZI)V"⟩
abbrev cX6_readsNumber : ByteArray := prog_8_method_38_code
def yX6_readsNumber : MethodName := ⟨RX6, "readsNumber", "()Z"⟩
abbrev cX6_push_ : ByteArray := prog_8_method_39_code
def yX6_push_ : MethodName := ⟨RX6, "push", "(I)V"⟩
abbrev cX6_pop : ByteArray := prog_8_method_40_code
def yX6_pop : MethodName := ⟨RX6, "pop", "()I"⟩
abbrev cX6_top : ByteArray := prog_8_method_41_code
def yX6_top : MethodName := ⟨RX6, "top", "()I"⟩
abbrev cX6_rank : ByteArray := prog_8_method_42_code
def yX6_rank : MethodName := ⟨RX6, "rank", "(I)I"⟩
abbrev cX6_operationOf : ByteArray := prog_8_method_43_code
def yX6_operationOf : MethodName := ⟨RX6, "operationOf", "(I)I"⟩
abbrev cX6_doTo : ByteArray := prog_8_method_44_code
def yX6_doTo : MethodName := ⟨RX6, "doTo", "(I)V"⟩
abbrev cX6_closeFactor : ByteArray := prog_8_method_45_code
def yX6_closeFactor : MethodName := ⟨RX6, "closeFactor", "()V"⟩
abbrev cX6_readsRow : ByteArray := prog_8_method_46_code
def yX6_readsRow : MethodName := ⟨RX6, "readsRow", "()Z"⟩
abbrev cX6_readsFactor : ByteArray := prog_8_method_47_code
def yX6_readsFactor : MethodName := ⟨RX6, "readsFactor", "()Z"⟩
abbrev cX6_readsOn : ByteArray := prog_8_method_48_code
def yX6_readsOn : MethodName := ⟨RX6, "readsOn", "()Z"⟩
abbrev cX6_reads : ByteArray := prog_8_method_49_code
def yX6_reads : MethodName := ⟨RX6, "reads", "(Z)Z"⟩
abbrev cX6_fail : ByteArray := prog_8_method_50_code
def yX6_fail : MethodName := ⟨RX6, "fail", "(III)I"⟩
abbrev cX6_evaluate : ByteArray := prog_8_method_51_code
def yX6_evaluate : MethodName := ⟨RX6, "evaluate", "(I)I"⟩
abbrev cX6_failure : ByteArray := prog_8_method_52_code
def yX6_failure : MethodName := ⟨RX6, "failure", "(I)I"⟩
abbrev cX6_count : ByteArray := prog_8_method_53_code
def yX6_count : MethodName := ⟨RX6, "count", "(I)I"⟩
abbrev cX6_placeOf : ByteArray := prog_8_method_54_code
def yX6_placeOf : MethodName := ⟨RX6, "placeOf", "(II)I"⟩
abbrev cX6_row : ByteArray := prog_8_method_55_code
def yX6_row : MethodName := ⟨RX6, "row", "(II)I"⟩
abbrev cX6_word : ByteArray := prog_8_method_56_code
def yX6_word : MethodName := ⟨RX6, "word", "(II)I"⟩
abbrev cX6_bit : ByteArray := prog_8_method_57_code
def yX6_bit : MethodName := ⟨RX6, "bit", "(II)I"⟩
abbrev cX6_rank_ : ByteArray := prog_8_method_58_code
def yX6_rank_ : MethodName := ⟨RX6, "rank", "(II)I"⟩
abbrev cX6_select : ByteArray := prog_8_method_59_code
def yX6_select : MethodName := ⟨RX6, "select", "(II)I"⟩
abbrev cX6_would : ByteArray := prog_8_method_60_code
def yX6_would : MethodName := ⟨RX6, "would", "(IIII)I"⟩
abbrev cX6_areSame : ByteArray := prog_8_method_61_code
def yX6_areSame : MethodName := ⟨RX6, "areSame", "(II)Z"⟩
abbrev cX6_same : ByteArray := prog_8_method_62_code
def yX6_same : MethodName := ⟨RX6, "same", "(I)I"⟩
abbrev cX6_bestShift : ByteArray := prog_8_method_63_code
def yX6_bestShift : MethodName := ⟨RX6, "bestShift", "(I)I"⟩
def RJ6 : String := "java/lang/Integer"
abbrev cJ6_bitCount_0f7a4 : ByteArray := prog_9_method_49_code
def yJ6_bitCount_0f7a4 : MethodName := ⟨RJ6, "bitCount", "(I)I"⟩
def RJ9 : String := "java/lang/Math"
abbrev cJ9_floorDiv_7cf53 : ByteArray := prog_10_method_47_code
def yJ9_floorDiv_7cf53 : MethodName := ⟨RJ9, "floorDiv", "(II)I"⟩
abbrev cJ9_floorMod_7cf53 : ByteArray := prog_10_method_50_code
def yJ9_floorMod_7cf53 : MethodName := ⟨RJ9, "floorMod", "(II)I"⟩
abbrev cJ9_max_7cf53 : ByteArray := prog_10_method_65_code
def yJ9_max_7cf53 : MethodName := ⟨RJ9, "max", "(II)I"⟩
abbrev cJ9_min_7cf53 : ByteArray := prog_10_method_69_code
def yJ9_min_7cf53 : MethodName := ⟨RJ9, "min", "(II)I"⟩
def RJ10 : String := "java/lang/System"
def RL : String := "PackedBitsLaw"
abbrev cL_law : ByteArray := code
def yL_law : MethodName := ⟨RL, "law", "([I)Z"⟩
abbrev vwCl : List vw_C := [(RX0, TX0, 2), (RX1, TX1, 3), (RX2, TX2, 10), (RX3, TX3, 2), (RX5, TX5, 5), (RX6, TX6, 17)]
end
section
theorem dX0_init_0 : decode cX0_init 0 = .ok (.aload_n 0, 1) := by decide +kernel
theorem dX0_init_1 : decode cX0_init 1 = .ok (.invokespecial 3, 3) := by decide +kernel
theorem dX0_init_4 : decode cX0_init 4 = .ok (.aload_n 0, 1) := by decide +kernel
theorem dX0_init_5 : decode cX0_init 5 = .ok (.bipush 40, 2) := by decide +kernel
theorem dX0_init_7 : decode cX0_init 7 = .ok (.newarray .int, 2) := by decide +kernel
theorem dX0_init_9 : decode cX0_init 9 = .ok (.putfield 9, 3) := by decide +kernel
theorem dX0_init_12 : decode cX0_init 12 = .ok (.return_, 1) := by decide +kernel
theorem dX0_groupCount_0 : decode cX0_groupCount 0 = .ok (.aload_n 0, 1) := by decide +kernel
theorem dX0_groupCount_1 : decode cX0_groupCount 1 = .ok (.getfield 15, 3) := by decide +kernel
theorem dX0_groupCount_4 : decode cX0_groupCount 4 = .ok (.bipush 15, 2) := by decide +kernel
theorem dX0_groupCount_6 : decode cX0_groupCount 6 = .ok (.iadd, 1) := by decide +kernel
theorem dX0_groupCount_7 : decode cX0_groupCount 7 = .ok (.iconst 1, 1) := by decide +kernel
theorem dX0_groupCount_8 : decode cX0_groupCount 8 = .ok (.isub, 1) := by decide +kernel
theorem dX0_groupCount_9 : decode cX0_groupCount 9 = .ok (.bipush 15, 2) := by decide +kernel
theorem dX0_groupCount_11 : decode cX0_groupCount 11 = .ok (.idiv, 1) := by decide +kernel
theorem dX0_groupCount_12 : decode cX0_groupCount 12 = .ok (.ireturn, 1) := by decide +kernel
theorem dX0_groupAt_0 : decode cX0_groupAt 0 = .ok (.iload_n 1, 1) := by decide +kernel
theorem dX0_groupAt_1 : decode cX0_groupAt 1 = .ok (.ifCond .lt 21, 3) := by decide +kernel
theorem dX0_groupAt_4 : decode cX0_groupAt 4 = .ok (.iload_n 1, 1) := by decide +kernel
theorem dX0_groupAt_5 : decode cX0_groupAt 5 = .ok (.aload_n 0, 1) := by decide +kernel
theorem dX0_groupAt_6 : decode cX0_groupAt 6 = .ok (.getfield 9, 3) := by decide +kernel
theorem dX0_groupAt_9 : decode cX0_groupAt 9 = .ok (.arraylength, 1) := by decide +kernel
theorem dX0_groupAt_10 : decode cX0_groupAt 10 = .ok (.if_icmp .ge 12, 3) := by decide +kernel
theorem dX0_groupAt_13 : decode cX0_groupAt 13 = .ok (.aload_n 0, 1) := by decide +kernel
theorem dX0_groupAt_14 : decode cX0_groupAt 14 = .ok (.getfield 9, 3) := by decide +kernel
theorem dX0_groupAt_17 : decode cX0_groupAt 17 = .ok (.iload_n 1, 1) := by decide +kernel
theorem dX0_groupAt_18 : decode cX0_groupAt 18 = .ok (.iaload, 1) := by decide +kernel
theorem dX0_groupAt_19 : decode cX0_groupAt 19 = .ok (.goto 4, 3) := by decide +kernel
theorem dX0_groupAt_22 : decode cX0_groupAt 22 = .ok (.iconst 0, 1) := by decide +kernel
theorem dX0_groupAt_23 : decode cX0_groupAt 23 = .ok (.ireturn, 1) := by decide +kernel
theorem dX0_valueAt_0 : decode cX0_valueAt 0 = .ok (.aload_n 0, 1) := by decide +kernel
theorem dX0_valueAt_1 : decode cX0_valueAt 1 = .ok (.iload_n 1, 1) := by decide +kernel
theorem dX0_valueAt_2 : decode cX0_valueAt 2 = .ok (.bipush 15, 2) := by decide +kernel
theorem dX0_valueAt_4 : decode cX0_valueAt 4 = .ok (.idiv, 1) := by decide +kernel
theorem dX0_valueAt_5 : decode cX0_valueAt 5 = .ok (.invokevirtual 19, 3) := by decide +kernel
theorem dX0_valueAt_8 : decode cX0_valueAt 8 = .ok (.iload_n 1, 1) := by decide +kernel
theorem dX0_valueAt_9 : decode cX0_valueAt 9 = .ok (.bipush 15, 2) := by decide +kernel
theorem dX0_valueAt_11 : decode cX0_valueAt 11 = .ok (.irem, 1) := by decide +kernel
theorem dX0_valueAt_12 : decode cX0_valueAt 12 = .ok (.ishr, 1) := by decide +kernel
theorem dX0_valueAt_13 : decode cX0_valueAt 13 = .ok (.iconst 1, 1) := by decide +kernel
theorem dX0_valueAt_14 : decode cX0_valueAt 14 = .ok (.iand, 1) := by decide +kernel
theorem dX0_valueAt_15 : decode cX0_valueAt 15 = .ok (.ireturn, 1) := by decide +kernel
theorem dX0_putAt_0 : decode cX0_putAt 0 = .ok (.iload_n 1, 1) := by decide +kernel
theorem dX0_putAt_1 : decode cX0_putAt 1 = .ok (.bipush 15, 2) := by decide +kernel
theorem dX0_putAt_3 : decode cX0_putAt 3 = .ok (.idiv, 1) := by decide +kernel
theorem dX0_putAt_4 : decode cX0_putAt 4 = .ok (.istore_n 3, 1) := by decide +kernel
theorem dX0_putAt_5 : decode cX0_putAt 5 = .ok (.iload_n 1, 1) := by decide +kernel
theorem dX0_putAt_6 : decode cX0_putAt 6 = .ok (.ifCond .lt 12, 3) := by decide +kernel
theorem dX0_putAt_9 : decode cX0_putAt 9 = .ok (.iload_n 3, 1) := by decide +kernel
theorem dX0_putAt_10 : decode cX0_putAt 10 = .ok (.aload_n 0, 1) := by decide +kernel
theorem dX0_putAt_11 : decode cX0_putAt 11 = .ok (.getfield 9, 3) := by decide +kernel
theorem dX0_putAt_14 : decode cX0_putAt 14 = .ok (.arraylength, 1) := by decide +kernel
theorem dX0_putAt_15 : decode cX0_putAt 15 = .ok (.if_icmp .lt 4, 3) := by decide +kernel
theorem dX0_putAt_18 : decode cX0_putAt 18 = .ok (.return_, 1) := by decide +kernel
theorem dX0_putAt_19 : decode cX0_putAt 19 = .ok (.iconst 1, 1) := by decide +kernel
theorem dX0_putAt_20 : decode cX0_putAt 20 = .ok (.iload_n 1, 1) := by decide +kernel
theorem dX0_putAt_21 : decode cX0_putAt 21 = .ok (.bipush 15, 2) := by decide +kernel
theorem dX0_putAt_23 : decode cX0_putAt 23 = .ok (.irem, 1) := by decide +kernel
theorem dX0_putAt_24 : decode cX0_putAt 24 = .ok (.ishl, 1) := by decide +kernel
theorem dX0_putAt_25 : decode cX0_putAt 25 = .ok (.istore 4, 2) := by decide +kernel
theorem dX0_putAt_27 : decode cX0_putAt 27 = .ok (.aload_n 0, 1) := by decide +kernel
theorem dX0_putAt_28 : decode cX0_putAt 28 = .ok (.getfield 9, 3) := by decide +kernel
theorem dX0_putAt_31 : decode cX0_putAt 31 = .ok (.iload_n 3, 1) := by decide +kernel
theorem dX0_putAt_32 : decode cX0_putAt 32 = .ok (.iload_n 2, 1) := by decide +kernel
theorem dX0_putAt_33 : decode cX0_putAt 33 = .ok (.iconst 1, 1) := by decide +kernel
theorem dX0_putAt_34 : decode cX0_putAt 34 = .ok (.if_icmp .ne 15, 3) := by decide +kernel
theorem dX0_putAt_37 : decode cX0_putAt 37 = .ok (.aload_n 0, 1) := by decide +kernel
theorem dX0_putAt_38 : decode cX0_putAt 38 = .ok (.getfield 9, 3) := by decide +kernel
theorem dX0_putAt_41 : decode cX0_putAt 41 = .ok (.iload_n 3, 1) := by decide +kernel
theorem dX0_putAt_42 : decode cX0_putAt 42 = .ok (.iaload, 1) := by decide +kernel
theorem dX0_putAt_43 : decode cX0_putAt 43 = .ok (.iload 4, 2) := by decide +kernel
theorem dX0_putAt_45 : decode cX0_putAt 45 = .ok (.ior, 1) := by decide +kernel
theorem dX0_putAt_46 : decode cX0_putAt 46 = .ok (.goto 14, 3) := by decide +kernel
theorem dX0_putAt_49 : decode cX0_putAt 49 = .ok (.aload_n 0, 1) := by decide +kernel
theorem dX0_putAt_50 : decode cX0_putAt 50 = .ok (.getfield 9, 3) := by decide +kernel
theorem dX0_putAt_53 : decode cX0_putAt 53 = .ok (.iload_n 3, 1) := by decide +kernel
theorem dX0_putAt_54 : decode cX0_putAt 54 = .ok (.iaload, 1) := by decide +kernel
theorem dX0_putAt_55 : decode cX0_putAt 55 = .ok (.iload 4, 2) := by decide +kernel
theorem dX0_putAt_57 : decode cX0_putAt 57 = .ok (.iconst (-1), 1) := by decide +kernel
theorem dX0_putAt_58 : decode cX0_putAt 58 = .ok (.ixor, 1) := by decide +kernel
theorem dX0_putAt_59 : decode cX0_putAt 59 = .ok (.iand, 1) := by decide +kernel
theorem dX0_putAt_60 : decode cX0_putAt 60 = .ok (.iastore, 1) := by decide +kernel
theorem dX0_putAt_61 : decode cX0_putAt 61 = .ok (.return_, 1) := by decide +kernel
theorem dX0_copyFrom_0 : decode cX0_copyFrom 0 = .ok (.aload_n 1, 1) := by decide +kernel
theorem dX0_copyFrom_1 : decode cX0_copyFrom 1 = .ok (.getfield 9, 3) := by decide +kernel
theorem dX0_copyFrom_4 : decode cX0_copyFrom 4 = .ok (.iconst 0, 1) := by decide +kernel
theorem dX0_copyFrom_5 : decode cX0_copyFrom 5 = .ok (.aload_n 0, 1) := by decide +kernel
theorem dX0_copyFrom_6 : decode cX0_copyFrom 6 = .ok (.getfield 9, 3) := by decide +kernel
theorem dX0_copyFrom_9 : decode cX0_copyFrom 9 = .ok (.iconst 0, 1) := by decide +kernel
theorem dX0_copyFrom_10 : decode cX0_copyFrom 10 = .ok (.bipush 40, 2) := by decide +kernel
theorem dX0_copyFrom_12 : decode cX0_copyFrom 12 = .ok (.invokestatic 23, 3) := by decide +kernel
theorem dX0_copyFrom_15 : decode cX0_copyFrom 15 = .ok (.aload_n 0, 1) := by decide +kernel
theorem dX0_copyFrom_16 : decode cX0_copyFrom 16 = .ok (.aload_n 1, 1) := by decide +kernel
theorem dX0_copyFrom_17 : decode cX0_copyFrom 17 = .ok (.getfield 15, 3) := by decide +kernel
theorem dX0_copyFrom_20 : decode cX0_copyFrom 20 = .ok (.putfield 15, 3) := by decide +kernel
theorem dX0_copyFrom_23 : decode cX0_copyFrom 23 = .ok (.return_, 1) := by decide +kernel
theorem dX0_cutTo_0 : decode cX0_cutTo 0 = .ok (.iconst 0, 1) := by decide +kernel
theorem dX0_cutTo_1 : decode cX0_cutTo 1 = .ok (.istore_n 2, 1) := by decide +kernel
theorem dX0_cutTo_2 : decode cX0_cutTo 2 = .ok (.iload_n 2, 1) := by decide +kernel
theorem dX0_cutTo_3 : decode cX0_cutTo 3 = .ok (.aload_n 0, 1) := by decide +kernel
theorem dX0_cutTo_4 : decode cX0_cutTo 4 = .ok (.getfield 9, 3) := by decide +kernel
theorem dX0_cutTo_7 : decode cX0_cutTo 7 = .ok (.arraylength, 1) := by decide +kernel
theorem dX0_cutTo_8 : decode cX0_cutTo 8 = .ok (.if_icmp .ge 23, 3) := by decide +kernel
theorem dX0_cutTo_11 : decode cX0_cutTo 11 = .ok (.aload_n 0, 1) := by decide +kernel
theorem dX0_cutTo_12 : decode cX0_cutTo 12 = .ok (.getfield 9, 3) := by decide +kernel
theorem dX0_cutTo_15 : decode cX0_cutTo 15 = .ok (.iload_n 2, 1) := by decide +kernel
theorem dX0_cutTo_16 : decode cX0_cutTo 16 = .ok (.dup2, 1) := by decide +kernel
theorem dX0_cutTo_17 : decode cX0_cutTo 17 = .ok (.iaload, 1) := by decide +kernel
theorem dX0_cutTo_18 : decode cX0_cutTo 18 = .ok (.iload_n 1, 1) := by decide +kernel
theorem dX0_cutTo_19 : decode cX0_cutTo 19 = .ok (.iload_n 2, 1) := by decide +kernel
theorem dX0_cutTo_20 : decode cX0_cutTo 20 = .ok (.invokestatic 29, 3) := by decide +kernel
theorem dX0_cutTo_23 : decode cX0_cutTo 23 = .ok (.iand, 1) := by decide +kernel
theorem dX0_cutTo_24 : decode cX0_cutTo 24 = .ok (.iastore, 1) := by decide +kernel
theorem dX0_cutTo_25 : decode cX0_cutTo 25 = .ok (.iinc 2 1, 3) := by decide +kernel
theorem dX0_cutTo_28 : decode cX0_cutTo 28 = .ok (.goto (-26), 3) := by decide +kernel
theorem dX0_cutTo_31 : decode cX0_cutTo 31 = .ok (.aload_n 0, 1) := by decide +kernel
theorem dX0_cutTo_32 : decode cX0_cutTo 32 = .ok (.iload_n 1, 1) := by decide +kernel
theorem dX0_cutTo_33 : decode cX0_cutTo 33 = .ok (.putfield 15, 3) := by decide +kernel
theorem dX0_cutTo_36 : decode cX0_cutTo 36 = .ok (.return_, 1) := by decide +kernel
theorem dX0_addRun_0 : decode cX0_addRun 0 = .ok (.aload_n 0, 1) := by decide +kernel
theorem dX0_addRun_1 : decode cX0_addRun 1 = .ok (.getfield 15, 3) := by decide +kernel
theorem dX0_addRun_4 : decode cX0_addRun 4 = .ok (.iload_n 2, 1) := by decide +kernel
theorem dX0_addRun_5 : decode cX0_addRun 5 = .ok (.iadd, 1) := by decide +kernel
theorem dX0_addRun_6 : decode cX0_addRun 6 = .ok (.istore_n 3, 1) := by decide +kernel
theorem dX0_addRun_7 : decode cX0_addRun 7 = .ok (.iload_n 1, 1) := by decide +kernel
theorem dX0_addRun_8 : decode cX0_addRun 8 = .ok (.iconst 1, 1) := by decide +kernel
theorem dX0_addRun_9 : decode cX0_addRun 9 = .ok (.if_icmp .ne 50, 3) := by decide +kernel
theorem dX0_addRun_12 : decode cX0_addRun 12 = .ok (.iconst 0, 1) := by decide +kernel
theorem dX0_addRun_13 : decode cX0_addRun 13 = .ok (.istore 4, 2) := by decide +kernel
theorem dX0_addRun_15 : decode cX0_addRun 15 = .ok (.iload 4, 2) := by decide +kernel
theorem dX0_addRun_17 : decode cX0_addRun 17 = .ok (.aload_n 0, 1) := by decide +kernel
theorem dX0_addRun_18 : decode cX0_addRun 18 = .ok (.getfield 9, 3) := by decide +kernel
theorem dX0_addRun_21 : decode cX0_addRun 21 = .ok (.arraylength, 1) := by decide +kernel
theorem dX0_addRun_22 : decode cX0_addRun 22 = .ok (.if_icmp .ge 37, 3) := by decide +kernel
theorem dX0_addRun_25 : decode cX0_addRun 25 = .ok (.aload_n 0, 1) := by decide +kernel
theorem dX0_addRun_26 : decode cX0_addRun 26 = .ok (.getfield 9, 3) := by decide +kernel
theorem dX0_addRun_29 : decode cX0_addRun 29 = .ok (.iload 4, 2) := by decide +kernel
theorem dX0_addRun_31 : decode cX0_addRun 31 = .ok (.dup2, 1) := by decide +kernel
theorem dX0_addRun_32 : decode cX0_addRun 32 = .ok (.iaload, 1) := by decide +kernel
theorem dX0_addRun_33 : decode cX0_addRun 33 = .ok (.iload_n 3, 1) := by decide +kernel
theorem dX0_addRun_34 : decode cX0_addRun 34 = .ok (.iload 4, 2) := by decide +kernel
theorem dX0_addRun_36 : decode cX0_addRun 36 = .ok (.invokestatic 29, 3) := by decide +kernel
theorem dX0_addRun_39 : decode cX0_addRun 39 = .ok (.aload_n 0, 1) := by decide +kernel
theorem dX0_addRun_40 : decode cX0_addRun 40 = .ok (.getfield 15, 3) := by decide +kernel
theorem dX0_addRun_43 : decode cX0_addRun 43 = .ok (.iload 4, 2) := by decide +kernel
theorem dX0_addRun_45 : decode cX0_addRun 45 = .ok (.invokestatic 29, 3) := by decide +kernel
theorem dX0_addRun_48 : decode cX0_addRun 48 = .ok (.iconst (-1), 1) := by decide +kernel
theorem dX0_addRun_49 : decode cX0_addRun 49 = .ok (.ixor, 1) := by decide +kernel
theorem dX0_addRun_50 : decode cX0_addRun 50 = .ok (.iand, 1) := by decide +kernel
theorem dX0_addRun_51 : decode cX0_addRun 51 = .ok (.ior, 1) := by decide +kernel
theorem dX0_addRun_52 : decode cX0_addRun 52 = .ok (.iastore, 1) := by decide +kernel
theorem dX0_addRun_53 : decode cX0_addRun 53 = .ok (.iinc 4 1, 3) := by decide +kernel
theorem dX0_addRun_56 : decode cX0_addRun 56 = .ok (.goto (-41), 3) := by decide +kernel
theorem dX0_addRun_59 : decode cX0_addRun 59 = .ok (.aload_n 0, 1) := by decide +kernel
theorem dX0_addRun_60 : decode cX0_addRun 60 = .ok (.iload_n 3, 1) := by decide +kernel
theorem dX0_addRun_61 : decode cX0_addRun 61 = .ok (.putfield 15, 3) := by decide +kernel
theorem dX0_addRun_64 : decode cX0_addRun 64 = .ok (.return_, 1) := by decide +kernel
theorem dX0_addNumber_0 : decode cX0_addNumber 0 = .ok (.iconst 0, 1) := by decide +kernel
theorem dX0_addNumber_1 : decode cX0_addNumber 1 = .ok (.istore_n 3, 1) := by decide +kernel
theorem dX0_addNumber_2 : decode cX0_addNumber 2 = .ok (.iload_n 3, 1) := by decide +kernel
theorem dX0_addNumber_3 : decode cX0_addNumber 3 = .ok (.iload_n 2, 1) := by decide +kernel
theorem dX0_addNumber_4 : decode cX0_addNumber 4 = .ok (.if_icmp .ge 24, 3) := by decide +kernel
theorem dX0_addNumber_7 : decode cX0_addNumber 7 = .ok (.aload_n 0, 1) := by decide +kernel
theorem dX0_addNumber_8 : decode cX0_addNumber 8 = .ok (.aload_n 0, 1) := by decide +kernel
theorem dX0_addNumber_9 : decode cX0_addNumber 9 = .ok (.getfield 15, 3) := by decide +kernel
theorem dX0_addNumber_12 : decode cX0_addNumber 12 = .ok (.iload_n 3, 1) := by decide +kernel
theorem dX0_addNumber_13 : decode cX0_addNumber 13 = .ok (.iadd, 1) := by decide +kernel
theorem dX0_addNumber_14 : decode cX0_addNumber 14 = .ok (.iload_n 1, 1) := by decide +kernel
theorem dX0_addNumber_15 : decode cX0_addNumber 15 = .ok (.iload_n 3, 1) := by decide +kernel
theorem dX0_addNumber_16 : decode cX0_addNumber 16 = .ok (.ishr, 1) := by decide +kernel
theorem dX0_addNumber_17 : decode cX0_addNumber 17 = .ok (.iconst 1, 1) := by decide +kernel
theorem dX0_addNumber_18 : decode cX0_addNumber 18 = .ok (.iand, 1) := by decide +kernel
theorem dX0_addNumber_19 : decode cX0_addNumber 19 = .ok (.invokevirtual 33, 3) := by decide +kernel
theorem dX0_addNumber_22 : decode cX0_addNumber 22 = .ok (.iinc 3 1, 3) := by decide +kernel
theorem dX0_addNumber_25 : decode cX0_addNumber 25 = .ok (.goto (-23), 3) := by decide +kernel
theorem dX0_addNumber_28 : decode cX0_addNumber 28 = .ok (.aload_n 0, 1) := by decide +kernel
theorem dX0_addNumber_29 : decode cX0_addNumber 29 = .ok (.dup, 1) := by decide +kernel
theorem dX0_addNumber_30 : decode cX0_addNumber 30 = .ok (.getfield 15, 3) := by decide +kernel
theorem dX0_addNumber_33 : decode cX0_addNumber 33 = .ok (.iload_n 2, 1) := by decide +kernel
theorem dX0_addNumber_34 : decode cX0_addNumber 34 = .ok (.iadd, 1) := by decide +kernel
theorem dX0_addNumber_35 : decode cX0_addNumber 35 = .ok (.putfield 15, 3) := by decide +kernel
theorem dX0_addNumber_38 : decode cX0_addNumber 38 = .ok (.return_, 1) := by decide +kernel
theorem dX0_invert_0 : decode cX0_invert 0 = .ok (.iconst 0, 1) := by decide +kernel
theorem dX0_invert_1 : decode cX0_invert 1 = .ok (.istore_n 1, 1) := by decide +kernel
theorem dX0_invert_2 : decode cX0_invert 2 = .ok (.iload_n 1, 1) := by decide +kernel
theorem dX0_invert_3 : decode cX0_invert 3 = .ok (.aload_n 0, 1) := by decide +kernel
theorem dX0_invert_4 : decode cX0_invert 4 = .ok (.getfield 9, 3) := by decide +kernel
theorem dX0_invert_7 : decode cX0_invert 7 = .ok (.arraylength, 1) := by decide +kernel
theorem dX0_invert_8 : decode cX0_invert 8 = .ok (.if_icmp .ge 26, 3) := by decide +kernel
theorem dX0_invert_11 : decode cX0_invert 11 = .ok (.aload_n 0, 1) := by decide +kernel
theorem dX0_invert_12 : decode cX0_invert 12 = .ok (.getfield 9, 3) := by decide +kernel
theorem dX0_invert_15 : decode cX0_invert 15 = .ok (.iload_n 1, 1) := by decide +kernel
theorem dX0_invert_16 : decode cX0_invert 16 = .ok (.dup2, 1) := by decide +kernel
theorem dX0_invert_17 : decode cX0_invert 17 = .ok (.iaload, 1) := by decide +kernel
theorem dX0_invert_18 : decode cX0_invert 18 = .ok (.aload_n 0, 1) := by decide +kernel
theorem dX0_invert_19 : decode cX0_invert 19 = .ok (.getfield 15, 3) := by decide +kernel
theorem dX0_invert_22 : decode cX0_invert 22 = .ok (.iload_n 1, 1) := by decide +kernel
theorem dX0_invert_23 : decode cX0_invert 23 = .ok (.invokestatic 29, 3) := by decide +kernel
theorem dX0_invert_26 : decode cX0_invert 26 = .ok (.ixor, 1) := by decide +kernel
theorem dX0_invert_27 : decode cX0_invert 27 = .ok (.iastore, 1) := by decide +kernel
theorem dX0_invert_28 : decode cX0_invert 28 = .ok (.iinc 1 1, 3) := by decide +kernel
theorem dX0_invert_31 : decode cX0_invert 31 = .ok (.goto (-29), 3) := by decide +kernel
theorem dX0_invert_34 : decode cX0_invert 34 = .ok (.return_, 1) := by decide +kernel
theorem dX0_combine_0 : decode cX0_combine 0 = .ok (.iconst 0, 1) := by decide +kernel
theorem dX0_combine_1 : decode cX0_combine 1 = .ok (.istore 4, 2) := by decide +kernel
theorem dX0_combine_3 : decode cX0_combine 3 = .ok (.iload 4, 2) := by decide +kernel
theorem dX0_combine_5 : decode cX0_combine 5 = .ok (.aload_n 0, 1) := by decide +kernel
theorem dX0_combine_6 : decode cX0_combine 6 = .ok (.getfield 9, 3) := by decide +kernel
theorem dX0_combine_9 : decode cX0_combine 9 = .ok (.arraylength, 1) := by decide +kernel
theorem dX0_combine_10 : decode cX0_combine 10 = .ok (.if_icmp .ge 32, 3) := by decide +kernel
theorem dX0_combine_13 : decode cX0_combine 13 = .ok (.aload_n 0, 1) := by decide +kernel
theorem dX0_combine_14 : decode cX0_combine 14 = .ok (.getfield 9, 3) := by decide +kernel
theorem dX0_combine_17 : decode cX0_combine 17 = .ok (.iload 4, 2) := by decide +kernel
theorem dX0_combine_19 : decode cX0_combine 19 = .ok (.iload_n 1, 1) := by decide +kernel
theorem dX0_combine_20 : decode cX0_combine 20 = .ok (.aload_n 2, 1) := by decide +kernel
theorem dX0_combine_21 : decode cX0_combine 21 = .ok (.iload 4, 2) := by decide +kernel
theorem dX0_combine_23 : decode cX0_combine 23 = .ok (.invokevirtual 19, 3) := by decide +kernel
theorem dX0_combine_26 : decode cX0_combine 26 = .ok (.aload_n 3, 1) := by decide +kernel
theorem dX0_combine_27 : decode cX0_combine 27 = .ok (.iload 4, 2) := by decide +kernel
theorem dX0_combine_29 : decode cX0_combine 29 = .ok (.invokevirtual 19, 3) := by decide +kernel
theorem dX0_combine_32 : decode cX0_combine 32 = .ok (.invokestatic 37, 3) := by decide +kernel
theorem dX0_combine_35 : decode cX0_combine 35 = .ok (.iastore, 1) := by decide +kernel
theorem dX0_combine_36 : decode cX0_combine 36 = .ok (.iinc 4 1, 3) := by decide +kernel
theorem dX0_combine_39 : decode cX0_combine 39 = .ok (.goto (-36), 3) := by decide +kernel
theorem dX0_combine_42 : decode cX0_combine 42 = .ok (.aload_n 0, 1) := by decide +kernel
theorem dX0_combine_43 : decode cX0_combine 43 = .ok (.aload_n 2, 1) := by decide +kernel
theorem dX0_combine_44 : decode cX0_combine 44 = .ok (.getfield 15, 3) := by decide +kernel
theorem dX0_combine_47 : decode cX0_combine 47 = .ok (.aload_n 3, 1) := by decide +kernel
theorem dX0_combine_48 : decode cX0_combine 48 = .ok (.getfield 15, 3) := by decide +kernel
theorem dX0_combine_51 : decode cX0_combine 51 = .ok (.invokestatic 41, 3) := by decide +kernel
theorem dX0_combine_54 : decode cX0_combine 54 = .ok (.putfield 15, 3) := by decide +kernel
theorem dX0_combine_57 : decode cX0_combine 57 = .ok (.return_, 1) := by decide +kernel
theorem dX0_combined_0 : decode cX0_combined 0 = .ok (.iload_n 0, 1) := by decide +kernel
theorem dX0_combined_1 : decode cX0_combined 1 = .ok (.tableswitch 41 0 2 #[27, 31, 35], 27) := by decide +kernel
theorem dX0_combined_28 : decode cX0_combined 28 = .ok (.iload_n 1, 1) := by decide +kernel
theorem dX0_combined_29 : decode cX0_combined 29 = .ok (.iload_n 2, 1) := by decide +kernel
theorem dX0_combined_30 : decode cX0_combined 30 = .ok (.iand, 1) := by decide +kernel
theorem dX0_combined_31 : decode cX0_combined 31 = .ok (.ireturn, 1) := by decide +kernel
theorem dX0_combined_32 : decode cX0_combined 32 = .ok (.iload_n 1, 1) := by decide +kernel
theorem dX0_combined_33 : decode cX0_combined 33 = .ok (.iload_n 2, 1) := by decide +kernel
theorem dX0_combined_34 : decode cX0_combined 34 = .ok (.ior, 1) := by decide +kernel
theorem dX0_combined_35 : decode cX0_combined 35 = .ok (.ireturn, 1) := by decide +kernel
theorem dX0_combined_36 : decode cX0_combined 36 = .ok (.iload_n 1, 1) := by decide +kernel
theorem dX0_combined_37 : decode cX0_combined 37 = .ok (.iload_n 2, 1) := by decide +kernel
theorem dX0_combined_38 : decode cX0_combined 38 = .ok (.iconst (-1), 1) := by decide +kernel
theorem dX0_combined_39 : decode cX0_combined 39 = .ok (.ixor, 1) := by decide +kernel
theorem dX0_combined_40 : decode cX0_combined 40 = .ok (.iand, 1) := by decide +kernel
theorem dX0_combined_41 : decode cX0_combined 41 = .ok (.ireturn, 1) := by decide +kernel
theorem dX0_combined_42 : decode cX0_combined 42 = .ok (.iload_n 1, 1) := by decide +kernel
theorem dX0_combined_43 : decode cX0_combined 43 = .ok (.iload_n 2, 1) := by decide +kernel
theorem dX0_combined_44 : decode cX0_combined 44 = .ok (.ixor, 1) := by decide +kernel
theorem dX0_combined_45 : decode cX0_combined 45 = .ok (.ireturn, 1) := by decide +kernel
theorem dX0_moveFrom_0 : decode cX0_moveFrom 0 = .ok (.iload_n 2, 1) := by decide +kernel
theorem dX0_moveFrom_1 : decode cX0_moveFrom 1 = .ok (.bipush 15, 2) := by decide +kernel
theorem dX0_moveFrom_3 : decode cX0_moveFrom 3 = .ok (.invokestatic 46, 3) := by decide +kernel
theorem dX0_moveFrom_6 : decode cX0_moveFrom 6 = .ok (.istore_n 3, 1) := by decide +kernel
theorem dX0_moveFrom_7 : decode cX0_moveFrom 7 = .ok (.iload_n 2, 1) := by decide +kernel
theorem dX0_moveFrom_8 : decode cX0_moveFrom 8 = .ok (.bipush 15, 2) := by decide +kernel
theorem dX0_moveFrom_10 : decode cX0_moveFrom 10 = .ok (.invokestatic 49, 3) := by decide +kernel
theorem dX0_moveFrom_13 : decode cX0_moveFrom 13 = .ok (.istore 4, 2) := by decide +kernel
theorem dX0_moveFrom_15 : decode cX0_moveFrom 15 = .ok (.iconst 0, 1) := by decide +kernel
theorem dX0_moveFrom_16 : decode cX0_moveFrom 16 = .ok (.istore 5, 2) := by decide +kernel
theorem dX0_moveFrom_18 : decode cX0_moveFrom 18 = .ok (.iload 5, 2) := by decide +kernel
theorem dX0_moveFrom_20 : decode cX0_moveFrom 20 = .ok (.aload_n 0, 1) := by decide +kernel
theorem dX0_moveFrom_21 : decode cX0_moveFrom 21 = .ok (.getfield 9, 3) := by decide +kernel
theorem dX0_moveFrom_24 : decode cX0_moveFrom 24 = .ok (.arraylength, 1) := by decide +kernel
theorem dX0_moveFrom_25 : decode cX0_moveFrom 25 = .ok (.if_icmp .ge 56, 3) := by decide +kernel
theorem dX0_moveFrom_28 : decode cX0_moveFrom 28 = .ok (.aload_n 1, 1) := by decide +kernel
theorem dX0_moveFrom_29 : decode cX0_moveFrom 29 = .ok (.iload 5, 2) := by decide +kernel
theorem dX0_moveFrom_31 : decode cX0_moveFrom 31 = .ok (.iload_n 3, 1) := by decide +kernel
theorem dX0_moveFrom_32 : decode cX0_moveFrom 32 = .ok (.isub, 1) := by decide +kernel
theorem dX0_moveFrom_33 : decode cX0_moveFrom 33 = .ok (.invokevirtual 19, 3) := by decide +kernel
theorem dX0_moveFrom_36 : decode cX0_moveFrom 36 = .ok (.iload 4, 2) := by decide +kernel
theorem dX0_moveFrom_38 : decode cX0_moveFrom 38 = .ok (.ishl, 1) := by decide +kernel
theorem dX0_moveFrom_39 : decode cX0_moveFrom 39 = .ok (.istore 6, 2) := by decide +kernel
theorem dX0_moveFrom_41 : decode cX0_moveFrom 41 = .ok (.aload_n 1, 1) := by decide +kernel
theorem dX0_moveFrom_42 : decode cX0_moveFrom 42 = .ok (.iload 5, 2) := by decide +kernel
theorem dX0_moveFrom_44 : decode cX0_moveFrom 44 = .ok (.iload_n 3, 1) := by decide +kernel
theorem dX0_moveFrom_45 : decode cX0_moveFrom 45 = .ok (.isub, 1) := by decide +kernel
theorem dX0_moveFrom_46 : decode cX0_moveFrom 46 = .ok (.iconst 1, 1) := by decide +kernel
theorem dX0_moveFrom_47 : decode cX0_moveFrom 47 = .ok (.isub, 1) := by decide +kernel
theorem dX0_moveFrom_48 : decode cX0_moveFrom 48 = .ok (.invokevirtual 19, 3) := by decide +kernel
theorem dX0_moveFrom_51 : decode cX0_moveFrom 51 = .ok (.bipush 15, 2) := by decide +kernel
theorem dX0_moveFrom_53 : decode cX0_moveFrom 53 = .ok (.iload 4, 2) := by decide +kernel
theorem dX0_moveFrom_55 : decode cX0_moveFrom 55 = .ok (.isub, 1) := by decide +kernel
theorem dX0_moveFrom_56 : decode cX0_moveFrom 56 = .ok (.ishr, 1) := by decide +kernel
theorem dX0_moveFrom_57 : decode cX0_moveFrom 57 = .ok (.istore 7, 2) := by decide +kernel
theorem dX0_moveFrom_59 : decode cX0_moveFrom 59 = .ok (.aload_n 0, 1) := by decide +kernel
theorem dX0_moveFrom_60 : decode cX0_moveFrom 60 = .ok (.getfield 9, 3) := by decide +kernel
theorem dX0_moveFrom_63 : decode cX0_moveFrom 63 = .ok (.iload 5, 2) := by decide +kernel
theorem dX0_moveFrom_65 : decode cX0_moveFrom 65 = .ok (.iload 6, 2) := by decide +kernel
theorem dX0_moveFrom_67 : decode cX0_moveFrom 67 = .ok (.iload 7, 2) := by decide +kernel
theorem dX0_moveFrom_69 : decode cX0_moveFrom 69 = .ok (.ior, 1) := by decide +kernel
theorem dX0_moveFrom_70 : decode cX0_moveFrom 70 = .ok (.sipush 32767, 3) := by decide +kernel
theorem dX0_moveFrom_73 : decode cX0_moveFrom 73 = .ok (.iand, 1) := by decide +kernel
theorem dX0_moveFrom_74 : decode cX0_moveFrom 74 = .ok (.iastore, 1) := by decide +kernel
theorem dX0_moveFrom_75 : decode cX0_moveFrom 75 = .ok (.iinc 5 1, 3) := by decide +kernel
theorem dX0_moveFrom_78 : decode cX0_moveFrom 78 = .ok (.goto (-60), 3) := by decide +kernel
theorem dX0_moveFrom_81 : decode cX0_moveFrom 81 = .ok (.aload_n 0, 1) := by decide +kernel
theorem dX0_moveFrom_82 : decode cX0_moveFrom 82 = .ok (.iconst 0, 1) := by decide +kernel
theorem dX0_moveFrom_83 : decode cX0_moveFrom 83 = .ok (.sipush 600, 3) := by decide +kernel
theorem dX0_moveFrom_86 : decode cX0_moveFrom 86 = .ok (.aload_n 1, 1) := by decide +kernel
theorem dX0_moveFrom_87 : decode cX0_moveFrom 87 = .ok (.getfield 15, 3) := by decide +kernel
theorem dX0_moveFrom_90 : decode cX0_moveFrom 90 = .ok (.iload_n 2, 1) := by decide +kernel
theorem dX0_moveFrom_91 : decode cX0_moveFrom 91 = .ok (.iadd, 1) := by decide +kernel
theorem dX0_moveFrom_92 : decode cX0_moveFrom 92 = .ok (.invokestatic 52, 3) := by decide +kernel
theorem dX0_moveFrom_95 : decode cX0_moveFrom 95 = .ok (.invokestatic 41, 3) := by decide +kernel
theorem dX0_moveFrom_98 : decode cX0_moveFrom 98 = .ok (.putfield 15, 3) := by decide +kernel
theorem dX0_moveFrom_101 : decode cX0_moveFrom 101 = .ok (.return_, 1) := by decide +kernel
theorem dX0_ones_0 : decode cX0_ones 0 = .ok (.aload_n 0, 1) := by decide +kernel
theorem dX0_ones_1 : decode cX0_ones 1 = .ok (.aload_n 0, 1) := by decide +kernel
theorem dX0_ones_2 : decode cX0_ones 2 = .ok (.getfield 15, 3) := by decide +kernel
theorem dX0_ones_5 : decode cX0_ones 5 = .ok (.invokevirtual 55, 3) := by decide +kernel
theorem dX0_ones_8 : decode cX0_ones 8 = .ok (.ireturn, 1) := by decide +kernel
theorem dX0_onesBefore_0 : decode cX0_onesBefore 0 = .ok (.iconst 0, 1) := by decide +kernel
theorem dX0_onesBefore_1 : decode cX0_onesBefore 1 = .ok (.istore_n 2, 1) := by decide +kernel
theorem dX0_onesBefore_2 : decode cX0_onesBefore 2 = .ok (.iconst 0, 1) := by decide +kernel
theorem dX0_onesBefore_3 : decode cX0_onesBefore 3 = .ok (.istore_n 3, 1) := by decide +kernel
theorem dX0_onesBefore_4 : decode cX0_onesBefore 4 = .ok (.iload_n 3, 1) := by decide +kernel
theorem dX0_onesBefore_5 : decode cX0_onesBefore 5 = .ok (.aload_n 0, 1) := by decide +kernel
theorem dX0_onesBefore_6 : decode cX0_onesBefore 6 = .ok (.getfield 9, 3) := by decide +kernel
theorem dX0_onesBefore_9 : decode cX0_onesBefore 9 = .ok (.arraylength, 1) := by decide +kernel
theorem dX0_onesBefore_10 : decode cX0_onesBefore 10 = .ok (.if_icmp .ge 27, 3) := by decide +kernel
theorem dX0_onesBefore_13 : decode cX0_onesBefore 13 = .ok (.iload_n 2, 1) := by decide +kernel
theorem dX0_onesBefore_14 : decode cX0_onesBefore 14 = .ok (.aload_n 0, 1) := by decide +kernel
theorem dX0_onesBefore_15 : decode cX0_onesBefore 15 = .ok (.getfield 9, 3) := by decide +kernel
theorem dX0_onesBefore_18 : decode cX0_onesBefore 18 = .ok (.iload_n 3, 1) := by decide +kernel
theorem dX0_onesBefore_19 : decode cX0_onesBefore 19 = .ok (.iaload, 1) := by decide +kernel
theorem dX0_onesBefore_20 : decode cX0_onesBefore 20 = .ok (.iload_n 1, 1) := by decide +kernel
theorem dX0_onesBefore_21 : decode cX0_onesBefore 21 = .ok (.iload_n 3, 1) := by decide +kernel
theorem dX0_onesBefore_22 : decode cX0_onesBefore 22 = .ok (.invokestatic 29, 3) := by decide +kernel
theorem dX0_onesBefore_25 : decode cX0_onesBefore 25 = .ok (.iand, 1) := by decide +kernel
theorem dX0_onesBefore_26 : decode cX0_onesBefore 26 = .ok (.invokestatic 58, 3) := by decide +kernel
theorem dX0_onesBefore_29 : decode cX0_onesBefore 29 = .ok (.iadd, 1) := by decide +kernel
theorem dX0_onesBefore_30 : decode cX0_onesBefore 30 = .ok (.istore_n 2, 1) := by decide +kernel
theorem dX0_onesBefore_31 : decode cX0_onesBefore 31 = .ok (.iinc 3 1, 3) := by decide +kernel
theorem dX0_onesBefore_34 : decode cX0_onesBefore 34 = .ok (.goto (-30), 3) := by decide +kernel
theorem dX0_onesBefore_37 : decode cX0_onesBefore 37 = .ok (.iload_n 2, 1) := by decide +kernel
theorem dX0_onesBefore_38 : decode cX0_onesBefore 38 = .ok (.ireturn, 1) := by decide +kernel
theorem dX0_placeOfOne_0 : decode cX0_placeOfOne 0 = .ok (.iload_n 1, 1) := by decide +kernel
theorem dX0_placeOfOne_1 : decode cX0_placeOfOne 1 = .ok (.ifCond .ge 6, 3) := by decide +kernel
theorem dX0_placeOfOne_4 : decode cX0_placeOfOne 4 = .ok (.bipush (-9), 2) := by decide +kernel
theorem dX0_placeOfOne_6 : decode cX0_placeOfOne 6 = .ok (.ireturn, 1) := by decide +kernel
theorem dX0_placeOfOne_7 : decode cX0_placeOfOne 7 = .ok (.iload_n 1, 1) := by decide +kernel
theorem dX0_placeOfOne_8 : decode cX0_placeOfOne 8 = .ok (.istore_n 2, 1) := by decide +kernel
theorem dX0_placeOfOne_9 : decode cX0_placeOfOne 9 = .ok (.iconst 0, 1) := by decide +kernel
theorem dX0_placeOfOne_10 : decode cX0_placeOfOne 10 = .ok (.istore_n 3, 1) := by decide +kernel
theorem dX0_placeOfOne_11 : decode cX0_placeOfOne 11 = .ok (.iload_n 3, 1) := by decide +kernel
theorem dX0_placeOfOne_12 : decode cX0_placeOfOne 12 = .ok (.aload_n 0, 1) := by decide +kernel
theorem dX0_placeOfOne_13 : decode cX0_placeOfOne 13 = .ok (.getfield 9, 3) := by decide +kernel
theorem dX0_placeOfOne_16 : decode cX0_placeOfOne 16 = .ok (.arraylength, 1) := by decide +kernel
theorem dX0_placeOfOne_17 : decode cX0_placeOfOne 17 = .ok (.if_icmp .ge 47, 3) := by decide +kernel
theorem dX0_placeOfOne_20 : decode cX0_placeOfOne 20 = .ok (.aload_n 0, 1) := by decide +kernel
theorem dX0_placeOfOne_21 : decode cX0_placeOfOne 21 = .ok (.getfield 9, 3) := by decide +kernel
theorem dX0_placeOfOne_24 : decode cX0_placeOfOne 24 = .ok (.iload_n 3, 1) := by decide +kernel
theorem dX0_placeOfOne_25 : decode cX0_placeOfOne 25 = .ok (.iaload, 1) := by decide +kernel
theorem dX0_placeOfOne_26 : decode cX0_placeOfOne 26 = .ok (.invokestatic 58, 3) := by decide +kernel
theorem dX0_placeOfOne_29 : decode cX0_placeOfOne 29 = .ok (.istore 4, 2) := by decide +kernel
theorem dX0_placeOfOne_31 : decode cX0_placeOfOne 31 = .ok (.iload_n 2, 1) := by decide +kernel
theorem dX0_placeOfOne_32 : decode cX0_placeOfOne 32 = .ok (.iload 4, 2) := by decide +kernel
theorem dX0_placeOfOne_34 : decode cX0_placeOfOne 34 = .ok (.if_icmp .ge 19, 3) := by decide +kernel
theorem dX0_placeOfOne_37 : decode cX0_placeOfOne 37 = .ok (.iload_n 3, 1) := by decide +kernel
theorem dX0_placeOfOne_38 : decode cX0_placeOfOne 38 = .ok (.bipush 15, 2) := by decide +kernel
theorem dX0_placeOfOne_40 : decode cX0_placeOfOne 40 = .ok (.imul, 1) := by decide +kernel
theorem dX0_placeOfOne_41 : decode cX0_placeOfOne 41 = .ok (.aload_n 0, 1) := by decide +kernel
theorem dX0_placeOfOne_42 : decode cX0_placeOfOne 42 = .ok (.getfield 9, 3) := by decide +kernel
theorem dX0_placeOfOne_45 : decode cX0_placeOfOne 45 = .ok (.iload_n 3, 1) := by decide +kernel
theorem dX0_placeOfOne_46 : decode cX0_placeOfOne 46 = .ok (.iaload, 1) := by decide +kernel
theorem dX0_placeOfOne_47 : decode cX0_placeOfOne 47 = .ok (.iload_n 2, 1) := by decide +kernel
theorem dX0_placeOfOne_48 : decode cX0_placeOfOne 48 = .ok (.invokestatic 63, 3) := by decide +kernel
theorem dX0_placeOfOne_51 : decode cX0_placeOfOne 51 = .ok (.iadd, 1) := by decide +kernel
theorem dX0_placeOfOne_52 : decode cX0_placeOfOne 52 = .ok (.ireturn, 1) := by decide +kernel
theorem dX0_placeOfOne_53 : decode cX0_placeOfOne 53 = .ok (.iload_n 2, 1) := by decide +kernel
theorem dX0_placeOfOne_54 : decode cX0_placeOfOne 54 = .ok (.iload 4, 2) := by decide +kernel
theorem dX0_placeOfOne_56 : decode cX0_placeOfOne 56 = .ok (.isub, 1) := by decide +kernel
theorem dX0_placeOfOne_57 : decode cX0_placeOfOne 57 = .ok (.istore_n 2, 1) := by decide +kernel
theorem dX0_placeOfOne_58 : decode cX0_placeOfOne 58 = .ok (.iinc 3 1, 3) := by decide +kernel
theorem dX0_placeOfOne_61 : decode cX0_placeOfOne 61 = .ok (.goto (-50), 3) := by decide +kernel
theorem dX0_placeOfOne_64 : decode cX0_placeOfOne 64 = .ok (.bipush (-9), 2) := by decide +kernel
theorem dX0_placeOfOne_66 : decode cX0_placeOfOne 66 = .ok (.ireturn, 1) := by decide +kernel
theorem dX0_placeInGroup_0 : decode cX0_placeInGroup 0 = .ok (.iload_n 1, 1) := by decide +kernel
theorem dX0_placeInGroup_1 : decode cX0_placeInGroup 1 = .ok (.istore_n 2, 1) := by decide +kernel
theorem dX0_placeInGroup_2 : decode cX0_placeInGroup 2 = .ok (.iconst 0, 1) := by decide +kernel
theorem dX0_placeInGroup_3 : decode cX0_placeInGroup 3 = .ok (.istore_n 3, 1) := by decide +kernel
theorem dX0_placeInGroup_4 : decode cX0_placeInGroup 4 = .ok (.iload_n 3, 1) := by decide +kernel
theorem dX0_placeInGroup_5 : decode cX0_placeInGroup 5 = .ok (.bipush 15, 2) := by decide +kernel
theorem dX0_placeInGroup_7 : decode cX0_placeInGroup 7 = .ok (.if_icmp .ge 27, 3) := by decide +kernel
theorem dX0_placeInGroup_10 : decode cX0_placeInGroup 10 = .ok (.iload_n 0, 1) := by decide +kernel
theorem dX0_placeInGroup_11 : decode cX0_placeInGroup 11 = .ok (.iload_n 3, 1) := by decide +kernel
theorem dX0_placeInGroup_12 : decode cX0_placeInGroup 12 = .ok (.ishr, 1) := by decide +kernel
theorem dX0_placeInGroup_13 : decode cX0_placeInGroup 13 = .ok (.iconst 1, 1) := by decide +kernel
theorem dX0_placeInGroup_14 : decode cX0_placeInGroup 14 = .ok (.iand, 1) := by decide +kernel
theorem dX0_placeInGroup_15 : decode cX0_placeInGroup 15 = .ok (.iconst 1, 1) := by decide +kernel
theorem dX0_placeInGroup_16 : decode cX0_placeInGroup 16 = .ok (.if_icmp .ne 12, 3) := by decide +kernel
theorem dX0_placeInGroup_19 : decode cX0_placeInGroup 19 = .ok (.iload_n 2, 1) := by decide +kernel
theorem dX0_placeInGroup_20 : decode cX0_placeInGroup 20 = .ok (.ifCond .ne 5, 3) := by decide +kernel
theorem dX0_placeInGroup_23 : decode cX0_placeInGroup 23 = .ok (.iload_n 3, 1) := by decide +kernel
theorem dX0_placeInGroup_24 : decode cX0_placeInGroup 24 = .ok (.ireturn, 1) := by decide +kernel
theorem dX0_placeInGroup_25 : decode cX0_placeInGroup 25 = .ok (.iinc 2 (-1), 3) := by decide +kernel
theorem dX0_placeInGroup_28 : decode cX0_placeInGroup 28 = .ok (.iinc 3 1, 3) := by decide +kernel
theorem dX0_placeInGroup_31 : decode cX0_placeInGroup 31 = .ok (.goto (-27), 3) := by decide +kernel
theorem dX0_placeInGroup_34 : decode cX0_placeInGroup 34 = .ok (.bipush (-9), 2) := by decide +kernel
theorem dX0_placeInGroup_36 : decode cX0_placeInGroup 36 = .ok (.ireturn, 1) := by decide +kernel
theorem dX0_matches_0 : decode cX0_matches 0 = .ok (.aload_n 0, 1) := by decide +kernel
theorem dX0_matches_1 : decode cX0_matches 1 = .ok (.getfield 15, 3) := by decide +kernel
theorem dX0_matches_4 : decode cX0_matches 4 = .ok (.aload_n 1, 1) := by decide +kernel
theorem dX0_matches_5 : decode cX0_matches 5 = .ok (.getfield 15, 3) := by decide +kernel
theorem dX0_matches_8 : decode cX0_matches 8 = .ok (.if_icmp .eq 5, 3) := by decide +kernel
theorem dX0_matches_11 : decode cX0_matches 11 = .ok (.iconst 0, 1) := by decide +kernel
theorem dX0_matches_12 : decode cX0_matches 12 = .ok (.ireturn, 1) := by decide +kernel
theorem dX0_matches_13 : decode cX0_matches 13 = .ok (.iconst 0, 1) := by decide +kernel
theorem dX0_matches_14 : decode cX0_matches 14 = .ok (.istore_n 2, 1) := by decide +kernel
theorem dX0_matches_15 : decode cX0_matches 15 = .ok (.iload_n 2, 1) := by decide +kernel
theorem dX0_matches_16 : decode cX0_matches 16 = .ok (.aload_n 0, 1) := by decide +kernel
theorem dX0_matches_17 : decode cX0_matches 17 = .ok (.getfield 9, 3) := by decide +kernel
theorem dX0_matches_20 : decode cX0_matches 20 = .ok (.arraylength, 1) := by decide +kernel
theorem dX0_matches_21 : decode cX0_matches 21 = .ok (.if_icmp .ge 25, 3) := by decide +kernel
theorem dX0_matches_24 : decode cX0_matches 24 = .ok (.aload_n 0, 1) := by decide +kernel
theorem dX0_matches_25 : decode cX0_matches 25 = .ok (.getfield 9, 3) := by decide +kernel
theorem dX0_matches_28 : decode cX0_matches 28 = .ok (.iload_n 2, 1) := by decide +kernel
theorem dX0_matches_29 : decode cX0_matches 29 = .ok (.iaload, 1) := by decide +kernel
theorem dX0_matches_30 : decode cX0_matches 30 = .ok (.aload_n 1, 1) := by decide +kernel
theorem dX0_matches_31 : decode cX0_matches 31 = .ok (.iload_n 2, 1) := by decide +kernel
theorem dX0_matches_32 : decode cX0_matches 32 = .ok (.invokevirtual 19, 3) := by decide +kernel
theorem dX0_matches_35 : decode cX0_matches 35 = .ok (.if_icmp .eq 5, 3) := by decide +kernel
theorem dX0_matches_38 : decode cX0_matches 38 = .ok (.iconst 0, 1) := by decide +kernel
theorem dX0_matches_39 : decode cX0_matches 39 = .ok (.ireturn, 1) := by decide +kernel
theorem dX0_matches_40 : decode cX0_matches 40 = .ok (.iinc 2 1, 3) := by decide +kernel
theorem dX0_matches_43 : decode cX0_matches 43 = .ok (.goto (-28), 3) := by decide +kernel
theorem dX0_matches_46 : decode cX0_matches 46 = .ok (.iconst 1, 1) := by decide +kernel
theorem dX0_matches_47 : decode cX0_matches 47 = .ok (.ireturn, 1) := by decide +kernel
theorem dX0_maskBefore_0 : decode cX0_maskBefore 0 = .ok (.iconst 0, 1) := by decide +kernel
theorem dX0_maskBefore_1 : decode cX0_maskBefore 1 = .ok (.bipush 15, 2) := by decide +kernel
theorem dX0_maskBefore_3 : decode cX0_maskBefore 3 = .ok (.iload_n 0, 1) := by decide +kernel
theorem dX0_maskBefore_4 : decode cX0_maskBefore 4 = .ok (.iload_n 1, 1) := by decide +kernel
theorem dX0_maskBefore_5 : decode cX0_maskBefore 5 = .ok (.bipush 15, 2) := by decide +kernel
theorem dX0_maskBefore_7 : decode cX0_maskBefore 7 = .ok (.imul, 1) := by decide +kernel
theorem dX0_maskBefore_8 : decode cX0_maskBefore 8 = .ok (.isub, 1) := by decide +kernel
theorem dX0_maskBefore_9 : decode cX0_maskBefore 9 = .ok (.invokestatic 52, 3) := by decide +kernel
theorem dX0_maskBefore_12 : decode cX0_maskBefore 12 = .ok (.invokestatic 41, 3) := by decide +kernel
theorem dX0_maskBefore_15 : decode cX0_maskBefore 15 = .ok (.istore_n 2, 1) := by decide +kernel
theorem dX0_maskBefore_16 : decode cX0_maskBefore 16 = .ok (.iconst 1, 1) := by decide +kernel
theorem dX0_maskBefore_17 : decode cX0_maskBefore 17 = .ok (.iload_n 2, 1) := by decide +kernel
theorem dX0_maskBefore_18 : decode cX0_maskBefore 18 = .ok (.ishl, 1) := by decide +kernel
theorem dX0_maskBefore_19 : decode cX0_maskBefore 19 = .ok (.iconst 1, 1) := by decide +kernel
theorem dX0_maskBefore_20 : decode cX0_maskBefore 20 = .ok (.isub, 1) := by decide +kernel
theorem dX0_maskBefore_21 : decode cX0_maskBefore 21 = .ok (.ireturn, 1) := by decide +kernel
theorem dX1_init_0 : decode cX1_init 0 = .ok (.aload_n 0, 1) := by decide +kernel
theorem dX1_init_1 : decode cX1_init 1 = .ok (.invokespecial 1, 3) := by decide +kernel
theorem dX1_init_4 : decode cX1_init 4 = .ok (.aload_n 0, 1) := by decide +kernel
theorem dX1_init_5 : decode cX1_init 5 = .ok (.new 7, 3) := by decide +kernel
theorem dX1_init_8 : decode cX1_init 8 = .ok (.dup, 1) := by decide +kernel
theorem dX1_init_9 : decode cX1_init 9 = .ok (.invokespecial 9, 3) := by decide +kernel
theorem dX1_init_12 : decode cX1_init 12 = .ok (.putfield 10, 3) := by decide +kernel
theorem dX1_init_15 : decode cX1_init 15 = .ok (.return_, 1) := by decide +kernel
theorem dX2_init_0 : decode cX2_init 0 = .ok (.aload_n 0, 1) := by decide +kernel
theorem dX2_init_1 : decode cX2_init 1 = .ok (.invokespecial 3, 3) := by decide +kernel
theorem dX2_init_4 : decode cX2_init 4 = .ok (.aload_n 0, 1) := by decide +kernel
theorem dX2_init_5 : decode cX2_init 5 = .ok (.bipush 100, 2) := by decide +kernel
theorem dX2_init_7 : decode cX2_init 7 = .ok (.newarray .char, 2) := by decide +kernel
theorem dX2_init_9 : decode cX2_init 9 = .ok (.putfield 9, 3) := by decide +kernel
theorem dX2_init_12 : decode cX2_init 12 = .ok (.aload_n 0, 1) := by decide +kernel
theorem dX2_init_13 : decode cX2_init 13 = .ok (.bipush 19, 2) := by decide +kernel
theorem dX2_init_15 : decode cX2_init 15 = .ok (.anewarray 15, 3) := by decide +kernel
theorem dX2_init_18 : decode cX2_init 18 = .ok (.putfield 17, 3) := by decide +kernel
theorem dX2_init_21 : decode cX2_init 21 = .ok (.aload_n 0, 1) := by decide +kernel
theorem dX2_init_22 : decode cX2_init 22 = .ok (.iconst 0, 1) := by decide +kernel
theorem dX2_init_23 : decode cX2_init 23 = .ok (.anewarray 15, 3) := by decide +kernel
theorem dX2_init_26 : decode cX2_init 26 = .ok (.putfield 21, 3) := by decide +kernel
theorem dX2_init_29 : decode cX2_init 29 = .ok (.iconst 0, 1) := by decide +kernel
theorem dX2_init_30 : decode cX2_init 30 = .ok (.istore_n 1, 1) := by decide +kernel
theorem dX2_init_31 : decode cX2_init 31 = .ok (.iload_n 1, 1) := by decide +kernel
theorem dX2_init_32 : decode cX2_init 32 = .ok (.aload_n 0, 1) := by decide +kernel
theorem dX2_init_33 : decode cX2_init 33 = .ok (.getfield 17, 3) := by decide +kernel
theorem dX2_init_36 : decode cX2_init 36 = .ok (.arraylength, 1) := by decide +kernel
theorem dX2_init_37 : decode cX2_init 37 = .ok (.if_icmp .ge 22, 3) := by decide +kernel
theorem dX2_init_40 : decode cX2_init 40 = .ok (.aload_n 0, 1) := by decide +kernel
theorem dX2_init_41 : decode cX2_init 41 = .ok (.getfield 17, 3) := by decide +kernel
theorem dX2_init_44 : decode cX2_init 44 = .ok (.iload_n 1, 1) := by decide +kernel
theorem dX2_init_45 : decode cX2_init 45 = .ok (.new 15, 3) := by decide +kernel
theorem dX2_init_48 : decode cX2_init 48 = .ok (.dup, 1) := by decide +kernel
theorem dX2_init_49 : decode cX2_init 49 = .ok (.invokespecial 24, 3) := by decide +kernel
theorem dX2_init_52 : decode cX2_init 52 = .ok (.aastore, 1) := by decide +kernel
theorem dX2_init_53 : decode cX2_init 53 = .ok (.iinc 1 1, 3) := by decide +kernel
theorem dX2_init_56 : decode cX2_init 56 = .ok (.goto (-25), 3) := by decide +kernel
theorem dX2_init_59 : decode cX2_init 59 = .ok (.return_, 1) := by decide +kernel
theorem dX2_addSign_0 : decode cX2_addSign 0 = .ok (.aload_n 0, 1) := by decide +kernel
theorem dX2_addSign_1 : decode cX2_addSign 1 = .ok (.getfield 25, 3) := by decide +kernel
theorem dX2_addSign_4 : decode cX2_addSign 4 = .ok (.aload_n 0, 1) := by decide +kernel
theorem dX2_addSign_5 : decode cX2_addSign 5 = .ok (.getfield 9, 3) := by decide +kernel
theorem dX2_addSign_8 : decode cX2_addSign 8 = .ok (.arraylength, 1) := by decide +kernel
theorem dX2_addSign_9 : decode cX2_addSign 9 = .ok (.if_icmp .ge 23, 3) := by decide +kernel
theorem dX2_addSign_12 : decode cX2_addSign 12 = .ok (.aload_n 0, 1) := by decide +kernel
theorem dX2_addSign_13 : decode cX2_addSign 13 = .ok (.getfield 9, 3) := by decide +kernel
theorem dX2_addSign_16 : decode cX2_addSign 16 = .ok (.aload_n 0, 1) := by decide +kernel
theorem dX2_addSign_17 : decode cX2_addSign 17 = .ok (.getfield 25, 3) := by decide +kernel
theorem dX2_addSign_20 : decode cX2_addSign 20 = .ok (.iload_n 1, 1) := by decide +kernel
theorem dX2_addSign_21 : decode cX2_addSign 21 = .ok (.castore, 1) := by decide +kernel
theorem dX2_addSign_22 : decode cX2_addSign 22 = .ok (.aload_n 0, 1) := by decide +kernel
theorem dX2_addSign_23 : decode cX2_addSign 23 = .ok (.dup, 1) := by decide +kernel
theorem dX2_addSign_24 : decode cX2_addSign 24 = .ok (.getfield 25, 3) := by decide +kernel
theorem dX2_addSign_27 : decode cX2_addSign 27 = .ok (.iconst 1, 1) := by decide +kernel
theorem dX2_addSign_28 : decode cX2_addSign 28 = .ok (.iadd, 1) := by decide +kernel
theorem dX2_addSign_29 : decode cX2_addSign 29 = .ok (.putfield 25, 3) := by decide +kernel
theorem dX2_addSign_32 : decode cX2_addSign 32 = .ok (.return_, 1) := by decide +kernel
theorem dX2_result_0 : decode cX2_result 0 = .ok (.aload_n 0, 1) := by decide +kernel
theorem dX2_result_1 : decode cX2_result 1 = .ok (.getfield 17, 3) := by decide +kernel
theorem dX2_result_4 : decode cX2_result 4 = .ok (.iconst 0, 1) := by decide +kernel
theorem dX2_result_5 : decode cX2_result 5 = .ok (.aaload, 1) := by decide +kernel
theorem dX2_result_6 : decode cX2_result 6 = .ok (.areturn, 1) := by decide +kernel
theorem dX2_read_0 : decode cX2_read 0 = .ok (.aload_n 0, 1) := by decide +kernel
theorem dX2_read_1 : decode cX2_read 1 = .ok (.aload_n 1, 1) := by decide +kernel
theorem dX2_read_2 : decode cX2_read 2 = .ok (.putfield 21, 3) := by decide +kernel
theorem dX2_read_5 : decode cX2_read 5 = .ok (.aload_n 0, 1) := by decide +kernel
theorem dX2_read_6 : decode cX2_read 6 = .ok (.iload_n 2, 1) := by decide +kernel
theorem dX2_read_7 : decode cX2_read 7 = .ok (.putfield 29, 3) := by decide +kernel
theorem dX2_read_10 : decode cX2_read 10 = .ok (.aload_n 0, 1) := by decide +kernel
theorem dX2_read_11 : decode cX2_read 11 = .ok (.iconst 0, 1) := by decide +kernel
theorem dX2_read_12 : decode cX2_read 12 = .ok (.putfield 32, 3) := by decide +kernel
theorem dX2_read_15 : decode cX2_read 15 = .ok (.aload_n 0, 1) := by decide +kernel
theorem dX2_read_16 : decode cX2_read 16 = .ok (.iconst 0, 1) := by decide +kernel
theorem dX2_read_17 : decode cX2_read 17 = .ok (.putfield 35, 3) := by decide +kernel
theorem dX2_read_20 : decode cX2_read 20 = .ok (.aload_n 0, 1) := by decide +kernel
theorem dX2_read_21 : decode cX2_read 21 = .ok (.iconst 0, 1) := by decide +kernel
theorem dX2_read_22 : decode cX2_read 22 = .ok (.iconst 0, 1) := by decide +kernel
theorem dX2_read_23 : decode cX2_read 23 = .ok (.invokevirtual 39, 3) := by decide +kernel
theorem dX2_read_26 : decode cX2_read 26 = .ok (.ifCond .eq 16, 3) := by decide +kernel
theorem dX2_read_29 : decode cX2_read 29 = .ok (.aload_n 0, 1) := by decide +kernel
theorem dX2_read_30 : decode cX2_read 30 = .ok (.invokevirtual 43, 3) := by decide +kernel
theorem dX2_read_33 : decode cX2_read 33 = .ok (.ifCond .eq 9, 3) := by decide +kernel
theorem dX2_read_36 : decode cX2_read 36 = .ok (.aload_n 0, 1) := by decide +kernel
theorem dX2_read_37 : decode cX2_read 37 = .ok (.iconst 0, 1) := by decide +kernel
theorem dX2_read_38 : decode cX2_read 38 = .ok (.invokevirtual 47, 3) := by decide +kernel
theorem dX2_read_41 : decode cX2_read 41 = .ok (.pop, 1) := by decide +kernel
theorem dX2_read_42 : decode cX2_read 42 = .ok (.aload_n 0, 1) := by decide +kernel
theorem dX2_read_43 : decode cX2_read 43 = .ok (.getfield 35, 3) := by decide +kernel
theorem dX2_read_46 : decode cX2_read 46 = .ok (.ifCond .ne 7, 3) := by decide +kernel
theorem dX2_read_49 : decode cX2_read 49 = .ok (.iconst 1, 1) := by decide +kernel
theorem dX2_read_50 : decode cX2_read 50 = .ok (.goto 4, 3) := by decide +kernel
theorem dX2_read_53 : decode cX2_read 53 = .ok (.iconst 0, 1) := by decide +kernel
theorem dX2_read_54 : decode cX2_read 54 = .ok (.ireturn, 1) := by decide +kernel
theorem dX2_readSum_0 : decode cX2_readSum 0 = .ok (.aload_n 0, 1) := by decide +kernel
theorem dX2_readSum_1 : decode cX2_readSum 1 = .ok (.iload_n 1, 1) := by decide +kernel
theorem dX2_readSum_2 : decode cX2_readSum 2 = .ok (.iload_n 2, 1) := by decide +kernel
theorem dX2_readSum_3 : decode cX2_readSum 3 = .ok (.invokevirtual 51, 3) := by decide +kernel
theorem dX2_readSum_6 : decode cX2_readSum 6 = .ok (.ifCond .ne 5, 3) := by decide +kernel
theorem dX2_readSum_9 : decode cX2_readSum 9 = .ok (.iconst 0, 1) := by decide +kernel
theorem dX2_readSum_10 : decode cX2_readSum 10 = .ok (.ireturn, 1) := by decide +kernel
theorem dX2_readSum_11 : decode cX2_readSum 11 = .ok (.iconst 1, 1) := by decide +kernel
theorem dX2_readSum_12 : decode cX2_readSum 12 = .ok (.istore_n 3, 1) := by decide +kernel
theorem dX2_readSum_13 : decode cX2_readSum 13 = .ok (.iload_n 3, 1) := by decide +kernel
theorem dX2_readSum_14 : decode cX2_readSum 14 = .ok (.bipush 100, 2) := by decide +kernel
theorem dX2_readSum_16 : decode cX2_readSum 16 = .ok (.if_icmp .gt 71, 3) := by decide +kernel
theorem dX2_readSum_19 : decode cX2_readSum 19 = .ok (.aload_n 0, 1) := by decide +kernel
theorem dX2_readSum_20 : decode cX2_readSum 20 = .ok (.invokevirtual 43, 3) := by decide +kernel
theorem dX2_readSum_23 : decode cX2_readSum 23 = .ok (.istore 4, 2) := by decide +kernel
theorem dX2_readSum_25 : decode cX2_readSum 25 = .ok (.iload 4, 2) := by decide +kernel
theorem dX2_readSum_27 : decode cX2_readSum 27 = .ok (.bipush 124, 2) := by decide +kernel
theorem dX2_readSum_29 : decode cX2_readSum 29 = .ok (.if_icmp .eq 12, 3) := by decide +kernel
theorem dX2_readSum_32 : decode cX2_readSum 32 = .ok (.iload 4, 2) := by decide +kernel
theorem dX2_readSum_34 : decode cX2_readSum 34 = .ok (.bipush 94, 2) := by decide +kernel
theorem dX2_readSum_36 : decode cX2_readSum 36 = .ok (.if_icmp .eq 5, 3) := by decide +kernel
theorem dX2_readSum_39 : decode cX2_readSum 39 = .ok (.iconst 1, 1) := by decide +kernel
theorem dX2_readSum_40 : decode cX2_readSum 40 = .ok (.ireturn, 1) := by decide +kernel
theorem dX2_readSum_41 : decode cX2_readSum 41 = .ok (.aload_n 0, 1) := by decide +kernel
theorem dX2_readSum_42 : decode cX2_readSum 42 = .ok (.dup, 1) := by decide +kernel
theorem dX2_readSum_43 : decode cX2_readSum 43 = .ok (.getfield 32, 3) := by decide +kernel
theorem dX2_readSum_46 : decode cX2_readSum 46 = .ok (.iconst 1, 1) := by decide +kernel
theorem dX2_readSum_47 : decode cX2_readSum 47 = .ok (.iadd, 1) := by decide +kernel
theorem dX2_readSum_48 : decode cX2_readSum 48 = .ok (.putfield 32, 3) := by decide +kernel
theorem dX2_readSum_51 : decode cX2_readSum 51 = .ok (.aload_n 0, 1) := by decide +kernel
theorem dX2_readSum_52 : decode cX2_readSum 52 = .ok (.iload_n 1, 1) := by decide +kernel
theorem dX2_readSum_53 : decode cX2_readSum 53 = .ok (.iconst 1, 1) := by decide +kernel
theorem dX2_readSum_54 : decode cX2_readSum 54 = .ok (.iadd, 1) := by decide +kernel
theorem dX2_readSum_55 : decode cX2_readSum 55 = .ok (.iload_n 2, 1) := by decide +kernel
theorem dX2_readSum_56 : decode cX2_readSum 56 = .ok (.invokevirtual 51, 3) := by decide +kernel
theorem dX2_readSum_59 : decode cX2_readSum 59 = .ok (.ifCond .ne 5, 3) := by decide +kernel
theorem dX2_readSum_62 : decode cX2_readSum 62 = .ok (.iconst 0, 1) := by decide +kernel
theorem dX2_readSum_63 : decode cX2_readSum 63 = .ok (.ireturn, 1) := by decide +kernel
theorem dX2_readSum_64 : decode cX2_readSum 64 = .ok (.aload_n 0, 1) := by decide +kernel
theorem dX2_readSum_65 : decode cX2_readSum 65 = .ok (.iload_n 1, 1) := by decide +kernel
theorem dX2_readSum_66 : decode cX2_readSum 66 = .ok (.iload 4, 2) := by decide +kernel
theorem dX2_readSum_68 : decode cX2_readSum 68 = .ok (.bipush 124, 2) := by decide +kernel
theorem dX2_readSum_70 : decode cX2_readSum 70 = .ok (.if_icmp .ne 7, 3) := by decide +kernel
theorem dX2_readSum_73 : decode cX2_readSum 73 = .ok (.iconst 1, 1) := by decide +kernel
theorem dX2_readSum_74 : decode cX2_readSum 74 = .ok (.goto 4, 3) := by decide +kernel
theorem dX2_readSum_77 : decode cX2_readSum 77 = .ok (.iconst 3, 1) := by decide +kernel
theorem dX2_readSum_78 : decode cX2_readSum 78 = .ok (.invokevirtual 54, 3) := by decide +kernel
theorem dX2_readSum_81 : decode cX2_readSum 81 = .ok (.iinc 3 1, 3) := by decide +kernel
theorem dX2_readSum_84 : decode cX2_readSum 84 = .ok (.goto (-71), 3) := by decide +kernel
theorem dX2_readSum_87 : decode cX2_readSum 87 = .ok (.iconst 1, 1) := by decide +kernel
theorem dX2_readSum_88 : decode cX2_readSum 88 = .ok (.ireturn, 1) := by decide +kernel
theorem dX2_readProduct_0 : decode cX2_readProduct 0 = .ok (.aload_n 0, 1) := by decide +kernel
theorem dX2_readProduct_1 : decode cX2_readProduct 1 = .ok (.iload_n 1, 1) := by decide +kernel
theorem dX2_readProduct_2 : decode cX2_readProduct 2 = .ok (.iload_n 2, 1) := by decide +kernel
theorem dX2_readProduct_3 : decode cX2_readProduct 3 = .ok (.invokevirtual 58, 3) := by decide +kernel
theorem dX2_readProduct_6 : decode cX2_readProduct 6 = .ok (.ifCond .ne 5, 3) := by decide +kernel
theorem dX2_readProduct_9 : decode cX2_readProduct 9 = .ok (.iconst 0, 1) := by decide +kernel
theorem dX2_readProduct_10 : decode cX2_readProduct 10 = .ok (.ireturn, 1) := by decide +kernel
theorem dX2_readProduct_11 : decode cX2_readProduct 11 = .ok (.iconst 1, 1) := by decide +kernel
theorem dX2_readProduct_12 : decode cX2_readProduct 12 = .ok (.istore_n 3, 1) := by decide +kernel
theorem dX2_readProduct_13 : decode cX2_readProduct 13 = .ok (.iload_n 3, 1) := by decide +kernel
theorem dX2_readProduct_14 : decode cX2_readProduct 14 = .ok (.bipush 100, 2) := by decide +kernel
theorem dX2_readProduct_16 : decode cX2_readProduct 16 = .ok (.if_icmp .gt 71, 3) := by decide +kernel
theorem dX2_readProduct_19 : decode cX2_readProduct 19 = .ok (.aload_n 0, 1) := by decide +kernel
theorem dX2_readProduct_20 : decode cX2_readProduct 20 = .ok (.invokevirtual 43, 3) := by decide +kernel
theorem dX2_readProduct_23 : decode cX2_readProduct 23 = .ok (.istore 4, 2) := by decide +kernel
theorem dX2_readProduct_25 : decode cX2_readProduct 25 = .ok (.iload 4, 2) := by decide +kernel
theorem dX2_readProduct_27 : decode cX2_readProduct 27 = .ok (.bipush 38, 2) := by decide +kernel
theorem dX2_readProduct_29 : decode cX2_readProduct 29 = .ok (.if_icmp .eq 12, 3) := by decide +kernel
theorem dX2_readProduct_32 : decode cX2_readProduct 32 = .ok (.iload 4, 2) := by decide +kernel
theorem dX2_readProduct_34 : decode cX2_readProduct 34 = .ok (.bipush 45, 2) := by decide +kernel
theorem dX2_readProduct_36 : decode cX2_readProduct 36 = .ok (.if_icmp .eq 5, 3) := by decide +kernel
theorem dX2_readProduct_39 : decode cX2_readProduct 39 = .ok (.iconst 1, 1) := by decide +kernel
theorem dX2_readProduct_40 : decode cX2_readProduct 40 = .ok (.ireturn, 1) := by decide +kernel
theorem dX2_readProduct_41 : decode cX2_readProduct 41 = .ok (.aload_n 0, 1) := by decide +kernel
theorem dX2_readProduct_42 : decode cX2_readProduct 42 = .ok (.dup, 1) := by decide +kernel
theorem dX2_readProduct_43 : decode cX2_readProduct 43 = .ok (.getfield 32, 3) := by decide +kernel
theorem dX2_readProduct_46 : decode cX2_readProduct 46 = .ok (.iconst 1, 1) := by decide +kernel
theorem dX2_readProduct_47 : decode cX2_readProduct 47 = .ok (.iadd, 1) := by decide +kernel
theorem dX2_readProduct_48 : decode cX2_readProduct 48 = .ok (.putfield 32, 3) := by decide +kernel
theorem dX2_readProduct_51 : decode cX2_readProduct 51 = .ok (.aload_n 0, 1) := by decide +kernel
theorem dX2_readProduct_52 : decode cX2_readProduct 52 = .ok (.iload_n 1, 1) := by decide +kernel
theorem dX2_readProduct_53 : decode cX2_readProduct 53 = .ok (.iconst 1, 1) := by decide +kernel
theorem dX2_readProduct_54 : decode cX2_readProduct 54 = .ok (.iadd, 1) := by decide +kernel
theorem dX2_readProduct_55 : decode cX2_readProduct 55 = .ok (.iload_n 2, 1) := by decide +kernel
theorem dX2_readProduct_56 : decode cX2_readProduct 56 = .ok (.invokevirtual 58, 3) := by decide +kernel
theorem dX2_readProduct_59 : decode cX2_readProduct 59 = .ok (.ifCond .ne 5, 3) := by decide +kernel
theorem dX2_readProduct_62 : decode cX2_readProduct 62 = .ok (.iconst 0, 1) := by decide +kernel
theorem dX2_readProduct_63 : decode cX2_readProduct 63 = .ok (.ireturn, 1) := by decide +kernel
theorem dX2_readProduct_64 : decode cX2_readProduct 64 = .ok (.aload_n 0, 1) := by decide +kernel
theorem dX2_readProduct_65 : decode cX2_readProduct 65 = .ok (.iload_n 1, 1) := by decide +kernel
theorem dX2_readProduct_66 : decode cX2_readProduct 66 = .ok (.iload 4, 2) := by decide +kernel
theorem dX2_readProduct_68 : decode cX2_readProduct 68 = .ok (.bipush 38, 2) := by decide +kernel
theorem dX2_readProduct_70 : decode cX2_readProduct 70 = .ok (.if_icmp .ne 7, 3) := by decide +kernel
theorem dX2_readProduct_73 : decode cX2_readProduct 73 = .ok (.iconst 0, 1) := by decide +kernel
theorem dX2_readProduct_74 : decode cX2_readProduct 74 = .ok (.goto 4, 3) := by decide +kernel
theorem dX2_readProduct_77 : decode cX2_readProduct 77 = .ok (.iconst 2, 1) := by decide +kernel
theorem dX2_readProduct_78 : decode cX2_readProduct 78 = .ok (.invokevirtual 54, 3) := by decide +kernel
theorem dX2_readProduct_81 : decode cX2_readProduct 81 = .ok (.iinc 3 1, 3) := by decide +kernel
theorem dX2_readProduct_84 : decode cX2_readProduct 84 = .ok (.goto (-71), 3) := by decide +kernel
theorem dX2_readProduct_87 : decode cX2_readProduct 87 = .ok (.iconst 1, 1) := by decide +kernel
theorem dX2_readProduct_88 : decode cX2_readProduct 88 = .ok (.ireturn, 1) := by decide +kernel
theorem dX2_combineAt_0 : decode cX2_combineAt 0 = .ok (.iload_n 1, 1) := by decide +kernel
theorem dX2_combineAt_1 : decode cX2_combineAt 1 = .ok (.ifCond .lt 38, 3) := by decide +kernel
theorem dX2_combineAt_4 : decode cX2_combineAt 4 = .ok (.iload_n 1, 1) := by decide +kernel
theorem dX2_combineAt_5 : decode cX2_combineAt 5 = .ok (.iconst 1, 1) := by decide +kernel
theorem dX2_combineAt_6 : decode cX2_combineAt 6 = .ok (.iadd, 1) := by decide +kernel
theorem dX2_combineAt_7 : decode cX2_combineAt 7 = .ok (.aload_n 0, 1) := by decide +kernel
theorem dX2_combineAt_8 : decode cX2_combineAt 8 = .ok (.getfield 17, 3) := by decide +kernel
theorem dX2_combineAt_11 : decode cX2_combineAt 11 = .ok (.arraylength, 1) := by decide +kernel
theorem dX2_combineAt_12 : decode cX2_combineAt 12 = .ok (.if_icmp .ge 27, 3) := by decide +kernel
theorem dX2_combineAt_15 : decode cX2_combineAt 15 = .ok (.aload_n 0, 1) := by decide +kernel
theorem dX2_combineAt_16 : decode cX2_combineAt 16 = .ok (.getfield 17, 3) := by decide +kernel
theorem dX2_combineAt_19 : decode cX2_combineAt 19 = .ok (.iload_n 1, 1) := by decide +kernel
theorem dX2_combineAt_20 : decode cX2_combineAt 20 = .ok (.aaload, 1) := by decide +kernel
theorem dX2_combineAt_21 : decode cX2_combineAt 21 = .ok (.iload_n 2, 1) := by decide +kernel
theorem dX2_combineAt_22 : decode cX2_combineAt 22 = .ok (.aload_n 0, 1) := by decide +kernel
theorem dX2_combineAt_23 : decode cX2_combineAt 23 = .ok (.getfield 17, 3) := by decide +kernel
theorem dX2_combineAt_26 : decode cX2_combineAt 26 = .ok (.iload_n 1, 1) := by decide +kernel
theorem dX2_combineAt_27 : decode cX2_combineAt 27 = .ok (.aaload, 1) := by decide +kernel
theorem dX2_combineAt_28 : decode cX2_combineAt 28 = .ok (.aload_n 0, 1) := by decide +kernel
theorem dX2_combineAt_29 : decode cX2_combineAt 29 = .ok (.getfield 17, 3) := by decide +kernel
theorem dX2_combineAt_32 : decode cX2_combineAt 32 = .ok (.iload_n 1, 1) := by decide +kernel
theorem dX2_combineAt_33 : decode cX2_combineAt 33 = .ok (.iconst 1, 1) := by decide +kernel
theorem dX2_combineAt_34 : decode cX2_combineAt 34 = .ok (.iadd, 1) := by decide +kernel
theorem dX2_combineAt_35 : decode cX2_combineAt 35 = .ok (.aaload, 1) := by decide +kernel
theorem dX2_combineAt_36 : decode cX2_combineAt 36 = .ok (.invokevirtual 61, 3) := by decide +kernel
theorem dX2_combineAt_39 : decode cX2_combineAt 39 = .ok (.return_, 1) := by decide +kernel
theorem dX2_readFactor_0 : decode cX2_readFactor 0 = .ok (.aload_n 0, 1) := by decide +kernel
theorem dX2_readFactor_1 : decode cX2_readFactor 1 = .ok (.invokevirtual 43, 3) := by decide +kernel
theorem dX2_readFactor_4 : decode cX2_readFactor 4 = .ok (.istore_n 3, 1) := by decide +kernel
theorem dX2_readFactor_5 : decode cX2_readFactor 5 = .ok (.iload_n 3, 1) := by decide +kernel
theorem dX2_readFactor_6 : decode cX2_readFactor 6 = .ok (.bipush 126, 2) := by decide +kernel
theorem dX2_readFactor_8 : decode cX2_readFactor 8 = .ok (.if_icmp .eq 16, 3) := by decide +kernel
theorem dX2_readFactor_11 : decode cX2_readFactor 11 = .ok (.iload_n 3, 1) := by decide +kernel
theorem dX2_readFactor_12 : decode cX2_readFactor 12 = .ok (.bipush 40, 2) := by decide +kernel
theorem dX2_readFactor_14 : decode cX2_readFactor 14 = .ok (.if_icmp .eq 10, 3) := by decide +kernel
theorem dX2_readFactor_17 : decode cX2_readFactor 17 = .ok (.aload_n 0, 1) := by decide +kernel
theorem dX2_readFactor_18 : decode cX2_readFactor 18 = .ok (.iload_n 1, 1) := by decide +kernel
theorem dX2_readFactor_19 : decode cX2_readFactor 19 = .ok (.iload_n 2, 1) := by decide +kernel
theorem dX2_readFactor_20 : decode cX2_readFactor 20 = .ok (.invokevirtual 65, 3) := by decide +kernel
theorem dX2_readFactor_23 : decode cX2_readFactor 23 = .ok (.ireturn, 1) := by decide +kernel
theorem dX2_readFactor_24 : decode cX2_readFactor 24 = .ok (.iload_n 2, 1) := by decide +kernel
theorem dX2_readFactor_25 : decode cX2_readFactor 25 = .ok (.bipush 8, 2) := by decide +kernel
theorem dX2_readFactor_27 : decode cX2_readFactor 27 = .ok (.if_icmp .ge 12, 3) := by decide +kernel
theorem dX2_readFactor_30 : decode cX2_readFactor 30 = .ok (.iload_n 1, 1) := by decide +kernel
theorem dX2_readFactor_31 : decode cX2_readFactor 31 = .ok (.aload_n 0, 1) := by decide +kernel
theorem dX2_readFactor_32 : decode cX2_readFactor 32 = .ok (.getfield 17, 3) := by decide +kernel
theorem dX2_readFactor_35 : decode cX2_readFactor 35 = .ok (.arraylength, 1) := by decide +kernel
theorem dX2_readFactor_36 : decode cX2_readFactor 36 = .ok (.if_icmp .lt 9, 3) := by decide +kernel
theorem dX2_readFactor_39 : decode cX2_readFactor 39 = .ok (.aload_n 0, 1) := by decide +kernel
theorem dX2_readFactor_40 : decode cX2_readFactor 40 = .ok (.iload_n 2, 1) := by decide +kernel
theorem dX2_readFactor_41 : decode cX2_readFactor 41 = .ok (.invokevirtual 47, 3) := by decide +kernel
theorem dX2_readFactor_44 : decode cX2_readFactor 44 = .ok (.ireturn, 1) := by decide +kernel
theorem dX2_readFactor_45 : decode cX2_readFactor 45 = .ok (.aload_n 0, 1) := by decide +kernel
theorem dX2_readFactor_46 : decode cX2_readFactor 46 = .ok (.dup, 1) := by decide +kernel
theorem dX2_readFactor_47 : decode cX2_readFactor 47 = .ok (.getfield 32, 3) := by decide +kernel
theorem dX2_readFactor_50 : decode cX2_readFactor 50 = .ok (.iconst 1, 1) := by decide +kernel
theorem dX2_readFactor_51 : decode cX2_readFactor 51 = .ok (.iadd, 1) := by decide +kernel
theorem dX2_readFactor_52 : decode cX2_readFactor 52 = .ok (.putfield 32, 3) := by decide +kernel
theorem dX2_readFactor_55 : decode cX2_readFactor 55 = .ok (.iload_n 3, 1) := by decide +kernel
theorem dX2_readFactor_56 : decode cX2_readFactor 56 = .ok (.bipush 40, 2) := by decide +kernel
theorem dX2_readFactor_58 : decode cX2_readFactor 58 = .ok (.if_icmp .ne 12, 3) := by decide +kernel
theorem dX2_readFactor_61 : decode cX2_readFactor 61 = .ok (.aload_n 0, 1) := by decide +kernel
theorem dX2_readFactor_62 : decode cX2_readFactor 62 = .ok (.iload_n 1, 1) := by decide +kernel
theorem dX2_readFactor_63 : decode cX2_readFactor 63 = .ok (.iload_n 2, 1) := by decide +kernel
theorem dX2_readFactor_64 : decode cX2_readFactor 64 = .ok (.iconst 1, 1) := by decide +kernel
theorem dX2_readFactor_65 : decode cX2_readFactor 65 = .ok (.iadd, 1) := by decide +kernel
theorem dX2_readFactor_66 : decode cX2_readFactor 66 = .ok (.invokevirtual 68, 3) := by decide +kernel
theorem dX2_readFactor_69 : decode cX2_readFactor 69 = .ok (.ireturn, 1) := by decide +kernel
theorem dX2_readFactor_70 : decode cX2_readFactor 70 = .ok (.aload_n 0, 1) := by decide +kernel
theorem dX2_readFactor_71 : decode cX2_readFactor 71 = .ok (.iload_n 1, 1) := by decide +kernel
theorem dX2_readFactor_72 : decode cX2_readFactor 72 = .ok (.iload_n 2, 1) := by decide +kernel
theorem dX2_readFactor_73 : decode cX2_readFactor 73 = .ok (.iconst 1, 1) := by decide +kernel
theorem dX2_readFactor_74 : decode cX2_readFactor 74 = .ok (.iadd, 1) := by decide +kernel
theorem dX2_readFactor_75 : decode cX2_readFactor 75 = .ok (.invokevirtual 58, 3) := by decide +kernel
theorem dX2_readFactor_78 : decode cX2_readFactor 78 = .ok (.ifCond .ne 5, 3) := by decide +kernel
theorem dX2_readFactor_81 : decode cX2_readFactor 81 = .ok (.iconst 0, 1) := by decide +kernel
theorem dX2_readFactor_82 : decode cX2_readFactor 82 = .ok (.ireturn, 1) := by decide +kernel
theorem dX2_readFactor_83 : decode cX2_readFactor 83 = .ok (.aload_n 0, 1) := by decide +kernel
theorem dX2_readFactor_84 : decode cX2_readFactor 84 = .ok (.getfield 17, 3) := by decide +kernel
theorem dX2_readFactor_87 : decode cX2_readFactor 87 = .ok (.iload_n 1, 1) := by decide +kernel
theorem dX2_readFactor_88 : decode cX2_readFactor 88 = .ok (.aaload, 1) := by decide +kernel
theorem dX2_readFactor_89 : decode cX2_readFactor 89 = .ok (.invokevirtual 71, 3) := by decide +kernel
theorem dX2_readFactor_92 : decode cX2_readFactor 92 = .ok (.iconst 1, 1) := by decide +kernel
theorem dX2_readFactor_93 : decode cX2_readFactor 93 = .ok (.ireturn, 1) := by decide +kernel
theorem dX2_readBracket_0 : decode cX2_readBracket 0 = .ok (.aload_n 0, 1) := by decide +kernel
theorem dX2_readBracket_1 : decode cX2_readBracket 1 = .ok (.iload_n 1, 1) := by decide +kernel
theorem dX2_readBracket_2 : decode cX2_readBracket 2 = .ok (.iload_n 2, 1) := by decide +kernel
theorem dX2_readBracket_3 : decode cX2_readBracket 3 = .ok (.invokevirtual 39, 3) := by decide +kernel
theorem dX2_readBracket_6 : decode cX2_readBracket 6 = .ok (.ifCond .ne 5, 3) := by decide +kernel
theorem dX2_readBracket_9 : decode cX2_readBracket 9 = .ok (.iconst 0, 1) := by decide +kernel
theorem dX2_readBracket_10 : decode cX2_readBracket 10 = .ok (.ireturn, 1) := by decide +kernel
theorem dX2_readBracket_11 : decode cX2_readBracket 11 = .ok (.aload_n 0, 1) := by decide +kernel
theorem dX2_readBracket_12 : decode cX2_readBracket 12 = .ok (.invokevirtual 43, 3) := by decide +kernel
theorem dX2_readBracket_15 : decode cX2_readBracket 15 = .ok (.bipush 41, 2) := by decide +kernel
theorem dX2_readBracket_17 : decode cX2_readBracket 17 = .ok (.if_icmp .eq 9, 3) := by decide +kernel
theorem dX2_readBracket_20 : decode cX2_readBracket 20 = .ok (.aload_n 0, 1) := by decide +kernel
theorem dX2_readBracket_21 : decode cX2_readBracket 21 = .ok (.iload_n 2, 1) := by decide +kernel
theorem dX2_readBracket_22 : decode cX2_readBracket 22 = .ok (.invokevirtual 47, 3) := by decide +kernel
theorem dX2_readBracket_25 : decode cX2_readBracket 25 = .ok (.ireturn, 1) := by decide +kernel
theorem dX2_readBracket_26 : decode cX2_readBracket 26 = .ok (.aload_n 0, 1) := by decide +kernel
theorem dX2_readBracket_27 : decode cX2_readBracket 27 = .ok (.dup, 1) := by decide +kernel
theorem dX2_readBracket_28 : decode cX2_readBracket 28 = .ok (.getfield 32, 3) := by decide +kernel
theorem dX2_readBracket_31 : decode cX2_readBracket 31 = .ok (.iconst 1, 1) := by decide +kernel
theorem dX2_readBracket_32 : decode cX2_readBracket 32 = .ok (.iadd, 1) := by decide +kernel
theorem dX2_readBracket_33 : decode cX2_readBracket 33 = .ok (.putfield 32, 3) := by decide +kernel
theorem dX2_readBracket_36 : decode cX2_readBracket 36 = .ok (.iconst 1, 1) := by decide +kernel
theorem dX2_readBracket_37 : decode cX2_readBracket 37 = .ok (.ireturn, 1) := by decide +kernel
theorem dX2_readRow_0 : decode cX2_readRow 0 = .ok (.aload_n 0, 1) := by decide +kernel
theorem dX2_readRow_1 : decode cX2_readRow 1 = .ok (.iload_n 2, 1) := by decide +kernel
theorem dX2_readRow_2 : decode cX2_readRow 2 = .ok (.aload_n 0, 1) := by decide +kernel
theorem dX2_readRow_3 : decode cX2_readRow 3 = .ok (.getfield 29, 3) := by decide +kernel
theorem dX2_readRow_6 : decode cX2_readRow 6 = .ok (.iconst 1, 1) := by decide +kernel
theorem dX2_readRow_7 : decode cX2_readRow 7 = .ok (.isub, 1) := by decide +kernel
theorem dX2_readRow_8 : decode cX2_readRow 8 = .ok (.invokevirtual 74, 3) := by decide +kernel
theorem dX2_readRow_11 : decode cX2_readRow 11 = .ok (.istore_n 3, 1) := by decide +kernel
theorem dX2_readRow_12 : decode cX2_readRow 12 = .ok (.iload_n 3, 1) := by decide +kernel
theorem dX2_readRow_13 : decode cX2_readRow 13 = .ok (.ifCond .ge 5, 3) := by decide +kernel
theorem dX2_readRow_16 : decode cX2_readRow 16 = .ok (.iconst 0, 1) := by decide +kernel
theorem dX2_readRow_17 : decode cX2_readRow 17 = .ok (.ireturn, 1) := by decide +kernel
theorem dX2_readRow_18 : decode cX2_readRow 18 = .ok (.aload_n 0, 1) := by decide +kernel
theorem dX2_readRow_19 : decode cX2_readRow 19 = .ok (.invokevirtual 43, 3) := by decide +kernel
theorem dX2_readRow_22 : decode cX2_readRow 22 = .ok (.istore 4, 2) := by decide +kernel
theorem dX2_readRow_24 : decode cX2_readRow 24 = .ok (.iconst 0, 1) := by decide +kernel
theorem dX2_readRow_25 : decode cX2_readRow 25 = .ok (.istore 5, 2) := by decide +kernel
theorem dX2_readRow_27 : decode cX2_readRow 27 = .ok (.iload 4, 2) := by decide +kernel
theorem dX2_readRow_29 : decode cX2_readRow 29 = .ok (.bipush 60, 2) := by decide +kernel
theorem dX2_readRow_31 : decode cX2_readRow 31 = .ok (.if_icmp .eq 10, 3) := by decide +kernel
theorem dX2_readRow_34 : decode cX2_readRow 34 = .ok (.iload 4, 2) := by decide +kernel
theorem dX2_readRow_36 : decode cX2_readRow 36 = .ok (.bipush 62, 2) := by decide +kernel
theorem dX2_readRow_38 : decode cX2_readRow 38 = .ok (.if_icmp .ne 30, 3) := by decide +kernel
theorem dX2_readRow_41 : decode cX2_readRow 41 = .ok (.aload_n 0, 1) := by decide +kernel
theorem dX2_readRow_42 : decode cX2_readRow 42 = .ok (.dup, 1) := by decide +kernel
theorem dX2_readRow_43 : decode cX2_readRow 43 = .ok (.getfield 32, 3) := by decide +kernel
theorem dX2_readRow_46 : decode cX2_readRow 46 = .ok (.iconst 1, 1) := by decide +kernel
theorem dX2_readRow_47 : decode cX2_readRow 47 = .ok (.iadd, 1) := by decide +kernel
theorem dX2_readRow_48 : decode cX2_readRow 48 = .ok (.putfield 32, 3) := by decide +kernel
theorem dX2_readRow_51 : decode cX2_readRow 51 = .ok (.aload_n 0, 1) := by decide +kernel
theorem dX2_readRow_52 : decode cX2_readRow 52 = .ok (.iload_n 2, 1) := by decide +kernel
theorem dX2_readRow_53 : decode cX2_readRow 53 = .ok (.sipush 600, 3) := by decide +kernel
theorem dX2_readRow_56 : decode cX2_readRow 56 = .ok (.invokevirtual 74, 3) := by decide +kernel
theorem dX2_readRow_59 : decode cX2_readRow 59 = .ok (.istore 5, 2) := by decide +kernel
theorem dX2_readRow_61 : decode cX2_readRow 61 = .ok (.iload 5, 2) := by decide +kernel
theorem dX2_readRow_63 : decode cX2_readRow 63 = .ok (.ifCond .ge 5, 3) := by decide +kernel
theorem dX2_readRow_66 : decode cX2_readRow 66 = .ok (.iconst 0, 1) := by decide +kernel
theorem dX2_readRow_67 : decode cX2_readRow 67 = .ok (.ireturn, 1) := by decide +kernel
theorem dX2_readRow_68 : decode cX2_readRow 68 = .ok (.aload_n 0, 1) := by decide +kernel
theorem dX2_readRow_69 : decode cX2_readRow 69 = .ok (.getfield 35, 3) := by decide +kernel
theorem dX2_readRow_72 : decode cX2_readRow 72 = .ok (.ifCond .ne 51, 3) := by decide +kernel
theorem dX2_readRow_75 : decode cX2_readRow 75 = .ok (.iload_n 3, 1) := by decide +kernel
theorem dX2_readRow_76 : decode cX2_readRow 76 = .ok (.aload_n 0, 1) := by decide +kernel
theorem dX2_readRow_77 : decode cX2_readRow 77 = .ok (.getfield 21, 3) := by decide +kernel
theorem dX2_readRow_80 : decode cX2_readRow 80 = .ok (.arraylength, 1) := by decide +kernel
theorem dX2_readRow_81 : decode cX2_readRow 81 = .ok (.if_icmp .ge 42, 3) := by decide +kernel
theorem dX2_readRow_84 : decode cX2_readRow 84 = .ok (.iload_n 1, 1) := by decide +kernel
theorem dX2_readRow_85 : decode cX2_readRow 85 = .ok (.aload_n 0, 1) := by decide +kernel
theorem dX2_readRow_86 : decode cX2_readRow 86 = .ok (.getfield 17, 3) := by decide +kernel
theorem dX2_readRow_89 : decode cX2_readRow 89 = .ok (.arraylength, 1) := by decide +kernel
theorem dX2_readRow_90 : decode cX2_readRow 90 = .ok (.if_icmp .ge 33, 3) := by decide +kernel
theorem dX2_readRow_93 : decode cX2_readRow 93 = .ok (.aload_n 0, 1) := by decide +kernel
theorem dX2_readRow_94 : decode cX2_readRow 94 = .ok (.getfield 17, 3) := by decide +kernel
theorem dX2_readRow_97 : decode cX2_readRow 97 = .ok (.iload_n 1, 1) := by decide +kernel
theorem dX2_readRow_98 : decode cX2_readRow 98 = .ok (.aaload, 1) := by decide +kernel
theorem dX2_readRow_99 : decode cX2_readRow 99 = .ok (.aload_n 0, 1) := by decide +kernel
theorem dX2_readRow_100 : decode cX2_readRow 100 = .ok (.getfield 21, 3) := by decide +kernel
theorem dX2_readRow_103 : decode cX2_readRow 103 = .ok (.iload_n 3, 1) := by decide +kernel
theorem dX2_readRow_104 : decode cX2_readRow 104 = .ok (.aaload, 1) := by decide +kernel
theorem dX2_readRow_105 : decode cX2_readRow 105 = .ok (.iload 4, 2) := by decide +kernel
theorem dX2_readRow_107 : decode cX2_readRow 107 = .ok (.bipush 62, 2) := by decide +kernel
theorem dX2_readRow_109 : decode cX2_readRow 109 = .ok (.if_icmp .ne 9, 3) := by decide +kernel
theorem dX2_readRow_112 : decode cX2_readRow 112 = .ok (.iload 5, 2) := by decide +kernel
theorem dX2_readRow_114 : decode cX2_readRow 114 = .ok (.ineg, 1) := by decide +kernel
theorem dX2_readRow_115 : decode cX2_readRow 115 = .ok (.goto 5, 3) := by decide +kernel
theorem dX2_readRow_118 : decode cX2_readRow 118 = .ok (.iload 5, 2) := by decide +kernel
theorem dX2_readRow_120 : decode cX2_readRow 120 = .ok (.invokevirtual 78, 3) := by decide +kernel
theorem dX2_readRow_123 : decode cX2_readRow 123 = .ok (.iconst 1, 1) := by decide +kernel
theorem dX2_readRow_124 : decode cX2_readRow 124 = .ok (.ireturn, 1) := by decide +kernel
theorem dX2_readNumber_0 : decode cX2_readNumber 0 = .ok (.aload_n 0, 1) := by decide +kernel
theorem dX2_readNumber_1 : decode cX2_readNumber 1 = .ok (.invokevirtual 43, 3) := by decide +kernel
theorem dX2_readNumber_4 : decode cX2_readNumber 4 = .ok (.invokestatic 82, 3) := by decide +kernel
theorem dX2_readNumber_7 : decode cX2_readNumber 7 = .ok (.ifCond .ne 12, 3) := by decide +kernel
theorem dX2_readNumber_10 : decode cX2_readNumber 10 = .ok (.aload_n 0, 1) := by decide +kernel
theorem dX2_readNumber_11 : decode cX2_readNumber 11 = .ok (.iload_n 1, 1) := by decide +kernel
theorem dX2_readNumber_12 : decode cX2_readNumber 12 = .ok (.invokevirtual 47, 3) := by decide +kernel
theorem dX2_readNumber_15 : decode cX2_readNumber 15 = .ok (.pop, 1) := by decide +kernel
theorem dX2_readNumber_16 : decode cX2_readNumber 16 = .ok (.bipush (-9), 2) := by decide +kernel
theorem dX2_readNumber_18 : decode cX2_readNumber 18 = .ok (.ireturn, 1) := by decide +kernel
theorem dX2_readNumber_19 : decode cX2_readNumber 19 = .ok (.aload_n 0, 1) := by decide +kernel
theorem dX2_readNumber_20 : decode cX2_readNumber 20 = .ok (.getfield 32, 3) := by decide +kernel
theorem dX2_readNumber_23 : decode cX2_readNumber 23 = .ok (.istore_n 3, 1) := by decide +kernel
theorem dX2_readNumber_24 : decode cX2_readNumber 24 = .ok (.iconst 0, 1) := by decide +kernel
theorem dX2_readNumber_25 : decode cX2_readNumber 25 = .ok (.istore 4, 2) := by decide +kernel
theorem dX2_readNumber_27 : decode cX2_readNumber 27 = .ok (.iconst 0, 1) := by decide +kernel
theorem dX2_readNumber_28 : decode cX2_readNumber 28 = .ok (.istore 5, 2) := by decide +kernel
theorem dX2_readNumber_30 : decode cX2_readNumber 30 = .ok (.iload 5, 2) := by decide +kernel
theorem dX2_readNumber_32 : decode cX2_readNumber 32 = .ok (.iconst 3, 1) := by decide +kernel
theorem dX2_readNumber_33 : decode cX2_readNumber 33 = .ok (.if_icmp .ge 58, 3) := by decide +kernel
theorem dX2_readNumber_36 : decode cX2_readNumber 36 = .ok (.aload_n 0, 1) := by decide +kernel
theorem dX2_readNumber_37 : decode cX2_readNumber 37 = .ok (.invokevirtual 86, 3) := by decide +kernel
theorem dX2_readNumber_40 : decode cX2_readNumber 40 = .ok (.invokestatic 82, 3) := by decide +kernel
theorem dX2_readNumber_43 : decode cX2_readNumber 43 = .ok (.ifCond .eq 48, 3) := by decide +kernel
theorem dX2_readNumber_46 : decode cX2_readNumber 46 = .ok (.iload 5, 2) := by decide +kernel
theorem dX2_readNumber_48 : decode cX2_readNumber 48 = .ok (.iconst 1, 1) := by decide +kernel
theorem dX2_readNumber_49 : decode cX2_readNumber 49 = .ok (.if_icmp .ne 11, 3) := by decide +kernel
theorem dX2_readNumber_52 : decode cX2_readNumber 52 = .ok (.iload 4, 2) := by decide +kernel
theorem dX2_readNumber_54 : decode cX2_readNumber 54 = .ok (.ifCond .ne 6, 3) := by decide +kernel
theorem dX2_readNumber_57 : decode cX2_readNumber 57 = .ok (.goto 34, 3) := by decide +kernel
theorem dX2_readNumber_60 : decode cX2_readNumber 60 = .ok (.iload 4, 2) := by decide +kernel
theorem dX2_readNumber_62 : decode cX2_readNumber 62 = .ok (.bipush 10, 2) := by decide +kernel
theorem dX2_readNumber_64 : decode cX2_readNumber 64 = .ok (.imul, 1) := by decide +kernel
theorem dX2_readNumber_65 : decode cX2_readNumber 65 = .ok (.aload_n 0, 1) := by decide +kernel
theorem dX2_readNumber_66 : decode cX2_readNumber 66 = .ok (.invokevirtual 86, 3) := by decide +kernel
theorem dX2_readNumber_69 : decode cX2_readNumber 69 = .ok (.bipush 48, 2) := by decide +kernel
theorem dX2_readNumber_71 : decode cX2_readNumber 71 = .ok (.isub, 1) := by decide +kernel
theorem dX2_readNumber_72 : decode cX2_readNumber 72 = .ok (.iadd, 1) := by decide +kernel
theorem dX2_readNumber_73 : decode cX2_readNumber 73 = .ok (.istore 4, 2) := by decide +kernel
theorem dX2_readNumber_75 : decode cX2_readNumber 75 = .ok (.aload_n 0, 1) := by decide +kernel
theorem dX2_readNumber_76 : decode cX2_readNumber 76 = .ok (.dup, 1) := by decide +kernel
theorem dX2_readNumber_77 : decode cX2_readNumber 77 = .ok (.getfield 32, 3) := by decide +kernel
theorem dX2_readNumber_80 : decode cX2_readNumber 80 = .ok (.iconst 1, 1) := by decide +kernel
theorem dX2_readNumber_81 : decode cX2_readNumber 81 = .ok (.iadd, 1) := by decide +kernel
theorem dX2_readNumber_82 : decode cX2_readNumber 82 = .ok (.putfield 32, 3) := by decide +kernel
theorem dX2_readNumber_85 : decode cX2_readNumber 85 = .ok (.iinc 5 1, 3) := by decide +kernel
theorem dX2_readNumber_88 : decode cX2_readNumber 88 = .ok (.goto (-58), 3) := by decide +kernel
theorem dX2_readNumber_91 : decode cX2_readNumber 91 = .ok (.aload_n 0, 1) := by decide +kernel
theorem dX2_readNumber_92 : decode cX2_readNumber 92 = .ok (.invokevirtual 86, 3) := by decide +kernel
theorem dX2_readNumber_95 : decode cX2_readNumber 95 = .ok (.invokestatic 82, 3) := by decide +kernel
theorem dX2_readNumber_98 : decode cX2_readNumber 98 = .ok (.ifCond .eq 12, 3) := by decide +kernel
theorem dX2_readNumber_101 : decode cX2_readNumber 101 = .ok (.aload_n 0, 1) := by decide +kernel
theorem dX2_readNumber_102 : decode cX2_readNumber 102 = .ok (.iload_n 1, 1) := by decide +kernel
theorem dX2_readNumber_103 : decode cX2_readNumber 103 = .ok (.invokevirtual 47, 3) := by decide +kernel
theorem dX2_readNumber_106 : decode cX2_readNumber 106 = .ok (.pop, 1) := by decide +kernel
theorem dX2_readNumber_107 : decode cX2_readNumber 107 = .ok (.bipush (-9), 2) := by decide +kernel
theorem dX2_readNumber_109 : decode cX2_readNumber 109 = .ok (.ireturn, 1) := by decide +kernel
theorem dX2_readNumber_110 : decode cX2_readNumber 110 = .ok (.iload 4, 2) := by decide +kernel
theorem dX2_readNumber_112 : decode cX2_readNumber 112 = .ok (.iload_n 2, 1) := by decide +kernel
theorem dX2_readNumber_113 : decode cX2_readNumber 113 = .ok (.if_icmp .le 17, 3) := by decide +kernel
theorem dX2_readNumber_116 : decode cX2_readNumber 116 = .ok (.aload_n 0, 1) := by decide +kernel
theorem dX2_readNumber_117 : decode cX2_readNumber 117 = .ok (.getfield 35, 3) := by decide +kernel
theorem dX2_readNumber_120 : decode cX2_readNumber 120 = .ok (.ifCond .ne 10, 3) := by decide +kernel
theorem dX2_readNumber_123 : decode cX2_readNumber 123 = .ok (.aload_n 0, 1) := by decide +kernel
theorem dX2_readNumber_124 : decode cX2_readNumber 124 = .ok (.iconst 2, 1) := by decide +kernel
theorem dX2_readNumber_125 : decode cX2_readNumber 125 = .ok (.iload_n 3, 1) := by decide +kernel
theorem dX2_readNumber_126 : decode cX2_readNumber 126 = .ok (.iload_n 1, 1) := by decide +kernel
theorem dX2_readNumber_127 : decode cX2_readNumber 127 = .ok (.invokevirtual 89, 3) := by decide +kernel
theorem dX2_readNumber_130 : decode cX2_readNumber 130 = .ok (.iload 4, 2) := by decide +kernel
theorem dX2_readNumber_132 : decode cX2_readNumber 132 = .ok (.ireturn, 1) := by decide +kernel
theorem dX2_nextSign_0 : decode cX2_nextSign 0 = .ok (.aload_n 0, 1) := by decide +kernel
theorem dX2_nextSign_1 : decode cX2_nextSign 1 = .ok (.getfield 32, 3) := by decide +kernel
theorem dX2_nextSign_4 : decode cX2_nextSign 4 = .ok (.aload_n 0, 1) := by decide +kernel
theorem dX2_nextSign_5 : decode cX2_nextSign 5 = .ok (.getfield 25, 3) := by decide +kernel
theorem dX2_nextSign_8 : decode cX2_nextSign 8 = .ok (.if_icmp .ge 25, 3) := by decide +kernel
theorem dX2_nextSign_11 : decode cX2_nextSign 11 = .ok (.aload_n 0, 1) := by decide +kernel
theorem dX2_nextSign_12 : decode cX2_nextSign 12 = .ok (.invokevirtual 86, 3) := by decide +kernel
theorem dX2_nextSign_15 : decode cX2_nextSign 15 = .ok (.bipush 32, 2) := by decide +kernel
theorem dX2_nextSign_17 : decode cX2_nextSign 17 = .ok (.if_icmp .ne 16, 3) := by decide +kernel
theorem dX2_nextSign_20 : decode cX2_nextSign 20 = .ok (.aload_n 0, 1) := by decide +kernel
theorem dX2_nextSign_21 : decode cX2_nextSign 21 = .ok (.dup, 1) := by decide +kernel
theorem dX2_nextSign_22 : decode cX2_nextSign 22 = .ok (.getfield 32, 3) := by decide +kernel
theorem dX2_nextSign_25 : decode cX2_nextSign 25 = .ok (.iconst 1, 1) := by decide +kernel
theorem dX2_nextSign_26 : decode cX2_nextSign 26 = .ok (.iadd, 1) := by decide +kernel
theorem dX2_nextSign_27 : decode cX2_nextSign 27 = .ok (.putfield 32, 3) := by decide +kernel
theorem dX2_nextSign_30 : decode cX2_nextSign 30 = .ok (.goto (-30), 3) := by decide +kernel
theorem dX2_nextSign_33 : decode cX2_nextSign 33 = .ok (.aload_n 0, 1) := by decide +kernel
theorem dX2_nextSign_34 : decode cX2_nextSign 34 = .ok (.invokevirtual 86, 3) := by decide +kernel
theorem dX2_nextSign_37 : decode cX2_nextSign 37 = .ok (.ireturn, 1) := by decide +kernel
theorem dX2_signHere_0 : decode cX2_signHere 0 = .ok (.aload_n 0, 1) := by decide +kernel
theorem dX2_signHere_1 : decode cX2_signHere 1 = .ok (.getfield 32, 3) := by decide +kernel
theorem dX2_signHere_4 : decode cX2_signHere 4 = .ok (.aload_n 0, 1) := by decide +kernel
theorem dX2_signHere_5 : decode cX2_signHere 5 = .ok (.getfield 25, 3) := by decide +kernel
theorem dX2_signHere_8 : decode cX2_signHere 8 = .ok (.if_icmp .ge 27, 3) := by decide +kernel
theorem dX2_signHere_11 : decode cX2_signHere 11 = .ok (.aload_n 0, 1) := by decide +kernel
theorem dX2_signHere_12 : decode cX2_signHere 12 = .ok (.getfield 32, 3) := by decide +kernel
theorem dX2_signHere_15 : decode cX2_signHere 15 = .ok (.aload_n 0, 1) := by decide +kernel
theorem dX2_signHere_16 : decode cX2_signHere 16 = .ok (.getfield 9, 3) := by decide +kernel
theorem dX2_signHere_19 : decode cX2_signHere 19 = .ok (.arraylength, 1) := by decide +kernel
theorem dX2_signHere_20 : decode cX2_signHere 20 = .ok (.if_icmp .ge 15, 3) := by decide +kernel
theorem dX2_signHere_23 : decode cX2_signHere 23 = .ok (.aload_n 0, 1) := by decide +kernel
theorem dX2_signHere_24 : decode cX2_signHere 24 = .ok (.getfield 9, 3) := by decide +kernel
theorem dX2_signHere_27 : decode cX2_signHere 27 = .ok (.aload_n 0, 1) := by decide +kernel
theorem dX2_signHere_28 : decode cX2_signHere 28 = .ok (.getfield 32, 3) := by decide +kernel
theorem dX2_signHere_31 : decode cX2_signHere 31 = .ok (.caload, 1) := by decide +kernel
theorem dX2_signHere_32 : decode cX2_signHere 32 = .ok (.goto 4, 3) := by decide +kernel
theorem dX2_signHere_35 : decode cX2_signHere 35 = .ok (.iconst 0, 1) := by decide +kernel
theorem dX2_signHere_36 : decode cX2_signHere 36 = .ok (.ireturn, 1) := by decide +kernel
theorem dX2_isDigit_0 : decode cX2_isDigit 0 = .ok (.iload_n 0, 1) := by decide +kernel
theorem dX2_isDigit_1 : decode cX2_isDigit 1 = .ok (.bipush 48, 2) := by decide +kernel
theorem dX2_isDigit_3 : decode cX2_isDigit 3 = .ok (.if_icmp .lt 13, 3) := by decide +kernel
theorem dX2_isDigit_6 : decode cX2_isDigit 6 = .ok (.iload_n 0, 1) := by decide +kernel
theorem dX2_isDigit_7 : decode cX2_isDigit 7 = .ok (.bipush 57, 2) := by decide +kernel
theorem dX2_isDigit_9 : decode cX2_isDigit 9 = .ok (.if_icmp .gt 7, 3) := by decide +kernel
theorem dX2_isDigit_12 : decode cX2_isDigit 12 = .ok (.iconst 1, 1) := by decide +kernel
theorem dX2_isDigit_13 : decode cX2_isDigit 13 = .ok (.goto 4, 3) := by decide +kernel
theorem dX2_isDigit_16 : decode cX2_isDigit 16 = .ok (.iconst 0, 1) := by decide +kernel
theorem dX2_isDigit_17 : decode cX2_isDigit 17 = .ok (.ireturn, 1) := by decide +kernel
theorem dX2_breakOff_0 : decode cX2_breakOff 0 = .ok (.aload_n 0, 1) := by decide +kernel
theorem dX2_breakOff_1 : decode cX2_breakOff 1 = .ok (.iconst 1, 1) := by decide +kernel
theorem dX2_breakOff_2 : decode cX2_breakOff 2 = .ok (.aload_n 0, 1) := by decide +kernel
theorem dX2_breakOff_3 : decode cX2_breakOff 3 = .ok (.getfield 32, 3) := by decide +kernel
theorem dX2_breakOff_6 : decode cX2_breakOff 6 = .ok (.iload_n 1, 1) := by decide +kernel
theorem dX2_breakOff_7 : decode cX2_breakOff 7 = .ok (.invokevirtual 89, 3) := by decide +kernel
theorem dX2_breakOff_10 : decode cX2_breakOff 10 = .ok (.iconst 0, 1) := by decide +kernel
theorem dX2_breakOff_11 : decode cX2_breakOff 11 = .ok (.ireturn, 1) := by decide +kernel
theorem dX2_fail_0 : decode cX2_fail 0 = .ok (.aload_n 0, 1) := by decide +kernel
theorem dX2_fail_1 : decode cX2_fail 1 = .ok (.iconst 1, 1) := by decide +kernel
theorem dX2_fail_2 : decode cX2_fail 2 = .ok (.putfield 35, 3) := by decide +kernel
theorem dX2_fail_5 : decode cX2_fail 5 = .ok (.aload_n 0, 1) := by decide +kernel
theorem dX2_fail_6 : decode cX2_fail 6 = .ok (.iload_n 1, 1) := by decide +kernel
theorem dX2_fail_7 : decode cX2_fail 7 = .ok (.putfield 93, 3) := by decide +kernel
theorem dX2_fail_10 : decode cX2_fail 10 = .ok (.aload_n 0, 1) := by decide +kernel
theorem dX2_fail_11 : decode cX2_fail 11 = .ok (.iload_n 2, 1) := by decide +kernel
theorem dX2_fail_12 : decode cX2_fail 12 = .ok (.putfield 96, 3) := by decide +kernel
theorem dX2_fail_15 : decode cX2_fail 15 = .ok (.aload_n 0, 1) := by decide +kernel
theorem dX2_fail_16 : decode cX2_fail 16 = .ok (.iload_n 3, 1) := by decide +kernel
theorem dX2_fail_17 : decode cX2_fail 17 = .ok (.putfield 99, 3) := by decide +kernel
theorem dX2_fail_20 : decode cX2_fail 20 = .ok (.return_, 1) := by decide +kernel
theorem dX3_init_0 : decode cX3_init 0 = .ok (.aload_n 0, 1) := by decide +kernel
theorem dX3_init_1 : decode cX3_init 1 = .ok (.invokespecial 3, 3) := by decide +kernel
theorem dX3_init_4 : decode cX3_init 4 = .ok (.aload_n 0, 1) := by decide +kernel
theorem dX3_init_5 : decode cX3_init 5 = .ok (.iconst 5, 1) := by decide +kernel
theorem dX3_init_6 : decode cX3_init 6 = .ok (.anewarray 9, 3) := by decide +kernel
theorem dX3_init_9 : decode cX3_init 9 = .ok (.putfield 11, 3) := by decide +kernel
theorem dX3_init_12 : decode cX3_init 12 = .ok (.iconst 0, 1) := by decide +kernel
theorem dX3_init_13 : decode cX3_init 13 = .ok (.istore_n 1, 1) := by decide +kernel
theorem dX3_init_14 : decode cX3_init 14 = .ok (.iload_n 1, 1) := by decide +kernel
theorem dX3_init_15 : decode cX3_init 15 = .ok (.aload_n 0, 1) := by decide +kernel
theorem dX3_init_16 : decode cX3_init 16 = .ok (.getfield 11, 3) := by decide +kernel
theorem dX3_init_19 : decode cX3_init 19 = .ok (.arraylength, 1) := by decide +kernel
theorem dX3_init_20 : decode cX3_init 20 = .ok (.if_icmp .ge 22, 3) := by decide +kernel
theorem dX3_init_23 : decode cX3_init 23 = .ok (.aload_n 0, 1) := by decide +kernel
theorem dX3_init_24 : decode cX3_init 24 = .ok (.getfield 11, 3) := by decide +kernel
theorem dX3_init_27 : decode cX3_init 27 = .ok (.iload_n 1, 1) := by decide +kernel
theorem dX3_init_28 : decode cX3_init 28 = .ok (.new 9, 3) := by decide +kernel
theorem dX3_init_31 : decode cX3_init 31 = .ok (.dup, 1) := by decide +kernel
theorem dX3_init_32 : decode cX3_init 32 = .ok (.invokespecial 17, 3) := by decide +kernel
theorem dX3_init_35 : decode cX3_init 35 = .ok (.aastore, 1) := by decide +kernel
theorem dX3_init_36 : decode cX3_init 36 = .ok (.iinc 1 1, 3) := by decide +kernel
theorem dX3_init_39 : decode cX3_init 39 = .ok (.goto (-25), 3) := by decide +kernel
theorem dX3_init_42 : decode cX3_init 42 = .ok (.return_, 1) := by decide +kernel
theorem dX3_add_0 : decode cX3_add 0 = .ok (.aload_n 0, 1) := by decide +kernel
theorem dX3_add_1 : decode cX3_add 1 = .ok (.getfield 18, 3) := by decide +kernel
theorem dX3_add_4 : decode cX3_add 4 = .ok (.iconst 5, 1) := by decide +kernel
theorem dX3_add_5 : decode cX3_add 5 = .ok (.if_icmp .ne 7, 3) := by decide +kernel
theorem dX3_add_8 : decode cX3_add 8 = .ok (.aload_n 0, 1) := by decide +kernel
theorem dX3_add_9 : decode cX3_add 9 = .ok (.invokevirtual 22, 3) := by decide +kernel
theorem dX3_add_12 : decode cX3_add 12 = .ok (.aload_n 0, 1) := by decide +kernel
theorem dX3_add_13 : decode cX3_add 13 = .ok (.getfield 11, 3) := by decide +kernel
theorem dX3_add_16 : decode cX3_add 16 = .ok (.aload_n 0, 1) := by decide +kernel
theorem dX3_add_17 : decode cX3_add 17 = .ok (.getfield 18, 3) := by decide +kernel
theorem dX3_add_20 : decode cX3_add 20 = .ok (.aaload, 1) := by decide +kernel
theorem dX3_add_21 : decode cX3_add 21 = .ok (.astore 4, 2) := by decide +kernel
theorem dX3_add_23 : decode cX3_add 23 = .ok (.aload 4, 2) := by decide +kernel
theorem dX3_add_25 : decode cX3_add 25 = .ok (.iload_n 1, 1) := by decide +kernel
theorem dX3_add_26 : decode cX3_add 26 = .ok (.putfield 25, 3) := by decide +kernel
theorem dX3_add_29 : decode cX3_add 29 = .ok (.aload 4, 2) := by decide +kernel
theorem dX3_add_31 : decode cX3_add 31 = .ok (.iload_n 2, 1) := by decide +kernel
theorem dX3_add_32 : decode cX3_add 32 = .ok (.putfield 28, 3) := by decide +kernel
theorem dX3_add_35 : decode cX3_add 35 = .ok (.aload 4, 2) := by decide +kernel
theorem dX3_add_37 : decode cX3_add 37 = .ok (.getfield 31, 3) := by decide +kernel
theorem dX3_add_40 : decode cX3_add 40 = .ok (.aload_n 3, 1) := by decide +kernel
theorem dX3_add_41 : decode cX3_add 41 = .ok (.invokevirtual 35, 3) := by decide +kernel
theorem dX3_add_44 : decode cX3_add 44 = .ok (.aload_n 0, 1) := by decide +kernel
theorem dX3_add_45 : decode cX3_add 45 = .ok (.dup, 1) := by decide +kernel
theorem dX3_add_46 : decode cX3_add 46 = .ok (.getfield 18, 3) := by decide +kernel
theorem dX3_add_49 : decode cX3_add 49 = .ok (.iconst 1, 1) := by decide +kernel
theorem dX3_add_50 : decode cX3_add 50 = .ok (.iadd, 1) := by decide +kernel
theorem dX3_add_51 : decode cX3_add 51 = .ok (.putfield 18, 3) := by decide +kernel
theorem dX3_add_54 : decode cX3_add 54 = .ok (.return_, 1) := by decide +kernel
theorem dX3_dropOldest_0 : decode cX3_dropOldest 0 = .ok (.aload_n 0, 1) := by decide +kernel
theorem dX3_dropOldest_1 : decode cX3_dropOldest 1 = .ok (.getfield 11, 3) := by decide +kernel
theorem dX3_dropOldest_4 : decode cX3_dropOldest 4 = .ok (.iconst 0, 1) := by decide +kernel
theorem dX3_dropOldest_5 : decode cX3_dropOldest 5 = .ok (.aaload, 1) := by decide +kernel
theorem dX3_dropOldest_6 : decode cX3_dropOldest 6 = .ok (.astore_n 1, 1) := by decide +kernel
theorem dX3_dropOldest_7 : decode cX3_dropOldest 7 = .ok (.iconst 1, 1) := by decide +kernel
theorem dX3_dropOldest_8 : decode cX3_dropOldest 8 = .ok (.istore_n 2, 1) := by decide +kernel
theorem dX3_dropOldest_9 : decode cX3_dropOldest 9 = .ok (.iload_n 2, 1) := by decide +kernel
theorem dX3_dropOldest_10 : decode cX3_dropOldest 10 = .ok (.aload_n 0, 1) := by decide +kernel
theorem dX3_dropOldest_11 : decode cX3_dropOldest 11 = .ok (.getfield 11, 3) := by decide +kernel
theorem dX3_dropOldest_14 : decode cX3_dropOldest 14 = .ok (.arraylength, 1) := by decide +kernel
theorem dX3_dropOldest_15 : decode cX3_dropOldest 15 = .ok (.if_icmp .ge 23, 3) := by decide +kernel
theorem dX3_dropOldest_18 : decode cX3_dropOldest 18 = .ok (.aload_n 0, 1) := by decide +kernel
theorem dX3_dropOldest_19 : decode cX3_dropOldest 19 = .ok (.getfield 11, 3) := by decide +kernel
theorem dX3_dropOldest_22 : decode cX3_dropOldest 22 = .ok (.iload_n 2, 1) := by decide +kernel
theorem dX3_dropOldest_23 : decode cX3_dropOldest 23 = .ok (.iconst 1, 1) := by decide +kernel
theorem dX3_dropOldest_24 : decode cX3_dropOldest 24 = .ok (.isub, 1) := by decide +kernel
theorem dX3_dropOldest_25 : decode cX3_dropOldest 25 = .ok (.aload_n 0, 1) := by decide +kernel
theorem dX3_dropOldest_26 : decode cX3_dropOldest 26 = .ok (.getfield 11, 3) := by decide +kernel
theorem dX3_dropOldest_29 : decode cX3_dropOldest 29 = .ok (.iload_n 2, 1) := by decide +kernel
theorem dX3_dropOldest_30 : decode cX3_dropOldest 30 = .ok (.aaload, 1) := by decide +kernel
theorem dX3_dropOldest_31 : decode cX3_dropOldest 31 = .ok (.aastore, 1) := by decide +kernel
theorem dX3_dropOldest_32 : decode cX3_dropOldest 32 = .ok (.iinc 2 1, 3) := by decide +kernel
theorem dX3_dropOldest_35 : decode cX3_dropOldest 35 = .ok (.goto (-26), 3) := by decide +kernel
theorem dX3_dropOldest_38 : decode cX3_dropOldest 38 = .ok (.aload_n 0, 1) := by decide +kernel
theorem dX3_dropOldest_39 : decode cX3_dropOldest 39 = .ok (.getfield 11, 3) := by decide +kernel
theorem dX3_dropOldest_42 : decode cX3_dropOldest 42 = .ok (.iconst 4, 1) := by decide +kernel
theorem dX3_dropOldest_43 : decode cX3_dropOldest 43 = .ok (.aload_n 1, 1) := by decide +kernel
theorem dX3_dropOldest_44 : decode cX3_dropOldest 44 = .ok (.aastore, 1) := by decide +kernel
theorem dX3_dropOldest_45 : decode cX3_dropOldest 45 = .ok (.aload_n 0, 1) := by decide +kernel
theorem dX3_dropOldest_46 : decode cX3_dropOldest 46 = .ok (.dup, 1) := by decide +kernel
theorem dX3_dropOldest_47 : decode cX3_dropOldest 47 = .ok (.getfield 18, 3) := by decide +kernel
theorem dX3_dropOldest_50 : decode cX3_dropOldest 50 = .ok (.iconst 1, 1) := by decide +kernel
theorem dX3_dropOldest_51 : decode cX3_dropOldest 51 = .ok (.isub, 1) := by decide +kernel
theorem dX3_dropOldest_52 : decode cX3_dropOldest 52 = .ok (.putfield 18, 3) := by decide +kernel
theorem dX3_dropOldest_55 : decode cX3_dropOldest 55 = .ok (.return_, 1) := by decide +kernel
theorem dX3_removeLatest_0 : decode cX3_removeLatest 0 = .ok (.aload_n 0, 1) := by decide +kernel
theorem dX3_removeLatest_1 : decode cX3_removeLatest 1 = .ok (.iconst 0, 1) := by decide +kernel
theorem dX3_removeLatest_2 : decode cX3_removeLatest 2 = .ok (.aload_n 0, 1) := by decide +kernel
theorem dX3_removeLatest_3 : decode cX3_removeLatest 3 = .ok (.getfield 18, 3) := by decide +kernel
theorem dX3_removeLatest_6 : decode cX3_removeLatest 6 = .ok (.iconst 1, 1) := by decide +kernel
theorem dX3_removeLatest_7 : decode cX3_removeLatest 7 = .ok (.isub, 1) := by decide +kernel
theorem dX3_removeLatest_8 : decode cX3_removeLatest 8 = .ok (.invokestatic 41, 3) := by decide +kernel
theorem dX3_removeLatest_11 : decode cX3_removeLatest 11 = .ok (.putfield 18, 3) := by decide +kernel
theorem dX3_removeLatest_14 : decode cX3_removeLatest 14 = .ok (.aload_n 0, 1) := by decide +kernel
theorem dX3_removeLatest_15 : decode cX3_removeLatest 15 = .ok (.getfield 11, 3) := by decide +kernel
theorem dX3_removeLatest_18 : decode cX3_removeLatest 18 = .ok (.aload_n 0, 1) := by decide +kernel
theorem dX3_removeLatest_19 : decode cX3_removeLatest 19 = .ok (.getfield 18, 3) := by decide +kernel
theorem dX3_removeLatest_22 : decode cX3_removeLatest 22 = .ok (.aaload, 1) := by decide +kernel
theorem dX3_removeLatest_23 : decode cX3_removeLatest 23 = .ok (.areturn, 1) := by decide +kernel
theorem dX4_isLiteral_0 : decode cX4_isLiteral 0 = .ok (.iload_n 0, 1) := by decide +kernel
theorem dX4_isLiteral_1 : decode cX4_isLiteral 1 = .ok (.ifCond .eq 14, 3) := by decide +kernel
theorem dX4_isLiteral_4 : decode cX4_isLiteral 4 = .ok (.iload_n 0, 1) := by decide +kernel
theorem dX4_isLiteral_5 : decode cX4_isLiteral 5 = .ok (.sipush 32767, 3) := by decide +kernel
theorem dX4_isLiteral_8 : decode cX4_isLiteral 8 = .ok (.if_icmp .eq 7, 3) := by decide +kernel
theorem dX4_isLiteral_11 : decode cX4_isLiteral 11 = .ok (.iconst 1, 1) := by decide +kernel
theorem dX4_isLiteral_12 : decode cX4_isLiteral 12 = .ok (.goto 4, 3) := by decide +kernel
theorem dX4_isLiteral_15 : decode cX4_isLiteral 15 = .ok (.iconst 0, 1) := by decide +kernel
theorem dX4_isLiteral_16 : decode cX4_isLiteral 16 = .ok (.ireturn, 1) := by decide +kernel
theorem dX4_endOf_0 : decode cX4_endOf 0 = .ok (.aload_n 0, 1) := by decide +kernel
theorem dX4_endOf_1 : decode cX4_endOf 1 = .ok (.invokevirtual 9, 3) := by decide +kernel
theorem dX4_endOf_4 : decode cX4_endOf 4 = .ok (.istore_n 2, 1) := by decide +kernel
theorem dX4_endOf_5 : decode cX4_endOf 5 = .ok (.iload_n 1, 1) := by decide +kernel
theorem dX4_endOf_6 : decode cX4_endOf 6 = .ok (.iload_n 2, 1) := by decide +kernel
theorem dX4_endOf_7 : decode cX4_endOf 7 = .ok (.if_icmp .lt 6, 3) := by decide +kernel
theorem dX4_endOf_10 : decode cX4_endOf 10 = .ok (.bipush 40, 2) := by decide +kernel
theorem dX4_endOf_12 : decode cX4_endOf 12 = .ok (.ireturn, 1) := by decide +kernel
theorem dX4_endOf_13 : decode cX4_endOf 13 = .ok (.aload_n 0, 1) := by decide +kernel
theorem dX4_endOf_14 : decode cX4_endOf 14 = .ok (.iload_n 1, 1) := by decide +kernel
theorem dX4_endOf_15 : decode cX4_endOf 15 = .ok (.invokevirtual 15, 3) := by decide +kernel
theorem dX4_endOf_18 : decode cX4_endOf 18 = .ok (.istore_n 3, 1) := by decide +kernel
theorem dX4_endOf_19 : decode cX4_endOf 19 = .ok (.iload_n 3, 1) := by decide +kernel
theorem dX4_endOf_20 : decode cX4_endOf 20 = .ok (.invokestatic 19, 3) := by decide +kernel
theorem dX4_endOf_23 : decode cX4_endOf 23 = .ok (.ifCond .eq 7, 3) := by decide +kernel
theorem dX4_endOf_26 : decode cX4_endOf 26 = .ok (.iload_n 1, 1) := by decide +kernel
theorem dX4_endOf_27 : decode cX4_endOf 27 = .ok (.iconst 1, 1) := by decide +kernel
theorem dX4_endOf_28 : decode cX4_endOf 28 = .ok (.iadd, 1) := by decide +kernel
theorem dX4_endOf_29 : decode cX4_endOf 29 = .ok (.ireturn, 1) := by decide +kernel
theorem dX4_endOf_30 : decode cX4_endOf 30 = .ok (.iload_n 2, 1) := by decide +kernel
theorem dX4_endOf_31 : decode cX4_endOf 31 = .ok (.iload_n 1, 1) := by decide +kernel
theorem dX4_endOf_32 : decode cX4_endOf 32 = .ok (.bipush 20, 2) := by decide +kernel
theorem dX4_endOf_34 : decode cX4_endOf 34 = .ok (.iadd, 1) := by decide +kernel
theorem dX4_endOf_35 : decode cX4_endOf 35 = .ok (.invokestatic 25, 3) := by decide +kernel
theorem dX4_endOf_38 : decode cX4_endOf 38 = .ok (.istore 4, 2) := by decide +kernel
theorem dX4_endOf_40 : decode cX4_endOf 40 = .ok (.iload_n 1, 1) := by decide +kernel
theorem dX4_endOf_41 : decode cX4_endOf 41 = .ok (.iconst 1, 1) := by decide +kernel
theorem dX4_endOf_42 : decode cX4_endOf 42 = .ok (.iadd, 1) := by decide +kernel
theorem dX4_endOf_43 : decode cX4_endOf 43 = .ok (.istore 5, 2) := by decide +kernel
theorem dX4_endOf_45 : decode cX4_endOf 45 = .ok (.iload 5, 2) := by decide +kernel
theorem dX4_endOf_47 : decode cX4_endOf 47 = .ok (.iload 4, 2) := by decide +kernel
theorem dX4_endOf_49 : decode cX4_endOf 49 = .ok (.if_icmp .ge 22, 3) := by decide +kernel
theorem dX4_endOf_52 : decode cX4_endOf 52 = .ok (.aload_n 0, 1) := by decide +kernel
theorem dX4_endOf_53 : decode cX4_endOf 53 = .ok (.iload 5, 2) := by decide +kernel
theorem dX4_endOf_55 : decode cX4_endOf 55 = .ok (.invokevirtual 15, 3) := by decide +kernel
theorem dX4_endOf_58 : decode cX4_endOf 58 = .ok (.iload_n 3, 1) := by decide +kernel
theorem dX4_endOf_59 : decode cX4_endOf 59 = .ok (.if_icmp .eq 6, 3) := by decide +kernel
theorem dX4_endOf_62 : decode cX4_endOf 62 = .ok (.iload 5, 2) := by decide +kernel
theorem dX4_endOf_64 : decode cX4_endOf 64 = .ok (.ireturn, 1) := by decide +kernel
theorem dX4_endOf_65 : decode cX4_endOf 65 = .ok (.iinc 5 1, 3) := by decide +kernel
theorem dX4_endOf_68 : decode cX4_endOf 68 = .ok (.goto (-23), 3) := by decide +kernel
theorem dX4_endOf_71 : decode cX4_endOf 71 = .ok (.iload 4, 2) := by decide +kernel
theorem dX4_endOf_73 : decode cX4_endOf 73 = .ok (.ireturn, 1) := by decide +kernel
theorem dX4_size_0 : decode cX4_size 0 = .ok (.aload_n 0, 1) := by decide +kernel
theorem dX4_size_1 : decode cX4_size 1 = .ok (.invokestatic 31, 3) := by decide +kernel
theorem dX4_size_4 : decode cX4_size 4 = .ok (.aload_n 0, 1) := by decide +kernel
theorem dX4_size_5 : decode cX4_size 5 = .ok (.iconst 0, 1) := by decide +kernel
theorem dX4_size_6 : decode cX4_size 6 = .ok (.invokestatic 35, 3) := by decide +kernel
theorem dX4_size_9 : decode cX4_size 9 = .ok (.iadd, 1) := by decide +kernel
theorem dX4_size_10 : decode cX4_size 10 = .ok (.aload_n 0, 1) := by decide +kernel
theorem dX4_size_11 : decode cX4_size 11 = .ok (.sipush 32767, 3) := by decide +kernel
theorem dX4_size_14 : decode cX4_size 14 = .ok (.invokestatic 35, 3) := by decide +kernel
theorem dX4_size_17 : decode cX4_size 17 = .ok (.iadd, 1) := by decide +kernel
theorem dX4_size_18 : decode cX4_size 18 = .ok (.ireturn, 1) := by decide +kernel
theorem dX4_literals_0 : decode cX4_literals 0 = .ok (.iconst 0, 1) := by decide +kernel
theorem dX4_literals_1 : decode cX4_literals 1 = .ok (.istore_n 1, 1) := by decide +kernel
theorem dX4_literals_2 : decode cX4_literals 2 = .ok (.aload_n 0, 1) := by decide +kernel
theorem dX4_literals_3 : decode cX4_literals 3 = .ok (.invokevirtual 9, 3) := by decide +kernel
theorem dX4_literals_6 : decode cX4_literals 6 = .ok (.istore_n 2, 1) := by decide +kernel
theorem dX4_literals_7 : decode cX4_literals 7 = .ok (.iconst 0, 1) := by decide +kernel
theorem dX4_literals_8 : decode cX4_literals 8 = .ok (.istore_n 3, 1) := by decide +kernel
theorem dX4_literals_9 : decode cX4_literals 9 = .ok (.iload_n 3, 1) := by decide +kernel
theorem dX4_literals_10 : decode cX4_literals 10 = .ok (.iload_n 2, 1) := by decide +kernel
theorem dX4_literals_11 : decode cX4_literals 11 = .ok (.if_icmp .ge 23, 3) := by decide +kernel
theorem dX4_literals_14 : decode cX4_literals 14 = .ok (.aload_n 0, 1) := by decide +kernel
theorem dX4_literals_15 : decode cX4_literals 15 = .ok (.iload_n 3, 1) := by decide +kernel
theorem dX4_literals_16 : decode cX4_literals 16 = .ok (.invokevirtual 15, 3) := by decide +kernel
theorem dX4_literals_19 : decode cX4_literals 19 = .ok (.invokestatic 19, 3) := by decide +kernel
theorem dX4_literals_22 : decode cX4_literals 22 = .ok (.ifCond .eq 6, 3) := by decide +kernel
theorem dX4_literals_25 : decode cX4_literals 25 = .ok (.iinc 1 1, 3) := by decide +kernel
theorem dX4_literals_28 : decode cX4_literals 28 = .ok (.iinc 3 1, 3) := by decide +kernel
theorem dX4_literals_31 : decode cX4_literals 31 = .ok (.goto (-22), 3) := by decide +kernel
theorem dX4_literals_34 : decode cX4_literals 34 = .ok (.iload_n 1, 1) := by decide +kernel
theorem dX4_literals_35 : decode cX4_literals 35 = .ok (.ireturn, 1) := by decide +kernel
theorem dX4_fillsOf_0 : decode cX4_fillsOf 0 = .ok (.iconst 0, 1) := by decide +kernel
theorem dX4_fillsOf_1 : decode cX4_fillsOf 1 = .ok (.istore_n 2, 1) := by decide +kernel
theorem dX4_fillsOf_2 : decode cX4_fillsOf 2 = .ok (.iconst 0, 1) := by decide +kernel
theorem dX4_fillsOf_3 : decode cX4_fillsOf 3 = .ok (.istore_n 3, 1) := by decide +kernel
theorem dX4_fillsOf_4 : decode cX4_fillsOf 4 = .ok (.aload_n 0, 1) := by decide +kernel
theorem dX4_fillsOf_5 : decode cX4_fillsOf 5 = .ok (.invokevirtual 9, 3) := by decide +kernel
theorem dX4_fillsOf_8 : decode cX4_fillsOf 8 = .ok (.istore 4, 2) := by decide +kernel
theorem dX4_fillsOf_10 : decode cX4_fillsOf 10 = .ok (.iconst 0, 1) := by decide +kernel
theorem dX4_fillsOf_11 : decode cX4_fillsOf 11 = .ok (.istore 5, 2) := by decide +kernel
theorem dX4_fillsOf_13 : decode cX4_fillsOf 13 = .ok (.iload 5, 2) := by decide +kernel
theorem dX4_fillsOf_15 : decode cX4_fillsOf 15 = .ok (.iload 4, 2) := by decide +kernel
theorem dX4_fillsOf_17 : decode cX4_fillsOf 17 = .ok (.if_icmp .ge 40, 3) := by decide +kernel
theorem dX4_fillsOf_20 : decode cX4_fillsOf 20 = .ok (.iload 5, 2) := by decide +kernel
theorem dX4_fillsOf_22 : decode cX4_fillsOf 22 = .ok (.iload_n 3, 1) := by decide +kernel
theorem dX4_fillsOf_23 : decode cX4_fillsOf 23 = .ok (.if_icmp .ne 28, 3) := by decide +kernel
theorem dX4_fillsOf_26 : decode cX4_fillsOf 26 = .ok (.aload_n 0, 1) := by decide +kernel
theorem dX4_fillsOf_27 : decode cX4_fillsOf 27 = .ok (.iload 5, 2) := by decide +kernel
theorem dX4_fillsOf_29 : decode cX4_fillsOf 29 = .ok (.invokestatic 39, 3) := by decide +kernel
theorem dX4_fillsOf_32 : decode cX4_fillsOf 32 = .ok (.istore_n 3, 1) := by decide +kernel
theorem dX4_fillsOf_33 : decode cX4_fillsOf 33 = .ok (.iload_n 2, 1) := by decide +kernel
theorem dX4_fillsOf_34 : decode cX4_fillsOf 34 = .ok (.aload_n 0, 1) := by decide +kernel
theorem dX4_fillsOf_35 : decode cX4_fillsOf 35 = .ok (.iload 5, 2) := by decide +kernel
theorem dX4_fillsOf_37 : decode cX4_fillsOf 37 = .ok (.invokevirtual 15, 3) := by decide +kernel
theorem dX4_fillsOf_40 : decode cX4_fillsOf 40 = .ok (.iload_n 1, 1) := by decide +kernel
theorem dX4_fillsOf_41 : decode cX4_fillsOf 41 = .ok (.if_icmp .ne 7, 3) := by decide +kernel
theorem dX4_fillsOf_44 : decode cX4_fillsOf 44 = .ok (.iconst 1, 1) := by decide +kernel
theorem dX4_fillsOf_45 : decode cX4_fillsOf 45 = .ok (.goto 4, 3) := by decide +kernel
theorem dX4_fillsOf_48 : decode cX4_fillsOf 48 = .ok (.iconst 0, 1) := by decide +kernel
theorem dX4_fillsOf_49 : decode cX4_fillsOf 49 = .ok (.iadd, 1) := by decide +kernel
theorem dX4_fillsOf_50 : decode cX4_fillsOf 50 = .ok (.istore_n 2, 1) := by decide +kernel
theorem dX4_fillsOf_51 : decode cX4_fillsOf 51 = .ok (.iinc 5 1, 3) := by decide +kernel
theorem dX4_fillsOf_54 : decode cX4_fillsOf 54 = .ok (.goto (-41), 3) := by decide +kernel
theorem dX4_fillsOf_57 : decode cX4_fillsOf 57 = .ok (.iload_n 2, 1) := by decide +kernel
theorem dX4_fillsOf_58 : decode cX4_fillsOf 58 = .ok (.ireturn, 1) := by decide +kernel
theorem dX4_codeOf_0 : decode cX4_codeOf 0 = .ok (.iload_n 1, 1) := by decide +kernel
theorem dX4_codeOf_1 : decode cX4_codeOf 1 = .ok (.istore_n 2, 1) := by decide +kernel
theorem dX4_codeOf_2 : decode cX4_codeOf 2 = .ok (.iconst 0, 1) := by decide +kernel
theorem dX4_codeOf_3 : decode cX4_codeOf 3 = .ok (.istore_n 3, 1) := by decide +kernel
theorem dX4_codeOf_4 : decode cX4_codeOf 4 = .ok (.aload_n 0, 1) := by decide +kernel
theorem dX4_codeOf_5 : decode cX4_codeOf 5 = .ok (.invokevirtual 9, 3) := by decide +kernel
theorem dX4_codeOf_8 : decode cX4_codeOf 8 = .ok (.istore 4, 2) := by decide +kernel
theorem dX4_codeOf_10 : decode cX4_codeOf 10 = .ok (.iconst 0, 1) := by decide +kernel
theorem dX4_codeOf_11 : decode cX4_codeOf 11 = .ok (.istore 5, 2) := by decide +kernel
theorem dX4_codeOf_13 : decode cX4_codeOf 13 = .ok (.iload 5, 2) := by decide +kernel
theorem dX4_codeOf_15 : decode cX4_codeOf 15 = .ok (.iload 4, 2) := by decide +kernel
theorem dX4_codeOf_17 : decode cX4_codeOf 17 = .ok (.if_icmp .ge 43, 3) := by decide +kernel
theorem dX4_codeOf_20 : decode cX4_codeOf 20 = .ok (.iload 5, 2) := by decide +kernel
theorem dX4_codeOf_22 : decode cX4_codeOf 22 = .ok (.iload_n 3, 1) := by decide +kernel
theorem dX4_codeOf_23 : decode cX4_codeOf 23 = .ok (.if_icmp .ne 31, 3) := by decide +kernel
theorem dX4_codeOf_26 : decode cX4_codeOf 26 = .ok (.aload_n 0, 1) := by decide +kernel
theorem dX4_codeOf_27 : decode cX4_codeOf 27 = .ok (.iload 5, 2) := by decide +kernel
theorem dX4_codeOf_29 : decode cX4_codeOf 29 = .ok (.invokestatic 39, 3) := by decide +kernel
theorem dX4_codeOf_32 : decode cX4_codeOf 32 = .ok (.istore_n 3, 1) := by decide +kernel
theorem dX4_codeOf_33 : decode cX4_codeOf 33 = .ok (.iload_n 2, 1) := by decide +kernel
theorem dX4_codeOf_34 : decode cX4_codeOf 34 = .ok (.ifCond .ne 17, 3) := by decide +kernel
theorem dX4_codeOf_37 : decode cX4_codeOf 37 = .ok (.aload_n 0, 1) := by decide +kernel
theorem dX4_codeOf_38 : decode cX4_codeOf 38 = .ok (.iload 5, 2) := by decide +kernel
theorem dX4_codeOf_40 : decode cX4_codeOf 40 = .ok (.invokevirtual 15, 3) := by decide +kernel
theorem dX4_codeOf_43 : decode cX4_codeOf 43 = .ok (.iload_n 3, 1) := by decide +kernel
theorem dX4_codeOf_44 : decode cX4_codeOf 44 = .ok (.iload 5, 2) := by decide +kernel
theorem dX4_codeOf_46 : decode cX4_codeOf 46 = .ok (.isub, 1) := by decide +kernel
theorem dX4_codeOf_47 : decode cX4_codeOf 47 = .ok (.invokestatic 42, 3) := by decide +kernel
theorem dX4_codeOf_50 : decode cX4_codeOf 50 = .ok (.ireturn, 1) := by decide +kernel
theorem dX4_codeOf_51 : decode cX4_codeOf 51 = .ok (.iinc 2 (-1), 3) := by decide +kernel
theorem dX4_codeOf_54 : decode cX4_codeOf 54 = .ok (.iinc 5 1, 3) := by decide +kernel
theorem dX4_codeOf_57 : decode cX4_codeOf 57 = .ok (.goto (-44), 3) := by decide +kernel
theorem dX4_codeOf_60 : decode cX4_codeOf 60 = .ok (.bipush (-9), 2) := by decide +kernel
theorem dX4_codeOf_62 : decode cX4_codeOf 62 = .ok (.ireturn, 1) := by decide +kernel
theorem dX4_code_0 : decode cX4_code 0 = .ok (.iload_n 0, 1) := by decide +kernel
theorem dX4_code_1 : decode cX4_code 1 = .ok (.invokestatic 19, 3) := by decide +kernel
theorem dX4_code_4 : decode cX4_code 4 = .ok (.ifCond .eq 5, 3) := by decide +kernel
theorem dX4_code_7 : decode cX4_code 7 = .ok (.iload_n 0, 1) := by decide +kernel
theorem dX4_code_8 : decode cX4_code 8 = .ok (.ireturn, 1) := by decide +kernel
theorem dX4_code_9 : decode cX4_code 9 = .ok (.iload_n 0, 1) := by decide +kernel
theorem dX4_code_10 : decode cX4_code 10 = .ok (.ifCond .ne 8, 3) := by decide +kernel
theorem dX4_code_13 : decode cX4_code 13 = .ok (.ldc 45, 2) := by decide +kernel
theorem dX4_code_15 : decode cX4_code 15 = .ok (.goto 5, 3) := by decide +kernel
theorem dX4_code_18 : decode cX4_code 18 = .ok (.ldc 46, 2) := by decide +kernel
theorem dX4_code_20 : decode cX4_code 20 = .ok (.iload_n 1, 1) := by decide +kernel
theorem dX4_code_21 : decode cX4_code 21 = .ok (.iadd, 1) := by decide +kernel
theorem dX4_code_22 : decode cX4_code 22 = .ok (.ireturn, 1) := by decide +kernel
theorem dX4_work_0 : decode cX4_work 0 = .ok (.iconst 0, 1) := by decide +kernel
theorem dX4_work_1 : decode cX4_work 1 = .ok (.istore_n 2, 1) := by decide +kernel
theorem dX4_work_2 : decode cX4_work 2 = .ok (.iconst 0, 1) := by decide +kernel
theorem dX4_work_3 : decode cX4_work 3 = .ok (.istore_n 3, 1) := by decide +kernel
theorem dX4_work_4 : decode cX4_work 4 = .ok (.iconst 0, 1) := by decide +kernel
theorem dX4_work_5 : decode cX4_work 5 = .ok (.istore 4, 2) := by decide +kernel
theorem dX4_work_7 : decode cX4_work 7 = .ok (.aload_n 0, 1) := by decide +kernel
theorem dX4_work_8 : decode cX4_work 8 = .ok (.invokevirtual 9, 3) := by decide +kernel
theorem dX4_work_11 : decode cX4_work 11 = .ok (.aload_n 1, 1) := by decide +kernel
theorem dX4_work_12 : decode cX4_work 12 = .ok (.invokevirtual 9, 3) := by decide +kernel
theorem dX4_work_15 : decode cX4_work 15 = .ok (.invokestatic 47, 3) := by decide +kernel
theorem dX4_work_18 : decode cX4_work 18 = .ok (.istore 5, 2) := by decide +kernel
theorem dX4_work_20 : decode cX4_work 20 = .ok (.iconst 0, 1) := by decide +kernel
theorem dX4_work_21 : decode cX4_work 21 = .ok (.istore 6, 2) := by decide +kernel
theorem dX4_work_23 : decode cX4_work 23 = .ok (.iload 6, 2) := by decide +kernel
theorem dX4_work_25 : decode cX4_work 25 = .ok (.iload 5, 2) := by decide +kernel
theorem dX4_work_27 : decode cX4_work 27 = .ok (.if_icmp .ge 53, 3) := by decide +kernel
theorem dX4_work_30 : decode cX4_work 30 = .ok (.iload 6, 2) := by decide +kernel
theorem dX4_work_32 : decode cX4_work 32 = .ok (.iload_n 3, 1) := by decide +kernel
theorem dX4_work_33 : decode cX4_work 33 = .ok (.if_icmp .eq 10, 3) := by decide +kernel
theorem dX4_work_36 : decode cX4_work 36 = .ok (.iload 6, 2) := by decide +kernel
theorem dX4_work_38 : decode cX4_work 38 = .ok (.iload 4, 2) := by decide +kernel
theorem dX4_work_40 : decode cX4_work 40 = .ok (.if_icmp .ne 6, 3) := by decide +kernel
theorem dX4_work_43 : decode cX4_work 43 = .ok (.iinc 2 1, 3) := by decide +kernel
theorem dX4_work_46 : decode cX4_work 46 = .ok (.iload 6, 2) := by decide +kernel
theorem dX4_work_48 : decode cX4_work 48 = .ok (.iload_n 3, 1) := by decide +kernel
theorem dX4_work_49 : decode cX4_work 49 = .ok (.if_icmp .ne 10, 3) := by decide +kernel
theorem dX4_work_52 : decode cX4_work 52 = .ok (.aload_n 0, 1) := by decide +kernel
theorem dX4_work_53 : decode cX4_work 53 = .ok (.iload 6, 2) := by decide +kernel
theorem dX4_work_55 : decode cX4_work 55 = .ok (.invokestatic 39, 3) := by decide +kernel
theorem dX4_work_58 : decode cX4_work 58 = .ok (.istore_n 3, 1) := by decide +kernel
theorem dX4_work_59 : decode cX4_work 59 = .ok (.iload 6, 2) := by decide +kernel
theorem dX4_work_61 : decode cX4_work 61 = .ok (.iload 4, 2) := by decide +kernel
theorem dX4_work_63 : decode cX4_work 63 = .ok (.if_icmp .ne 11, 3) := by decide +kernel
theorem dX4_work_66 : decode cX4_work 66 = .ok (.aload_n 1, 1) := by decide +kernel
theorem dX4_work_67 : decode cX4_work 67 = .ok (.iload 6, 2) := by decide +kernel
theorem dX4_work_69 : decode cX4_work 69 = .ok (.invokestatic 39, 3) := by decide +kernel
theorem dX4_work_72 : decode cX4_work 72 = .ok (.istore 4, 2) := by decide +kernel
theorem dX4_work_74 : decode cX4_work 74 = .ok (.iinc 6 1, 3) := by decide +kernel
theorem dX4_work_77 : decode cX4_work 77 = .ok (.goto (-54), 3) := by decide +kernel
theorem dX4_work_80 : decode cX4_work 80 = .ok (.iload_n 2, 1) := by decide +kernel
theorem dX4_work_81 : decode cX4_work 81 = .ok (.ireturn, 1) := by decide +kernel
theorem dX5_init_0 : decode cX5_init 0 = .ok (.aload_n 0, 1) := by decide +kernel
theorem dX5_init_1 : decode cX5_init 1 = .ok (.invokespecial 1, 3) := by decide +kernel
theorem dX5_init_4 : decode cX5_init 4 = .ok (.aload_n 0, 1) := by decide +kernel
theorem dX5_init_5 : decode cX5_init 5 = .ok (.bipush 8, 2) := by decide +kernel
theorem dX5_init_7 : decode cX5_init 7 = .ok (.anewarray 9, 3) := by decide +kernel
theorem dX5_init_10 : decode cX5_init 10 = .ok (.putfield 11, 3) := by decide +kernel
theorem dX5_init_13 : decode cX5_init 13 = .ok (.aload_n 0, 1) := by decide +kernel
theorem dX5_init_14 : decode cX5_init 14 = .ok (.new 15, 3) := by decide +kernel
theorem dX5_init_17 : decode cX5_init 17 = .ok (.dup, 1) := by decide +kernel
theorem dX5_init_18 : decode cX5_init 18 = .ok (.invokespecial 17, 3) := by decide +kernel
theorem dX5_init_21 : decode cX5_init 21 = .ok (.putfield 18, 3) := by decide +kernel
theorem dX5_init_24 : decode cX5_init 24 = .ok (.aload_n 0, 1) := by decide +kernel
theorem dX5_init_25 : decode cX5_init 25 = .ok (.new 22, 3) := by decide +kernel
theorem dX5_init_28 : decode cX5_init 28 = .ok (.dup, 1) := by decide +kernel
theorem dX5_init_29 : decode cX5_init 29 = .ok (.invokespecial 24, 3) := by decide +kernel
theorem dX5_init_32 : decode cX5_init 32 = .ok (.putfield 25, 3) := by decide +kernel
theorem dX5_init_35 : decode cX5_init 35 = .ok (.aload_n 0, 1) := by decide +kernel
theorem dX5_init_36 : decode cX5_init 36 = .ok (.new 9, 3) := by decide +kernel
theorem dX5_init_39 : decode cX5_init 39 = .ok (.dup, 1) := by decide +kernel
theorem dX5_init_40 : decode cX5_init 40 = .ok (.invokespecial 29, 3) := by decide +kernel
theorem dX5_init_43 : decode cX5_init 43 = .ok (.putfield 30, 3) := by decide +kernel
theorem dX5_init_46 : decode cX5_init 46 = .ok (.iconst 0, 1) := by decide +kernel
theorem dX5_init_47 : decode cX5_init 47 = .ok (.istore_n 1, 1) := by decide +kernel
theorem dX5_init_48 : decode cX5_init 48 = .ok (.iload_n 1, 1) := by decide +kernel
theorem dX5_init_49 : decode cX5_init 49 = .ok (.aload_n 0, 1) := by decide +kernel
theorem dX5_init_50 : decode cX5_init 50 = .ok (.getfield 11, 3) := by decide +kernel
theorem dX5_init_53 : decode cX5_init 53 = .ok (.arraylength, 1) := by decide +kernel
theorem dX5_init_54 : decode cX5_init 54 = .ok (.if_icmp .ge 22, 3) := by decide +kernel
theorem dX5_init_57 : decode cX5_init 57 = .ok (.aload_n 0, 1) := by decide +kernel
theorem dX5_init_58 : decode cX5_init 58 = .ok (.getfield 11, 3) := by decide +kernel
theorem dX5_init_61 : decode cX5_init 61 = .ok (.iload_n 1, 1) := by decide +kernel
theorem dX5_init_62 : decode cX5_init 62 = .ok (.new 9, 3) := by decide +kernel
theorem dX5_init_65 : decode cX5_init 65 = .ok (.dup, 1) := by decide +kernel
theorem dX5_init_66 : decode cX5_init 66 = .ok (.invokespecial 29, 3) := by decide +kernel
theorem dX5_init_69 : decode cX5_init 69 = .ok (.aastore, 1) := by decide +kernel
theorem dX5_init_70 : decode cX5_init 70 = .ok (.iinc 1 1, 3) := by decide +kernel
theorem dX5_init_73 : decode cX5_init 73 = .ok (.goto (-25), 3) := by decide +kernel
theorem dX5_init_76 : decode cX5_init 76 = .ok (.return_, 1) := by decide +kernel
theorem dX5_make_0 : decode cX5_make 0 = .ok (.aload_n 0, 1) := by decide +kernel
theorem dX5_make_1 : decode cX5_make 1 = .ok (.getfield 34, 3) := by decide +kernel
theorem dX5_make_4 : decode cX5_make 4 = .ok (.bipush 8, 2) := by decide +kernel
theorem dX5_make_6 : decode cX5_make 6 = .ok (.if_icmp .lt 6, 3) := by decide +kernel
theorem dX5_make_9 : decode cX5_make 9 = .ok (.bipush (-3), 2) := by decide +kernel
theorem dX5_make_11 : decode cX5_make 11 = .ok (.ireturn, 1) := by decide +kernel
theorem dX5_make_12 : decode cX5_make 12 = .ok (.aload_n 0, 1) := by decide +kernel
theorem dX5_make_13 : decode cX5_make 13 = .ok (.getfield 34, 3) := by decide +kernel
theorem dX5_make_16 : decode cX5_make 16 = .ok (.istore_n 1, 1) := by decide +kernel
theorem dX5_make_17 : decode cX5_make 17 = .ok (.aload_n 0, 1) := by decide +kernel
theorem dX5_make_18 : decode cX5_make 18 = .ok (.iload_n 1, 1) := by decide +kernel
theorem dX5_make_19 : decode cX5_make 19 = .ok (.invokevirtual 38, 3) := by decide +kernel
theorem dX5_make_22 : decode cX5_make 22 = .ok (.aload_n 0, 1) := by decide +kernel
theorem dX5_make_23 : decode cX5_make 23 = .ok (.getfield 11, 3) := by decide +kernel
theorem dX5_make_26 : decode cX5_make 26 = .ok (.iload_n 1, 1) := by decide +kernel
theorem dX5_make_27 : decode cX5_make 27 = .ok (.aaload, 1) := by decide +kernel
theorem dX5_make_28 : decode cX5_make 28 = .ok (.iconst 0, 1) := by decide +kernel
theorem dX5_make_29 : decode cX5_make 29 = .ok (.invokevirtual 42, 3) := by decide +kernel
theorem dX5_make_32 : decode cX5_make 32 = .ok (.aload_n 0, 1) := by decide +kernel
theorem dX5_make_33 : decode cX5_make 33 = .ok (.dup, 1) := by decide +kernel
theorem dX5_make_34 : decode cX5_make 34 = .ok (.getfield 34, 3) := by decide +kernel
theorem dX5_make_37 : decode cX5_make 37 = .ok (.iconst 1, 1) := by decide +kernel
theorem dX5_make_38 : decode cX5_make 38 = .ok (.iadd, 1) := by decide +kernel
theorem dX5_make_39 : decode cX5_make 39 = .ok (.putfield 34, 3) := by decide +kernel
theorem dX5_make_42 : decode cX5_make 42 = .ok (.iload_n 1, 1) := by decide +kernel
theorem dX5_make_43 : decode cX5_make 43 = .ok (.ireturn, 1) := by decide +kernel
theorem dX5_append_0 : decode cX5_append 0 = .ok (.aload_n 0, 1) := by decide +kernel
theorem dX5_append_1 : decode cX5_append 1 = .ok (.iload_n 1, 1) := by decide +kernel
theorem dX5_append_2 : decode cX5_append 2 = .ok (.invokevirtual 45, 3) := by decide +kernel
theorem dX5_append_5 : decode cX5_append 5 = .ok (.ifCond .eq 21, 3) := by decide +kernel
theorem dX5_append_8 : decode cX5_append 8 = .ok (.iload_n 2, 1) := by decide +kernel
theorem dX5_append_9 : decode cX5_append 9 = .ok (.invokestatic 49, 3) := by decide +kernel
theorem dX5_append_12 : decode cX5_append 12 = .ok (.ifCond .eq 14, 3) := by decide +kernel
theorem dX5_append_15 : decode cX5_append 15 = .ok (.iload_n 3, 1) := by decide +kernel
theorem dX5_append_16 : decode cX5_append 16 = .ok (.iconst 1, 1) := by decide +kernel
theorem dX5_append_17 : decode cX5_append 17 = .ok (.sipush 600, 3) := by decide +kernel
theorem dX5_append_20 : decode cX5_append 20 = .ok (.invokestatic 52, 3) := by decide +kernel
theorem dX5_append_23 : decode cX5_append 23 = .ok (.ifCond .ne 5, 3) := by decide +kernel
theorem dX5_append_26 : decode cX5_append 26 = .ok (.iconst (-1), 1) := by decide +kernel
theorem dX5_append_27 : decode cX5_append 27 = .ok (.ireturn, 1) := by decide +kernel
theorem dX5_append_28 : decode cX5_append 28 = .ok (.aload_n 0, 1) := by decide +kernel
theorem dX5_append_29 : decode cX5_append 29 = .ok (.getfield 11, 3) := by decide +kernel
theorem dX5_append_32 : decode cX5_append 32 = .ok (.iload_n 1, 1) := by decide +kernel
theorem dX5_append_33 : decode cX5_append 33 = .ok (.aaload, 1) := by decide +kernel
theorem dX5_append_34 : decode cX5_append 34 = .ok (.getfield 56, 3) := by decide +kernel
theorem dX5_append_37 : decode cX5_append 37 = .ok (.iload_n 3, 1) := by decide +kernel
theorem dX5_append_38 : decode cX5_append 38 = .ok (.iadd, 1) := by decide +kernel
theorem dX5_append_39 : decode cX5_append 39 = .ok (.sipush 600, 3) := by decide +kernel
theorem dX5_append_42 : decode cX5_append 42 = .ok (.if_icmp .le 6, 3) := by decide +kernel
theorem dX5_append_45 : decode cX5_append 45 = .ok (.bipush (-3), 2) := by decide +kernel
theorem dX5_append_47 : decode cX5_append 47 = .ok (.ireturn, 1) := by decide +kernel
theorem dX5_append_48 : decode cX5_append 48 = .ok (.aload_n 0, 1) := by decide +kernel
theorem dX5_append_49 : decode cX5_append 49 = .ok (.iload_n 1, 1) := by decide +kernel
theorem dX5_append_50 : decode cX5_append 50 = .ok (.invokevirtual 38, 3) := by decide +kernel
theorem dX5_append_53 : decode cX5_append 53 = .ok (.aload_n 0, 1) := by decide +kernel
theorem dX5_append_54 : decode cX5_append 54 = .ok (.getfield 11, 3) := by decide +kernel
theorem dX5_append_57 : decode cX5_append 57 = .ok (.iload_n 1, 1) := by decide +kernel
theorem dX5_append_58 : decode cX5_append 58 = .ok (.aaload, 1) := by decide +kernel
theorem dX5_append_59 : decode cX5_append 59 = .ok (.iload_n 2, 1) := by decide +kernel
theorem dX5_append_60 : decode cX5_append 60 = .ok (.iload_n 3, 1) := by decide +kernel
theorem dX5_append_61 : decode cX5_append 61 = .ok (.invokevirtual 59, 3) := by decide +kernel
theorem dX5_append_64 : decode cX5_append 64 = .ok (.aload_n 0, 1) := by decide +kernel
theorem dX5_append_65 : decode cX5_append 65 = .ok (.getfield 11, 3) := by decide +kernel
theorem dX5_append_68 : decode cX5_append 68 = .ok (.iload_n 1, 1) := by decide +kernel
theorem dX5_append_69 : decode cX5_append 69 = .ok (.aaload, 1) := by decide +kernel
theorem dX5_append_70 : decode cX5_append 70 = .ok (.getfield 56, 3) := by decide +kernel
theorem dX5_append_73 : decode cX5_append 73 = .ok (.ireturn, 1) := by decide +kernel
theorem dX5_write_0 : decode cX5_write 0 = .ok (.aload_n 0, 1) := by decide +kernel
theorem dX5_write_1 : decode cX5_write 1 = .ok (.iload_n 1, 1) := by decide +kernel
theorem dX5_write_2 : decode cX5_write 2 = .ok (.invokevirtual 45, 3) := by decide +kernel
theorem dX5_write_5 : decode cX5_write 5 = .ok (.ifCond .eq 23, 3) := by decide +kernel
theorem dX5_write_8 : decode cX5_write 8 = .ok (.iload_n 2, 1) := by decide +kernel
theorem dX5_write_9 : decode cX5_write 9 = .ok (.iconst 0, 1) := by decide +kernel
theorem dX5_write_10 : decode cX5_write 10 = .ok (.ldc 63, 2) := by decide +kernel
theorem dX5_write_12 : decode cX5_write 12 = .ok (.invokestatic 52, 3) := by decide +kernel
theorem dX5_write_15 : decode cX5_write 15 = .ok (.ifCond .eq 13, 3) := by decide +kernel
theorem dX5_write_18 : decode cX5_write 18 = .ok (.iload_n 3, 1) := by decide +kernel
theorem dX5_write_19 : decode cX5_write 19 = .ok (.iconst 1, 1) := by decide +kernel
theorem dX5_write_20 : decode cX5_write 20 = .ok (.bipush 16, 2) := by decide +kernel
theorem dX5_write_22 : decode cX5_write 22 = .ok (.invokestatic 52, 3) := by decide +kernel
theorem dX5_write_25 : decode cX5_write 25 = .ok (.ifCond .ne 5, 3) := by decide +kernel
theorem dX5_write_28 : decode cX5_write 28 = .ok (.iconst (-1), 1) := by decide +kernel
theorem dX5_write_29 : decode cX5_write 29 = .ok (.ireturn, 1) := by decide +kernel
theorem dX5_write_30 : decode cX5_write 30 = .ok (.aload_n 0, 1) := by decide +kernel
theorem dX5_write_31 : decode cX5_write 31 = .ok (.getfield 11, 3) := by decide +kernel
theorem dX5_write_34 : decode cX5_write 34 = .ok (.iload_n 1, 1) := by decide +kernel
theorem dX5_write_35 : decode cX5_write 35 = .ok (.aaload, 1) := by decide +kernel
theorem dX5_write_36 : decode cX5_write 36 = .ok (.getfield 56, 3) := by decide +kernel
theorem dX5_write_39 : decode cX5_write 39 = .ok (.iload_n 3, 1) := by decide +kernel
theorem dX5_write_40 : decode cX5_write 40 = .ok (.iadd, 1) := by decide +kernel
theorem dX5_write_41 : decode cX5_write 41 = .ok (.sipush 600, 3) := by decide +kernel
theorem dX5_write_44 : decode cX5_write 44 = .ok (.if_icmp .le 6, 3) := by decide +kernel
theorem dX5_write_47 : decode cX5_write 47 = .ok (.bipush (-3), 2) := by decide +kernel
theorem dX5_write_49 : decode cX5_write 49 = .ok (.ireturn, 1) := by decide +kernel
theorem dX5_write_50 : decode cX5_write 50 = .ok (.aload_n 0, 1) := by decide +kernel
theorem dX5_write_51 : decode cX5_write 51 = .ok (.iload_n 1, 1) := by decide +kernel
theorem dX5_write_52 : decode cX5_write 52 = .ok (.invokevirtual 38, 3) := by decide +kernel
theorem dX5_write_55 : decode cX5_write 55 = .ok (.aload_n 0, 1) := by decide +kernel
theorem dX5_write_56 : decode cX5_write 56 = .ok (.getfield 11, 3) := by decide +kernel
theorem dX5_write_59 : decode cX5_write 59 = .ok (.iload_n 1, 1) := by decide +kernel
theorem dX5_write_60 : decode cX5_write 60 = .ok (.aaload, 1) := by decide +kernel
theorem dX5_write_61 : decode cX5_write 61 = .ok (.iload_n 2, 1) := by decide +kernel
theorem dX5_write_62 : decode cX5_write 62 = .ok (.iload_n 3, 1) := by decide +kernel
theorem dX5_write_63 : decode cX5_write 63 = .ok (.invokevirtual 64, 3) := by decide +kernel
theorem dX5_write_66 : decode cX5_write 66 = .ok (.aload_n 0, 1) := by decide +kernel
theorem dX5_write_67 : decode cX5_write 67 = .ok (.getfield 11, 3) := by decide +kernel
theorem dX5_write_70 : decode cX5_write 70 = .ok (.iload_n 1, 1) := by decide +kernel
theorem dX5_write_71 : decode cX5_write 71 = .ok (.aaload, 1) := by decide +kernel
theorem dX5_write_72 : decode cX5_write 72 = .ok (.invokestatic 67, 3) := by decide +kernel
theorem dX5_write_75 : decode cX5_write 75 = .ok (.ireturn, 1) := by decide +kernel
theorem dX5_set_0 : decode cX5_set 0 = .ok (.aload_n 0, 1) := by decide +kernel
theorem dX5_set_1 : decode cX5_set 1 = .ok (.iload_n 1, 1) := by decide +kernel
theorem dX5_set_2 : decode cX5_set 2 = .ok (.invokevirtual 45, 3) := by decide +kernel
theorem dX5_set_5 : decode cX5_set 5 = .ok (.ifCond .eq 19, 3) := by decide +kernel
theorem dX5_set_8 : decode cX5_set 8 = .ok (.aload_n 0, 1) := by decide +kernel
theorem dX5_set_9 : decode cX5_set 9 = .ok (.iload_n 1, 1) := by decide +kernel
theorem dX5_set_10 : decode cX5_set 10 = .ok (.iload_n 2, 1) := by decide +kernel
theorem dX5_set_11 : decode cX5_set 11 = .ok (.invokevirtual 73, 3) := by decide +kernel
theorem dX5_set_14 : decode cX5_set 14 = .ok (.ifCond .eq 10, 3) := by decide +kernel
theorem dX5_set_17 : decode cX5_set 17 = .ok (.iload_n 3, 1) := by decide +kernel
theorem dX5_set_18 : decode cX5_set 18 = .ok (.invokestatic 49, 3) := by decide +kernel
theorem dX5_set_21 : decode cX5_set 21 = .ok (.ifCond .ne 5, 3) := by decide +kernel
theorem dX5_set_24 : decode cX5_set 24 = .ok (.iconst (-1), 1) := by decide +kernel
theorem dX5_set_25 : decode cX5_set 25 = .ok (.ireturn, 1) := by decide +kernel
theorem dX5_set_26 : decode cX5_set 26 = .ok (.aload_n 0, 1) := by decide +kernel
theorem dX5_set_27 : decode cX5_set 27 = .ok (.iload_n 1, 1) := by decide +kernel
theorem dX5_set_28 : decode cX5_set 28 = .ok (.invokevirtual 38, 3) := by decide +kernel
theorem dX5_set_31 : decode cX5_set 31 = .ok (.aload_n 0, 1) := by decide +kernel
theorem dX5_set_32 : decode cX5_set 32 = .ok (.getfield 11, 3) := by decide +kernel
theorem dX5_set_35 : decode cX5_set 35 = .ok (.iload_n 1, 1) := by decide +kernel
theorem dX5_set_36 : decode cX5_set 36 = .ok (.aaload, 1) := by decide +kernel
theorem dX5_set_37 : decode cX5_set 37 = .ok (.iload_n 2, 1) := by decide +kernel
theorem dX5_set_38 : decode cX5_set 38 = .ok (.invokevirtual 77, 3) := by decide +kernel
theorem dX5_set_41 : decode cX5_set 41 = .ok (.istore 4, 2) := by decide +kernel
theorem dX5_set_43 : decode cX5_set 43 = .ok (.aload_n 0, 1) := by decide +kernel
theorem dX5_set_44 : decode cX5_set 44 = .ok (.getfield 11, 3) := by decide +kernel
theorem dX5_set_47 : decode cX5_set 47 = .ok (.iload_n 1, 1) := by decide +kernel
theorem dX5_set_48 : decode cX5_set 48 = .ok (.aaload, 1) := by decide +kernel
theorem dX5_set_49 : decode cX5_set 49 = .ok (.iload_n 2, 1) := by decide +kernel
theorem dX5_set_50 : decode cX5_set 50 = .ok (.iload_n 3, 1) := by decide +kernel
theorem dX5_set_51 : decode cX5_set 51 = .ok (.invokevirtual 81, 3) := by decide +kernel
theorem dX5_set_54 : decode cX5_set 54 = .ok (.iload 4, 2) := by decide +kernel
theorem dX5_set_56 : decode cX5_set 56 = .ok (.ireturn, 1) := by decide +kernel
theorem dX5_resize_0 : decode cX5_resize 0 = .ok (.aload_n 0, 1) := by decide +kernel
theorem dX5_resize_1 : decode cX5_resize 1 = .ok (.iload_n 1, 1) := by decide +kernel
theorem dX5_resize_2 : decode cX5_resize 2 = .ok (.invokevirtual 45, 3) := by decide +kernel
theorem dX5_resize_5 : decode cX5_resize 5 = .ok (.ifCond .eq 14, 3) := by decide +kernel
theorem dX5_resize_8 : decode cX5_resize 8 = .ok (.iload_n 2, 1) := by decide +kernel
theorem dX5_resize_9 : decode cX5_resize 9 = .ok (.iconst 0, 1) := by decide +kernel
theorem dX5_resize_10 : decode cX5_resize 10 = .ok (.sipush 600, 3) := by decide +kernel
theorem dX5_resize_13 : decode cX5_resize 13 = .ok (.invokestatic 52, 3) := by decide +kernel
theorem dX5_resize_16 : decode cX5_resize 16 = .ok (.ifCond .ne 5, 3) := by decide +kernel
theorem dX5_resize_19 : decode cX5_resize 19 = .ok (.iconst (-1), 1) := by decide +kernel
theorem dX5_resize_20 : decode cX5_resize 20 = .ok (.ireturn, 1) := by decide +kernel
theorem dX5_resize_21 : decode cX5_resize 21 = .ok (.aload_n 0, 1) := by decide +kernel
theorem dX5_resize_22 : decode cX5_resize 22 = .ok (.iload_n 1, 1) := by decide +kernel
theorem dX5_resize_23 : decode cX5_resize 23 = .ok (.invokevirtual 38, 3) := by decide +kernel
theorem dX5_resize_26 : decode cX5_resize 26 = .ok (.aload_n 0, 1) := by decide +kernel
theorem dX5_resize_27 : decode cX5_resize 27 = .ok (.getfield 11, 3) := by decide +kernel
theorem dX5_resize_30 : decode cX5_resize 30 = .ok (.iload_n 1, 1) := by decide +kernel
theorem dX5_resize_31 : decode cX5_resize 31 = .ok (.aaload, 1) := by decide +kernel
theorem dX5_resize_32 : decode cX5_resize 32 = .ok (.getfield 56, 3) := by decide +kernel
theorem dX5_resize_35 : decode cX5_resize 35 = .ok (.istore_n 3, 1) := by decide +kernel
theorem dX5_resize_36 : decode cX5_resize 36 = .ok (.aload_n 0, 1) := by decide +kernel
theorem dX5_resize_37 : decode cX5_resize 37 = .ok (.getfield 11, 3) := by decide +kernel
theorem dX5_resize_40 : decode cX5_resize 40 = .ok (.iload_n 1, 1) := by decide +kernel
theorem dX5_resize_41 : decode cX5_resize 41 = .ok (.aaload, 1) := by decide +kernel
theorem dX5_resize_42 : decode cX5_resize 42 = .ok (.iload_n 2, 1) := by decide +kernel
theorem dX5_resize_43 : decode cX5_resize 43 = .ok (.invokevirtual 42, 3) := by decide +kernel
theorem dX5_resize_46 : decode cX5_resize 46 = .ok (.iload_n 3, 1) := by decide +kernel
theorem dX5_resize_47 : decode cX5_resize 47 = .ok (.ireturn, 1) := by decide +kernel
theorem dX5_operate_0 : decode cX5_operate 0 = .ok (.aload_n 0, 1) := by decide +kernel
theorem dX5_operate_1 : decode cX5_operate 1 = .ok (.iload_n 1, 1) := by decide +kernel
theorem dX5_operate_2 : decode cX5_operate 2 = .ok (.invokevirtual 45, 3) := by decide +kernel
theorem dX5_operate_5 : decode cX5_operate 5 = .ok (.ifCond .eq 27, 3) := by decide +kernel
theorem dX5_operate_8 : decode cX5_operate 8 = .ok (.iload_n 2, 1) := by decide +kernel
theorem dX5_operate_9 : decode cX5_operate 9 = .ok (.invokestatic 84, 3) := by decide +kernel
theorem dX5_operate_12 : decode cX5_operate 12 = .ok (.ifCond .eq 20, 3) := by decide +kernel
theorem dX5_operate_15 : decode cX5_operate 15 = .ok (.aload_n 0, 1) := by decide +kernel
theorem dX5_operate_16 : decode cX5_operate 16 = .ok (.iload_n 3, 1) := by decide +kernel
theorem dX5_operate_17 : decode cX5_operate 17 = .ok (.invokevirtual 45, 3) := by decide +kernel
theorem dX5_operate_20 : decode cX5_operate 20 = .ok (.ifCond .eq 12, 3) := by decide +kernel
theorem dX5_operate_23 : decode cX5_operate 23 = .ok (.aload_n 0, 1) := by decide +kernel
theorem dX5_operate_24 : decode cX5_operate 24 = .ok (.iload 4, 2) := by decide +kernel
theorem dX5_operate_26 : decode cX5_operate 26 = .ok (.invokevirtual 45, 3) := by decide +kernel
theorem dX5_operate_29 : decode cX5_operate 29 = .ok (.ifCond .ne 5, 3) := by decide +kernel
theorem dX5_operate_32 : decode cX5_operate 32 = .ok (.iconst (-1), 1) := by decide +kernel
theorem dX5_operate_33 : decode cX5_operate 33 = .ok (.ireturn, 1) := by decide +kernel
theorem dX5_operate_34 : decode cX5_operate 34 = .ok (.aload_n 0, 1) := by decide +kernel
theorem dX5_operate_35 : decode cX5_operate 35 = .ok (.iload_n 1, 1) := by decide +kernel
theorem dX5_operate_36 : decode cX5_operate 36 = .ok (.invokevirtual 38, 3) := by decide +kernel
theorem dX5_operate_39 : decode cX5_operate 39 = .ok (.aload_n 0, 1) := by decide +kernel
theorem dX5_operate_40 : decode cX5_operate 40 = .ok (.getfield 11, 3) := by decide +kernel
theorem dX5_operate_43 : decode cX5_operate 43 = .ok (.iload_n 3, 1) := by decide +kernel
theorem dX5_operate_44 : decode cX5_operate 44 = .ok (.aaload, 1) := by decide +kernel
theorem dX5_operate_45 : decode cX5_operate 45 = .ok (.aload_n 0, 1) := by decide +kernel
theorem dX5_operate_46 : decode cX5_operate 46 = .ok (.getfield 11, 3) := by decide +kernel
theorem dX5_operate_49 : decode cX5_operate 49 = .ok (.iload 4, 2) := by decide +kernel
theorem dX5_operate_51 : decode cX5_operate 51 = .ok (.aaload, 1) := by decide +kernel
theorem dX5_operate_52 : decode cX5_operate 52 = .ok (.invokestatic 87, 3) := by decide +kernel
theorem dX5_operate_55 : decode cX5_operate 55 = .ok (.istore 5, 2) := by decide +kernel
theorem dX5_operate_57 : decode cX5_operate 57 = .ok (.aload_n 0, 1) := by decide +kernel
theorem dX5_operate_58 : decode cX5_operate 58 = .ok (.getfield 11, 3) := by decide +kernel
theorem dX5_operate_61 : decode cX5_operate 61 = .ok (.iload_n 1, 1) := by decide +kernel
theorem dX5_operate_62 : decode cX5_operate 62 = .ok (.aaload, 1) := by decide +kernel
theorem dX5_operate_63 : decode cX5_operate 63 = .ok (.iload_n 2, 1) := by decide +kernel
theorem dX5_operate_64 : decode cX5_operate 64 = .ok (.aload_n 0, 1) := by decide +kernel
theorem dX5_operate_65 : decode cX5_operate 65 = .ok (.getfield 11, 3) := by decide +kernel
theorem dX5_operate_68 : decode cX5_operate 68 = .ok (.iload_n 3, 1) := by decide +kernel
theorem dX5_operate_69 : decode cX5_operate 69 = .ok (.aaload, 1) := by decide +kernel
theorem dX5_operate_70 : decode cX5_operate 70 = .ok (.aload_n 0, 1) := by decide +kernel
theorem dX5_operate_71 : decode cX5_operate 71 = .ok (.getfield 11, 3) := by decide +kernel
theorem dX5_operate_74 : decode cX5_operate 74 = .ok (.iload 4, 2) := by decide +kernel
theorem dX5_operate_76 : decode cX5_operate 76 = .ok (.aaload, 1) := by decide +kernel
theorem dX5_operate_77 : decode cX5_operate 77 = .ok (.invokevirtual 91, 3) := by decide +kernel
theorem dX5_operate_80 : decode cX5_operate 80 = .ok (.iload 5, 2) := by decide +kernel
theorem dX5_operate_82 : decode cX5_operate 82 = .ok (.ireturn, 1) := by decide +kernel
theorem dX5_not_0 : decode cX5_not 0 = .ok (.aload_n 0, 1) := by decide +kernel
theorem dX5_not_1 : decode cX5_not 1 = .ok (.iload_n 1, 1) := by decide +kernel
theorem dX5_not_2 : decode cX5_not 2 = .ok (.invokevirtual 45, 3) := by decide +kernel
theorem dX5_not_5 : decode cX5_not 5 = .ok (.ifCond .ne 5, 3) := by decide +kernel
theorem dX5_not_8 : decode cX5_not 8 = .ok (.iconst (-1), 1) := by decide +kernel
theorem dX5_not_9 : decode cX5_not 9 = .ok (.ireturn, 1) := by decide +kernel
theorem dX5_not_10 : decode cX5_not 10 = .ok (.aload_n 0, 1) := by decide +kernel
theorem dX5_not_11 : decode cX5_not 11 = .ok (.iload_n 1, 1) := by decide +kernel
theorem dX5_not_12 : decode cX5_not 12 = .ok (.invokevirtual 38, 3) := by decide +kernel
theorem dX5_not_15 : decode cX5_not 15 = .ok (.aload_n 0, 1) := by decide +kernel
theorem dX5_not_16 : decode cX5_not 16 = .ok (.getfield 11, 3) := by decide +kernel
theorem dX5_not_19 : decode cX5_not 19 = .ok (.iload_n 1, 1) := by decide +kernel
theorem dX5_not_20 : decode cX5_not 20 = .ok (.aaload, 1) := by decide +kernel
theorem dX5_not_21 : decode cX5_not 21 = .ok (.invokevirtual 95, 3) := by decide +kernel
theorem dX5_not_24 : decode cX5_not 24 = .ok (.aload_n 0, 1) := by decide +kernel
theorem dX5_not_25 : decode cX5_not 25 = .ok (.getfield 11, 3) := by decide +kernel
theorem dX5_not_28 : decode cX5_not 28 = .ok (.iload_n 1, 1) := by decide +kernel
theorem dX5_not_29 : decode cX5_not 29 = .ok (.aaload, 1) := by decide +kernel
theorem dX5_not_30 : decode cX5_not 30 = .ok (.invokevirtual 98, 3) := by decide +kernel
theorem dX5_not_33 : decode cX5_not 33 = .ok (.ireturn, 1) := by decide +kernel
theorem dX5_shift_0 : decode cX5_shift 0 = .ok (.aload_n 0, 1) := by decide +kernel
theorem dX5_shift_1 : decode cX5_shift 1 = .ok (.iload_n 1, 1) := by decide +kernel
theorem dX5_shift_2 : decode cX5_shift 2 = .ok (.invokevirtual 45, 3) := by decide +kernel
theorem dX5_shift_5 : decode cX5_shift 5 = .ok (.ifCond .eq 16, 3) := by decide +kernel
theorem dX5_shift_8 : decode cX5_shift 8 = .ok (.iload_n 2, 1) := by decide +kernel
theorem dX5_shift_9 : decode cX5_shift 9 = .ok (.sipush (-600), 3) := by decide +kernel
theorem dX5_shift_12 : decode cX5_shift 12 = .ok (.sipush 600, 3) := by decide +kernel
theorem dX5_shift_15 : decode cX5_shift 15 = .ok (.invokestatic 52, 3) := by decide +kernel
theorem dX5_shift_18 : decode cX5_shift 18 = .ok (.ifCond .ne 5, 3) := by decide +kernel
theorem dX5_shift_21 : decode cX5_shift 21 = .ok (.iconst (-1), 1) := by decide +kernel
theorem dX5_shift_22 : decode cX5_shift 22 = .ok (.ireturn, 1) := by decide +kernel
theorem dX5_shift_23 : decode cX5_shift 23 = .ok (.aload_n 0, 1) := by decide +kernel
theorem dX5_shift_24 : decode cX5_shift 24 = .ok (.iload_n 1, 1) := by decide +kernel
theorem dX5_shift_25 : decode cX5_shift 25 = .ok (.invokevirtual 38, 3) := by decide +kernel
theorem dX5_shift_28 : decode cX5_shift 28 = .ok (.aload_n 0, 1) := by decide +kernel
theorem dX5_shift_29 : decode cX5_shift 29 = .ok (.getfield 30, 3) := by decide +kernel
theorem dX5_shift_32 : decode cX5_shift 32 = .ok (.aload_n 0, 1) := by decide +kernel
theorem dX5_shift_33 : decode cX5_shift 33 = .ok (.getfield 11, 3) := by decide +kernel
theorem dX5_shift_36 : decode cX5_shift 36 = .ok (.iload_n 1, 1) := by decide +kernel
theorem dX5_shift_37 : decode cX5_shift 37 = .ok (.aaload, 1) := by decide +kernel
theorem dX5_shift_38 : decode cX5_shift 38 = .ok (.iload_n 2, 1) := by decide +kernel
theorem dX5_shift_39 : decode cX5_shift 39 = .ok (.invokevirtual 102, 3) := by decide +kernel
theorem dX5_shift_42 : decode cX5_shift 42 = .ok (.aload_n 0, 1) := by decide +kernel
theorem dX5_shift_43 : decode cX5_shift 43 = .ok (.getfield 11, 3) := by decide +kernel
theorem dX5_shift_46 : decode cX5_shift 46 = .ok (.iload_n 1, 1) := by decide +kernel
theorem dX5_shift_47 : decode cX5_shift 47 = .ok (.aaload, 1) := by decide +kernel
theorem dX5_shift_48 : decode cX5_shift 48 = .ok (.aload_n 0, 1) := by decide +kernel
theorem dX5_shift_49 : decode cX5_shift 49 = .ok (.getfield 30, 3) := by decide +kernel
theorem dX5_shift_52 : decode cX5_shift 52 = .ok (.invokevirtual 106, 3) := by decide +kernel
theorem dX5_shift_55 : decode cX5_shift 55 = .ok (.aload_n 0, 1) := by decide +kernel
theorem dX5_shift_56 : decode cX5_shift 56 = .ok (.getfield 11, 3) := by decide +kernel
theorem dX5_shift_59 : decode cX5_shift 59 = .ok (.iload_n 1, 1) := by decide +kernel
theorem dX5_shift_60 : decode cX5_shift 60 = .ok (.aaload, 1) := by decide +kernel
theorem dX5_shift_61 : decode cX5_shift 61 = .ok (.getfield 56, 3) := by decide +kernel
theorem dX5_shift_64 : decode cX5_shift 64 = .ok (.ireturn, 1) := by decide +kernel
end
section
theorem dX5_undo_0 : decode cX5_undo 0 = .ok (.aload_n 0, 1) := by decide +kernel
theorem dX5_undo_1 : decode cX5_undo 1 = .ok (.getfield 18, 3) := by decide +kernel
theorem dX5_undo_4 : decode cX5_undo 4 = .ok (.getfield 110, 3) := by decide +kernel
theorem dX5_undo_7 : decode cX5_undo 7 = .ok (.ifCond .ne 6, 3) := by decide +kernel
theorem dX5_undo_10 : decode cX5_undo 10 = .ok (.bipush (-2), 2) := by decide +kernel
theorem dX5_undo_12 : decode cX5_undo 12 = .ok (.ireturn, 1) := by decide +kernel
theorem dX5_undo_13 : decode cX5_undo 13 = .ok (.aload_n 0, 1) := by decide +kernel
theorem dX5_undo_14 : decode cX5_undo 14 = .ok (.getfield 18, 3) := by decide +kernel
theorem dX5_undo_17 : decode cX5_undo 17 = .ok (.invokevirtual 113, 3) := by decide +kernel
theorem dX5_undo_20 : decode cX5_undo 20 = .ok (.astore_n 1, 1) := by decide +kernel
theorem dX5_undo_21 : decode cX5_undo 21 = .ok (.aload_n 0, 1) := by decide +kernel
theorem dX5_undo_22 : decode cX5_undo 22 = .ok (.aload_n 1, 1) := by decide +kernel
theorem dX5_undo_23 : decode cX5_undo 23 = .ok (.getfield 117, 3) := by decide +kernel
theorem dX5_undo_26 : decode cX5_undo 26 = .ok (.putfield 34, 3) := by decide +kernel
theorem dX5_undo_29 : decode cX5_undo 29 = .ok (.aload_n 0, 1) := by decide +kernel
theorem dX5_undo_30 : decode cX5_undo 30 = .ok (.getfield 11, 3) := by decide +kernel
theorem dX5_undo_33 : decode cX5_undo 33 = .ok (.aload_n 1, 1) := by decide +kernel
theorem dX5_undo_34 : decode cX5_undo 34 = .ok (.getfield 120, 3) := by decide +kernel
theorem dX5_undo_37 : decode cX5_undo 37 = .ok (.aaload, 1) := by decide +kernel
theorem dX5_undo_38 : decode cX5_undo 38 = .ok (.aload_n 1, 1) := by decide +kernel
theorem dX5_undo_39 : decode cX5_undo 39 = .ok (.getfield 123, 3) := by decide +kernel
theorem dX5_undo_42 : decode cX5_undo 42 = .ok (.invokevirtual 106, 3) := by decide +kernel
theorem dX5_undo_45 : decode cX5_undo 45 = .ok (.aload_n 0, 1) := by decide +kernel
theorem dX5_undo_46 : decode cX5_undo 46 = .ok (.getfield 18, 3) := by decide +kernel
theorem dX5_undo_49 : decode cX5_undo 49 = .ok (.getfield 110, 3) := by decide +kernel
theorem dX5_undo_52 : decode cX5_undo 52 = .ok (.ireturn, 1) := by decide +kernel
theorem dX5_type_0 : decode cX5_type 0 = .ok (.iload_n 1, 1) := by decide +kernel
theorem dX5_type_1 : decode cX5_type 1 = .ok (.iconst 1, 1) := by decide +kernel
theorem dX5_type_2 : decode cX5_type 2 = .ok (.sipush 255, 3) := by decide +kernel
theorem dX5_type_5 : decode cX5_type 5 = .ok (.invokestatic 52, 3) := by decide +kernel
theorem dX5_type_8 : decode cX5_type 8 = .ok (.ifCond .ne 5, 3) := by decide +kernel
theorem dX5_type_11 : decode cX5_type 11 = .ok (.iconst (-1), 1) := by decide +kernel
theorem dX5_type_12 : decode cX5_type 12 = .ok (.ireturn, 1) := by decide +kernel
theorem dX5_type_13 : decode cX5_type 13 = .ok (.aload_n 0, 1) := by decide +kernel
theorem dX5_type_14 : decode cX5_type 14 = .ok (.getfield 25, 3) := by decide +kernel
theorem dX5_type_17 : decode cX5_type 17 = .ok (.getfield 126, 3) := by decide +kernel
theorem dX5_type_20 : decode cX5_type 20 = .ok (.bipush 100, 2) := by decide +kernel
theorem dX5_type_22 : decode cX5_type 22 = .ok (.if_icmp .lt 6, 3) := by decide +kernel
theorem dX5_type_25 : decode cX5_type 25 = .ok (.bipush (-3), 2) := by decide +kernel
theorem dX5_type_27 : decode cX5_type 27 = .ok (.ireturn, 1) := by decide +kernel
theorem dX5_type_28 : decode cX5_type 28 = .ok (.aload_n 0, 1) := by decide +kernel
theorem dX5_type_29 : decode cX5_type 29 = .ok (.getfield 25, 3) := by decide +kernel
theorem dX5_type_32 : decode cX5_type 32 = .ok (.iload_n 1, 1) := by decide +kernel
theorem dX5_type_33 : decode cX5_type 33 = .ok (.i2c, 1) := by decide +kernel
theorem dX5_type_34 : decode cX5_type 34 = .ok (.invokevirtual 127, 3) := by decide +kernel
theorem dX5_type_37 : decode cX5_type 37 = .ok (.aload_n 0, 1) := by decide +kernel
theorem dX5_type_38 : decode cX5_type 38 = .ok (.getfield 25, 3) := by decide +kernel
theorem dX5_type_41 : decode cX5_type 41 = .ok (.getfield 126, 3) := by decide +kernel
theorem dX5_type_44 : decode cX5_type 44 = .ok (.ireturn, 1) := by decide +kernel
theorem dX5_clearText_0 : decode cX5_clearText 0 = .ok (.aload_n 0, 1) := by decide +kernel
theorem dX5_clearText_1 : decode cX5_clearText 1 = .ok (.getfield 25, 3) := by decide +kernel
theorem dX5_clearText_4 : decode cX5_clearText 4 = .ok (.getfield 126, 3) := by decide +kernel
theorem dX5_clearText_7 : decode cX5_clearText 7 = .ok (.istore_n 1, 1) := by decide +kernel
theorem dX5_clearText_8 : decode cX5_clearText 8 = .ok (.aload_n 0, 1) := by decide +kernel
theorem dX5_clearText_9 : decode cX5_clearText 9 = .ok (.getfield 25, 3) := by decide +kernel
theorem dX5_clearText_12 : decode cX5_clearText 12 = .ok (.iconst 0, 1) := by decide +kernel
theorem dX5_clearText_13 : decode cX5_clearText 13 = .ok (.putfield 126, 3) := by decide +kernel
theorem dX5_clearText_16 : decode cX5_clearText 16 = .ok (.iload_n 1, 1) := by decide +kernel
theorem dX5_clearText_17 : decode cX5_clearText 17 = .ok (.ireturn, 1) := by decide +kernel
theorem dX5_evaluate_0 : decode cX5_evaluate 0 = .ok (.aload_n 0, 1) := by decide +kernel
theorem dX5_evaluate_1 : decode cX5_evaluate 1 = .ok (.iload_n 1, 1) := by decide +kernel
theorem dX5_evaluate_2 : decode cX5_evaluate 2 = .ok (.invokevirtual 45, 3) := by decide +kernel
theorem dX5_evaluate_5 : decode cX5_evaluate 5 = .ok (.ifCond .ne 5, 3) := by decide +kernel
theorem dX5_evaluate_8 : decode cX5_evaluate 8 = .ok (.iconst (-1), 1) := by decide +kernel
theorem dX5_evaluate_9 : decode cX5_evaluate 9 = .ok (.ireturn, 1) := by decide +kernel
theorem dX5_evaluate_10 : decode cX5_evaluate 10 = .ok (.aload_n 0, 1) := by decide +kernel
theorem dX5_evaluate_11 : decode cX5_evaluate 11 = .ok (.getfield 25, 3) := by decide +kernel
theorem dX5_evaluate_14 : decode cX5_evaluate 14 = .ok (.aload_n 0, 1) := by decide +kernel
theorem dX5_evaluate_15 : decode cX5_evaluate 15 = .ok (.getfield 11, 3) := by decide +kernel
theorem dX5_evaluate_18 : decode cX5_evaluate 18 = .ok (.aload_n 0, 1) := by decide +kernel
theorem dX5_evaluate_19 : decode cX5_evaluate 19 = .ok (.getfield 34, 3) := by decide +kernel
theorem dX5_evaluate_22 : decode cX5_evaluate 22 = .ok (.invokevirtual 131, 3) := by decide +kernel
theorem dX5_evaluate_25 : decode cX5_evaluate 25 = .ok (.ifCond .ne 15, 3) := by decide +kernel
theorem dX5_evaluate_28 : decode cX5_evaluate 28 = .ok (.sipush (-1000), 3) := by decide +kernel
theorem dX5_evaluate_31 : decode cX5_evaluate 31 = .ok (.aload_n 0, 1) := by decide +kernel
theorem dX5_evaluate_32 : decode cX5_evaluate 32 = .ok (.getfield 25, 3) := by decide +kernel
theorem dX5_evaluate_35 : decode cX5_evaluate 35 = .ok (.getfield 135, 3) := by decide +kernel
theorem dX5_evaluate_38 : decode cX5_evaluate 38 = .ok (.isub, 1) := by decide +kernel
theorem dX5_evaluate_39 : decode cX5_evaluate 39 = .ok (.ireturn, 1) := by decide +kernel
theorem dX5_evaluate_40 : decode cX5_evaluate 40 = .ok (.aload_n 0, 1) := by decide +kernel
theorem dX5_evaluate_41 : decode cX5_evaluate 41 = .ok (.iload_n 1, 1) := by decide +kernel
theorem dX5_evaluate_42 : decode cX5_evaluate 42 = .ok (.invokevirtual 38, 3) := by decide +kernel
theorem dX5_evaluate_45 : decode cX5_evaluate 45 = .ok (.aload_n 0, 1) := by decide +kernel
theorem dX5_evaluate_46 : decode cX5_evaluate 46 = .ok (.getfield 11, 3) := by decide +kernel
theorem dX5_evaluate_49 : decode cX5_evaluate 49 = .ok (.iload_n 1, 1) := by decide +kernel
theorem dX5_evaluate_50 : decode cX5_evaluate 50 = .ok (.aaload, 1) := by decide +kernel
theorem dX5_evaluate_51 : decode cX5_evaluate 51 = .ok (.aload_n 0, 1) := by decide +kernel
theorem dX5_evaluate_52 : decode cX5_evaluate 52 = .ok (.getfield 25, 3) := by decide +kernel
theorem dX5_evaluate_55 : decode cX5_evaluate 55 = .ok (.invokevirtual 138, 3) := by decide +kernel
theorem dX5_evaluate_58 : decode cX5_evaluate 58 = .ok (.invokevirtual 106, 3) := by decide +kernel
theorem dX5_evaluate_61 : decode cX5_evaluate 61 = .ok (.aload_n 0, 1) := by decide +kernel
theorem dX5_evaluate_62 : decode cX5_evaluate 62 = .ok (.getfield 11, 3) := by decide +kernel
theorem dX5_evaluate_65 : decode cX5_evaluate 65 = .ok (.iload_n 1, 1) := by decide +kernel
theorem dX5_evaluate_66 : decode cX5_evaluate 66 = .ok (.aaload, 1) := by decide +kernel
theorem dX5_evaluate_67 : decode cX5_evaluate 67 = .ok (.invokestatic 67, 3) := by decide +kernel
theorem dX5_evaluate_70 : decode cX5_evaluate 70 = .ok (.ireturn, 1) := by decide +kernel
theorem dX5_failure_0 : decode cX5_failure 0 = .ok (.iload_n 1, 1) := by decide +kernel
theorem dX5_failure_1 : decode cX5_failure 1 = .ok (.iconst 0, 1) := by decide +kernel
theorem dX5_failure_2 : decode cX5_failure 2 = .ok (.iconst 2, 1) := by decide +kernel
theorem dX5_failure_3 : decode cX5_failure 3 = .ok (.invokestatic 52, 3) := by decide +kernel
theorem dX5_failure_6 : decode cX5_failure 6 = .ok (.ifCond .ne 5, 3) := by decide +kernel
theorem dX5_failure_9 : decode cX5_failure 9 = .ok (.iconst (-1), 1) := by decide +kernel
theorem dX5_failure_10 : decode cX5_failure 10 = .ok (.ireturn, 1) := by decide +kernel
theorem dX5_failure_11 : decode cX5_failure 11 = .ok (.aload_n 0, 1) := by decide +kernel
theorem dX5_failure_12 : decode cX5_failure 12 = .ok (.getfield 25, 3) := by decide +kernel
theorem dX5_failure_15 : decode cX5_failure 15 = .ok (.getfield 142, 3) := by decide +kernel
theorem dX5_failure_18 : decode cX5_failure 18 = .ok (.ifCond .ne 6, 3) := by decide +kernel
theorem dX5_failure_21 : decode cX5_failure 21 = .ok (.bipush (-9), 2) := by decide +kernel
theorem dX5_failure_23 : decode cX5_failure 23 = .ok (.ireturn, 1) := by decide +kernel
theorem dX5_failure_24 : decode cX5_failure 24 = .ok (.iload_n 1, 1) := by decide +kernel
theorem dX5_failure_25 : decode cX5_failure 25 = .ok (.lookupswitch 43 #[(0, 27), (1, 35)], 27) := by decide +kernel
theorem dX5_failure_52 : decode cX5_failure 52 = .ok (.aload_n 0, 1) := by decide +kernel
theorem dX5_failure_53 : decode cX5_failure 53 = .ok (.getfield 25, 3) := by decide +kernel
theorem dX5_failure_56 : decode cX5_failure 56 = .ok (.getfield 142, 3) := by decide +kernel
theorem dX5_failure_59 : decode cX5_failure 59 = .ok (.ireturn, 1) := by decide +kernel
theorem dX5_failure_60 : decode cX5_failure 60 = .ok (.aload_n 0, 1) := by decide +kernel
theorem dX5_failure_61 : decode cX5_failure 61 = .ok (.getfield 25, 3) := by decide +kernel
theorem dX5_failure_64 : decode cX5_failure 64 = .ok (.getfield 135, 3) := by decide +kernel
theorem dX5_failure_67 : decode cX5_failure 67 = .ok (.ireturn, 1) := by decide +kernel
theorem dX5_failure_68 : decode cX5_failure 68 = .ok (.aload_n 0, 1) := by decide +kernel
theorem dX5_failure_69 : decode cX5_failure 69 = .ok (.getfield 25, 3) := by decide +kernel
theorem dX5_failure_72 : decode cX5_failure 72 = .ok (.getfield 145, 3) := by decide +kernel
theorem dX5_failure_75 : decode cX5_failure 75 = .ok (.ireturn, 1) := by decide +kernel
theorem dX5_count_0 : decode cX5_count 0 = .ok (.iload_n 1, 1) := by decide +kernel
theorem dX5_count_1 : decode cX5_count 1 = .ok (.tableswitch 78 0 5 #[39, 44, 50, 56, 62, 70], 39) := by decide +kernel
theorem dX5_count_40 : decode cX5_count 40 = .ok (.aload_n 0, 1) := by decide +kernel
theorem dX5_count_41 : decode cX5_count 41 = .ok (.getfield 34, 3) := by decide +kernel
theorem dX5_count_44 : decode cX5_count 44 = .ok (.ireturn, 1) := by decide +kernel
theorem dX5_count_45 : decode cX5_count 45 = .ok (.aload_n 0, 1) := by decide +kernel
theorem dX5_count_46 : decode cX5_count 46 = .ok (.iconst 0, 1) := by decide +kernel
theorem dX5_count_47 : decode cX5_count 47 = .ok (.invokevirtual 148, 3) := by decide +kernel
theorem dX5_count_50 : decode cX5_count 50 = .ok (.ireturn, 1) := by decide +kernel
theorem dX5_count_51 : decode cX5_count 51 = .ok (.aload_n 0, 1) := by decide +kernel
theorem dX5_count_52 : decode cX5_count 52 = .ok (.iconst 1, 1) := by decide +kernel
theorem dX5_count_53 : decode cX5_count 53 = .ok (.invokevirtual 148, 3) := by decide +kernel
theorem dX5_count_56 : decode cX5_count 56 = .ok (.ireturn, 1) := by decide +kernel
theorem dX5_count_57 : decode cX5_count 57 = .ok (.aload_n 0, 1) := by decide +kernel
theorem dX5_count_58 : decode cX5_count 58 = .ok (.iconst 5, 1) := by decide +kernel
theorem dX5_count_59 : decode cX5_count 59 = .ok (.invokevirtual 148, 3) := by decide +kernel
theorem dX5_count_62 : decode cX5_count 62 = .ok (.ireturn, 1) := by decide +kernel
theorem dX5_count_63 : decode cX5_count 63 = .ok (.aload_n 0, 1) := by decide +kernel
theorem dX5_count_64 : decode cX5_count 64 = .ok (.getfield 18, 3) := by decide +kernel
theorem dX5_count_67 : decode cX5_count 67 = .ok (.getfield 110, 3) := by decide +kernel
theorem dX5_count_70 : decode cX5_count 70 = .ok (.ireturn, 1) := by decide +kernel
theorem dX5_count_71 : decode cX5_count 71 = .ok (.aload_n 0, 1) := by decide +kernel
theorem dX5_count_72 : decode cX5_count 72 = .ok (.getfield 25, 3) := by decide +kernel
theorem dX5_count_75 : decode cX5_count 75 = .ok (.getfield 126, 3) := by decide +kernel
theorem dX5_count_78 : decode cX5_count 78 = .ok (.ireturn, 1) := by decide +kernel
theorem dX5_count_79 : decode cX5_count 79 = .ok (.iconst (-1), 1) := by decide +kernel
theorem dX5_count_80 : decode cX5_count 80 = .ok (.ireturn, 1) := by decide +kernel
theorem dX5_row_0 : decode cX5_row 0 = .ok (.aload_n 0, 1) := by decide +kernel
theorem dX5_row_1 : decode cX5_row 1 = .ok (.iload_n 1, 1) := by decide +kernel
theorem dX5_row_2 : decode cX5_row 2 = .ok (.invokevirtual 45, 3) := by decide +kernel
theorem dX5_row_5 : decode cX5_row 5 = .ok (.ifCond .eq 13, 3) := by decide +kernel
theorem dX5_row_8 : decode cX5_row 8 = .ok (.iload_n 2, 1) := by decide +kernel
theorem dX5_row_9 : decode cX5_row 9 = .ok (.iconst 0, 1) := by decide +kernel
theorem dX5_row_10 : decode cX5_row 10 = .ok (.bipush 7, 2) := by decide +kernel
theorem dX5_row_12 : decode cX5_row 12 = .ok (.invokestatic 52, 3) := by decide +kernel
theorem dX5_row_15 : decode cX5_row 15 = .ok (.ifCond .ne 5, 3) := by decide +kernel
theorem dX5_row_18 : decode cX5_row 18 = .ok (.iconst (-1), 1) := by decide +kernel
theorem dX5_row_19 : decode cX5_row 19 = .ok (.ireturn, 1) := by decide +kernel
theorem dX5_row_20 : decode cX5_row 20 = .ok (.aload_n 0, 1) := by decide +kernel
theorem dX5_row_21 : decode cX5_row 21 = .ok (.getfield 11, 3) := by decide +kernel
theorem dX5_row_24 : decode cX5_row 24 = .ok (.iload_n 1, 1) := by decide +kernel
theorem dX5_row_25 : decode cX5_row 25 = .ok (.aaload, 1) := by decide +kernel
theorem dX5_row_26 : decode cX5_row 26 = .ok (.iload_n 2, 1) := by decide +kernel
theorem dX5_row_27 : decode cX5_row 27 = .ok (.invokestatic 151, 3) := by decide +kernel
theorem dX5_row_30 : decode cX5_row 30 = .ok (.ireturn, 1) := by decide +kernel
theorem dX5_word_0 : decode cX5_word 0 = .ok (.aload_n 0, 1) := by decide +kernel
theorem dX5_word_1 : decode cX5_word 1 = .ok (.iload_n 1, 1) := by decide +kernel
theorem dX5_word_2 : decode cX5_word 2 = .ok (.invokevirtual 45, 3) := by decide +kernel
theorem dX5_word_5 : decode cX5_word 5 = .ok (.ifCond .eq 7, 3) := by decide +kernel
theorem dX5_word_8 : decode cX5_word 8 = .ok (.iload_n 2, 1) := by decide +kernel
theorem dX5_word_9 : decode cX5_word 9 = .ok (.ifCond .ge 5, 3) := by decide +kernel
theorem dX5_word_12 : decode cX5_word 12 = .ok (.iconst (-1), 1) := by decide +kernel
theorem dX5_word_13 : decode cX5_word 13 = .ok (.ireturn, 1) := by decide +kernel
theorem dX5_word_14 : decode cX5_word 14 = .ok (.aload_n 0, 1) := by decide +kernel
theorem dX5_word_15 : decode cX5_word 15 = .ok (.getfield 11, 3) := by decide +kernel
theorem dX5_word_18 : decode cX5_word 18 = .ok (.iload_n 1, 1) := by decide +kernel
theorem dX5_word_19 : decode cX5_word 19 = .ok (.aaload, 1) := by decide +kernel
theorem dX5_word_20 : decode cX5_word 20 = .ok (.iload_n 2, 1) := by decide +kernel
theorem dX5_word_21 : decode cX5_word 21 = .ok (.invokestatic 155, 3) := by decide +kernel
theorem dX5_word_24 : decode cX5_word 24 = .ok (.ireturn, 1) := by decide +kernel
theorem dX5_bit_0 : decode cX5_bit 0 = .ok (.aload_n 0, 1) := by decide +kernel
theorem dX5_bit_1 : decode cX5_bit 1 = .ok (.iload_n 1, 1) := by decide +kernel
theorem dX5_bit_2 : decode cX5_bit 2 = .ok (.invokevirtual 45, 3) := by decide +kernel
theorem dX5_bit_5 : decode cX5_bit 5 = .ok (.ifCond .eq 12, 3) := by decide +kernel
theorem dX5_bit_8 : decode cX5_bit 8 = .ok (.aload_n 0, 1) := by decide +kernel
theorem dX5_bit_9 : decode cX5_bit 9 = .ok (.iload_n 1, 1) := by decide +kernel
theorem dX5_bit_10 : decode cX5_bit 10 = .ok (.iload_n 2, 1) := by decide +kernel
theorem dX5_bit_11 : decode cX5_bit 11 = .ok (.invokevirtual 73, 3) := by decide +kernel
theorem dX5_bit_14 : decode cX5_bit 14 = .ok (.ifCond .ne 5, 3) := by decide +kernel
theorem dX5_bit_17 : decode cX5_bit 17 = .ok (.iconst (-1), 1) := by decide +kernel
theorem dX5_bit_18 : decode cX5_bit 18 = .ok (.ireturn, 1) := by decide +kernel
theorem dX5_bit_19 : decode cX5_bit 19 = .ok (.aload_n 0, 1) := by decide +kernel
theorem dX5_bit_20 : decode cX5_bit 20 = .ok (.getfield 11, 3) := by decide +kernel
theorem dX5_bit_23 : decode cX5_bit 23 = .ok (.iload_n 1, 1) := by decide +kernel
theorem dX5_bit_24 : decode cX5_bit 24 = .ok (.aaload, 1) := by decide +kernel
theorem dX5_bit_25 : decode cX5_bit 25 = .ok (.iload_n 2, 1) := by decide +kernel
theorem dX5_bit_26 : decode cX5_bit 26 = .ok (.invokevirtual 77, 3) := by decide +kernel
theorem dX5_bit_29 : decode cX5_bit 29 = .ok (.ireturn, 1) := by decide +kernel
theorem dX5_rank_0 : decode cX5_rank 0 = .ok (.aload_n 0, 1) := by decide +kernel
theorem dX5_rank_1 : decode cX5_rank 1 = .ok (.iload_n 1, 1) := by decide +kernel
theorem dX5_rank_2 : decode cX5_rank 2 = .ok (.invokevirtual 45, 3) := by decide +kernel
theorem dX5_rank_5 : decode cX5_rank 5 = .ok (.ifCond .eq 20, 3) := by decide +kernel
theorem dX5_rank_8 : decode cX5_rank 8 = .ok (.iload_n 2, 1) := by decide +kernel
theorem dX5_rank_9 : decode cX5_rank 9 = .ok (.iconst 0, 1) := by decide +kernel
theorem dX5_rank_10 : decode cX5_rank 10 = .ok (.aload_n 0, 1) := by decide +kernel
theorem dX5_rank_11 : decode cX5_rank 11 = .ok (.getfield 11, 3) := by decide +kernel
theorem dX5_rank_14 : decode cX5_rank 14 = .ok (.iload_n 1, 1) := by decide +kernel
theorem dX5_rank_15 : decode cX5_rank 15 = .ok (.aaload, 1) := by decide +kernel
theorem dX5_rank_16 : decode cX5_rank 16 = .ok (.getfield 56, 3) := by decide +kernel
theorem dX5_rank_19 : decode cX5_rank 19 = .ok (.invokestatic 52, 3) := by decide +kernel
theorem dX5_rank_22 : decode cX5_rank 22 = .ok (.ifCond .ne 5, 3) := by decide +kernel
theorem dX5_rank_25 : decode cX5_rank 25 = .ok (.iconst (-1), 1) := by decide +kernel
theorem dX5_rank_26 : decode cX5_rank 26 = .ok (.ireturn, 1) := by decide +kernel
theorem dX5_rank_27 : decode cX5_rank 27 = .ok (.aload_n 0, 1) := by decide +kernel
theorem dX5_rank_28 : decode cX5_rank 28 = .ok (.getfield 11, 3) := by decide +kernel
theorem dX5_rank_31 : decode cX5_rank 31 = .ok (.iload_n 1, 1) := by decide +kernel
theorem dX5_rank_32 : decode cX5_rank 32 = .ok (.aaload, 1) := by decide +kernel
theorem dX5_rank_33 : decode cX5_rank 33 = .ok (.iload_n 2, 1) := by decide +kernel
theorem dX5_rank_34 : decode cX5_rank 34 = .ok (.invokevirtual 158, 3) := by decide +kernel
theorem dX5_rank_37 : decode cX5_rank 37 = .ok (.ireturn, 1) := by decide +kernel
theorem dX5_select_0 : decode cX5_select 0 = .ok (.aload_n 0, 1) := by decide +kernel
theorem dX5_select_1 : decode cX5_select 1 = .ok (.iload_n 1, 1) := by decide +kernel
theorem dX5_select_2 : decode cX5_select 2 = .ok (.invokevirtual 45, 3) := by decide +kernel
theorem dX5_select_5 : decode cX5_select 5 = .ok (.ifCond .eq 7, 3) := by decide +kernel
theorem dX5_select_8 : decode cX5_select 8 = .ok (.iload_n 2, 1) := by decide +kernel
theorem dX5_select_9 : decode cX5_select 9 = .ok (.ifCond .ge 5, 3) := by decide +kernel
theorem dX5_select_12 : decode cX5_select 12 = .ok (.iconst (-1), 1) := by decide +kernel
theorem dX5_select_13 : decode cX5_select 13 = .ok (.ireturn, 1) := by decide +kernel
theorem dX5_select_14 : decode cX5_select 14 = .ok (.aload_n 0, 1) := by decide +kernel
theorem dX5_select_15 : decode cX5_select 15 = .ok (.getfield 11, 3) := by decide +kernel
theorem dX5_select_18 : decode cX5_select 18 = .ok (.iload_n 1, 1) := by decide +kernel
theorem dX5_select_19 : decode cX5_select 19 = .ok (.aaload, 1) := by decide +kernel
theorem dX5_select_20 : decode cX5_select 20 = .ok (.iload_n 2, 1) := by decide +kernel
theorem dX5_select_21 : decode cX5_select 21 = .ok (.invokevirtual 161, 3) := by decide +kernel
theorem dX5_select_24 : decode cX5_select 24 = .ok (.ireturn, 1) := by decide +kernel
theorem dX5_would_0 : decode cX5_would 0 = .ok (.iload_n 1, 1) := by decide +kernel
theorem dX5_would_1 : decode cX5_would 1 = .ok (.invokestatic 84, 3) := by decide +kernel
theorem dX5_would_4 : decode cX5_would 4 = .ok (.ifCond .eq 29, 3) := by decide +kernel
theorem dX5_would_7 : decode cX5_would 7 = .ok (.aload_n 0, 1) := by decide +kernel
theorem dX5_would_8 : decode cX5_would 8 = .ok (.iload_n 2, 1) := by decide +kernel
theorem dX5_would_9 : decode cX5_would 9 = .ok (.invokevirtual 45, 3) := by decide +kernel
theorem dX5_would_12 : decode cX5_would 12 = .ok (.ifCond .eq 21, 3) := by decide +kernel
theorem dX5_would_15 : decode cX5_would 15 = .ok (.aload_n 0, 1) := by decide +kernel
theorem dX5_would_16 : decode cX5_would 16 = .ok (.iload_n 3, 1) := by decide +kernel
theorem dX5_would_17 : decode cX5_would 17 = .ok (.invokevirtual 45, 3) := by decide +kernel
theorem dX5_would_20 : decode cX5_would 20 = .ok (.ifCond .eq 13, 3) := by decide +kernel
theorem dX5_would_23 : decode cX5_would 23 = .ok (.iload 4, 2) := by decide +kernel
theorem dX5_would_25 : decode cX5_would 25 = .ok (.iconst 0, 1) := by decide +kernel
theorem dX5_would_26 : decode cX5_would 26 = .ok (.iconst 2, 1) := by decide +kernel
theorem dX5_would_27 : decode cX5_would 27 = .ok (.invokestatic 52, 3) := by decide +kernel
theorem dX5_would_30 : decode cX5_would 30 = .ok (.ifCond .ne 5, 3) := by decide +kernel
theorem dX5_would_33 : decode cX5_would 33 = .ok (.iconst (-1), 1) := by decide +kernel
theorem dX5_would_34 : decode cX5_would 34 = .ok (.ireturn, 1) := by decide +kernel
theorem dX5_would_35 : decode cX5_would 35 = .ok (.iload 4, 2) := by decide +kernel
theorem dX5_would_37 : decode cX5_would 37 = .ok (.ifCond .ne 19, 3) := by decide +kernel
theorem dX5_would_40 : decode cX5_would 40 = .ok (.aload_n 0, 1) := by decide +kernel
theorem dX5_would_41 : decode cX5_would 41 = .ok (.getfield 11, 3) := by decide +kernel
theorem dX5_would_44 : decode cX5_would 44 = .ok (.iload_n 2, 1) := by decide +kernel
theorem dX5_would_45 : decode cX5_would 45 = .ok (.aaload, 1) := by decide +kernel
theorem dX5_would_46 : decode cX5_would 46 = .ok (.aload_n 0, 1) := by decide +kernel
theorem dX5_would_47 : decode cX5_would 47 = .ok (.getfield 11, 3) := by decide +kernel
theorem dX5_would_50 : decode cX5_would 50 = .ok (.iload_n 3, 1) := by decide +kernel
theorem dX5_would_51 : decode cX5_would 51 = .ok (.aaload, 1) := by decide +kernel
theorem dX5_would_52 : decode cX5_would 52 = .ok (.invokestatic 87, 3) := by decide +kernel
theorem dX5_would_55 : decode cX5_would 55 = .ok (.ireturn, 1) := by decide +kernel
theorem dX5_would_56 : decode cX5_would 56 = .ok (.aload_n 0, 1) := by decide +kernel
theorem dX5_would_57 : decode cX5_would 57 = .ok (.getfield 30, 3) := by decide +kernel
theorem dX5_would_60 : decode cX5_would 60 = .ok (.iload_n 1, 1) := by decide +kernel
theorem dX5_would_61 : decode cX5_would 61 = .ok (.aload_n 0, 1) := by decide +kernel
theorem dX5_would_62 : decode cX5_would 62 = .ok (.getfield 11, 3) := by decide +kernel
theorem dX5_would_65 : decode cX5_would 65 = .ok (.iload_n 2, 1) := by decide +kernel
theorem dX5_would_66 : decode cX5_would 66 = .ok (.aaload, 1) := by decide +kernel
theorem dX5_would_67 : decode cX5_would 67 = .ok (.aload_n 0, 1) := by decide +kernel
theorem dX5_would_68 : decode cX5_would 68 = .ok (.getfield 11, 3) := by decide +kernel
theorem dX5_would_71 : decode cX5_would 71 = .ok (.iload_n 3, 1) := by decide +kernel
theorem dX5_would_72 : decode cX5_would 72 = .ok (.aaload, 1) := by decide +kernel
theorem dX5_would_73 : decode cX5_would 73 = .ok (.invokevirtual 91, 3) := by decide +kernel
theorem dX5_would_76 : decode cX5_would 76 = .ok (.iload 4, 2) := by decide +kernel
theorem dX5_would_78 : decode cX5_would 78 = .ok (.iconst 1, 1) := by decide +kernel
theorem dX5_would_79 : decode cX5_would 79 = .ok (.if_icmp .ne 13, 3) := by decide +kernel
theorem dX5_would_82 : decode cX5_would 82 = .ok (.aload_n 0, 1) := by decide +kernel
theorem dX5_would_83 : decode cX5_would 83 = .ok (.getfield 30, 3) := by decide +kernel
theorem dX5_would_86 : decode cX5_would 86 = .ok (.invokestatic 67, 3) := by decide +kernel
theorem dX5_would_89 : decode cX5_would 89 = .ok (.goto 10, 3) := by decide +kernel
theorem dX5_would_92 : decode cX5_would 92 = .ok (.aload_n 0, 1) := by decide +kernel
theorem dX5_would_93 : decode cX5_would 93 = .ok (.getfield 30, 3) := by decide +kernel
theorem dX5_would_96 : decode cX5_would 96 = .ok (.invokevirtual 98, 3) := by decide +kernel
theorem dX5_would_99 : decode cX5_would 99 = .ok (.ireturn, 1) := by decide +kernel
theorem dX5_same_0 : decode cX5_same 0 = .ok (.aload_n 0, 1) := by decide +kernel
theorem dX5_same_1 : decode cX5_same 1 = .ok (.iload_n 1, 1) := by decide +kernel
theorem dX5_same_2 : decode cX5_same 2 = .ok (.invokevirtual 45, 3) := by decide +kernel
theorem dX5_same_5 : decode cX5_same 5 = .ok (.ifCond .ne 5, 3) := by decide +kernel
theorem dX5_same_8 : decode cX5_same 8 = .ok (.iconst (-1), 1) := by decide +kernel
theorem dX5_same_9 : decode cX5_same 9 = .ok (.ireturn, 1) := by decide +kernel
theorem dX5_same_10 : decode cX5_same 10 = .ok (.iconst 0, 1) := by decide +kernel
theorem dX5_same_11 : decode cX5_same 11 = .ok (.istore_n 2, 1) := by decide +kernel
theorem dX5_same_12 : decode cX5_same 12 = .ok (.iload_n 2, 1) := by decide +kernel
theorem dX5_same_13 : decode cX5_same 13 = .ok (.iload_n 1, 1) := by decide +kernel
theorem dX5_same_14 : decode cX5_same 14 = .ok (.if_icmp .ge 29, 3) := by decide +kernel
theorem dX5_same_17 : decode cX5_same 17 = .ok (.aload_n 0, 1) := by decide +kernel
theorem dX5_same_18 : decode cX5_same 18 = .ok (.getfield 11, 3) := by decide +kernel
theorem dX5_same_21 : decode cX5_same 21 = .ok (.iload_n 2, 1) := by decide +kernel
theorem dX5_same_22 : decode cX5_same 22 = .ok (.aaload, 1) := by decide +kernel
theorem dX5_same_23 : decode cX5_same 23 = .ok (.aload_n 0, 1) := by decide +kernel
theorem dX5_same_24 : decode cX5_same 24 = .ok (.getfield 11, 3) := by decide +kernel
theorem dX5_same_27 : decode cX5_same 27 = .ok (.iload_n 1, 1) := by decide +kernel
theorem dX5_same_28 : decode cX5_same 28 = .ok (.aaload, 1) := by decide +kernel
theorem dX5_same_29 : decode cX5_same 29 = .ok (.invokevirtual 164, 3) := by decide +kernel
theorem dX5_same_32 : decode cX5_same 32 = .ok (.ifCond .eq 5, 3) := by decide +kernel
theorem dX5_same_35 : decode cX5_same 35 = .ok (.iload_n 2, 1) := by decide +kernel
theorem dX5_same_36 : decode cX5_same 36 = .ok (.ireturn, 1) := by decide +kernel
theorem dX5_same_37 : decode cX5_same 37 = .ok (.iinc 2 1, 3) := by decide +kernel
theorem dX5_same_40 : decode cX5_same 40 = .ok (.goto (-28), 3) := by decide +kernel
theorem dX5_same_43 : decode cX5_same 43 = .ok (.iload_n 1, 1) := by decide +kernel
theorem dX5_same_44 : decode cX5_same 44 = .ok (.ireturn, 1) := by decide +kernel
theorem dX5_bestShift_0 : decode cX5_bestShift 0 = .ok (.aload_n 0, 1) := by decide +kernel
theorem dX5_bestShift_1 : decode cX5_bestShift 1 = .ok (.iload_n 1, 1) := by decide +kernel
theorem dX5_bestShift_2 : decode cX5_bestShift 2 = .ok (.invokevirtual 45, 3) := by decide +kernel
theorem dX5_bestShift_5 : decode cX5_bestShift 5 = .ok (.ifCond .ne 5, 3) := by decide +kernel
theorem dX5_bestShift_8 : decode cX5_bestShift 8 = .ok (.iconst (-1), 1) := by decide +kernel
theorem dX5_bestShift_9 : decode cX5_bestShift 9 = .ok (.ireturn, 1) := by decide +kernel
theorem dX5_bestShift_10 : decode cX5_bestShift 10 = .ok (.iconst 0, 1) := by decide +kernel
theorem dX5_bestShift_11 : decode cX5_bestShift 11 = .ok (.istore_n 2, 1) := by decide +kernel
theorem dX5_bestShift_12 : decode cX5_bestShift 12 = .ok (.aload_n 0, 1) := by decide +kernel
theorem dX5_bestShift_13 : decode cX5_bestShift 13 = .ok (.getfield 11, 3) := by decide +kernel
theorem dX5_bestShift_16 : decode cX5_bestShift 16 = .ok (.iload_n 1, 1) := by decide +kernel
theorem dX5_bestShift_17 : decode cX5_bestShift 17 = .ok (.aaload, 1) := by decide +kernel
theorem dX5_bestShift_18 : decode cX5_bestShift 18 = .ok (.invokestatic 67, 3) := by decide +kernel
theorem dX5_bestShift_21 : decode cX5_bestShift 21 = .ok (.istore_n 3, 1) := by decide +kernel
theorem dX5_bestShift_22 : decode cX5_bestShift 22 = .ok (.iconst 1, 1) := by decide +kernel
theorem dX5_bestShift_23 : decode cX5_bestShift 23 = .ok (.istore 4, 2) := by decide +kernel
theorem dX5_bestShift_25 : decode cX5_bestShift 25 = .ok (.iload 4, 2) := by decide +kernel
theorem dX5_bestShift_27 : decode cX5_bestShift 27 = .ok (.bipush 15, 2) := by decide +kernel
theorem dX5_bestShift_29 : decode cX5_bestShift 29 = .ok (.if_icmp .ge 45, 3) := by decide +kernel
theorem dX5_bestShift_32 : decode cX5_bestShift 32 = .ok (.aload_n 0, 1) := by decide +kernel
theorem dX5_bestShift_33 : decode cX5_bestShift 33 = .ok (.getfield 30, 3) := by decide +kernel
theorem dX5_bestShift_36 : decode cX5_bestShift 36 = .ok (.aload_n 0, 1) := by decide +kernel
theorem dX5_bestShift_37 : decode cX5_bestShift 37 = .ok (.getfield 11, 3) := by decide +kernel
theorem dX5_bestShift_40 : decode cX5_bestShift 40 = .ok (.iload_n 1, 1) := by decide +kernel
theorem dX5_bestShift_41 : decode cX5_bestShift 41 = .ok (.aaload, 1) := by decide +kernel
theorem dX5_bestShift_42 : decode cX5_bestShift 42 = .ok (.iload 4, 2) := by decide +kernel
theorem dX5_bestShift_44 : decode cX5_bestShift 44 = .ok (.invokevirtual 102, 3) := by decide +kernel
theorem dX5_bestShift_47 : decode cX5_bestShift 47 = .ok (.aload_n 0, 1) := by decide +kernel
theorem dX5_bestShift_48 : decode cX5_bestShift 48 = .ok (.getfield 30, 3) := by decide +kernel
theorem dX5_bestShift_51 : decode cX5_bestShift 51 = .ok (.invokestatic 67, 3) := by decide +kernel
theorem dX5_bestShift_54 : decode cX5_bestShift 54 = .ok (.istore 5, 2) := by decide +kernel
theorem dX5_bestShift_56 : decode cX5_bestShift 56 = .ok (.iload 5, 2) := by decide +kernel
theorem dX5_bestShift_58 : decode cX5_bestShift 58 = .ok (.iload_n 3, 1) := by decide +kernel
theorem dX5_bestShift_59 : decode cX5_bestShift 59 = .ok (.if_icmp .ge 9, 3) := by decide +kernel
theorem dX5_bestShift_62 : decode cX5_bestShift 62 = .ok (.iload 5, 2) := by decide +kernel
theorem dX5_bestShift_64 : decode cX5_bestShift 64 = .ok (.istore_n 3, 1) := by decide +kernel
theorem dX5_bestShift_65 : decode cX5_bestShift 65 = .ok (.iload 4, 2) := by decide +kernel
theorem dX5_bestShift_67 : decode cX5_bestShift 67 = .ok (.istore_n 2, 1) := by decide +kernel
theorem dX5_bestShift_68 : decode cX5_bestShift 68 = .ok (.iinc 4 1, 3) := by decide +kernel
theorem dX5_bestShift_71 : decode cX5_bestShift 71 = .ok (.goto (-46), 3) := by decide +kernel
theorem dX5_bestShift_74 : decode cX5_bestShift 74 = .ok (.iload_n 2, 1) := by decide +kernel
theorem dX5_bestShift_75 : decode cX5_bestShift 75 = .ok (.ireturn, 1) := by decide +kernel
theorem dX5_record_0 : decode cX5_record 0 = .ok (.aload_n 0, 1) := by decide +kernel
theorem dX5_record_1 : decode cX5_record 1 = .ok (.getfield 18, 3) := by decide +kernel
theorem dX5_record_4 : decode cX5_record 4 = .ok (.aload_n 0, 1) := by decide +kernel
theorem dX5_record_5 : decode cX5_record 5 = .ok (.getfield 34, 3) := by decide +kernel
theorem dX5_record_8 : decode cX5_record 8 = .ok (.iload_n 1, 1) := by decide +kernel
theorem dX5_record_9 : decode cX5_record 9 = .ok (.aload_n 0, 1) := by decide +kernel
theorem dX5_record_10 : decode cX5_record 10 = .ok (.getfield 11, 3) := by decide +kernel
theorem dX5_record_13 : decode cX5_record 13 = .ok (.iload_n 1, 1) := by decide +kernel
theorem dX5_record_14 : decode cX5_record 14 = .ok (.aaload, 1) := by decide +kernel
theorem dX5_record_15 : decode cX5_record 15 = .ok (.invokevirtual 168, 3) := by decide +kernel
theorem dX5_record_18 : decode cX5_record 18 = .ok (.return_, 1) := by decide +kernel
theorem dX5_sum_0 : decode cX5_sum 0 = .ok (.iconst 0, 1) := by decide +kernel
theorem dX5_sum_1 : decode cX5_sum 1 = .ok (.istore_n 2, 1) := by decide +kernel
theorem dX5_sum_2 : decode cX5_sum 2 = .ok (.iconst 0, 1) := by decide +kernel
theorem dX5_sum_3 : decode cX5_sum 3 = .ok (.istore_n 3, 1) := by decide +kernel
theorem dX5_sum_4 : decode cX5_sum 4 = .ok (.iload_n 3, 1) := by decide +kernel
theorem dX5_sum_5 : decode cX5_sum 5 = .ok (.aload_n 0, 1) := by decide +kernel
theorem dX5_sum_6 : decode cX5_sum 6 = .ok (.getfield 34, 3) := by decide +kernel
theorem dX5_sum_9 : decode cX5_sum 9 = .ok (.if_icmp .ge 22, 3) := by decide +kernel
theorem dX5_sum_12 : decode cX5_sum 12 = .ok (.iload_n 2, 1) := by decide +kernel
theorem dX5_sum_13 : decode cX5_sum 13 = .ok (.aload_n 0, 1) := by decide +kernel
theorem dX5_sum_14 : decode cX5_sum 14 = .ok (.getfield 11, 3) := by decide +kernel
theorem dX5_sum_17 : decode cX5_sum 17 = .ok (.iload_n 3, 1) := by decide +kernel
theorem dX5_sum_18 : decode cX5_sum 18 = .ok (.aaload, 1) := by decide +kernel
theorem dX5_sum_19 : decode cX5_sum 19 = .ok (.iload_n 1, 1) := by decide +kernel
theorem dX5_sum_20 : decode cX5_sum 20 = .ok (.invokestatic 151, 3) := by decide +kernel
theorem dX5_sum_23 : decode cX5_sum 23 = .ok (.iadd, 1) := by decide +kernel
theorem dX5_sum_24 : decode cX5_sum 24 = .ok (.istore_n 2, 1) := by decide +kernel
theorem dX5_sum_25 : decode cX5_sum 25 = .ok (.iinc 3 1, 3) := by decide +kernel
theorem dX5_sum_28 : decode cX5_sum 28 = .ok (.goto (-24), 3) := by decide +kernel
theorem dX5_sum_31 : decode cX5_sum 31 = .ok (.iload_n 2, 1) := by decide +kernel
theorem dX5_sum_32 : decode cX5_sum 32 = .ok (.ireturn, 1) := by decide +kernel
theorem dX5_property_0 : decode cX5_property 0 = .ok (.iload_n 1, 1) := by decide +kernel
theorem dX5_property_1 : decode cX5_property 1 = .ok (.tableswitch 83 0 6 #[43, 48, 53, 58, 64, 72, 77], 43) := by decide +kernel
theorem dX5_property_44 : decode cX5_property 44 = .ok (.aload_n 0, 1) := by decide +kernel
theorem dX5_property_45 : decode cX5_property 45 = .ok (.getfield 56, 3) := by decide +kernel
theorem dX5_property_48 : decode cX5_property 48 = .ok (.ireturn, 1) := by decide +kernel
theorem dX5_property_49 : decode cX5_property 49 = .ok (.aload_n 0, 1) := by decide +kernel
theorem dX5_property_50 : decode cX5_property 50 = .ok (.invokestatic 67, 3) := by decide +kernel
theorem dX5_property_53 : decode cX5_property 53 = .ok (.ireturn, 1) := by decide +kernel
theorem dX5_property_54 : decode cX5_property 54 = .ok (.aload_n 0, 1) := by decide +kernel
theorem dX5_property_55 : decode cX5_property 55 = .ok (.invokestatic 172, 3) := by decide +kernel
theorem dX5_property_58 : decode cX5_property 58 = .ok (.ireturn, 1) := by decide +kernel
theorem dX5_property_59 : decode cX5_property 59 = .ok (.aload_n 0, 1) := by decide +kernel
theorem dX5_property_60 : decode cX5_property 60 = .ok (.iconst 0, 1) := by decide +kernel
theorem dX5_property_61 : decode cX5_property 61 = .ok (.invokestatic 175, 3) := by decide +kernel
theorem dX5_property_64 : decode cX5_property 64 = .ok (.ireturn, 1) := by decide +kernel
theorem dX5_property_65 : decode cX5_property 65 = .ok (.aload_n 0, 1) := by decide +kernel
theorem dX5_property_66 : decode cX5_property 66 = .ok (.sipush 32767, 3) := by decide +kernel
theorem dX5_property_69 : decode cX5_property 69 = .ok (.invokestatic 175, 3) := by decide +kernel
theorem dX5_property_72 : decode cX5_property 72 = .ok (.ireturn, 1) := by decide +kernel
theorem dX5_property_73 : decode cX5_property 73 = .ok (.aload_n 0, 1) := by decide +kernel
theorem dX5_property_74 : decode cX5_property 74 = .ok (.invokevirtual 98, 3) := by decide +kernel
theorem dX5_property_77 : decode cX5_property 77 = .ok (.ireturn, 1) := by decide +kernel
theorem dX5_property_78 : decode cX5_property 78 = .ok (.aload_n 0, 1) := by decide +kernel
theorem dX5_property_79 : decode cX5_property 79 = .ok (.iconst 0, 1) := by decide +kernel
theorem dX5_property_80 : decode cX5_property 80 = .ok (.invokevirtual 161, 3) := by decide +kernel
theorem dX5_property_83 : decode cX5_property 83 = .ok (.ireturn, 1) := by decide +kernel
theorem dX5_property_84 : decode cX5_property 84 = .ok (.aload_n 0, 1) := by decide +kernel
theorem dX5_property_85 : decode cX5_property 85 = .ok (.aload_n 0, 1) := by decide +kernel
theorem dX5_property_86 : decode cX5_property 86 = .ok (.invokevirtual 98, 3) := by decide +kernel
theorem dX5_property_89 : decode cX5_property 89 = .ok (.iconst 1, 1) := by decide +kernel
theorem dX5_property_90 : decode cX5_property 90 = .ok (.isub, 1) := by decide +kernel
theorem dX5_property_91 : decode cX5_property 91 = .ok (.invokevirtual 161, 3) := by decide +kernel
theorem dX5_property_94 : decode cX5_property 94 = .ok (.ireturn, 1) := by decide +kernel
theorem dX5_isRow_0 : decode cX5_isRow 0 = .ok (.iload_n 1, 1) := by decide +kernel
theorem dX5_isRow_1 : decode cX5_isRow 1 = .ok (.iconst 0, 1) := by decide +kernel
theorem dX5_isRow_2 : decode cX5_isRow 2 = .ok (.aload_n 0, 1) := by decide +kernel
theorem dX5_isRow_3 : decode cX5_isRow 3 = .ok (.getfield 34, 3) := by decide +kernel
theorem dX5_isRow_6 : decode cX5_isRow 6 = .ok (.iconst 1, 1) := by decide +kernel
theorem dX5_isRow_7 : decode cX5_isRow 7 = .ok (.isub, 1) := by decide +kernel
theorem dX5_isRow_8 : decode cX5_isRow 8 = .ok (.invokestatic 52, 3) := by decide +kernel
theorem dX5_isRow_11 : decode cX5_isRow 11 = .ok (.ireturn, 1) := by decide +kernel
theorem dX5_isPlace_0 : decode cX5_isPlace 0 = .ok (.iload_n 2, 1) := by decide +kernel
theorem dX5_isPlace_1 : decode cX5_isPlace 1 = .ok (.iconst 0, 1) := by decide +kernel
theorem dX5_isPlace_2 : decode cX5_isPlace 2 = .ok (.aload_n 0, 1) := by decide +kernel
theorem dX5_isPlace_3 : decode cX5_isPlace 3 = .ok (.getfield 11, 3) := by decide +kernel
theorem dX5_isPlace_6 : decode cX5_isPlace 6 = .ok (.iload_n 1, 1) := by decide +kernel
theorem dX5_isPlace_7 : decode cX5_isPlace 7 = .ok (.aaload, 1) := by decide +kernel
theorem dX5_isPlace_8 : decode cX5_isPlace 8 = .ok (.getfield 56, 3) := by decide +kernel
theorem dX5_isPlace_11 : decode cX5_isPlace 11 = .ok (.iconst 1, 1) := by decide +kernel
theorem dX5_isPlace_12 : decode cX5_isPlace 12 = .ok (.isub, 1) := by decide +kernel
theorem dX5_isPlace_13 : decode cX5_isPlace 13 = .ok (.invokestatic 52, 3) := by decide +kernel
theorem dX5_isPlace_16 : decode cX5_isPlace 16 = .ok (.ireturn, 1) := by decide +kernel
theorem dX5_isBit_0 : decode cX5_isBit 0 = .ok (.iload_n 0, 1) := by decide +kernel
theorem dX5_isBit_1 : decode cX5_isBit 1 = .ok (.iconst 0, 1) := by decide +kernel
theorem dX5_isBit_2 : decode cX5_isBit 2 = .ok (.iconst 1, 1) := by decide +kernel
theorem dX5_isBit_3 : decode cX5_isBit 3 = .ok (.invokestatic 52, 3) := by decide +kernel
theorem dX5_isBit_6 : decode cX5_isBit 6 = .ok (.ireturn, 1) := by decide +kernel
theorem dX5_isOperation_0 : decode cX5_isOperation 0 = .ok (.iload_n 0, 1) := by decide +kernel
theorem dX5_isOperation_1 : decode cX5_isOperation 1 = .ok (.iconst 0, 1) := by decide +kernel
theorem dX5_isOperation_2 : decode cX5_isOperation 2 = .ok (.iconst 3, 1) := by decide +kernel
theorem dX5_isOperation_3 : decode cX5_isOperation 3 = .ok (.invokestatic 52, 3) := by decide +kernel
theorem dX5_isOperation_6 : decode cX5_isOperation 6 = .ok (.ireturn, 1) := by decide +kernel
theorem dX5_isWithin_0 : decode cX5_isWithin 0 = .ok (.iload_n 0, 1) := by decide +kernel
theorem dX5_isWithin_1 : decode cX5_isWithin 1 = .ok (.iload_n 1, 1) := by decide +kernel
theorem dX5_isWithin_2 : decode cX5_isWithin 2 = .ok (.if_icmp .lt 12, 3) := by decide +kernel
theorem dX5_isWithin_5 : decode cX5_isWithin 5 = .ok (.iload_n 0, 1) := by decide +kernel
theorem dX5_isWithin_6 : decode cX5_isWithin 6 = .ok (.iload_n 2, 1) := by decide +kernel
theorem dX5_isWithin_7 : decode cX5_isWithin 7 = .ok (.if_icmp .gt 7, 3) := by decide +kernel
theorem dX5_isWithin_10 : decode cX5_isWithin 10 = .ok (.iconst 1, 1) := by decide +kernel
theorem dX5_isWithin_11 : decode cX5_isWithin 11 = .ok (.goto 4, 3) := by decide +kernel
theorem dX5_isWithin_14 : decode cX5_isWithin 14 = .ok (.iconst 0, 1) := by decide +kernel
theorem dX5_isWithin_15 : decode cX5_isWithin 15 = .ok (.ireturn, 1) := by decide +kernel
theorem dX6_init_0 : decode cX6_init 0 = .ok (.aload_n 0, 1) := by decide +kernel
theorem dX6_init_1 : decode cX6_init 1 = .ok (.invokespecial 1, 3) := by decide +kernel
theorem dX6_init_4 : decode cX6_init 4 = .ok (.aload_n 0, 1) := by decide +kernel
theorem dX6_init_5 : decode cX6_init 5 = .ok (.ldc 7, 2) := by decide +kernel
theorem dX6_init_7 : decode cX6_init 7 = .ok (.newarray .int, 2) := by decide +kernel
theorem dX6_init_9 : decode cX6_init 9 = .ok (.putfield 8, 3) := by decide +kernel
theorem dX6_init_12 : decode cX6_init 12 = .ok (.aload_n 0, 1) := by decide +kernel
theorem dX6_init_13 : decode cX6_init 13 = .ok (.bipush 100, 2) := by decide +kernel
theorem dX6_init_15 : decode cX6_init 15 = .ok (.newarray .int, 2) := by decide +kernel
theorem dX6_init_17 : decode cX6_init 17 = .ok (.putfield 14, 3) := by decide +kernel
theorem dX6_init_20 : decode cX6_init 20 = .ok (.aload_n 0, 1) := by decide +kernel
theorem dX6_init_21 : decode cX6_init 21 = .ok (.bipush 41, 2) := by decide +kernel
theorem dX6_init_23 : decode cX6_init 23 = .ok (.newarray .int, 2) := by decide +kernel
theorem dX6_init_25 : decode cX6_init 25 = .ok (.putfield 17, 3) := by decide +kernel
theorem dX6_init_28 : decode cX6_init 28 = .ok (.aload_n 0, 1) := by decide +kernel
theorem dX6_init_29 : decode cX6_init 29 = .ok (.bipush 40, 2) := by decide +kernel
theorem dX6_init_31 : decode cX6_init 31 = .ok (.newarray .int, 2) := by decide +kernel
theorem dX6_init_33 : decode cX6_init 33 = .ok (.putfield 20, 3) := by decide +kernel
theorem dX6_init_36 : decode cX6_init 36 = .ok (.return_, 1) := by decide +kernel
theorem dX6_in_0 : decode cX6_in 0 = .ok (.iload_n 0, 1) := by decide +kernel
theorem dX6_in_1 : decode cX6_in 1 = .ok (.iload_n 1, 1) := by decide +kernel
theorem dX6_in_2 : decode cX6_in 2 = .ok (.if_icmp .lt 12, 3) := by decide +kernel
theorem dX6_in_5 : decode cX6_in 5 = .ok (.iload_n 0, 1) := by decide +kernel
theorem dX6_in_6 : decode cX6_in 6 = .ok (.iload_n 2, 1) := by decide +kernel
theorem dX6_in_7 : decode cX6_in 7 = .ok (.if_icmp .gt 7, 3) := by decide +kernel
theorem dX6_in_10 : decode cX6_in 10 = .ok (.iconst 1, 1) := by decide +kernel
theorem dX6_in_11 : decode cX6_in 11 = .ok (.goto 4, 3) := by decide +kernel
theorem dX6_in_14 : decode cX6_in 14 = .ok (.iconst 0, 1) := by decide +kernel
theorem dX6_in_15 : decode cX6_in 15 = .ok (.ireturn, 1) := by decide +kernel
theorem dX6_copyState_0 : decode cX6_copyState 0 = .ok (.iconst 0, 1) := by decide +kernel
theorem dX6_copyState_1 : decode cX6_copyState 1 = .ok (.istore_n 3, 1) := by decide +kernel
theorem dX6_copyState_2 : decode cX6_copyState 2 = .ok (.iload_n 3, 1) := by decide +kernel
theorem dX6_copyState_3 : decode cX6_copyState 3 = .ok (.sipush 4809, 3) := by decide +kernel
theorem dX6_copyState_6 : decode cX6_copyState 6 = .ok (.if_icmp .ge 25, 3) := by decide +kernel
theorem dX6_copyState_9 : decode cX6_copyState 9 = .ok (.aload_n 0, 1) := by decide +kernel
theorem dX6_copyState_10 : decode cX6_copyState 10 = .ok (.getfield 8, 3) := by decide +kernel
theorem dX6_copyState_13 : decode cX6_copyState 13 = .ok (.iload_n 2, 1) := by decide +kernel
theorem dX6_copyState_14 : decode cX6_copyState 14 = .ok (.iload_n 3, 1) := by decide +kernel
theorem dX6_copyState_15 : decode cX6_copyState 15 = .ok (.iadd, 1) := by decide +kernel
theorem dX6_copyState_16 : decode cX6_copyState 16 = .ok (.aload_n 0, 1) := by decide +kernel
theorem dX6_copyState_17 : decode cX6_copyState 17 = .ok (.getfield 8, 3) := by decide +kernel
theorem dX6_copyState_20 : decode cX6_copyState 20 = .ok (.iload_n 1, 1) := by decide +kernel
theorem dX6_copyState_21 : decode cX6_copyState 21 = .ok (.iload_n 3, 1) := by decide +kernel
theorem dX6_copyState_22 : decode cX6_copyState 22 = .ok (.iadd, 1) := by decide +kernel
theorem dX6_copyState_23 : decode cX6_copyState 23 = .ok (.iaload, 1) := by decide +kernel
theorem dX6_copyState_24 : decode cX6_copyState 24 = .ok (.iastore, 1) := by decide +kernel
theorem dX6_copyState_25 : decode cX6_copyState 25 = .ok (.iinc 3 1, 3) := by decide +kernel
theorem dX6_copyState_28 : decode cX6_copyState 28 = .ok (.goto (-26), 3) := by decide +kernel
theorem dX6_copyState_31 : decode cX6_copyState 31 = .ok (.return_, 1) := by decide +kernel
theorem dX6_record_0 : decode cX6_record 0 = .ok (.aload_n 0, 1) := by decide +kernel
theorem dX6_record_1 : decode cX6_record 1 = .ok (.getfield 23, 3) := by decide +kernel
theorem dX6_record_4 : decode cX6_record 4 = .ok (.iconst 5, 1) := by decide +kernel
theorem dX6_record_5 : decode cX6_record 5 = .ok (.if_icmp .ne 44, 3) := by decide +kernel
theorem dX6_record_8 : decode cX6_record 8 = .ok (.iconst 1, 1) := by decide +kernel
theorem dX6_record_9 : decode cX6_record 9 = .ok (.istore_n 1, 1) := by decide +kernel
theorem dX6_record_10 : decode cX6_record 10 = .ok (.iload_n 1, 1) := by decide +kernel
theorem dX6_record_11 : decode cX6_record 11 = .ok (.iconst 5, 1) := by decide +kernel
theorem dX6_record_12 : decode cX6_record 12 = .ok (.if_icmp .ge 27, 3) := by decide +kernel
theorem dX6_record_15 : decode cX6_record 15 = .ok (.aload_n 0, 1) := by decide +kernel
theorem dX6_record_16 : decode cX6_record 16 = .ok (.sipush 4809, 3) := by decide +kernel
theorem dX6_record_19 : decode cX6_record 19 = .ok (.sipush 4809, 3) := by decide +kernel
theorem dX6_record_22 : decode cX6_record 22 = .ok (.iload_n 1, 1) := by decide +kernel
theorem dX6_record_23 : decode cX6_record 23 = .ok (.imul, 1) := by decide +kernel
theorem dX6_record_24 : decode cX6_record 24 = .ok (.iadd, 1) := by decide +kernel
theorem dX6_record_25 : decode cX6_record 25 = .ok (.sipush 4809, 3) := by decide +kernel
theorem dX6_record_28 : decode cX6_record 28 = .ok (.iload_n 1, 1) := by decide +kernel
theorem dX6_record_29 : decode cX6_record 29 = .ok (.imul, 1) := by decide +kernel
theorem dX6_record_30 : decode cX6_record 30 = .ok (.invokevirtual 27, 3) := by decide +kernel
theorem dX6_record_33 : decode cX6_record 33 = .ok (.iinc 1 1, 3) := by decide +kernel
theorem dX6_record_36 : decode cX6_record 36 = .ok (.goto (-26), 3) := by decide +kernel
theorem dX6_record_39 : decode cX6_record 39 = .ok (.aload_n 0, 1) := by decide +kernel
theorem dX6_record_40 : decode cX6_record 40 = .ok (.dup, 1) := by decide +kernel
theorem dX6_record_41 : decode cX6_record 41 = .ok (.getfield 23, 3) := by decide +kernel
theorem dX6_record_44 : decode cX6_record 44 = .ok (.iconst 1, 1) := by decide +kernel
theorem dX6_record_45 : decode cX6_record 45 = .ok (.isub, 1) := by decide +kernel
theorem dX6_record_46 : decode cX6_record 46 = .ok (.putfield 23, 3) := by decide +kernel
theorem dX6_record_49 : decode cX6_record 49 = .ok (.aload_n 0, 1) := by decide +kernel
theorem dX6_record_50 : decode cX6_record 50 = .ok (.iconst 0, 1) := by decide +kernel
theorem dX6_record_51 : decode cX6_record 51 = .ok (.sipush 4809, 3) := by decide +kernel
theorem dX6_record_54 : decode cX6_record 54 = .ok (.sipush 4809, 3) := by decide +kernel
theorem dX6_record_57 : decode cX6_record 57 = .ok (.aload_n 0, 1) := by decide +kernel
theorem dX6_record_58 : decode cX6_record 58 = .ok (.getfield 23, 3) := by decide +kernel
theorem dX6_record_61 : decode cX6_record 61 = .ok (.imul, 1) := by decide +kernel
theorem dX6_record_62 : decode cX6_record 62 = .ok (.iadd, 1) := by decide +kernel
theorem dX6_record_63 : decode cX6_record 63 = .ok (.invokevirtual 27, 3) := by decide +kernel
theorem dX6_record_66 : decode cX6_record 66 = .ok (.aload_n 0, 1) := by decide +kernel
theorem dX6_record_67 : decode cX6_record 67 = .ok (.dup, 1) := by decide +kernel
theorem dX6_record_68 : decode cX6_record 68 = .ok (.getfield 23, 3) := by decide +kernel
theorem dX6_record_71 : decode cX6_record 71 = .ok (.iconst 1, 1) := by decide +kernel
theorem dX6_record_72 : decode cX6_record 72 = .ok (.iadd, 1) := by decide +kernel
theorem dX6_record_73 : decode cX6_record 73 = .ok (.putfield 23, 3) := by decide +kernel
theorem dX6_record_76 : decode cX6_record 76 = .ok (.return_, 1) := by decide +kernel
theorem dX6_undo_0 : decode cX6_undo 0 = .ok (.aload_n 0, 1) := by decide +kernel
theorem dX6_undo_1 : decode cX6_undo 1 = .ok (.getfield 23, 3) := by decide +kernel
theorem dX6_undo_4 : decode cX6_undo 4 = .ok (.ifCond .ne 6, 3) := by decide +kernel
theorem dX6_undo_7 : decode cX6_undo 7 = .ok (.bipush (-2), 2) := by decide +kernel
theorem dX6_undo_9 : decode cX6_undo 9 = .ok (.ireturn, 1) := by decide +kernel
theorem dX6_undo_10 : decode cX6_undo 10 = .ok (.aload_n 0, 1) := by decide +kernel
theorem dX6_undo_11 : decode cX6_undo 11 = .ok (.dup, 1) := by decide +kernel
theorem dX6_undo_12 : decode cX6_undo 12 = .ok (.getfield 23, 3) := by decide +kernel
theorem dX6_undo_15 : decode cX6_undo 15 = .ok (.iconst 1, 1) := by decide +kernel
theorem dX6_undo_16 : decode cX6_undo 16 = .ok (.isub, 1) := by decide +kernel
theorem dX6_undo_17 : decode cX6_undo 17 = .ok (.putfield 23, 3) := by decide +kernel
theorem dX6_undo_20 : decode cX6_undo 20 = .ok (.aload_n 0, 1) := by decide +kernel
theorem dX6_undo_21 : decode cX6_undo 21 = .ok (.sipush 4809, 3) := by decide +kernel
theorem dX6_undo_24 : decode cX6_undo 24 = .ok (.sipush 4809, 3) := by decide +kernel
theorem dX6_undo_27 : decode cX6_undo 27 = .ok (.aload_n 0, 1) := by decide +kernel
theorem dX6_undo_28 : decode cX6_undo 28 = .ok (.getfield 23, 3) := by decide +kernel
theorem dX6_undo_31 : decode cX6_undo 31 = .ok (.imul, 1) := by decide +kernel
theorem dX6_undo_32 : decode cX6_undo 32 = .ok (.iadd, 1) := by decide +kernel
theorem dX6_undo_33 : decode cX6_undo 33 = .ok (.iconst 0, 1) := by decide +kernel
theorem dX6_undo_34 : decode cX6_undo 34 = .ok (.invokevirtual 27, 3) := by decide +kernel
theorem dX6_undo_37 : decode cX6_undo 37 = .ok (.aload_n 0, 1) := by decide +kernel
theorem dX6_undo_38 : decode cX6_undo 38 = .ok (.getfield 23, 3) := by decide +kernel
theorem dX6_undo_41 : decode cX6_undo 41 = .ok (.ireturn, 1) := by decide +kernel
theorem dX6_isRow_0 : decode cX6_isRow 0 = .ok (.iload_n 1, 1) := by decide +kernel
theorem dX6_isRow_1 : decode cX6_isRow 1 = .ok (.iconst 0, 1) := by decide +kernel
theorem dX6_isRow_2 : decode cX6_isRow 2 = .ok (.aload_n 0, 1) := by decide +kernel
theorem dX6_isRow_3 : decode cX6_isRow 3 = .ok (.getfield 8, 3) := by decide +kernel
theorem dX6_isRow_6 : decode cX6_isRow 6 = .ok (.sipush 4808, 3) := by decide +kernel
theorem dX6_isRow_9 : decode cX6_isRow 9 = .ok (.iaload, 1) := by decide +kernel
theorem dX6_isRow_10 : decode cX6_isRow 10 = .ok (.iconst 1, 1) := by decide +kernel
theorem dX6_isRow_11 : decode cX6_isRow 11 = .ok (.isub, 1) := by decide +kernel
theorem dX6_isRow_12 : decode cX6_isRow 12 = .ok (.invokestatic 31, 3) := by decide +kernel
theorem dX6_isRow_15 : decode cX6_isRow 15 = .ok (.ireturn, 1) := by decide +kernel
theorem dX6_at_0 : decode cX6_at 0 = .ok (.sipush 601, 3) := by decide +kernel
theorem dX6_at_3 : decode cX6_at 3 = .ok (.iload_n 0, 1) := by decide +kernel
theorem dX6_at_4 : decode cX6_at 4 = .ok (.imul, 1) := by decide +kernel
theorem dX6_at_5 : decode cX6_at 5 = .ok (.ireturn, 1) := by decide +kernel
theorem dX6_asked_0 : decode cX6_asked 0 = .ok (.sipush 28854, 3) := by decide +kernel
theorem dX6_asked_3 : decode cX6_asked 3 = .ok (.sipush 601, 3) := by decide +kernel
theorem dX6_asked_6 : decode cX6_asked 6 = .ok (.iload_n 0, 1) := by decide +kernel
theorem dX6_asked_7 : decode cX6_asked 7 = .ok (.imul, 1) := by decide +kernel
theorem dX6_asked_8 : decode cX6_asked 8 = .ok (.iadd, 1) := by decide +kernel
theorem dX6_asked_9 : decode cX6_asked 9 = .ok (.ireturn, 1) := by decide +kernel
theorem dX6_bitOf_0 : decode cX6_bitOf 0 = .ok (.iload_n 2, 1) := by decide +kernel
theorem dX6_bitOf_1 : decode cX6_bitOf 1 = .ok (.aload_n 0, 1) := by decide +kernel
theorem dX6_bitOf_2 : decode cX6_bitOf 2 = .ok (.getfield 8, 3) := by decide +kernel
theorem dX6_bitOf_5 : decode cX6_bitOf 5 = .ok (.iload_n 1, 1) := by decide +kernel
theorem dX6_bitOf_6 : decode cX6_bitOf 6 = .ok (.iaload, 1) := by decide +kernel
theorem dX6_bitOf_7 : decode cX6_bitOf 7 = .ok (.if_icmp .ge 16, 3) := by decide +kernel
theorem dX6_bitOf_10 : decode cX6_bitOf 10 = .ok (.aload_n 0, 1) := by decide +kernel
theorem dX6_bitOf_11 : decode cX6_bitOf 11 = .ok (.getfield 8, 3) := by decide +kernel
theorem dX6_bitOf_14 : decode cX6_bitOf 14 = .ok (.iload_n 1, 1) := by decide +kernel
theorem dX6_bitOf_15 : decode cX6_bitOf 15 = .ok (.iconst 1, 1) := by decide +kernel
theorem dX6_bitOf_16 : decode cX6_bitOf 16 = .ok (.iadd, 1) := by decide +kernel
theorem dX6_bitOf_17 : decode cX6_bitOf 17 = .ok (.iload_n 2, 1) := by decide +kernel
theorem dX6_bitOf_18 : decode cX6_bitOf 18 = .ok (.iadd, 1) := by decide +kernel
theorem dX6_bitOf_19 : decode cX6_bitOf 19 = .ok (.iaload, 1) := by decide +kernel
theorem dX6_bitOf_20 : decode cX6_bitOf 20 = .ok (.goto 4, 3) := by decide +kernel
theorem dX6_bitOf_23 : decode cX6_bitOf 23 = .ok (.iconst 0, 1) := by decide +kernel
theorem dX6_bitOf_24 : decode cX6_bitOf 24 = .ok (.ireturn, 1) := by decide +kernel
theorem dX6_put_0 : decode cX6_put 0 = .ok (.aload_n 0, 1) := by decide +kernel
theorem dX6_put_1 : decode cX6_put 1 = .ok (.getfield 8, 3) := by decide +kernel
theorem dX6_put_4 : decode cX6_put 4 = .ok (.iload_n 1, 1) := by decide +kernel
theorem dX6_put_5 : decode cX6_put 5 = .ok (.iconst 1, 1) := by decide +kernel
theorem dX6_put_6 : decode cX6_put 6 = .ok (.iadd, 1) := by decide +kernel
theorem dX6_put_7 : decode cX6_put 7 = .ok (.iload_n 2, 1) := by decide +kernel
theorem dX6_put_8 : decode cX6_put 8 = .ok (.iadd, 1) := by decide +kernel
theorem dX6_put_9 : decode cX6_put 9 = .ok (.iload_n 3, 1) := by decide +kernel
theorem dX6_put_10 : decode cX6_put 10 = .ok (.iastore, 1) := by decide +kernel
theorem dX6_put_11 : decode cX6_put 11 = .ok (.return_, 1) := by decide +kernel
theorem dX6_copy_0 : decode cX6_copy 0 = .ok (.iconst 0, 1) := by decide +kernel
theorem dX6_copy_1 : decode cX6_copy 1 = .ok (.istore_n 3, 1) := by decide +kernel
theorem dX6_copy_2 : decode cX6_copy 2 = .ok (.iload_n 3, 1) := by decide +kernel
theorem dX6_copy_3 : decode cX6_copy 3 = .ok (.sipush 601, 3) := by decide +kernel
theorem dX6_copy_6 : decode cX6_copy 6 = .ok (.if_icmp .ge 25, 3) := by decide +kernel
theorem dX6_copy_9 : decode cX6_copy 9 = .ok (.aload_n 0, 1) := by decide +kernel
theorem dX6_copy_10 : decode cX6_copy 10 = .ok (.getfield 8, 3) := by decide +kernel
theorem dX6_copy_13 : decode cX6_copy 13 = .ok (.iload_n 2, 1) := by decide +kernel
theorem dX6_copy_14 : decode cX6_copy 14 = .ok (.iload_n 3, 1) := by decide +kernel
theorem dX6_copy_15 : decode cX6_copy 15 = .ok (.iadd, 1) := by decide +kernel
theorem dX6_copy_16 : decode cX6_copy 16 = .ok (.aload_n 0, 1) := by decide +kernel
theorem dX6_copy_17 : decode cX6_copy 17 = .ok (.getfield 8, 3) := by decide +kernel
theorem dX6_copy_20 : decode cX6_copy 20 = .ok (.iload_n 1, 1) := by decide +kernel
theorem dX6_copy_21 : decode cX6_copy 21 = .ok (.iload_n 3, 1) := by decide +kernel
theorem dX6_copy_22 : decode cX6_copy 22 = .ok (.iadd, 1) := by decide +kernel
theorem dX6_copy_23 : decode cX6_copy 23 = .ok (.iaload, 1) := by decide +kernel
theorem dX6_copy_24 : decode cX6_copy 24 = .ok (.iastore, 1) := by decide +kernel
theorem dX6_copy_25 : decode cX6_copy 25 = .ok (.iinc 3 1, 3) := by decide +kernel
theorem dX6_copy_28 : decode cX6_copy 28 = .ok (.goto (-26), 3) := by decide +kernel
theorem dX6_copy_31 : decode cX6_copy 31 = .ok (.return_, 1) := by decide +kernel
theorem dX6_ones_0 : decode cX6_ones 0 = .ok (.iconst 0, 1) := by decide +kernel
theorem dX6_ones_1 : decode cX6_ones 1 = .ok (.istore_n 2, 1) := by decide +kernel
theorem dX6_ones_2 : decode cX6_ones 2 = .ok (.iconst 0, 1) := by decide +kernel
theorem dX6_ones_3 : decode cX6_ones 3 = .ok (.istore_n 3, 1) := by decide +kernel
theorem dX6_ones_4 : decode cX6_ones 4 = .ok (.iload_n 3, 1) := by decide +kernel
theorem dX6_ones_5 : decode cX6_ones 5 = .ok (.aload_n 0, 1) := by decide +kernel
theorem dX6_ones_6 : decode cX6_ones 6 = .ok (.getfield 8, 3) := by decide +kernel
theorem dX6_ones_9 : decode cX6_ones 9 = .ok (.iload_n 1, 1) := by decide +kernel
theorem dX6_ones_10 : decode cX6_ones 10 = .ok (.iaload, 1) := by decide +kernel
theorem dX6_ones_11 : decode cX6_ones 11 = .ok (.if_icmp .ge 18, 3) := by decide +kernel
theorem dX6_ones_14 : decode cX6_ones 14 = .ok (.iload_n 2, 1) := by decide +kernel
theorem dX6_ones_15 : decode cX6_ones 15 = .ok (.aload_n 0, 1) := by decide +kernel
theorem dX6_ones_16 : decode cX6_ones 16 = .ok (.iload_n 1, 1) := by decide +kernel
theorem dX6_ones_17 : decode cX6_ones 17 = .ok (.iload_n 3, 1) := by decide +kernel
theorem dX6_ones_18 : decode cX6_ones 18 = .ok (.invokevirtual 35, 3) := by decide +kernel
theorem dX6_ones_21 : decode cX6_ones 21 = .ok (.iadd, 1) := by decide +kernel
theorem dX6_ones_22 : decode cX6_ones 22 = .ok (.istore_n 2, 1) := by decide +kernel
theorem dX6_ones_23 : decode cX6_ones 23 = .ok (.iinc 3 1, 3) := by decide +kernel
theorem dX6_ones_26 : decode cX6_ones 26 = .ok (.goto (-22), 3) := by decide +kernel
theorem dX6_ones_29 : decode cX6_ones 29 = .ok (.iload_n 2, 1) := by decide +kernel
theorem dX6_ones_30 : decode cX6_ones 30 = .ok (.ireturn, 1) := by decide +kernel
theorem dX6_groups_0 : decode cX6_groups 0 = .ok (.aload_n 0, 1) := by decide +kernel
theorem dX6_groups_1 : decode cX6_groups 1 = .ok (.getfield 8, 3) := by decide +kernel
theorem dX6_groups_4 : decode cX6_groups 4 = .ok (.iload_n 1, 1) := by decide +kernel
theorem dX6_groups_5 : decode cX6_groups 5 = .ok (.iaload, 1) := by decide +kernel
theorem dX6_groups_6 : decode cX6_groups 6 = .ok (.bipush 15, 2) := by decide +kernel
theorem dX6_groups_8 : decode cX6_groups 8 = .ok (.iadd, 1) := by decide +kernel
theorem dX6_groups_9 : decode cX6_groups 9 = .ok (.iconst 1, 1) := by decide +kernel
theorem dX6_groups_10 : decode cX6_groups 10 = .ok (.isub, 1) := by decide +kernel
theorem dX6_groups_11 : decode cX6_groups 11 = .ok (.bipush 15, 2) := by decide +kernel
theorem dX6_groups_13 : decode cX6_groups 13 = .ok (.idiv, 1) := by decide +kernel
theorem dX6_groups_14 : decode cX6_groups 14 = .ok (.ireturn, 1) := by decide +kernel
theorem dX6_group_0 : decode cX6_group 0 = .ok (.iconst 0, 1) := by decide +kernel
theorem dX6_group_1 : decode cX6_group 1 = .ok (.istore_n 3, 1) := by decide +kernel
theorem dX6_group_2 : decode cX6_group 2 = .ok (.bipush 14, 2) := by decide +kernel
theorem dX6_group_4 : decode cX6_group 4 = .ok (.istore 4, 2) := by decide +kernel
theorem dX6_group_6 : decode cX6_group 6 = .ok (.iload 4, 2) := by decide +kernel
theorem dX6_group_8 : decode cX6_group 8 = .ok (.ifCond .lt 26, 3) := by decide +kernel
theorem dX6_group_11 : decode cX6_group 11 = .ok (.iconst 2, 1) := by decide +kernel
theorem dX6_group_12 : decode cX6_group 12 = .ok (.iload_n 3, 1) := by decide +kernel
theorem dX6_group_13 : decode cX6_group 13 = .ok (.imul, 1) := by decide +kernel
theorem dX6_group_14 : decode cX6_group 14 = .ok (.aload_n 0, 1) := by decide +kernel
theorem dX6_group_15 : decode cX6_group 15 = .ok (.iload_n 1, 1) := by decide +kernel
theorem dX6_group_16 : decode cX6_group 16 = .ok (.bipush 15, 2) := by decide +kernel
theorem dX6_group_18 : decode cX6_group 18 = .ok (.iload_n 2, 1) := by decide +kernel
theorem dX6_group_19 : decode cX6_group 19 = .ok (.imul, 1) := by decide +kernel
theorem dX6_group_20 : decode cX6_group 20 = .ok (.iload 4, 2) := by decide +kernel
theorem dX6_group_22 : decode cX6_group 22 = .ok (.iadd, 1) := by decide +kernel
theorem dX6_group_23 : decode cX6_group 23 = .ok (.invokevirtual 35, 3) := by decide +kernel
theorem dX6_group_26 : decode cX6_group 26 = .ok (.iadd, 1) := by decide +kernel
theorem dX6_group_27 : decode cX6_group 27 = .ok (.istore_n 3, 1) := by decide +kernel
theorem dX6_group_28 : decode cX6_group 28 = .ok (.iinc 4 (-1), 3) := by decide +kernel
theorem dX6_group_31 : decode cX6_group 31 = .ok (.goto (-25), 3) := by decide +kernel
theorem dX6_group_34 : decode cX6_group 34 = .ok (.iload_n 3, 1) := by decide +kernel
theorem dX6_group_35 : decode cX6_group 35 = .ok (.ireturn, 1) := by decide +kernel
theorem dX6_kind_0 : decode cX6_kind 0 = .ok (.aload_n 0, 1) := by decide +kernel
theorem dX6_kind_1 : decode cX6_kind 1 = .ok (.iload_n 1, 1) := by decide +kernel
theorem dX6_kind_2 : decode cX6_kind 2 = .ok (.iload_n 2, 1) := by decide +kernel
theorem dX6_kind_3 : decode cX6_kind 3 = .ok (.invokevirtual 39, 3) := by decide +kernel
theorem dX6_kind_6 : decode cX6_kind 6 = .ok (.istore_n 3, 1) := by decide +kernel
theorem dX6_kind_7 : decode cX6_kind 7 = .ok (.iload_n 3, 1) := by decide +kernel
theorem dX6_kind_8 : decode cX6_kind 8 = .ok (.ifCond .ne 7, 3) := by decide +kernel
theorem dX6_kind_11 : decode cX6_kind 11 = .ok (.iconst 0, 1) := by decide +kernel
theorem dX6_kind_12 : decode cX6_kind 12 = .ok (.goto 15, 3) := by decide +kernel
theorem dX6_kind_15 : decode cX6_kind 15 = .ok (.iload_n 3, 1) := by decide +kernel
theorem dX6_kind_16 : decode cX6_kind 16 = .ok (.sipush 32767, 3) := by decide +kernel
theorem dX6_kind_19 : decode cX6_kind 19 = .ok (.if_icmp .ne 7, 3) := by decide +kernel
theorem dX6_kind_22 : decode cX6_kind 22 = .ok (.iconst 1, 1) := by decide +kernel
theorem dX6_kind_23 : decode cX6_kind 23 = .ok (.goto 4, 3) := by decide +kernel
theorem dX6_kind_26 : decode cX6_kind 26 = .ok (.iconst 2, 1) := by decide +kernel
theorem dX6_kind_27 : decode cX6_kind 27 = .ok (.ireturn, 1) := by decide +kernel
theorem dX6_behind_0 : decode cX6_behind 0 = .ok (.aload_n 0, 1) := by decide +kernel
theorem dX6_behind_1 : decode cX6_behind 1 = .ok (.iload_n 1, 1) := by decide +kernel
theorem dX6_behind_2 : decode cX6_behind 2 = .ok (.iload_n 2, 1) := by decide +kernel
theorem dX6_behind_3 : decode cX6_behind 3 = .ok (.invokevirtual 42, 3) := by decide +kernel
theorem dX6_behind_6 : decode cX6_behind 6 = .ok (.istore_n 3, 1) := by decide +kernel
theorem dX6_behind_7 : decode cX6_behind 7 = .ok (.iload_n 2, 1) := by decide +kernel
theorem dX6_behind_8 : decode cX6_behind 8 = .ok (.iconst 1, 1) := by decide +kernel
theorem dX6_behind_9 : decode cX6_behind 9 = .ok (.iadd, 1) := by decide +kernel
theorem dX6_behind_10 : decode cX6_behind 10 = .ok (.istore 4, 2) := by decide +kernel
theorem dX6_behind_12 : decode cX6_behind 12 = .ok (.iload_n 3, 1) := by decide +kernel
theorem dX6_behind_13 : decode cX6_behind 13 = .ok (.iconst 2, 1) := by decide +kernel
theorem dX6_behind_14 : decode cX6_behind 14 = .ok (.if_icmp .ge 39, 3) := by decide +kernel
theorem dX6_behind_17 : decode cX6_behind 17 = .ok (.iload 4, 2) := by decide +kernel
theorem dX6_behind_19 : decode cX6_behind 19 = .ok (.aload_n 0, 1) := by decide +kernel
theorem dX6_behind_20 : decode cX6_behind 20 = .ok (.iload_n 1, 1) := by decide +kernel
theorem dX6_behind_21 : decode cX6_behind 21 = .ok (.invokevirtual 45, 3) := by decide +kernel
theorem dX6_behind_24 : decode cX6_behind 24 = .ok (.if_icmp .ge 29, 3) := by decide +kernel
theorem dX6_behind_27 : decode cX6_behind 27 = .ok (.iload 4, 2) := by decide +kernel
theorem dX6_behind_29 : decode cX6_behind 29 = .ok (.iload_n 2, 1) := by decide +kernel
theorem dX6_behind_30 : decode cX6_behind 30 = .ok (.isub, 1) := by decide +kernel
theorem dX6_behind_31 : decode cX6_behind 31 = .ok (.bipush 20, 2) := by decide +kernel
theorem dX6_behind_33 : decode cX6_behind 33 = .ok (.if_icmp .ge 20, 3) := by decide +kernel
theorem dX6_behind_36 : decode cX6_behind 36 = .ok (.aload_n 0, 1) := by decide +kernel
theorem dX6_behind_37 : decode cX6_behind 37 = .ok (.iload_n 1, 1) := by decide +kernel
theorem dX6_behind_38 : decode cX6_behind 38 = .ok (.iload 4, 2) := by decide +kernel
theorem dX6_behind_40 : decode cX6_behind 40 = .ok (.invokevirtual 42, 3) := by decide +kernel
theorem dX6_behind_43 : decode cX6_behind 43 = .ok (.iload_n 3, 1) := by decide +kernel
theorem dX6_behind_44 : decode cX6_behind 44 = .ok (.if_icmp .ne 9, 3) := by decide +kernel
theorem dX6_behind_47 : decode cX6_behind 47 = .ok (.iinc 4 1, 3) := by decide +kernel
theorem dX6_behind_50 : decode cX6_behind 50 = .ok (.goto (-38), 3) := by decide +kernel
theorem dX6_behind_53 : decode cX6_behind 53 = .ok (.iload 4, 2) := by decide +kernel
theorem dX6_behind_55 : decode cX6_behind 55 = .ok (.ireturn, 1) := by decide +kernel
theorem dX6_words_0 : decode cX6_words 0 = .ok (.iconst 0, 1) := by decide +kernel
theorem dX6_words_1 : decode cX6_words 1 = .ok (.istore_n 3, 1) := by decide +kernel
theorem dX6_words_2 : decode cX6_words 2 = .ok (.iconst 0, 1) := by decide +kernel
theorem dX6_words_3 : decode cX6_words 3 = .ok (.istore 4, 2) := by decide +kernel
theorem dX6_words_5 : decode cX6_words 5 = .ok (.iload 4, 2) := by decide +kernel
theorem dX6_words_7 : decode cX6_words 7 = .ok (.aload_n 0, 1) := by decide +kernel
theorem dX6_words_8 : decode cX6_words 8 = .ok (.iload_n 1, 1) := by decide +kernel
theorem dX6_words_9 : decode cX6_words 9 = .ok (.invokevirtual 45, 3) := by decide +kernel
theorem dX6_words_12 : decode cX6_words 12 = .ok (.if_icmp .ge 39, 3) := by decide +kernel
theorem dX6_words_15 : decode cX6_words 15 = .ok (.iload_n 3, 1) := by decide +kernel
theorem dX6_words_16 : decode cX6_words 16 = .ok (.iload_n 2, 1) := by decide +kernel
theorem dX6_words_17 : decode cX6_words 17 = .ok (.iconst 3, 1) := by decide +kernel
theorem dX6_words_18 : decode cX6_words 18 = .ok (.if_icmp .eq 14, 3) := by decide +kernel
theorem dX6_words_21 : decode cX6_words 21 = .ok (.aload_n 0, 1) := by decide +kernel
theorem dX6_words_22 : decode cX6_words 22 = .ok (.iload_n 1, 1) := by decide +kernel
theorem dX6_words_23 : decode cX6_words 23 = .ok (.iload 4, 2) := by decide +kernel
theorem dX6_words_25 : decode cX6_words 25 = .ok (.invokevirtual 42, 3) := by decide +kernel
theorem dX6_words_28 : decode cX6_words 28 = .ok (.iload_n 2, 1) := by decide +kernel
theorem dX6_words_29 : decode cX6_words 29 = .ok (.if_icmp .ne 7, 3) := by decide +kernel
theorem dX6_words_32 : decode cX6_words 32 = .ok (.iconst 1, 1) := by decide +kernel
theorem dX6_words_33 : decode cX6_words 33 = .ok (.goto 4, 3) := by decide +kernel
theorem dX6_words_36 : decode cX6_words 36 = .ok (.iconst 0, 1) := by decide +kernel
theorem dX6_words_37 : decode cX6_words 37 = .ok (.iadd, 1) := by decide +kernel
theorem dX6_words_38 : decode cX6_words 38 = .ok (.istore_n 3, 1) := by decide +kernel
theorem dX6_words_39 : decode cX6_words 39 = .ok (.aload_n 0, 1) := by decide +kernel
theorem dX6_words_40 : decode cX6_words 40 = .ok (.iload_n 1, 1) := by decide +kernel
theorem dX6_words_41 : decode cX6_words 41 = .ok (.iload 4, 2) := by decide +kernel
theorem dX6_words_43 : decode cX6_words 43 = .ok (.invokevirtual 49, 3) := by decide +kernel
theorem dX6_words_46 : decode cX6_words 46 = .ok (.istore 4, 2) := by decide +kernel
theorem dX6_words_48 : decode cX6_words 48 = .ok (.goto (-43), 3) := by decide +kernel
theorem dX6_words_51 : decode cX6_words 51 = .ok (.iload_n 3, 1) := by decide +kernel
theorem dX6_words_52 : decode cX6_words 52 = .ok (.ireturn, 1) := by decide +kernel
theorem dX6_codeAt_0 : decode cX6_codeAt 0 = .ok (.aload_n 0, 1) := by decide +kernel
theorem dX6_codeAt_1 : decode cX6_codeAt 1 = .ok (.iload_n 1, 1) := by decide +kernel
theorem dX6_codeAt_2 : decode cX6_codeAt 2 = .ok (.iload_n 2, 1) := by decide +kernel
theorem dX6_codeAt_3 : decode cX6_codeAt 3 = .ok (.invokevirtual 42, 3) := by decide +kernel
theorem dX6_codeAt_6 : decode cX6_codeAt 6 = .ok (.istore_n 3, 1) := by decide +kernel
theorem dX6_codeAt_7 : decode cX6_codeAt 7 = .ok (.iload_n 3, 1) := by decide +kernel
theorem dX6_codeAt_8 : decode cX6_codeAt 8 = .ok (.iconst 2, 1) := by decide +kernel
theorem dX6_codeAt_9 : decode cX6_codeAt 9 = .ok (.if_icmp .ne 12, 3) := by decide +kernel
theorem dX6_codeAt_12 : decode cX6_codeAt 12 = .ok (.aload_n 0, 1) := by decide +kernel
theorem dX6_codeAt_13 : decode cX6_codeAt 13 = .ok (.iload_n 1, 1) := by decide +kernel
theorem dX6_codeAt_14 : decode cX6_codeAt 14 = .ok (.iload_n 2, 1) := by decide +kernel
theorem dX6_codeAt_15 : decode cX6_codeAt 15 = .ok (.invokevirtual 39, 3) := by decide +kernel
theorem dX6_codeAt_18 : decode cX6_codeAt 18 = .ok (.goto 23, 3) := by decide +kernel
theorem dX6_codeAt_21 : decode cX6_codeAt 21 = .ok (.iload_n 3, 1) := by decide +kernel
theorem dX6_codeAt_22 : decode cX6_codeAt 22 = .ok (.ifCond .ne 8, 3) := by decide +kernel
theorem dX6_codeAt_25 : decode cX6_codeAt 25 = .ok (.ldc 52, 2) := by decide +kernel
theorem dX6_codeAt_27 : decode cX6_codeAt 27 = .ok (.goto 5, 3) := by decide +kernel
theorem dX6_codeAt_30 : decode cX6_codeAt 30 = .ok (.ldc 53, 2) := by decide +kernel
theorem dX6_codeAt_32 : decode cX6_codeAt 32 = .ok (.aload_n 0, 1) := by decide +kernel
theorem dX6_codeAt_33 : decode cX6_codeAt 33 = .ok (.iload_n 1, 1) := by decide +kernel
theorem dX6_codeAt_34 : decode cX6_codeAt 34 = .ok (.iload_n 2, 1) := by decide +kernel
theorem dX6_codeAt_35 : decode cX6_codeAt 35 = .ok (.invokevirtual 49, 3) := by decide +kernel
theorem dX6_codeAt_38 : decode cX6_codeAt 38 = .ok (.iadd, 1) := by decide +kernel
theorem dX6_codeAt_39 : decode cX6_codeAt 39 = .ok (.iload_n 2, 1) := by decide +kernel
theorem dX6_codeAt_40 : decode cX6_codeAt 40 = .ok (.isub, 1) := by decide +kernel
theorem dX6_codeAt_41 : decode cX6_codeAt 41 = .ok (.ireturn, 1) := by decide +kernel
theorem dX6_result_0 : decode cX6_result 0 = .ok (.iload_n 0, 1) := by decide +kernel
theorem dX6_result_1 : decode cX6_result 1 = .ok (.ifCond .ne 9, 3) := by decide +kernel
theorem dX6_result_4 : decode cX6_result 4 = .ok (.iload_n 1, 1) := by decide +kernel
theorem dX6_result_5 : decode cX6_result 5 = .ok (.iload_n 2, 1) := by decide +kernel
theorem dX6_result_6 : decode cX6_result 6 = .ok (.iand, 1) := by decide +kernel
theorem dX6_result_7 : decode cX6_result 7 = .ok (.goto 30, 3) := by decide +kernel
theorem dX6_result_10 : decode cX6_result 10 = .ok (.iload_n 0, 1) := by decide +kernel
theorem dX6_result_11 : decode cX6_result 11 = .ok (.iconst 1, 1) := by decide +kernel
theorem dX6_result_12 : decode cX6_result 12 = .ok (.if_icmp .ne 9, 3) := by decide +kernel
theorem dX6_result_15 : decode cX6_result 15 = .ok (.iload_n 1, 1) := by decide +kernel
theorem dX6_result_16 : decode cX6_result 16 = .ok (.iload_n 2, 1) := by decide +kernel
theorem dX6_result_17 : decode cX6_result 17 = .ok (.ior, 1) := by decide +kernel
theorem dX6_result_18 : decode cX6_result 18 = .ok (.goto 19, 3) := by decide +kernel
theorem dX6_result_21 : decode cX6_result 21 = .ok (.iload_n 0, 1) := by decide +kernel
theorem dX6_result_22 : decode cX6_result 22 = .ok (.iconst 2, 1) := by decide +kernel
theorem dX6_result_23 : decode cX6_result 23 = .ok (.if_icmp .ne 11, 3) := by decide +kernel
theorem dX6_result_26 : decode cX6_result 26 = .ok (.iload_n 1, 1) := by decide +kernel
theorem dX6_result_27 : decode cX6_result 27 = .ok (.iload_n 2, 1) := by decide +kernel
theorem dX6_result_28 : decode cX6_result 28 = .ok (.iconst (-1), 1) := by decide +kernel
theorem dX6_result_29 : decode cX6_result 29 = .ok (.ixor, 1) := by decide +kernel
theorem dX6_result_30 : decode cX6_result 30 = .ok (.iand, 1) := by decide +kernel
theorem dX6_result_31 : decode cX6_result 31 = .ok (.goto 6, 3) := by decide +kernel
theorem dX6_result_34 : decode cX6_result 34 = .ok (.iload_n 1, 1) := by decide +kernel
theorem dX6_result_35 : decode cX6_result 35 = .ok (.iload_n 2, 1) := by decide +kernel
theorem dX6_result_36 : decode cX6_result 36 = .ok (.ixor, 1) := by decide +kernel
theorem dX6_result_37 : decode cX6_result 37 = .ok (.ireturn, 1) := by decide +kernel
theorem dX6_operateOn_0 : decode cX6_operateOn 0 = .ok (.aload_n 0, 1) := by decide +kernel
theorem dX6_operateOn_1 : decode cX6_operateOn 1 = .ok (.getfield 8, 3) := by decide +kernel
theorem dX6_operateOn_4 : decode cX6_operateOn 4 = .ok (.iload_n 2, 1) := by decide +kernel
theorem dX6_operateOn_5 : decode cX6_operateOn 5 = .ok (.iaload, 1) := by decide +kernel
theorem dX6_operateOn_6 : decode cX6_operateOn 6 = .ok (.aload_n 0, 1) := by decide +kernel
theorem dX6_operateOn_7 : decode cX6_operateOn 7 = .ok (.getfield 8, 3) := by decide +kernel
theorem dX6_operateOn_10 : decode cX6_operateOn 10 = .ok (.iload_n 3, 1) := by decide +kernel
theorem dX6_operateOn_11 : decode cX6_operateOn 11 = .ok (.iaload, 1) := by decide +kernel
theorem dX6_operateOn_12 : decode cX6_operateOn 12 = .ok (.if_icmp .le 12, 3) := by decide +kernel
theorem dX6_operateOn_15 : decode cX6_operateOn 15 = .ok (.aload_n 0, 1) := by decide +kernel
theorem dX6_operateOn_16 : decode cX6_operateOn 16 = .ok (.getfield 8, 3) := by decide +kernel
theorem dX6_operateOn_19 : decode cX6_operateOn 19 = .ok (.iload_n 2, 1) := by decide +kernel
theorem dX6_operateOn_20 : decode cX6_operateOn 20 = .ok (.iaload, 1) := by decide +kernel
theorem dX6_operateOn_21 : decode cX6_operateOn 21 = .ok (.goto 9, 3) := by decide +kernel
theorem dX6_operateOn_24 : decode cX6_operateOn 24 = .ok (.aload_n 0, 1) := by decide +kernel
theorem dX6_operateOn_25 : decode cX6_operateOn 25 = .ok (.getfield 8, 3) := by decide +kernel
theorem dX6_operateOn_28 : decode cX6_operateOn 28 = .ok (.iload_n 3, 1) := by decide +kernel
theorem dX6_operateOn_29 : decode cX6_operateOn 29 = .ok (.iaload, 1) := by decide +kernel
theorem dX6_operateOn_30 : decode cX6_operateOn 30 = .ok (.istore 5, 2) := by decide +kernel
theorem dX6_operateOn_32 : decode cX6_operateOn 32 = .ok (.iconst 0, 1) := by decide +kernel
theorem dX6_operateOn_33 : decode cX6_operateOn 33 = .ok (.istore 6, 2) := by decide +kernel
theorem dX6_operateOn_35 : decode cX6_operateOn 35 = .ok (.iload 6, 2) := by decide +kernel
theorem dX6_operateOn_37 : decode cX6_operateOn 37 = .ok (.iload 5, 2) := by decide +kernel
theorem dX6_operateOn_39 : decode cX6_operateOn 39 = .ok (.if_icmp .ge 46, 3) := by decide +kernel
theorem dX6_operateOn_42 : decode cX6_operateOn 42 = .ok (.aload_n 0, 1) := by decide +kernel
theorem dX6_operateOn_43 : decode cX6_operateOn 43 = .ok (.iload_n 2, 1) := by decide +kernel
theorem dX6_operateOn_44 : decode cX6_operateOn 44 = .ok (.iload 6, 2) := by decide +kernel
theorem dX6_operateOn_46 : decode cX6_operateOn 46 = .ok (.invokevirtual 35, 3) := by decide +kernel
theorem dX6_operateOn_49 : decode cX6_operateOn 49 = .ok (.istore 7, 2) := by decide +kernel
theorem dX6_operateOn_51 : decode cX6_operateOn 51 = .ok (.aload_n 0, 1) := by decide +kernel
theorem dX6_operateOn_52 : decode cX6_operateOn 52 = .ok (.iload_n 3, 1) := by decide +kernel
theorem dX6_operateOn_53 : decode cX6_operateOn 53 = .ok (.iload 6, 2) := by decide +kernel
theorem dX6_operateOn_55 : decode cX6_operateOn 55 = .ok (.invokevirtual 35, 3) := by decide +kernel
theorem dX6_operateOn_58 : decode cX6_operateOn 58 = .ok (.istore 8, 2) := by decide +kernel
theorem dX6_operateOn_60 : decode cX6_operateOn 60 = .ok (.aload_n 0, 1) := by decide +kernel
theorem dX6_operateOn_61 : decode cX6_operateOn 61 = .ok (.bipush 31, 2) := by decide +kernel
theorem dX6_operateOn_63 : decode cX6_operateOn 63 = .ok (.invokestatic 54, 3) := by decide +kernel
theorem dX6_operateOn_66 : decode cX6_operateOn 66 = .ok (.iload 6, 2) := by decide +kernel
theorem dX6_operateOn_68 : decode cX6_operateOn 68 = .ok (.iload_n 1, 1) := by decide +kernel
theorem dX6_operateOn_69 : decode cX6_operateOn 69 = .ok (.iload 7, 2) := by decide +kernel
theorem dX6_operateOn_71 : decode cX6_operateOn 71 = .ok (.iload 8, 2) := by decide +kernel
theorem dX6_operateOn_73 : decode cX6_operateOn 73 = .ok (.invokestatic 57, 3) := by decide +kernel
theorem dX6_operateOn_76 : decode cX6_operateOn 76 = .ok (.invokevirtual 61, 3) := by decide +kernel
theorem dX6_operateOn_79 : decode cX6_operateOn 79 = .ok (.iinc 6 1, 3) := by decide +kernel
theorem dX6_operateOn_82 : decode cX6_operateOn 82 = .ok (.goto (-47), 3) := by decide +kernel
theorem dX6_operateOn_85 : decode cX6_operateOn 85 = .ok (.aload_n 0, 1) := by decide +kernel
theorem dX6_operateOn_86 : decode cX6_operateOn 86 = .ok (.getfield 8, 3) := by decide +kernel
theorem dX6_operateOn_89 : decode cX6_operateOn 89 = .ok (.bipush 31, 2) := by decide +kernel
theorem dX6_operateOn_91 : decode cX6_operateOn 91 = .ok (.invokestatic 54, 3) := by decide +kernel
theorem dX6_operateOn_94 : decode cX6_operateOn 94 = .ok (.iload 5, 2) := by decide +kernel
theorem dX6_operateOn_96 : decode cX6_operateOn 96 = .ok (.iastore, 1) := by decide +kernel
theorem dX6_operateOn_97 : decode cX6_operateOn 97 = .ok (.aload_n 0, 1) := by decide +kernel
theorem dX6_operateOn_98 : decode cX6_operateOn 98 = .ok (.bipush 31, 2) := by decide +kernel
theorem dX6_operateOn_100 : decode cX6_operateOn 100 = .ok (.invokestatic 54, 3) := by decide +kernel
theorem dX6_operateOn_103 : decode cX6_operateOn 103 = .ok (.iload 4, 2) := by decide +kernel
theorem dX6_operateOn_105 : decode cX6_operateOn 105 = .ok (.invokevirtual 65, 3) := by decide +kernel
theorem dX6_operateOn_108 : decode cX6_operateOn 108 = .ok (.return_, 1) := by decide +kernel
theorem dX6_turn_0 : decode cX6_turn 0 = .ok (.iconst 0, 1) := by decide +kernel
theorem dX6_turn_1 : decode cX6_turn 1 = .ok (.istore_n 2, 1) := by decide +kernel
theorem dX6_turn_2 : decode cX6_turn 2 = .ok (.iload_n 2, 1) := by decide +kernel
theorem dX6_turn_3 : decode cX6_turn 3 = .ok (.aload_n 0, 1) := by decide +kernel
theorem dX6_turn_4 : decode cX6_turn 4 = .ok (.getfield 8, 3) := by decide +kernel
theorem dX6_turn_7 : decode cX6_turn 7 = .ok (.iload_n 1, 1) := by decide +kernel
theorem dX6_turn_8 : decode cX6_turn 8 = .ok (.iaload, 1) := by decide +kernel
theorem dX6_turn_9 : decode cX6_turn 9 = .ok (.if_icmp .ge 23, 3) := by decide +kernel
theorem dX6_turn_12 : decode cX6_turn 12 = .ok (.aload_n 0, 1) := by decide +kernel
theorem dX6_turn_13 : decode cX6_turn 13 = .ok (.iload_n 1, 1) := by decide +kernel
theorem dX6_turn_14 : decode cX6_turn 14 = .ok (.iload_n 2, 1) := by decide +kernel
theorem dX6_turn_15 : decode cX6_turn 15 = .ok (.iconst 1, 1) := by decide +kernel
theorem dX6_turn_16 : decode cX6_turn 16 = .ok (.aload_n 0, 1) := by decide +kernel
theorem dX6_turn_17 : decode cX6_turn 17 = .ok (.iload_n 1, 1) := by decide +kernel
theorem dX6_turn_18 : decode cX6_turn 18 = .ok (.iload_n 2, 1) := by decide +kernel
theorem dX6_turn_19 : decode cX6_turn 19 = .ok (.invokevirtual 35, 3) := by decide +kernel
theorem dX6_turn_22 : decode cX6_turn 22 = .ok (.isub, 1) := by decide +kernel
theorem dX6_turn_23 : decode cX6_turn 23 = .ok (.invokevirtual 61, 3) := by decide +kernel
theorem dX6_turn_26 : decode cX6_turn 26 = .ok (.iinc 2 1, 3) := by decide +kernel
theorem dX6_turn_29 : decode cX6_turn 29 = .ok (.goto (-27), 3) := by decide +kernel
theorem dX6_turn_32 : decode cX6_turn 32 = .ok (.return_, 1) := by decide +kernel
theorem dX6_shiftOn_0 : decode cX6_shiftOn 0 = .ok (.aload_n 0, 1) := by decide +kernel
theorem dX6_shiftOn_1 : decode cX6_shiftOn 1 = .ok (.getfield 8, 3) := by decide +kernel
theorem dX6_shiftOn_4 : decode cX6_shiftOn 4 = .ok (.iload_n 1, 1) := by decide +kernel
theorem dX6_shiftOn_5 : decode cX6_shiftOn 5 = .ok (.iaload, 1) := by decide +kernel
theorem dX6_shiftOn_6 : decode cX6_shiftOn 6 = .ok (.iload_n 2, 1) := by decide +kernel
theorem dX6_shiftOn_7 : decode cX6_shiftOn 7 = .ok (.iadd, 1) := by decide +kernel
theorem dX6_shiftOn_8 : decode cX6_shiftOn 8 = .ok (.istore_n 3, 1) := by decide +kernel
theorem dX6_shiftOn_9 : decode cX6_shiftOn 9 = .ok (.iload_n 3, 1) := by decide +kernel
theorem dX6_shiftOn_10 : decode cX6_shiftOn 10 = .ok (.ifCond .ge 7, 3) := by decide +kernel
theorem dX6_shiftOn_13 : decode cX6_shiftOn 13 = .ok (.iconst 0, 1) := by decide +kernel
theorem dX6_shiftOn_14 : decode cX6_shiftOn 14 = .ok (.goto 17, 3) := by decide +kernel
theorem dX6_shiftOn_17 : decode cX6_shiftOn 17 = .ok (.iload_n 3, 1) := by decide +kernel
theorem dX6_shiftOn_18 : decode cX6_shiftOn 18 = .ok (.sipush 600, 3) := by decide +kernel
theorem dX6_shiftOn_21 : decode cX6_shiftOn 21 = .ok (.if_icmp .le 9, 3) := by decide +kernel
theorem dX6_shiftOn_24 : decode cX6_shiftOn 24 = .ok (.sipush 600, 3) := by decide +kernel
theorem dX6_shiftOn_27 : decode cX6_shiftOn 27 = .ok (.goto 4, 3) := by decide +kernel
theorem dX6_shiftOn_30 : decode cX6_shiftOn 30 = .ok (.iload_n 3, 1) := by decide +kernel
theorem dX6_shiftOn_31 : decode cX6_shiftOn 31 = .ok (.istore_n 3, 1) := by decide +kernel
theorem dX6_shiftOn_32 : decode cX6_shiftOn 32 = .ok (.iconst 0, 1) := by decide +kernel
theorem dX6_shiftOn_33 : decode cX6_shiftOn 33 = .ok (.istore 4, 2) := by decide +kernel
theorem dX6_shiftOn_35 : decode cX6_shiftOn 35 = .ok (.iload 4, 2) := by decide +kernel
theorem dX6_shiftOn_37 : decode cX6_shiftOn 37 = .ok (.iload_n 3, 1) := by decide +kernel
theorem dX6_shiftOn_38 : decode cX6_shiftOn 38 = .ok (.if_icmp .ge 39, 3) := by decide +kernel
theorem dX6_shiftOn_41 : decode cX6_shiftOn 41 = .ok (.aload_n 0, 1) := by decide +kernel
theorem dX6_shiftOn_42 : decode cX6_shiftOn 42 = .ok (.bipush 31, 2) := by decide +kernel
theorem dX6_shiftOn_44 : decode cX6_shiftOn 44 = .ok (.invokestatic 54, 3) := by decide +kernel
theorem dX6_shiftOn_47 : decode cX6_shiftOn 47 = .ok (.iload 4, 2) := by decide +kernel
theorem dX6_shiftOn_49 : decode cX6_shiftOn 49 = .ok (.iload 4, 2) := by decide +kernel
theorem dX6_shiftOn_51 : decode cX6_shiftOn 51 = .ok (.iload_n 2, 1) := by decide +kernel
theorem dX6_shiftOn_52 : decode cX6_shiftOn 52 = .ok (.if_icmp .ge 7, 3) := by decide +kernel
theorem dX6_shiftOn_55 : decode cX6_shiftOn 55 = .ok (.iconst 0, 1) := by decide +kernel
theorem dX6_shiftOn_56 : decode cX6_shiftOn 56 = .ok (.goto 12, 3) := by decide +kernel
theorem dX6_shiftOn_59 : decode cX6_shiftOn 59 = .ok (.aload_n 0, 1) := by decide +kernel
theorem dX6_shiftOn_60 : decode cX6_shiftOn 60 = .ok (.iload_n 1, 1) := by decide +kernel
theorem dX6_shiftOn_61 : decode cX6_shiftOn 61 = .ok (.iload 4, 2) := by decide +kernel
theorem dX6_shiftOn_63 : decode cX6_shiftOn 63 = .ok (.iload_n 2, 1) := by decide +kernel
theorem dX6_shiftOn_64 : decode cX6_shiftOn 64 = .ok (.isub, 1) := by decide +kernel
theorem dX6_shiftOn_65 : decode cX6_shiftOn 65 = .ok (.invokevirtual 35, 3) := by decide +kernel
theorem dX6_shiftOn_68 : decode cX6_shiftOn 68 = .ok (.invokevirtual 61, 3) := by decide +kernel
theorem dX6_shiftOn_71 : decode cX6_shiftOn 71 = .ok (.iinc 4 1, 3) := by decide +kernel
theorem dX6_shiftOn_74 : decode cX6_shiftOn 74 = .ok (.goto (-39), 3) := by decide +kernel
theorem dX6_shiftOn_77 : decode cX6_shiftOn 77 = .ok (.aload_n 0, 1) := by decide +kernel
theorem dX6_shiftOn_78 : decode cX6_shiftOn 78 = .ok (.getfield 8, 3) := by decide +kernel
theorem dX6_shiftOn_81 : decode cX6_shiftOn 81 = .ok (.bipush 31, 2) := by decide +kernel
theorem dX6_shiftOn_83 : decode cX6_shiftOn 83 = .ok (.invokestatic 54, 3) := by decide +kernel
theorem dX6_shiftOn_86 : decode cX6_shiftOn 86 = .ok (.iload_n 3, 1) := by decide +kernel
theorem dX6_shiftOn_87 : decode cX6_shiftOn 87 = .ok (.iastore, 1) := by decide +kernel
theorem dX6_shiftOn_88 : decode cX6_shiftOn 88 = .ok (.aload_n 0, 1) := by decide +kernel
theorem dX6_shiftOn_89 : decode cX6_shiftOn 89 = .ok (.bipush 31, 2) := by decide +kernel
theorem dX6_shiftOn_91 : decode cX6_shiftOn 91 = .ok (.invokestatic 54, 3) := by decide +kernel
theorem dX6_shiftOn_94 : decode cX6_shiftOn 94 = .ok (.iload_n 1, 1) := by decide +kernel
theorem dX6_shiftOn_95 : decode cX6_shiftOn 95 = .ok (.invokevirtual 65, 3) := by decide +kernel
theorem dX6_shiftOn_98 : decode cX6_shiftOn 98 = .ok (.return_, 1) := by decide +kernel
theorem dX6_workOf_0 : decode cX6_workOf 0 = .ok (.iconst 0, 1) := by decide +kernel
theorem dX6_workOf_1 : decode cX6_workOf 1 = .ok (.istore_n 3, 1) := by decide +kernel
theorem dX6_workOf_2 : decode cX6_workOf 2 = .ok (.iload_n 3, 1) := by decide +kernel
theorem dX6_workOf_3 : decode cX6_workOf 3 = .ok (.bipush 41, 2) := by decide +kernel
theorem dX6_workOf_5 : decode cX6_workOf 5 = .ok (.if_icmp .ge 16, 3) := by decide +kernel
theorem dX6_workOf_8 : decode cX6_workOf 8 = .ok (.aload_n 0, 1) := by decide +kernel
theorem dX6_workOf_9 : decode cX6_workOf 9 = .ok (.getfield 17, 3) := by decide +kernel
theorem dX6_workOf_12 : decode cX6_workOf 12 = .ok (.iload_n 3, 1) := by decide +kernel
theorem dX6_workOf_13 : decode cX6_workOf 13 = .ok (.iconst 0, 1) := by decide +kernel
theorem dX6_workOf_14 : decode cX6_workOf 14 = .ok (.iastore, 1) := by decide +kernel
theorem dX6_workOf_15 : decode cX6_workOf 15 = .ok (.iinc 3 1, 3) := by decide +kernel
theorem dX6_workOf_18 : decode cX6_workOf 18 = .ok (.goto (-16), 3) := by decide +kernel
theorem dX6_workOf_21 : decode cX6_workOf 21 = .ok (.iconst 0, 1) := by decide +kernel
theorem dX6_workOf_22 : decode cX6_workOf 22 = .ok (.istore_n 3, 1) := by decide +kernel
theorem dX6_workOf_23 : decode cX6_workOf 23 = .ok (.iload_n 3, 1) := by decide +kernel
theorem dX6_workOf_24 : decode cX6_workOf 24 = .ok (.aload_n 0, 1) := by decide +kernel
theorem dX6_workOf_25 : decode cX6_workOf 25 = .ok (.iload_n 1, 1) := by decide +kernel
theorem dX6_workOf_26 : decode cX6_workOf 26 = .ok (.invokevirtual 45, 3) := by decide +kernel
theorem dX6_workOf_29 : decode cX6_workOf 29 = .ok (.if_icmp .ge 25, 3) := by decide +kernel
theorem dX6_workOf_32 : decode cX6_workOf 32 = .ok (.aload_n 0, 1) := by decide +kernel
theorem dX6_workOf_33 : decode cX6_workOf 33 = .ok (.getfield 17, 3) := by decide +kernel
theorem dX6_workOf_36 : decode cX6_workOf 36 = .ok (.aload_n 0, 1) := by decide +kernel
theorem dX6_workOf_37 : decode cX6_workOf 37 = .ok (.iload_n 1, 1) := by decide +kernel
theorem dX6_workOf_38 : decode cX6_workOf 38 = .ok (.iload_n 3, 1) := by decide +kernel
theorem dX6_workOf_39 : decode cX6_workOf 39 = .ok (.invokevirtual 49, 3) := by decide +kernel
theorem dX6_workOf_42 : decode cX6_workOf 42 = .ok (.iconst 1, 1) := by decide +kernel
theorem dX6_workOf_43 : decode cX6_workOf 43 = .ok (.iastore, 1) := by decide +kernel
theorem dX6_workOf_44 : decode cX6_workOf 44 = .ok (.aload_n 0, 1) := by decide +kernel
theorem dX6_workOf_45 : decode cX6_workOf 45 = .ok (.iload_n 1, 1) := by decide +kernel
theorem dX6_workOf_46 : decode cX6_workOf 46 = .ok (.iload_n 3, 1) := by decide +kernel
theorem dX6_workOf_47 : decode cX6_workOf 47 = .ok (.invokevirtual 49, 3) := by decide +kernel
theorem dX6_workOf_50 : decode cX6_workOf 50 = .ok (.istore_n 3, 1) := by decide +kernel
theorem dX6_workOf_51 : decode cX6_workOf 51 = .ok (.goto (-28), 3) := by decide +kernel
theorem dX6_workOf_54 : decode cX6_workOf 54 = .ok (.iconst 0, 1) := by decide +kernel
theorem dX6_workOf_55 : decode cX6_workOf 55 = .ok (.istore_n 3, 1) := by decide +kernel
theorem dX6_workOf_56 : decode cX6_workOf 56 = .ok (.iload_n 3, 1) := by decide +kernel
theorem dX6_workOf_57 : decode cX6_workOf 57 = .ok (.aload_n 0, 1) := by decide +kernel
theorem dX6_workOf_58 : decode cX6_workOf 58 = .ok (.iload_n 2, 1) := by decide +kernel
theorem dX6_workOf_59 : decode cX6_workOf 59 = .ok (.invokevirtual 45, 3) := by decide +kernel
theorem dX6_workOf_62 : decode cX6_workOf 62 = .ok (.if_icmp .ge 25, 3) := by decide +kernel
theorem dX6_workOf_65 : decode cX6_workOf 65 = .ok (.aload_n 0, 1) := by decide +kernel
theorem dX6_workOf_66 : decode cX6_workOf 66 = .ok (.getfield 17, 3) := by decide +kernel
theorem dX6_workOf_69 : decode cX6_workOf 69 = .ok (.aload_n 0, 1) := by decide +kernel
theorem dX6_workOf_70 : decode cX6_workOf 70 = .ok (.iload_n 2, 1) := by decide +kernel
theorem dX6_workOf_71 : decode cX6_workOf 71 = .ok (.iload_n 3, 1) := by decide +kernel
theorem dX6_workOf_72 : decode cX6_workOf 72 = .ok (.invokevirtual 49, 3) := by decide +kernel
theorem dX6_workOf_75 : decode cX6_workOf 75 = .ok (.iconst 1, 1) := by decide +kernel
theorem dX6_workOf_76 : decode cX6_workOf 76 = .ok (.iastore, 1) := by decide +kernel
theorem dX6_workOf_77 : decode cX6_workOf 77 = .ok (.aload_n 0, 1) := by decide +kernel
theorem dX6_workOf_78 : decode cX6_workOf 78 = .ok (.iload_n 2, 1) := by decide +kernel
theorem dX6_workOf_79 : decode cX6_workOf 79 = .ok (.iload_n 3, 1) := by decide +kernel
theorem dX6_workOf_80 : decode cX6_workOf 80 = .ok (.invokevirtual 49, 3) := by decide +kernel
theorem dX6_workOf_83 : decode cX6_workOf 83 = .ok (.istore_n 3, 1) := by decide +kernel
theorem dX6_workOf_84 : decode cX6_workOf 84 = .ok (.goto (-28), 3) := by decide +kernel
theorem dX6_workOf_87 : decode cX6_workOf 87 = .ok (.iconst 0, 1) := by decide +kernel
theorem dX6_workOf_88 : decode cX6_workOf 88 = .ok (.istore_n 3, 1) := by decide +kernel
theorem dX6_workOf_89 : decode cX6_workOf 89 = .ok (.iconst 0, 1) := by decide +kernel
theorem dX6_workOf_90 : decode cX6_workOf 90 = .ok (.istore 4, 2) := by decide +kernel
theorem dX6_workOf_92 : decode cX6_workOf 92 = .ok (.iload 4, 2) := by decide +kernel
theorem dX6_workOf_94 : decode cX6_workOf 94 = .ok (.bipush 41, 2) := by decide +kernel
theorem dX6_workOf_96 : decode cX6_workOf 96 = .ok (.if_icmp .ge 19, 3) := by decide +kernel
theorem dX6_workOf_99 : decode cX6_workOf 99 = .ok (.iload_n 3, 1) := by decide +kernel
theorem dX6_workOf_100 : decode cX6_workOf 100 = .ok (.aload_n 0, 1) := by decide +kernel
theorem dX6_workOf_101 : decode cX6_workOf 101 = .ok (.getfield 17, 3) := by decide +kernel
theorem dX6_workOf_104 : decode cX6_workOf 104 = .ok (.iload 4, 2) := by decide +kernel
theorem dX6_workOf_106 : decode cX6_workOf 106 = .ok (.iaload, 1) := by decide +kernel
theorem dX6_workOf_107 : decode cX6_workOf 107 = .ok (.iadd, 1) := by decide +kernel
theorem dX6_workOf_108 : decode cX6_workOf 108 = .ok (.istore_n 3, 1) := by decide +kernel
theorem dX6_workOf_109 : decode cX6_workOf 109 = .ok (.iinc 4 1, 3) := by decide +kernel
theorem dX6_workOf_112 : decode cX6_workOf 112 = .ok (.goto (-20), 3) := by decide +kernel
theorem dX6_workOf_115 : decode cX6_workOf 115 = .ok (.iload_n 3, 1) := by decide +kernel
theorem dX6_workOf_116 : decode cX6_workOf 116 = .ok (.ireturn, 1) := by decide +kernel
theorem dX6_make_0 : decode cX6_make 0 = .ok (.aload_n 0, 1) := by decide +kernel
theorem dX6_make_1 : decode cX6_make 1 = .ok (.getfield 8, 3) := by decide +kernel
theorem dX6_make_4 : decode cX6_make 4 = .ok (.sipush 4808, 3) := by decide +kernel
theorem dX6_make_7 : decode cX6_make 7 = .ok (.iaload, 1) := by decide +kernel
theorem dX6_make_8 : decode cX6_make 8 = .ok (.bipush 8, 2) := by decide +kernel
theorem dX6_make_10 : decode cX6_make 10 = .ok (.if_icmp .ne 6, 3) := by decide +kernel
theorem dX6_make_13 : decode cX6_make 13 = .ok (.bipush (-3), 2) := by decide +kernel
theorem dX6_make_15 : decode cX6_make 15 = .ok (.ireturn, 1) := by decide +kernel
theorem dX6_make_16 : decode cX6_make 16 = .ok (.aload_n 0, 1) := by decide +kernel
theorem dX6_make_17 : decode cX6_make 17 = .ok (.invokevirtual 68, 3) := by decide +kernel
theorem dX6_make_20 : decode cX6_make 20 = .ok (.aload_n 0, 1) := by decide +kernel
theorem dX6_make_21 : decode cX6_make 21 = .ok (.getfield 8, 3) := by decide +kernel
theorem dX6_make_24 : decode cX6_make 24 = .ok (.aload_n 0, 1) := by decide +kernel
theorem dX6_make_25 : decode cX6_make 25 = .ok (.getfield 8, 3) := by decide +kernel
theorem dX6_make_28 : decode cX6_make 28 = .ok (.sipush 4808, 3) := by decide +kernel
theorem dX6_make_31 : decode cX6_make 31 = .ok (.iaload, 1) := by decide +kernel
theorem dX6_make_32 : decode cX6_make 32 = .ok (.invokestatic 71, 3) := by decide +kernel
theorem dX6_make_35 : decode cX6_make 35 = .ok (.iconst 0, 1) := by decide +kernel
theorem dX6_make_36 : decode cX6_make 36 = .ok (.iastore, 1) := by decide +kernel
theorem dX6_make_37 : decode cX6_make 37 = .ok (.aload_n 0, 1) := by decide +kernel
theorem dX6_make_38 : decode cX6_make 38 = .ok (.getfield 8, 3) := by decide +kernel
theorem dX6_make_41 : decode cX6_make 41 = .ok (.sipush 4808, 3) := by decide +kernel
theorem dX6_make_44 : decode cX6_make 44 = .ok (.dup2, 1) := by decide +kernel
theorem dX6_make_45 : decode cX6_make 45 = .ok (.iaload, 1) := by decide +kernel
theorem dX6_make_46 : decode cX6_make 46 = .ok (.iconst 1, 1) := by decide +kernel
theorem dX6_make_47 : decode cX6_make 47 = .ok (.iadd, 1) := by decide +kernel
theorem dX6_make_48 : decode cX6_make 48 = .ok (.iastore, 1) := by decide +kernel
theorem dX6_make_49 : decode cX6_make 49 = .ok (.aload_n 0, 1) := by decide +kernel
theorem dX6_make_50 : decode cX6_make 50 = .ok (.getfield 8, 3) := by decide +kernel
theorem dX6_make_53 : decode cX6_make 53 = .ok (.sipush 4808, 3) := by decide +kernel
theorem dX6_make_56 : decode cX6_make 56 = .ok (.iaload, 1) := by decide +kernel
theorem dX6_make_57 : decode cX6_make 57 = .ok (.iconst 1, 1) := by decide +kernel
theorem dX6_make_58 : decode cX6_make 58 = .ok (.isub, 1) := by decide +kernel
theorem dX6_make_59 : decode cX6_make 59 = .ok (.ireturn, 1) := by decide +kernel
theorem dX6_push_0 : decode cX6_push 0 = .ok (.aload_n 0, 1) := by decide +kernel
theorem dX6_push_1 : decode cX6_push 1 = .ok (.iload_n 1, 1) := by decide +kernel
theorem dX6_push_2 : decode cX6_push 2 = .ok (.aload_n 0, 1) := by decide +kernel
theorem dX6_push_3 : decode cX6_push 3 = .ok (.getfield 8, 3) := by decide +kernel
theorem dX6_push_6 : decode cX6_push 6 = .ok (.iload_n 1, 1) := by decide +kernel
theorem dX6_push_7 : decode cX6_push 7 = .ok (.iaload, 1) := by decide +kernel
theorem dX6_push_8 : decode cX6_push 8 = .ok (.iload_n 2, 1) := by decide +kernel
theorem dX6_push_9 : decode cX6_push 9 = .ok (.invokevirtual 61, 3) := by decide +kernel
theorem dX6_push_12 : decode cX6_push 12 = .ok (.aload_n 0, 1) := by decide +kernel
theorem dX6_push_13 : decode cX6_push 13 = .ok (.getfield 8, 3) := by decide +kernel
theorem dX6_push_16 : decode cX6_push 16 = .ok (.iload_n 1, 1) := by decide +kernel
theorem dX6_push_17 : decode cX6_push 17 = .ok (.dup2, 1) := by decide +kernel
theorem dX6_push_18 : decode cX6_push 18 = .ok (.iaload, 1) := by decide +kernel
theorem dX6_push_19 : decode cX6_push 19 = .ok (.iconst 1, 1) := by decide +kernel
theorem dX6_push_20 : decode cX6_push 20 = .ok (.iadd, 1) := by decide +kernel
theorem dX6_push_21 : decode cX6_push 21 = .ok (.iastore, 1) := by decide +kernel
theorem dX6_push_22 : decode cX6_push 22 = .ok (.return_, 1) := by decide +kernel
theorem dX6_append_0 : decode cX6_append 0 = .ok (.aload_n 0, 1) := by decide +kernel
theorem dX6_append_1 : decode cX6_append 1 = .ok (.iload_n 1, 1) := by decide +kernel
theorem dX6_append_2 : decode cX6_append 2 = .ok (.invokevirtual 74, 3) := by decide +kernel
theorem dX6_append_5 : decode cX6_append 5 = .ok (.ifCond .eq 23, 3) := by decide +kernel
theorem dX6_append_8 : decode cX6_append 8 = .ok (.iload_n 2, 1) := by decide +kernel
theorem dX6_append_9 : decode cX6_append 9 = .ok (.iconst 0, 1) := by decide +kernel
theorem dX6_append_10 : decode cX6_append 10 = .ok (.iconst 1, 1) := by decide +kernel
theorem dX6_append_11 : decode cX6_append 11 = .ok (.invokestatic 31, 3) := by decide +kernel
theorem dX6_append_14 : decode cX6_append 14 = .ok (.ifCond .eq 14, 3) := by decide +kernel
theorem dX6_append_17 : decode cX6_append 17 = .ok (.iload_n 3, 1) := by decide +kernel
theorem dX6_append_18 : decode cX6_append 18 = .ok (.iconst 1, 1) := by decide +kernel
theorem dX6_append_19 : decode cX6_append 19 = .ok (.sipush 600, 3) := by decide +kernel
theorem dX6_append_22 : decode cX6_append 22 = .ok (.invokestatic 31, 3) := by decide +kernel
theorem dX6_append_25 : decode cX6_append 25 = .ok (.ifCond .ne 5, 3) := by decide +kernel
theorem dX6_append_28 : decode cX6_append 28 = .ok (.iconst (-1), 1) := by decide +kernel
theorem dX6_append_29 : decode cX6_append 29 = .ok (.ireturn, 1) := by decide +kernel
theorem dX6_append_30 : decode cX6_append 30 = .ok (.aload_n 0, 1) := by decide +kernel
theorem dX6_append_31 : decode cX6_append 31 = .ok (.getfield 8, 3) := by decide +kernel
theorem dX6_append_34 : decode cX6_append 34 = .ok (.iload_n 1, 1) := by decide +kernel
theorem dX6_append_35 : decode cX6_append 35 = .ok (.invokestatic 71, 3) := by decide +kernel
theorem dX6_append_38 : decode cX6_append 38 = .ok (.iaload, 1) := by decide +kernel
theorem dX6_append_39 : decode cX6_append 39 = .ok (.iload_n 3, 1) := by decide +kernel
theorem dX6_append_40 : decode cX6_append 40 = .ok (.iadd, 1) := by decide +kernel
theorem dX6_append_41 : decode cX6_append 41 = .ok (.sipush 600, 3) := by decide +kernel
theorem dX6_append_44 : decode cX6_append 44 = .ok (.if_icmp .le 6, 3) := by decide +kernel
theorem dX6_append_47 : decode cX6_append 47 = .ok (.bipush (-3), 2) := by decide +kernel
theorem dX6_append_49 : decode cX6_append 49 = .ok (.ireturn, 1) := by decide +kernel
theorem dX6_append_50 : decode cX6_append 50 = .ok (.aload_n 0, 1) := by decide +kernel
theorem dX6_append_51 : decode cX6_append 51 = .ok (.invokevirtual 68, 3) := by decide +kernel
theorem dX6_append_54 : decode cX6_append 54 = .ok (.iconst 0, 1) := by decide +kernel
theorem dX6_append_55 : decode cX6_append 55 = .ok (.istore 4, 2) := by decide +kernel
theorem dX6_append_57 : decode cX6_append 57 = .ok (.iload 4, 2) := by decide +kernel
theorem dX6_append_59 : decode cX6_append 59 = .ok (.iload_n 3, 1) := by decide +kernel
theorem dX6_append_60 : decode cX6_append 60 = .ok (.if_icmp .ge 18, 3) := by decide +kernel
theorem dX6_append_63 : decode cX6_append 63 = .ok (.aload_n 0, 1) := by decide +kernel
theorem dX6_append_64 : decode cX6_append 64 = .ok (.iload_n 1, 1) := by decide +kernel
theorem dX6_append_65 : decode cX6_append 65 = .ok (.invokestatic 71, 3) := by decide +kernel
theorem dX6_append_68 : decode cX6_append 68 = .ok (.iload_n 2, 1) := by decide +kernel
theorem dX6_append_69 : decode cX6_append 69 = .ok (.invokevirtual 78, 3) := by decide +kernel
theorem dX6_append_72 : decode cX6_append 72 = .ok (.iinc 4 1, 3) := by decide +kernel
theorem dX6_append_75 : decode cX6_append 75 = .ok (.goto (-18), 3) := by decide +kernel
theorem dX6_append_78 : decode cX6_append 78 = .ok (.aload_n 0, 1) := by decide +kernel
theorem dX6_append_79 : decode cX6_append 79 = .ok (.getfield 8, 3) := by decide +kernel
theorem dX6_append_82 : decode cX6_append 82 = .ok (.iload_n 1, 1) := by decide +kernel
theorem dX6_append_83 : decode cX6_append 83 = .ok (.invokestatic 71, 3) := by decide +kernel
theorem dX6_append_86 : decode cX6_append 86 = .ok (.iaload, 1) := by decide +kernel
theorem dX6_append_87 : decode cX6_append 87 = .ok (.ireturn, 1) := by decide +kernel
theorem dX6_write_0 : decode cX6_write 0 = .ok (.aload_n 0, 1) := by decide +kernel
theorem dX6_write_1 : decode cX6_write 1 = .ok (.iload_n 1, 1) := by decide +kernel
theorem dX6_write_2 : decode cX6_write 2 = .ok (.invokevirtual 74, 3) := by decide +kernel
theorem dX6_write_5 : decode cX6_write 5 = .ok (.ifCond .eq 23, 3) := by decide +kernel
theorem dX6_write_8 : decode cX6_write 8 = .ok (.iload_n 2, 1) := by decide +kernel
theorem dX6_write_9 : decode cX6_write 9 = .ok (.iconst 0, 1) := by decide +kernel
theorem dX6_write_10 : decode cX6_write 10 = .ok (.ldc 81, 2) := by decide +kernel
theorem dX6_write_12 : decode cX6_write 12 = .ok (.invokestatic 31, 3) := by decide +kernel
theorem dX6_write_15 : decode cX6_write 15 = .ok (.ifCond .eq 13, 3) := by decide +kernel
theorem dX6_write_18 : decode cX6_write 18 = .ok (.iload_n 3, 1) := by decide +kernel
theorem dX6_write_19 : decode cX6_write 19 = .ok (.iconst 1, 1) := by decide +kernel
theorem dX6_write_20 : decode cX6_write 20 = .ok (.bipush 16, 2) := by decide +kernel
theorem dX6_write_22 : decode cX6_write 22 = .ok (.invokestatic 31, 3) := by decide +kernel
theorem dX6_write_25 : decode cX6_write 25 = .ok (.ifCond .ne 5, 3) := by decide +kernel
theorem dX6_write_28 : decode cX6_write 28 = .ok (.iconst (-1), 1) := by decide +kernel
theorem dX6_write_29 : decode cX6_write 29 = .ok (.ireturn, 1) := by decide +kernel
theorem dX6_write_30 : decode cX6_write 30 = .ok (.aload_n 0, 1) := by decide +kernel
theorem dX6_write_31 : decode cX6_write 31 = .ok (.getfield 8, 3) := by decide +kernel
theorem dX6_write_34 : decode cX6_write 34 = .ok (.iload_n 1, 1) := by decide +kernel
theorem dX6_write_35 : decode cX6_write 35 = .ok (.invokestatic 71, 3) := by decide +kernel
theorem dX6_write_38 : decode cX6_write 38 = .ok (.iaload, 1) := by decide +kernel
theorem dX6_write_39 : decode cX6_write 39 = .ok (.iload_n 3, 1) := by decide +kernel
theorem dX6_write_40 : decode cX6_write 40 = .ok (.iadd, 1) := by decide +kernel
theorem dX6_write_41 : decode cX6_write 41 = .ok (.sipush 600, 3) := by decide +kernel
theorem dX6_write_44 : decode cX6_write 44 = .ok (.if_icmp .le 6, 3) := by decide +kernel
theorem dX6_write_47 : decode cX6_write 47 = .ok (.bipush (-3), 2) := by decide +kernel
theorem dX6_write_49 : decode cX6_write 49 = .ok (.ireturn, 1) := by decide +kernel
theorem dX6_write_50 : decode cX6_write 50 = .ok (.aload_n 0, 1) := by decide +kernel
theorem dX6_write_51 : decode cX6_write 51 = .ok (.invokevirtual 68, 3) := by decide +kernel
theorem dX6_write_54 : decode cX6_write 54 = .ok (.iconst 0, 1) := by decide +kernel
theorem dX6_write_55 : decode cX6_write 55 = .ok (.istore 4, 2) := by decide +kernel
theorem dX6_write_57 : decode cX6_write 57 = .ok (.iload 4, 2) := by decide +kernel
theorem dX6_write_59 : decode cX6_write 59 = .ok (.iload_n 3, 1) := by decide +kernel
theorem dX6_write_60 : decode cX6_write 60 = .ok (.if_icmp .ge 23, 3) := by decide +kernel
theorem dX6_write_63 : decode cX6_write 63 = .ok (.aload_n 0, 1) := by decide +kernel
theorem dX6_write_64 : decode cX6_write 64 = .ok (.iload_n 1, 1) := by decide +kernel
theorem dX6_write_65 : decode cX6_write 65 = .ok (.invokestatic 71, 3) := by decide +kernel
theorem dX6_write_68 : decode cX6_write 68 = .ok (.iload_n 2, 1) := by decide +kernel
theorem dX6_write_69 : decode cX6_write 69 = .ok (.iload 4, 2) := by decide +kernel
theorem dX6_write_71 : decode cX6_write 71 = .ok (.ishr, 1) := by decide +kernel
theorem dX6_write_72 : decode cX6_write 72 = .ok (.iconst 1, 1) := by decide +kernel
theorem dX6_write_73 : decode cX6_write 73 = .ok (.iand, 1) := by decide +kernel
theorem dX6_write_74 : decode cX6_write 74 = .ok (.invokevirtual 78, 3) := by decide +kernel
theorem dX6_write_77 : decode cX6_write 77 = .ok (.iinc 4 1, 3) := by decide +kernel
theorem dX6_write_80 : decode cX6_write 80 = .ok (.goto (-23), 3) := by decide +kernel
theorem dX6_write_83 : decode cX6_write 83 = .ok (.aload_n 0, 1) := by decide +kernel
theorem dX6_write_84 : decode cX6_write 84 = .ok (.iload_n 1, 1) := by decide +kernel
theorem dX6_write_85 : decode cX6_write 85 = .ok (.invokestatic 71, 3) := by decide +kernel
theorem dX6_write_88 : decode cX6_write 88 = .ok (.iconst 3, 1) := by decide +kernel
theorem dX6_write_89 : decode cX6_write 89 = .ok (.invokevirtual 82, 3) := by decide +kernel
theorem dX6_write_92 : decode cX6_write 92 = .ok (.ireturn, 1) := by decide +kernel
theorem dX6_isPlace_0 : decode cX6_isPlace 0 = .ok (.aload_n 0, 1) := by decide +kernel
theorem dX6_isPlace_1 : decode cX6_isPlace 1 = .ok (.iload_n 1, 1) := by decide +kernel
theorem dX6_isPlace_2 : decode cX6_isPlace 2 = .ok (.invokevirtual 74, 3) := by decide +kernel
theorem dX6_isPlace_5 : decode cX6_isPlace 5 = .ok (.ifCond .eq 28, 3) := by decide +kernel
theorem dX6_isPlace_8 : decode cX6_isPlace 8 = .ok (.iload_n 2, 1) := by decide +kernel
theorem dX6_isPlace_9 : decode cX6_isPlace 9 = .ok (.iconst 0, 1) := by decide +kernel
theorem dX6_isPlace_10 : decode cX6_isPlace 10 = .ok (.aload_n 0, 1) := by decide +kernel
theorem dX6_isPlace_11 : decode cX6_isPlace 11 = .ok (.getfield 8, 3) := by decide +kernel
theorem dX6_isPlace_14 : decode cX6_isPlace 14 = .ok (.iload_n 1, 1) := by decide +kernel
theorem dX6_isPlace_15 : decode cX6_isPlace 15 = .ok (.invokestatic 71, 3) := by decide +kernel
theorem dX6_isPlace_18 : decode cX6_isPlace 18 = .ok (.iaload, 1) := by decide +kernel
theorem dX6_isPlace_19 : decode cX6_isPlace 19 = .ok (.iconst 1, 1) := by decide +kernel
theorem dX6_isPlace_20 : decode cX6_isPlace 20 = .ok (.isub, 1) := by decide +kernel
theorem dX6_isPlace_21 : decode cX6_isPlace 21 = .ok (.iload_n 3, 1) := by decide +kernel
theorem dX6_isPlace_22 : decode cX6_isPlace 22 = .ok (.iadd, 1) := by decide +kernel
theorem dX6_isPlace_23 : decode cX6_isPlace 23 = .ok (.invokestatic 31, 3) := by decide +kernel
theorem dX6_isPlace_26 : decode cX6_isPlace 26 = .ok (.ifCond .eq 7, 3) := by decide +kernel
theorem dX6_isPlace_29 : decode cX6_isPlace 29 = .ok (.iconst 1, 1) := by decide +kernel
theorem dX6_isPlace_30 : decode cX6_isPlace 30 = .ok (.goto 4, 3) := by decide +kernel
theorem dX6_isPlace_33 : decode cX6_isPlace 33 = .ok (.iconst 0, 1) := by decide +kernel
theorem dX6_isPlace_34 : decode cX6_isPlace 34 = .ok (.ireturn, 1) := by decide +kernel
theorem dX6_set_0 : decode cX6_set 0 = .ok (.aload_n 0, 1) := by decide +kernel
theorem dX6_set_1 : decode cX6_set 1 = .ok (.iload_n 1, 1) := by decide +kernel
theorem dX6_set_2 : decode cX6_set 2 = .ok (.iload_n 2, 1) := by decide +kernel
theorem dX6_set_3 : decode cX6_set 3 = .ok (.iconst 0, 1) := by decide +kernel
theorem dX6_set_4 : decode cX6_set 4 = .ok (.invokevirtual 85, 3) := by decide +kernel
theorem dX6_set_7 : decode cX6_set 7 = .ok (.ifCond .eq 12, 3) := by decide +kernel
theorem dX6_set_10 : decode cX6_set 10 = .ok (.iload_n 3, 1) := by decide +kernel
theorem dX6_set_11 : decode cX6_set 11 = .ok (.iconst 0, 1) := by decide +kernel
theorem dX6_set_12 : decode cX6_set 12 = .ok (.iconst 1, 1) := by decide +kernel
theorem dX6_set_13 : decode cX6_set 13 = .ok (.invokestatic 31, 3) := by decide +kernel
theorem dX6_set_16 : decode cX6_set 16 = .ok (.ifCond .ne 5, 3) := by decide +kernel
theorem dX6_set_19 : decode cX6_set 19 = .ok (.iconst (-1), 1) := by decide +kernel
theorem dX6_set_20 : decode cX6_set 20 = .ok (.ireturn, 1) := by decide +kernel
theorem dX6_set_21 : decode cX6_set 21 = .ok (.aload_n 0, 1) := by decide +kernel
theorem dX6_set_22 : decode cX6_set 22 = .ok (.invokevirtual 68, 3) := by decide +kernel
theorem dX6_set_25 : decode cX6_set 25 = .ok (.aload_n 0, 1) := by decide +kernel
theorem dX6_set_26 : decode cX6_set 26 = .ok (.iload_n 1, 1) := by decide +kernel
theorem dX6_set_27 : decode cX6_set 27 = .ok (.invokestatic 71, 3) := by decide +kernel
theorem dX6_set_30 : decode cX6_set 30 = .ok (.iload_n 2, 1) := by decide +kernel
theorem dX6_set_31 : decode cX6_set 31 = .ok (.invokevirtual 35, 3) := by decide +kernel
theorem dX6_set_34 : decode cX6_set 34 = .ok (.istore 4, 2) := by decide +kernel
theorem dX6_set_36 : decode cX6_set 36 = .ok (.aload_n 0, 1) := by decide +kernel
theorem dX6_set_37 : decode cX6_set 37 = .ok (.iload_n 1, 1) := by decide +kernel
theorem dX6_set_38 : decode cX6_set 38 = .ok (.invokestatic 71, 3) := by decide +kernel
theorem dX6_set_41 : decode cX6_set 41 = .ok (.iload_n 2, 1) := by decide +kernel
theorem dX6_set_42 : decode cX6_set 42 = .ok (.iload_n 3, 1) := by decide +kernel
theorem dX6_set_43 : decode cX6_set 43 = .ok (.invokevirtual 61, 3) := by decide +kernel
theorem dX6_set_46 : decode cX6_set 46 = .ok (.iload 4, 2) := by decide +kernel
theorem dX6_set_48 : decode cX6_set 48 = .ok (.ireturn, 1) := by decide +kernel
theorem dX6_resize_0 : decode cX6_resize 0 = .ok (.aload_n 0, 1) := by decide +kernel
theorem dX6_resize_1 : decode cX6_resize 1 = .ok (.iload_n 1, 1) := by decide +kernel
theorem dX6_resize_2 : decode cX6_resize 2 = .ok (.invokevirtual 74, 3) := by decide +kernel
theorem dX6_resize_5 : decode cX6_resize 5 = .ok (.ifCond .eq 14, 3) := by decide +kernel
theorem dX6_resize_8 : decode cX6_resize 8 = .ok (.iload_n 2, 1) := by decide +kernel
theorem dX6_resize_9 : decode cX6_resize 9 = .ok (.iconst 0, 1) := by decide +kernel
theorem dX6_resize_10 : decode cX6_resize 10 = .ok (.sipush 600, 3) := by decide +kernel
theorem dX6_resize_13 : decode cX6_resize 13 = .ok (.invokestatic 31, 3) := by decide +kernel
theorem dX6_resize_16 : decode cX6_resize 16 = .ok (.ifCond .ne 5, 3) := by decide +kernel
theorem dX6_resize_19 : decode cX6_resize 19 = .ok (.iconst (-1), 1) := by decide +kernel
theorem dX6_resize_20 : decode cX6_resize 20 = .ok (.ireturn, 1) := by decide +kernel
theorem dX6_resize_21 : decode cX6_resize 21 = .ok (.aload_n 0, 1) := by decide +kernel
theorem dX6_resize_22 : decode cX6_resize 22 = .ok (.invokevirtual 68, 3) := by decide +kernel
theorem dX6_resize_25 : decode cX6_resize 25 = .ok (.aload_n 0, 1) := by decide +kernel
theorem dX6_resize_26 : decode cX6_resize 26 = .ok (.getfield 8, 3) := by decide +kernel
theorem dX6_resize_29 : decode cX6_resize 29 = .ok (.iload_n 1, 1) := by decide +kernel
theorem dX6_resize_30 : decode cX6_resize 30 = .ok (.invokestatic 71, 3) := by decide +kernel
theorem dX6_resize_33 : decode cX6_resize 33 = .ok (.iaload, 1) := by decide +kernel
theorem dX6_resize_34 : decode cX6_resize 34 = .ok (.istore_n 3, 1) := by decide +kernel
theorem dX6_resize_35 : decode cX6_resize 35 = .ok (.iload_n 3, 1) := by decide +kernel
theorem dX6_resize_36 : decode cX6_resize 36 = .ok (.istore 4, 2) := by decide +kernel
theorem dX6_resize_38 : decode cX6_resize 38 = .ok (.iload 4, 2) := by decide +kernel
theorem dX6_resize_40 : decode cX6_resize 40 = .ok (.iload_n 2, 1) := by decide +kernel
theorem dX6_resize_41 : decode cX6_resize 41 = .ok (.if_icmp .ge 20, 3) := by decide +kernel
theorem dX6_resize_44 : decode cX6_resize 44 = .ok (.aload_n 0, 1) := by decide +kernel
theorem dX6_resize_45 : decode cX6_resize 45 = .ok (.iload_n 1, 1) := by decide +kernel
theorem dX6_resize_46 : decode cX6_resize 46 = .ok (.invokestatic 71, 3) := by decide +kernel
theorem dX6_resize_49 : decode cX6_resize 49 = .ok (.iload 4, 2) := by decide +kernel
theorem dX6_resize_51 : decode cX6_resize 51 = .ok (.iconst 0, 1) := by decide +kernel
theorem dX6_resize_52 : decode cX6_resize 52 = .ok (.invokevirtual 61, 3) := by decide +kernel
theorem dX6_resize_55 : decode cX6_resize 55 = .ok (.iinc 4 1, 3) := by decide +kernel
theorem dX6_resize_58 : decode cX6_resize 58 = .ok (.goto (-20), 3) := by decide +kernel
theorem dX6_resize_61 : decode cX6_resize 61 = .ok (.aload_n 0, 1) := by decide +kernel
theorem dX6_resize_62 : decode cX6_resize 62 = .ok (.getfield 8, 3) := by decide +kernel
theorem dX6_resize_65 : decode cX6_resize 65 = .ok (.iload_n 1, 1) := by decide +kernel
theorem dX6_resize_66 : decode cX6_resize 66 = .ok (.invokestatic 71, 3) := by decide +kernel
theorem dX6_resize_69 : decode cX6_resize 69 = .ok (.iload_n 2, 1) := by decide +kernel
theorem dX6_resize_70 : decode cX6_resize 70 = .ok (.iastore, 1) := by decide +kernel
theorem dX6_resize_71 : decode cX6_resize 71 = .ok (.iload_n 3, 1) := by decide +kernel
theorem dX6_resize_72 : decode cX6_resize 72 = .ok (.ireturn, 1) := by decide +kernel
theorem dX6_operate_0 : decode cX6_operate 0 = .ok (.aload_n 0, 1) := by decide +kernel
theorem dX6_operate_1 : decode cX6_operate 1 = .ok (.iload_n 1, 1) := by decide +kernel
theorem dX6_operate_2 : decode cX6_operate 2 = .ok (.invokevirtual 74, 3) := by decide +kernel
theorem dX6_operate_5 : decode cX6_operate 5 = .ok (.ifCond .eq 29, 3) := by decide +kernel
theorem dX6_operate_8 : decode cX6_operate 8 = .ok (.iload_n 2, 1) := by decide +kernel
theorem dX6_operate_9 : decode cX6_operate 9 = .ok (.iconst 0, 1) := by decide +kernel
theorem dX6_operate_10 : decode cX6_operate 10 = .ok (.iconst 3, 1) := by decide +kernel
theorem dX6_operate_11 : decode cX6_operate 11 = .ok (.invokestatic 31, 3) := by decide +kernel
theorem dX6_operate_14 : decode cX6_operate 14 = .ok (.ifCond .eq 20, 3) := by decide +kernel
theorem dX6_operate_17 : decode cX6_operate 17 = .ok (.aload_n 0, 1) := by decide +kernel
theorem dX6_operate_18 : decode cX6_operate 18 = .ok (.iload_n 3, 1) := by decide +kernel
theorem dX6_operate_19 : decode cX6_operate 19 = .ok (.invokevirtual 74, 3) := by decide +kernel
theorem dX6_operate_22 : decode cX6_operate 22 = .ok (.ifCond .eq 12, 3) := by decide +kernel
theorem dX6_operate_25 : decode cX6_operate 25 = .ok (.aload_n 0, 1) := by decide +kernel
theorem dX6_operate_26 : decode cX6_operate 26 = .ok (.iload 4, 2) := by decide +kernel
theorem dX6_operate_28 : decode cX6_operate 28 = .ok (.invokevirtual 74, 3) := by decide +kernel
theorem dX6_operate_31 : decode cX6_operate 31 = .ok (.ifCond .ne 5, 3) := by decide +kernel
theorem dX6_operate_34 : decode cX6_operate 34 = .ok (.iconst (-1), 1) := by decide +kernel
theorem dX6_operate_35 : decode cX6_operate 35 = .ok (.ireturn, 1) := by decide +kernel
theorem dX6_operate_36 : decode cX6_operate 36 = .ok (.aload_n 0, 1) := by decide +kernel
theorem dX6_operate_37 : decode cX6_operate 37 = .ok (.invokevirtual 68, 3) := by decide +kernel
theorem dX6_operate_40 : decode cX6_operate 40 = .ok (.aload_n 0, 1) := by decide +kernel
theorem dX6_operate_41 : decode cX6_operate 41 = .ok (.iload_n 3, 1) := by decide +kernel
theorem dX6_operate_42 : decode cX6_operate 42 = .ok (.invokestatic 71, 3) := by decide +kernel
theorem dX6_operate_45 : decode cX6_operate 45 = .ok (.iload 4, 2) := by decide +kernel
theorem dX6_operate_47 : decode cX6_operate 47 = .ok (.invokestatic 71, 3) := by decide +kernel
theorem dX6_operate_50 : decode cX6_operate 50 = .ok (.invokevirtual 88, 3) := by decide +kernel
theorem dX6_operate_53 : decode cX6_operate 53 = .ok (.istore 5, 2) := by decide +kernel
theorem dX6_operate_55 : decode cX6_operate 55 = .ok (.aload_n 0, 1) := by decide +kernel
theorem dX6_operate_56 : decode cX6_operate 56 = .ok (.iload_n 2, 1) := by decide +kernel
theorem dX6_operate_57 : decode cX6_operate 57 = .ok (.iload_n 3, 1) := by decide +kernel
theorem dX6_operate_58 : decode cX6_operate 58 = .ok (.invokestatic 71, 3) := by decide +kernel
theorem dX6_operate_61 : decode cX6_operate 61 = .ok (.iload 4, 2) := by decide +kernel
theorem dX6_operate_63 : decode cX6_operate 63 = .ok (.invokestatic 71, 3) := by decide +kernel
theorem dX6_operate_66 : decode cX6_operate 66 = .ok (.iload_n 1, 1) := by decide +kernel
theorem dX6_operate_67 : decode cX6_operate 67 = .ok (.invokestatic 71, 3) := by decide +kernel
theorem dX6_operate_70 : decode cX6_operate 70 = .ok (.invokevirtual 91, 3) := by decide +kernel
theorem dX6_operate_73 : decode cX6_operate 73 = .ok (.iload 5, 2) := by decide +kernel
theorem dX6_operate_75 : decode cX6_operate 75 = .ok (.ireturn, 1) := by decide +kernel
theorem dX6_not_0 : decode cX6_not 0 = .ok (.aload_n 0, 1) := by decide +kernel
theorem dX6_not_1 : decode cX6_not 1 = .ok (.iload_n 1, 1) := by decide +kernel
theorem dX6_not_2 : decode cX6_not 2 = .ok (.invokevirtual 74, 3) := by decide +kernel
theorem dX6_not_5 : decode cX6_not 5 = .ok (.ifCond .ne 5, 3) := by decide +kernel
theorem dX6_not_8 : decode cX6_not 8 = .ok (.iconst (-1), 1) := by decide +kernel
theorem dX6_not_9 : decode cX6_not 9 = .ok (.ireturn, 1) := by decide +kernel
theorem dX6_not_10 : decode cX6_not 10 = .ok (.aload_n 0, 1) := by decide +kernel
theorem dX6_not_11 : decode cX6_not 11 = .ok (.invokevirtual 68, 3) := by decide +kernel
theorem dX6_not_14 : decode cX6_not 14 = .ok (.aload_n 0, 1) := by decide +kernel
theorem dX6_not_15 : decode cX6_not 15 = .ok (.iload_n 1, 1) := by decide +kernel
theorem dX6_not_16 : decode cX6_not 16 = .ok (.invokestatic 71, 3) := by decide +kernel
theorem dX6_not_19 : decode cX6_not 19 = .ok (.invokevirtual 95, 3) := by decide +kernel
theorem dX6_not_22 : decode cX6_not 22 = .ok (.aload_n 0, 1) := by decide +kernel
theorem dX6_not_23 : decode cX6_not 23 = .ok (.iload_n 1, 1) := by decide +kernel
theorem dX6_not_24 : decode cX6_not 24 = .ok (.invokestatic 71, 3) := by decide +kernel
theorem dX6_not_27 : decode cX6_not 27 = .ok (.invokevirtual 99, 3) := by decide +kernel
theorem dX6_not_30 : decode cX6_not 30 = .ok (.ireturn, 1) := by decide +kernel
theorem dX6_shift_0 : decode cX6_shift 0 = .ok (.aload_n 0, 1) := by decide +kernel
theorem dX6_shift_1 : decode cX6_shift 1 = .ok (.iload_n 1, 1) := by decide +kernel
theorem dX6_shift_2 : decode cX6_shift 2 = .ok (.invokevirtual 74, 3) := by decide +kernel
theorem dX6_shift_5 : decode cX6_shift 5 = .ok (.ifCond .eq 16, 3) := by decide +kernel
theorem dX6_shift_8 : decode cX6_shift 8 = .ok (.iload_n 2, 1) := by decide +kernel
theorem dX6_shift_9 : decode cX6_shift 9 = .ok (.sipush (-600), 3) := by decide +kernel
theorem dX6_shift_12 : decode cX6_shift 12 = .ok (.sipush 600, 3) := by decide +kernel
theorem dX6_shift_15 : decode cX6_shift 15 = .ok (.invokestatic 31, 3) := by decide +kernel
theorem dX6_shift_18 : decode cX6_shift 18 = .ok (.ifCond .ne 5, 3) := by decide +kernel
theorem dX6_shift_21 : decode cX6_shift 21 = .ok (.iconst (-1), 1) := by decide +kernel
theorem dX6_shift_22 : decode cX6_shift 22 = .ok (.ireturn, 1) := by decide +kernel
theorem dX6_shift_23 : decode cX6_shift 23 = .ok (.aload_n 0, 1) := by decide +kernel
theorem dX6_shift_24 : decode cX6_shift 24 = .ok (.invokevirtual 68, 3) := by decide +kernel
theorem dX6_shift_27 : decode cX6_shift 27 = .ok (.aload_n 0, 1) := by decide +kernel
theorem dX6_shift_28 : decode cX6_shift 28 = .ok (.iload_n 1, 1) := by decide +kernel
theorem dX6_shift_29 : decode cX6_shift 29 = .ok (.invokestatic 71, 3) := by decide +kernel
theorem dX6_shift_32 : decode cX6_shift 32 = .ok (.iload_n 2, 1) := by decide +kernel
theorem dX6_shift_33 : decode cX6_shift 33 = .ok (.invokevirtual 102, 3) := by decide +kernel
theorem dX6_shift_36 : decode cX6_shift 36 = .ok (.aload_n 0, 1) := by decide +kernel
theorem dX6_shift_37 : decode cX6_shift 37 = .ok (.getfield 8, 3) := by decide +kernel
theorem dX6_shift_40 : decode cX6_shift 40 = .ok (.iload_n 1, 1) := by decide +kernel
theorem dX6_shift_41 : decode cX6_shift 41 = .ok (.invokestatic 71, 3) := by decide +kernel
theorem dX6_shift_44 : decode cX6_shift 44 = .ok (.iaload, 1) := by decide +kernel
theorem dX6_shift_45 : decode cX6_shift 45 = .ok (.ireturn, 1) := by decide +kernel
theorem dX6_type_0 : decode cX6_type 0 = .ok (.iload_n 1, 1) := by decide +kernel
theorem dX6_type_1 : decode cX6_type 1 = .ok (.iconst 1, 1) := by decide +kernel
theorem dX6_type_2 : decode cX6_type 2 = .ok (.sipush 255, 3) := by decide +kernel
theorem dX6_type_5 : decode cX6_type 5 = .ok (.invokestatic 31, 3) := by decide +kernel
theorem dX6_type_8 : decode cX6_type 8 = .ok (.ifCond .ne 5, 3) := by decide +kernel
theorem dX6_type_11 : decode cX6_type 11 = .ok (.iconst (-1), 1) := by decide +kernel
theorem dX6_type_12 : decode cX6_type 12 = .ok (.ireturn, 1) := by decide +kernel
theorem dX6_type_13 : decode cX6_type 13 = .ok (.aload_n 0, 1) := by decide +kernel
theorem dX6_type_14 : decode cX6_type 14 = .ok (.getfield 105, 3) := by decide +kernel
theorem dX6_type_17 : decode cX6_type 17 = .ok (.bipush 100, 2) := by decide +kernel
theorem dX6_type_19 : decode cX6_type 19 = .ok (.if_icmp .ne 6, 3) := by decide +kernel
theorem dX6_type_22 : decode cX6_type 22 = .ok (.bipush (-3), 2) := by decide +kernel
theorem dX6_type_24 : decode cX6_type 24 = .ok (.ireturn, 1) := by decide +kernel
theorem dX6_type_25 : decode cX6_type 25 = .ok (.aload_n 0, 1) := by decide +kernel
theorem dX6_type_26 : decode cX6_type 26 = .ok (.getfield 14, 3) := by decide +kernel
theorem dX6_type_29 : decode cX6_type 29 = .ok (.aload_n 0, 1) := by decide +kernel
theorem dX6_type_30 : decode cX6_type 30 = .ok (.getfield 105, 3) := by decide +kernel
theorem dX6_type_33 : decode cX6_type 33 = .ok (.iload_n 1, 1) := by decide +kernel
theorem dX6_type_34 : decode cX6_type 34 = .ok (.iastore, 1) := by decide +kernel
theorem dX6_type_35 : decode cX6_type 35 = .ok (.aload_n 0, 1) := by decide +kernel
theorem dX6_type_36 : decode cX6_type 36 = .ok (.dup, 1) := by decide +kernel
theorem dX6_type_37 : decode cX6_type 37 = .ok (.getfield 105, 3) := by decide +kernel
theorem dX6_type_40 : decode cX6_type 40 = .ok (.iconst 1, 1) := by decide +kernel
theorem dX6_type_41 : decode cX6_type 41 = .ok (.iadd, 1) := by decide +kernel
theorem dX6_type_42 : decode cX6_type 42 = .ok (.putfield 105, 3) := by decide +kernel
theorem dX6_type_45 : decode cX6_type 45 = .ok (.aload_n 0, 1) := by decide +kernel
theorem dX6_type_46 : decode cX6_type 46 = .ok (.getfield 105, 3) := by decide +kernel
theorem dX6_type_49 : decode cX6_type 49 = .ok (.ireturn, 1) := by decide +kernel
theorem dX6_clearText_0 : decode cX6_clearText 0 = .ok (.aload_n 0, 1) := by decide +kernel
theorem dX6_clearText_1 : decode cX6_clearText 1 = .ok (.getfield 105, 3) := by decide +kernel
theorem dX6_clearText_4 : decode cX6_clearText 4 = .ok (.istore_n 1, 1) := by decide +kernel
theorem dX6_clearText_5 : decode cX6_clearText 5 = .ok (.aload_n 0, 1) := by decide +kernel
theorem dX6_clearText_6 : decode cX6_clearText 6 = .ok (.iconst 0, 1) := by decide +kernel
theorem dX6_clearText_7 : decode cX6_clearText 7 = .ok (.putfield 105, 3) := by decide +kernel
theorem dX6_clearText_10 : decode cX6_clearText 10 = .ok (.iload_n 1, 1) := by decide +kernel
theorem dX6_clearText_11 : decode cX6_clearText 11 = .ok (.ireturn, 1) := by decide +kernel
theorem dX6_code_0 : decode cX6_code 0 = .ok (.aload_n 0, 1) := by decide +kernel
theorem dX6_code_1 : decode cX6_code 1 = .ok (.getfield 108, 3) := by decide +kernel
theorem dX6_code_4 : decode cX6_code 4 = .ok (.aload_n 0, 1) := by decide +kernel
theorem dX6_code_5 : decode cX6_code 5 = .ok (.getfield 105, 3) := by decide +kernel
theorem dX6_code_8 : decode cX6_code 8 = .ok (.if_icmp .ge 30, 3) := by decide +kernel
theorem dX6_code_11 : decode cX6_code 11 = .ok (.aload_n 0, 1) := by decide +kernel
theorem dX6_code_12 : decode cX6_code 12 = .ok (.getfield 14, 3) := by decide +kernel
theorem dX6_code_15 : decode cX6_code 15 = .ok (.aload_n 0, 1) := by decide +kernel
theorem dX6_code_16 : decode cX6_code 16 = .ok (.getfield 108, 3) := by decide +kernel
theorem dX6_code_19 : decode cX6_code 19 = .ok (.iaload, 1) := by decide +kernel
theorem dX6_code_20 : decode cX6_code 20 = .ok (.bipush 32, 2) := by decide +kernel
theorem dX6_code_22 : decode cX6_code 22 = .ok (.if_icmp .ne 16, 3) := by decide +kernel
theorem dX6_code_25 : decode cX6_code 25 = .ok (.aload_n 0, 1) := by decide +kernel
theorem dX6_code_26 : decode cX6_code 26 = .ok (.dup, 1) := by decide +kernel
theorem dX6_code_27 : decode cX6_code 27 = .ok (.getfield 108, 3) := by decide +kernel
theorem dX6_code_30 : decode cX6_code 30 = .ok (.iconst 1, 1) := by decide +kernel
theorem dX6_code_31 : decode cX6_code 31 = .ok (.iadd, 1) := by decide +kernel
theorem dX6_code_32 : decode cX6_code 32 = .ok (.putfield 108, 3) := by decide +kernel
theorem dX6_code_35 : decode cX6_code 35 = .ok (.goto (-35), 3) := by decide +kernel
theorem dX6_code_38 : decode cX6_code 38 = .ok (.aload_n 0, 1) := by decide +kernel
theorem dX6_code_39 : decode cX6_code 39 = .ok (.getfield 108, 3) := by decide +kernel
theorem dX6_code_42 : decode cX6_code 42 = .ok (.aload_n 0, 1) := by decide +kernel
theorem dX6_code_43 : decode cX6_code 43 = .ok (.getfield 105, 3) := by decide +kernel
theorem dX6_code_46 : decode cX6_code 46 = .ok (.if_icmp .ge 15, 3) := by decide +kernel
theorem dX6_code_49 : decode cX6_code 49 = .ok (.aload_n 0, 1) := by decide +kernel
theorem dX6_code_50 : decode cX6_code 50 = .ok (.getfield 14, 3) := by decide +kernel
theorem dX6_code_53 : decode cX6_code 53 = .ok (.aload_n 0, 1) := by decide +kernel
theorem dX6_code_54 : decode cX6_code 54 = .ok (.getfield 108, 3) := by decide +kernel
theorem dX6_code_57 : decode cX6_code 57 = .ok (.iaload, 1) := by decide +kernel
theorem dX6_code_58 : decode cX6_code 58 = .ok (.goto 4, 3) := by decide +kernel
theorem dX6_code_61 : decode cX6_code 61 = .ok (.iconst 0, 1) := by decide +kernel
theorem dX6_code_62 : decode cX6_code 62 = .ok (.ireturn, 1) := by decide +kernel
theorem dX6_wrong_0 : decode cX6_wrong 0 = .ok (.iload_n 1, 1) := by decide +kernel
theorem dX6_wrong_1 : decode cX6_wrong 1 = .ok (.ifCond .eq 23, 3) := by decide +kernel
theorem dX6_wrong_4 : decode cX6_wrong 4 = .ok (.aload_n 0, 1) := by decide +kernel
theorem dX6_wrong_5 : decode cX6_wrong 5 = .ok (.getfield 111, 3) := by decide +kernel
theorem dX6_wrong_8 : decode cX6_wrong 8 = .ok (.ifCond .ge 16, 3) := by decide +kernel
theorem dX6_wrong_11 : decode cX6_wrong 11 = .ok (.aload_n 0, 1) := by decide +kernel
theorem dX6_wrong_12 : decode cX6_wrong 12 = .ok (.iload_n 2, 1) := by decide +kernel
theorem dX6_wrong_13 : decode cX6_wrong 13 = .ok (.putfield 111, 3) := by decide +kernel
theorem dX6_wrong_16 : decode cX6_wrong 16 = .ok (.aload_n 0, 1) := by decide +kernel
theorem dX6_wrong_17 : decode cX6_wrong 17 = .ok (.aload_n 0, 1) := by decide +kernel
theorem dX6_wrong_18 : decode cX6_wrong 18 = .ok (.getfield 114, 3) := by decide +kernel
theorem dX6_wrong_21 : decode cX6_wrong 21 = .ok (.putfield 117, 3) := by decide +kernel
theorem dX6_wrong_24 : decode cX6_wrong 24 = .ok (.return_, 1) := by decide +kernel
theorem dX6_readsNumber_0 : decode cX6_readsNumber 0 = .ok (.aload_n 0, 1) := by decide +kernel
theorem dX6_readsNumber_1 : decode cX6_readsNumber 1 = .ok (.invokevirtual 120, 3) := by decide +kernel
theorem dX6_readsNumber_4 : decode cX6_readsNumber 4 = .ok (.bipush 48, 2) := by decide +kernel
theorem dX6_readsNumber_6 : decode cX6_readsNumber 6 = .ok (.bipush 57, 2) := by decide +kernel
theorem dX6_readsNumber_8 : decode cX6_readsNumber 8 = .ok (.invokestatic 31, 3) := by decide +kernel
theorem dX6_readsNumber_11 : decode cX6_readsNumber 11 = .ok (.ifCond .ne 5, 3) := by decide +kernel
theorem dX6_readsNumber_14 : decode cX6_readsNumber 14 = .ok (.iconst 0, 1) := by decide +kernel
theorem dX6_readsNumber_15 : decode cX6_readsNumber 15 = .ok (.ireturn, 1) := by decide +kernel
theorem dX6_readsNumber_16 : decode cX6_readsNumber 16 = .ok (.aload_n 0, 1) := by decide +kernel
theorem dX6_readsNumber_17 : decode cX6_readsNumber 17 = .ok (.getfield 108, 3) := by decide +kernel
theorem dX6_readsNumber_20 : decode cX6_readsNumber 20 = .ok (.istore_n 1, 1) := by decide +kernel
theorem dX6_readsNumber_21 : decode cX6_readsNumber 21 = .ok (.aload_n 0, 1) := by decide +kernel
theorem dX6_readsNumber_22 : decode cX6_readsNumber 22 = .ok (.iconst 0, 1) := by decide +kernel
theorem dX6_readsNumber_23 : decode cX6_readsNumber 23 = .ok (.putfield 124, 3) := by decide +kernel
theorem dX6_readsNumber_26 : decode cX6_readsNumber 26 = .ok (.aload_n 0, 1) := by decide +kernel
theorem dX6_readsNumber_27 : decode cX6_readsNumber 27 = .ok (.getfield 108, 3) := by decide +kernel
theorem dX6_readsNumber_30 : decode cX6_readsNumber 30 = .ok (.aload_n 0, 1) := by decide +kernel
theorem dX6_readsNumber_31 : decode cX6_readsNumber 31 = .ok (.getfield 105, 3) := by decide +kernel
theorem dX6_readsNumber_34 : decode cX6_readsNumber 34 = .ok (.if_icmp .ge 84, 3) := by decide +kernel
theorem dX6_readsNumber_37 : decode cX6_readsNumber 37 = .ok (.aload_n 0, 1) := by decide +kernel
theorem dX6_readsNumber_38 : decode cX6_readsNumber 38 = .ok (.getfield 14, 3) := by decide +kernel
theorem dX6_readsNumber_41 : decode cX6_readsNumber 41 = .ok (.aload_n 0, 1) := by decide +kernel
theorem dX6_readsNumber_42 : decode cX6_readsNumber 42 = .ok (.getfield 108, 3) := by decide +kernel
theorem dX6_readsNumber_45 : decode cX6_readsNumber 45 = .ok (.iaload, 1) := by decide +kernel
theorem dX6_readsNumber_46 : decode cX6_readsNumber 46 = .ok (.bipush 48, 2) := by decide +kernel
theorem dX6_readsNumber_48 : decode cX6_readsNumber 48 = .ok (.bipush 57, 2) := by decide +kernel
theorem dX6_readsNumber_50 : decode cX6_readsNumber 50 = .ok (.invokestatic 31, 3) := by decide +kernel
theorem dX6_readsNumber_53 : decode cX6_readsNumber 53 = .ok (.ifCond .eq 65, 3) := by decide +kernel
theorem dX6_readsNumber_56 : decode cX6_readsNumber 56 = .ok (.aload_n 0, 1) := by decide +kernel
theorem dX6_readsNumber_57 : decode cX6_readsNumber 57 = .ok (.getfield 108, 3) := by decide +kernel
theorem dX6_readsNumber_60 : decode cX6_readsNumber 60 = .ok (.iload_n 1, 1) := by decide +kernel
theorem dX6_readsNumber_61 : decode cX6_readsNumber 61 = .ok (.isub, 1) := by decide +kernel
theorem dX6_readsNumber_62 : decode cX6_readsNumber 62 = .ok (.iconst 3, 1) := by decide +kernel
theorem dX6_readsNumber_63 : decode cX6_readsNumber 63 = .ok (.if_icmp .ge 55, 3) := by decide +kernel
theorem dX6_readsNumber_66 : decode cX6_readsNumber 66 = .ok (.aload_n 0, 1) := by decide +kernel
theorem dX6_readsNumber_67 : decode cX6_readsNumber 67 = .ok (.getfield 108, 3) := by decide +kernel
theorem dX6_readsNumber_70 : decode cX6_readsNumber 70 = .ok (.iload_n 1, 1) := by decide +kernel
theorem dX6_readsNumber_71 : decode cX6_readsNumber 71 = .ok (.if_icmp .eq 10, 3) := by decide +kernel
theorem dX6_readsNumber_74 : decode cX6_readsNumber 74 = .ok (.aload_n 0, 1) := by decide +kernel
theorem dX6_readsNumber_75 : decode cX6_readsNumber 75 = .ok (.getfield 124, 3) := by decide +kernel
theorem dX6_readsNumber_78 : decode cX6_readsNumber 78 = .ok (.ifCond .le 40, 3) := by decide +kernel
theorem dX6_readsNumber_81 : decode cX6_readsNumber 81 = .ok (.aload_n 0, 1) := by decide +kernel
theorem dX6_readsNumber_82 : decode cX6_readsNumber 82 = .ok (.bipush 10, 2) := by decide +kernel
theorem dX6_readsNumber_84 : decode cX6_readsNumber 84 = .ok (.aload_n 0, 1) := by decide +kernel
theorem dX6_readsNumber_85 : decode cX6_readsNumber 85 = .ok (.getfield 124, 3) := by decide +kernel
theorem dX6_readsNumber_88 : decode cX6_readsNumber 88 = .ok (.imul, 1) := by decide +kernel
theorem dX6_readsNumber_89 : decode cX6_readsNumber 89 = .ok (.aload_n 0, 1) := by decide +kernel
theorem dX6_readsNumber_90 : decode cX6_readsNumber 90 = .ok (.getfield 14, 3) := by decide +kernel
theorem dX6_readsNumber_93 : decode cX6_readsNumber 93 = .ok (.aload_n 0, 1) := by decide +kernel
theorem dX6_readsNumber_94 : decode cX6_readsNumber 94 = .ok (.getfield 108, 3) := by decide +kernel
theorem dX6_readsNumber_97 : decode cX6_readsNumber 97 = .ok (.iaload, 1) := by decide +kernel
theorem dX6_readsNumber_98 : decode cX6_readsNumber 98 = .ok (.iadd, 1) := by decide +kernel
theorem dX6_readsNumber_99 : decode cX6_readsNumber 99 = .ok (.bipush 48, 2) := by decide +kernel
theorem dX6_readsNumber_101 : decode cX6_readsNumber 101 = .ok (.isub, 1) := by decide +kernel
theorem dX6_readsNumber_102 : decode cX6_readsNumber 102 = .ok (.putfield 124, 3) := by decide +kernel
theorem dX6_readsNumber_105 : decode cX6_readsNumber 105 = .ok (.aload_n 0, 1) := by decide +kernel
theorem dX6_readsNumber_106 : decode cX6_readsNumber 106 = .ok (.dup, 1) := by decide +kernel
theorem dX6_readsNumber_107 : decode cX6_readsNumber 107 = .ok (.getfield 108, 3) := by decide +kernel
theorem dX6_readsNumber_110 : decode cX6_readsNumber 110 = .ok (.iconst 1, 1) := by decide +kernel
theorem dX6_readsNumber_111 : decode cX6_readsNumber 111 = .ok (.iadd, 1) := by decide +kernel
theorem dX6_readsNumber_112 : decode cX6_readsNumber 112 = .ok (.putfield 108, 3) := by decide +kernel
theorem dX6_readsNumber_115 : decode cX6_readsNumber 115 = .ok (.goto (-89), 3) := by decide +kernel
theorem dX6_readsNumber_118 : decode cX6_readsNumber 118 = .ok (.aload_n 0, 1) := by decide +kernel
theorem dX6_readsNumber_119 : decode cX6_readsNumber 119 = .ok (.getfield 108, 3) := by decide +kernel
theorem dX6_readsNumber_122 : decode cX6_readsNumber 122 = .ok (.aload_n 0, 1) := by decide +kernel
theorem dX6_readsNumber_123 : decode cX6_readsNumber 123 = .ok (.getfield 105, 3) := by decide +kernel
theorem dX6_readsNumber_126 : decode cX6_readsNumber 126 = .ok (.if_icmp .eq 22, 3) := by decide +kernel
theorem dX6_readsNumber_129 : decode cX6_readsNumber 129 = .ok (.aload_n 0, 1) := by decide +kernel
theorem dX6_readsNumber_130 : decode cX6_readsNumber 130 = .ok (.getfield 14, 3) := by decide +kernel
theorem dX6_readsNumber_133 : decode cX6_readsNumber 133 = .ok (.aload_n 0, 1) := by decide +kernel
theorem dX6_readsNumber_134 : decode cX6_readsNumber 134 = .ok (.getfield 108, 3) := by decide +kernel
theorem dX6_readsNumber_137 : decode cX6_readsNumber 137 = .ok (.iaload, 1) := by decide +kernel
theorem dX6_readsNumber_138 : decode cX6_readsNumber 138 = .ok (.bipush 48, 2) := by decide +kernel
theorem dX6_readsNumber_140 : decode cX6_readsNumber 140 = .ok (.bipush 57, 2) := by decide +kernel
theorem dX6_readsNumber_142 : decode cX6_readsNumber 142 = .ok (.invokestatic 31, 3) := by decide +kernel
theorem dX6_readsNumber_145 : decode cX6_readsNumber 145 = .ok (.ifCond .ne 7, 3) := by decide +kernel
theorem dX6_readsNumber_148 : decode cX6_readsNumber 148 = .ok (.iconst 1, 1) := by decide +kernel
theorem dX6_readsNumber_149 : decode cX6_readsNumber 149 = .ok (.goto 4, 3) := by decide +kernel
theorem dX6_readsNumber_152 : decode cX6_readsNumber 152 = .ok (.iconst 0, 1) := by decide +kernel
theorem dX6_readsNumber_153 : decode cX6_readsNumber 153 = .ok (.ireturn, 1) := by decide +kernel
theorem dX6_push__0 : decode cX6_push_ 0 = .ok (.aload_n 0, 1) := by decide +kernel
theorem dX6_push__1 : decode cX6_push_ 1 = .ok (.getfield 20, 3) := by decide +kernel
theorem dX6_push__4 : decode cX6_push_ 4 = .ok (.aload_n 0, 1) := by decide +kernel
theorem dX6_push__5 : decode cX6_push_ 5 = .ok (.getfield 127, 3) := by decide +kernel
theorem dX6_push__8 : decode cX6_push_ 8 = .ok (.iload_n 1, 1) := by decide +kernel
theorem dX6_push__9 : decode cX6_push_ 9 = .ok (.iastore, 1) := by decide +kernel
theorem dX6_push__10 : decode cX6_push_ 10 = .ok (.aload_n 0, 1) := by decide +kernel
theorem dX6_push__11 : decode cX6_push_ 11 = .ok (.dup, 1) := by decide +kernel
theorem dX6_push__12 : decode cX6_push_ 12 = .ok (.getfield 127, 3) := by decide +kernel
theorem dX6_push__15 : decode cX6_push_ 15 = .ok (.iconst 1, 1) := by decide +kernel
theorem dX6_push__16 : decode cX6_push_ 16 = .ok (.iadd, 1) := by decide +kernel
theorem dX6_push__17 : decode cX6_push_ 17 = .ok (.putfield 127, 3) := by decide +kernel
theorem dX6_push__20 : decode cX6_push_ 20 = .ok (.aload_n 0, 1) := by decide +kernel
theorem dX6_push__21 : decode cX6_push_ 21 = .ok (.dup, 1) := by decide +kernel
theorem dX6_push__22 : decode cX6_push_ 22 = .ok (.getfield 114, 3) := by decide +kernel
theorem dX6_push__25 : decode cX6_push_ 25 = .ok (.iload_n 1, 1) := by decide +kernel
theorem dX6_push__26 : decode cX6_push_ 26 = .ok (.bipush 40, 2) := by decide +kernel
theorem dX6_push__28 : decode cX6_push_ 28 = .ok (.if_icmp .eq 9, 3) := by decide +kernel
theorem dX6_push__31 : decode cX6_push_ 31 = .ok (.iload_n 1, 1) := by decide +kernel
theorem dX6_push__32 : decode cX6_push_ 32 = .ok (.bipush 126, 2) := by decide +kernel
theorem dX6_push__34 : decode cX6_push_ 34 = .ok (.if_icmp .ne 7, 3) := by decide +kernel
theorem dX6_push__37 : decode cX6_push_ 37 = .ok (.iconst 1, 1) := by decide +kernel
theorem dX6_push__38 : decode cX6_push_ 38 = .ok (.goto 4, 3) := by decide +kernel
theorem dX6_push__41 : decode cX6_push_ 41 = .ok (.iconst 0, 1) := by decide +kernel
theorem dX6_push__42 : decode cX6_push_ 42 = .ok (.iadd, 1) := by decide +kernel
theorem dX6_push__43 : decode cX6_push_ 43 = .ok (.putfield 114, 3) := by decide +kernel
theorem dX6_push__46 : decode cX6_push_ 46 = .ok (.return_, 1) := by decide +kernel
theorem dX6_pop_0 : decode cX6_pop 0 = .ok (.aload_n 0, 1) := by decide +kernel
theorem dX6_pop_1 : decode cX6_pop 1 = .ok (.dup, 1) := by decide +kernel
theorem dX6_pop_2 : decode cX6_pop 2 = .ok (.getfield 127, 3) := by decide +kernel
theorem dX6_pop_5 : decode cX6_pop 5 = .ok (.iconst 1, 1) := by decide +kernel
theorem dX6_pop_6 : decode cX6_pop 6 = .ok (.isub, 1) := by decide +kernel
theorem dX6_pop_7 : decode cX6_pop 7 = .ok (.putfield 127, 3) := by decide +kernel
theorem dX6_pop_10 : decode cX6_pop 10 = .ok (.aload_n 0, 1) := by decide +kernel
theorem dX6_pop_11 : decode cX6_pop 11 = .ok (.dup, 1) := by decide +kernel
theorem dX6_pop_12 : decode cX6_pop 12 = .ok (.getfield 114, 3) := by decide +kernel
theorem dX6_pop_15 : decode cX6_pop 15 = .ok (.aload_n 0, 1) := by decide +kernel
theorem dX6_pop_16 : decode cX6_pop 16 = .ok (.getfield 20, 3) := by decide +kernel
theorem dX6_pop_19 : decode cX6_pop 19 = .ok (.aload_n 0, 1) := by decide +kernel
theorem dX6_pop_20 : decode cX6_pop 20 = .ok (.getfield 127, 3) := by decide +kernel
theorem dX6_pop_23 : decode cX6_pop 23 = .ok (.iaload, 1) := by decide +kernel
theorem dX6_pop_24 : decode cX6_pop 24 = .ok (.bipush 40, 2) := by decide +kernel
theorem dX6_pop_26 : decode cX6_pop 26 = .ok (.if_icmp .eq 17, 3) := by decide +kernel
theorem dX6_pop_29 : decode cX6_pop 29 = .ok (.aload_n 0, 1) := by decide +kernel
theorem dX6_pop_30 : decode cX6_pop 30 = .ok (.getfield 20, 3) := by decide +kernel
theorem dX6_pop_33 : decode cX6_pop 33 = .ok (.aload_n 0, 1) := by decide +kernel
theorem dX6_pop_34 : decode cX6_pop 34 = .ok (.getfield 127, 3) := by decide +kernel
theorem dX6_pop_37 : decode cX6_pop 37 = .ok (.iaload, 1) := by decide +kernel
theorem dX6_pop_38 : decode cX6_pop 38 = .ok (.bipush 126, 2) := by decide +kernel
theorem dX6_pop_40 : decode cX6_pop 40 = .ok (.if_icmp .ne 7, 3) := by decide +kernel
theorem dX6_pop_43 : decode cX6_pop 43 = .ok (.iconst 1, 1) := by decide +kernel
theorem dX6_pop_44 : decode cX6_pop 44 = .ok (.goto 4, 3) := by decide +kernel
theorem dX6_pop_47 : decode cX6_pop 47 = .ok (.iconst 0, 1) := by decide +kernel
theorem dX6_pop_48 : decode cX6_pop 48 = .ok (.isub, 1) := by decide +kernel
theorem dX6_pop_49 : decode cX6_pop 49 = .ok (.putfield 114, 3) := by decide +kernel
theorem dX6_pop_52 : decode cX6_pop 52 = .ok (.aload_n 0, 1) := by decide +kernel
theorem dX6_pop_53 : decode cX6_pop 53 = .ok (.getfield 20, 3) := by decide +kernel
theorem dX6_pop_56 : decode cX6_pop 56 = .ok (.aload_n 0, 1) := by decide +kernel
theorem dX6_pop_57 : decode cX6_pop 57 = .ok (.getfield 127, 3) := by decide +kernel
theorem dX6_pop_60 : decode cX6_pop 60 = .ok (.iaload, 1) := by decide +kernel
theorem dX6_pop_61 : decode cX6_pop 61 = .ok (.ireturn, 1) := by decide +kernel
theorem dX6_top_0 : decode cX6_top 0 = .ok (.aload_n 0, 1) := by decide +kernel
theorem dX6_top_1 : decode cX6_top 1 = .ok (.getfield 127, 3) := by decide +kernel
theorem dX6_top_4 : decode cX6_top 4 = .ok (.ifCond .ne 7, 3) := by decide +kernel
theorem dX6_top_7 : decode cX6_top 7 = .ok (.iconst 0, 1) := by decide +kernel
theorem dX6_top_8 : decode cX6_top 8 = .ok (.goto 14, 3) := by decide +kernel
theorem dX6_top_11 : decode cX6_top 11 = .ok (.aload_n 0, 1) := by decide +kernel
theorem dX6_top_12 : decode cX6_top 12 = .ok (.getfield 20, 3) := by decide +kernel
theorem dX6_top_15 : decode cX6_top 15 = .ok (.aload_n 0, 1) := by decide +kernel
theorem dX6_top_16 : decode cX6_top 16 = .ok (.getfield 127, 3) := by decide +kernel
theorem dX6_top_19 : decode cX6_top 19 = .ok (.iconst 1, 1) := by decide +kernel
theorem dX6_top_20 : decode cX6_top 20 = .ok (.isub, 1) := by decide +kernel
theorem dX6_top_21 : decode cX6_top 21 = .ok (.iaload, 1) := by decide +kernel
theorem dX6_top_22 : decode cX6_top 22 = .ok (.ireturn, 1) := by decide +kernel
end
section
theorem dX6_rank_0 : decode cX6_rank 0 = .ok (.iload_n 0, 1) := by decide +kernel
theorem dX6_rank_1 : decode cX6_rank 1 = .ok (.bipush 124, 2) := by decide +kernel
theorem dX6_rank_3 : decode cX6_rank 3 = .ok (.if_icmp .eq 9, 3) := by decide +kernel
theorem dX6_rank_6 : decode cX6_rank 6 = .ok (.iload_n 0, 1) := by decide +kernel
theorem dX6_rank_7 : decode cX6_rank 7 = .ok (.bipush 94, 2) := by decide +kernel
theorem dX6_rank_9 : decode cX6_rank 9 = .ok (.if_icmp .ne 7, 3) := by decide +kernel
theorem dX6_rank_12 : decode cX6_rank 12 = .ok (.iconst 1, 1) := by decide +kernel
theorem dX6_rank_13 : decode cX6_rank 13 = .ok (.goto 20, 3) := by decide +kernel
theorem dX6_rank_16 : decode cX6_rank 16 = .ok (.iload_n 0, 1) := by decide +kernel
theorem dX6_rank_17 : decode cX6_rank 17 = .ok (.bipush 38, 2) := by decide +kernel
theorem dX6_rank_19 : decode cX6_rank 19 = .ok (.if_icmp .eq 9, 3) := by decide +kernel
theorem dX6_rank_22 : decode cX6_rank 22 = .ok (.iload_n 0, 1) := by decide +kernel
theorem dX6_rank_23 : decode cX6_rank 23 = .ok (.bipush 45, 2) := by decide +kernel
theorem dX6_rank_25 : decode cX6_rank 25 = .ok (.if_icmp .ne 7, 3) := by decide +kernel
theorem dX6_rank_28 : decode cX6_rank 28 = .ok (.iconst 2, 1) := by decide +kernel
theorem dX6_rank_29 : decode cX6_rank 29 = .ok (.goto 4, 3) := by decide +kernel
theorem dX6_rank_32 : decode cX6_rank 32 = .ok (.iconst 0, 1) := by decide +kernel
theorem dX6_rank_33 : decode cX6_rank 33 = .ok (.ireturn, 1) := by decide +kernel
theorem dX6_operationOf_0 : decode cX6_operationOf 0 = .ok (.iload_n 0, 1) := by decide +kernel
theorem dX6_operationOf_1 : decode cX6_operationOf 1 = .ok (.bipush 38, 2) := by decide +kernel
theorem dX6_operationOf_3 : decode cX6_operationOf 3 = .ok (.if_icmp .ne 7, 3) := by decide +kernel
theorem dX6_operationOf_6 : decode cX6_operationOf 6 = .ok (.iconst 0, 1) := by decide +kernel
theorem dX6_operationOf_7 : decode cX6_operationOf 7 = .ok (.goto 24, 3) := by decide +kernel
theorem dX6_operationOf_10 : decode cX6_operationOf 10 = .ok (.iload_n 0, 1) := by decide +kernel
theorem dX6_operationOf_11 : decode cX6_operationOf 11 = .ok (.bipush 124, 2) := by decide +kernel
theorem dX6_operationOf_13 : decode cX6_operationOf 13 = .ok (.if_icmp .ne 7, 3) := by decide +kernel
theorem dX6_operationOf_16 : decode cX6_operationOf 16 = .ok (.iconst 1, 1) := by decide +kernel
theorem dX6_operationOf_17 : decode cX6_operationOf 17 = .ok (.goto 14, 3) := by decide +kernel
theorem dX6_operationOf_20 : decode cX6_operationOf 20 = .ok (.iload_n 0, 1) := by decide +kernel
theorem dX6_operationOf_21 : decode cX6_operationOf 21 = .ok (.bipush 45, 2) := by decide +kernel
theorem dX6_operationOf_23 : decode cX6_operationOf 23 = .ok (.if_icmp .ne 7, 3) := by decide +kernel
theorem dX6_operationOf_26 : decode cX6_operationOf 26 = .ok (.iconst 2, 1) := by decide +kernel
theorem dX6_operationOf_27 : decode cX6_operationOf 27 = .ok (.goto 4, 3) := by decide +kernel
theorem dX6_operationOf_30 : decode cX6_operationOf 30 = .ok (.iconst 3, 1) := by decide +kernel
theorem dX6_operationOf_31 : decode cX6_operationOf 31 = .ok (.ireturn, 1) := by decide +kernel
theorem dX6_doTo_0 : decode cX6_doTo 0 = .ok (.aload_n 0, 1) := by decide +kernel
theorem dX6_doTo_1 : decode cX6_doTo 1 = .ok (.invokevirtual 130, 3) := by decide +kernel
theorem dX6_doTo_4 : decode cX6_doTo 4 = .ok (.invokestatic 133, 3) := by decide +kernel
theorem dX6_doTo_7 : decode cX6_doTo 7 = .ok (.iload_n 1, 1) := by decide +kernel
theorem dX6_doTo_8 : decode cX6_doTo 8 = .ok (.if_icmp .lt 61, 3) := by decide +kernel
theorem dX6_doTo_11 : decode cX6_doTo 11 = .ok (.aload_n 0, 1) := by decide +kernel
theorem dX6_doTo_12 : decode cX6_doTo 12 = .ok (.invokevirtual 136, 3) := by decide +kernel
theorem dX6_doTo_15 : decode cX6_doTo 15 = .ok (.istore_n 2, 1) := by decide +kernel
theorem dX6_doTo_16 : decode cX6_doTo 16 = .ok (.aload_n 0, 1) := by decide +kernel
theorem dX6_doTo_17 : decode cX6_doTo 17 = .ok (.dup, 1) := by decide +kernel
theorem dX6_doTo_18 : decode cX6_doTo 18 = .ok (.getfield 139, 3) := by decide +kernel
theorem dX6_doTo_21 : decode cX6_doTo 21 = .ok (.iconst 1, 1) := by decide +kernel
theorem dX6_doTo_22 : decode cX6_doTo 22 = .ok (.isub, 1) := by decide +kernel
theorem dX6_doTo_23 : decode cX6_doTo 23 = .ok (.putfield 139, 3) := by decide +kernel
theorem dX6_doTo_26 : decode cX6_doTo 26 = .ok (.aload_n 0, 1) := by decide +kernel
theorem dX6_doTo_27 : decode cX6_doTo 27 = .ok (.getfield 142, 3) := by decide +kernel
theorem dX6_doTo_30 : decode cX6_doTo 30 = .ok (.ifCond .eq 36, 3) := by decide +kernel
theorem dX6_doTo_33 : decode cX6_doTo 33 = .ok (.aload_n 0, 1) := by decide +kernel
theorem dX6_doTo_34 : decode cX6_doTo 34 = .ok (.iload_n 2, 1) := by decide +kernel
theorem dX6_doTo_35 : decode cX6_doTo 35 = .ok (.invokestatic 146, 3) := by decide +kernel
theorem dX6_doTo_38 : decode cX6_doTo 38 = .ok (.aload_n 0, 1) := by decide +kernel
theorem dX6_doTo_39 : decode cX6_doTo 39 = .ok (.getfield 139, 3) := by decide +kernel
theorem dX6_doTo_42 : decode cX6_doTo 42 = .ok (.iconst 1, 1) := by decide +kernel
theorem dX6_doTo_43 : decode cX6_doTo 43 = .ok (.isub, 1) := by decide +kernel
theorem dX6_doTo_44 : decode cX6_doTo 44 = .ok (.invokestatic 54, 3) := by decide +kernel
theorem dX6_doTo_47 : decode cX6_doTo 47 = .ok (.aload_n 0, 1) := by decide +kernel
theorem dX6_doTo_48 : decode cX6_doTo 48 = .ok (.getfield 139, 3) := by decide +kernel
theorem dX6_doTo_51 : decode cX6_doTo 51 = .ok (.invokestatic 54, 3) := by decide +kernel
theorem dX6_doTo_54 : decode cX6_doTo 54 = .ok (.aload_n 0, 1) := by decide +kernel
theorem dX6_doTo_55 : decode cX6_doTo 55 = .ok (.getfield 139, 3) := by decide +kernel
theorem dX6_doTo_58 : decode cX6_doTo 58 = .ok (.iconst 1, 1) := by decide +kernel
theorem dX6_doTo_59 : decode cX6_doTo 59 = .ok (.isub, 1) := by decide +kernel
theorem dX6_doTo_60 : decode cX6_doTo 60 = .ok (.invokestatic 54, 3) := by decide +kernel
theorem dX6_doTo_63 : decode cX6_doTo 63 = .ok (.invokevirtual 91, 3) := by decide +kernel
theorem dX6_doTo_66 : decode cX6_doTo 66 = .ok (.goto (-66), 3) := by decide +kernel
theorem dX6_doTo_69 : decode cX6_doTo 69 = .ok (.return_, 1) := by decide +kernel
theorem dX6_closeFactor_0 : decode cX6_closeFactor 0 = .ok (.aload_n 0, 1) := by decide +kernel
theorem dX6_closeFactor_1 : decode cX6_closeFactor 1 = .ok (.invokevirtual 130, 3) := by decide +kernel
theorem dX6_closeFactor_4 : decode cX6_closeFactor 4 = .ok (.bipush 126, 2) := by decide +kernel
theorem dX6_closeFactor_6 : decode cX6_closeFactor 6 = .ok (.if_icmp .ne 31, 3) := by decide +kernel
theorem dX6_closeFactor_9 : decode cX6_closeFactor 9 = .ok (.aload_n 0, 1) := by decide +kernel
theorem dX6_closeFactor_10 : decode cX6_closeFactor 10 = .ok (.invokevirtual 136, 3) := by decide +kernel
theorem dX6_closeFactor_13 : decode cX6_closeFactor 13 = .ok (.pop, 1) := by decide +kernel
theorem dX6_closeFactor_14 : decode cX6_closeFactor 14 = .ok (.aload_n 0, 1) := by decide +kernel
theorem dX6_closeFactor_15 : decode cX6_closeFactor 15 = .ok (.getfield 142, 3) := by decide +kernel
theorem dX6_closeFactor_18 : decode cX6_closeFactor 18 = .ok (.ifCond .eq (-18), 3) := by decide +kernel
theorem dX6_closeFactor_21 : decode cX6_closeFactor 21 = .ok (.aload_n 0, 1) := by decide +kernel
theorem dX6_closeFactor_22 : decode cX6_closeFactor 22 = .ok (.aload_n 0, 1) := by decide +kernel
theorem dX6_closeFactor_23 : decode cX6_closeFactor 23 = .ok (.getfield 139, 3) := by decide +kernel
theorem dX6_closeFactor_26 : decode cX6_closeFactor 26 = .ok (.iconst 1, 1) := by decide +kernel
theorem dX6_closeFactor_27 : decode cX6_closeFactor 27 = .ok (.isub, 1) := by decide +kernel
theorem dX6_closeFactor_28 : decode cX6_closeFactor 28 = .ok (.invokestatic 54, 3) := by decide +kernel
theorem dX6_closeFactor_31 : decode cX6_closeFactor 31 = .ok (.invokevirtual 95, 3) := by decide +kernel
theorem dX6_closeFactor_34 : decode cX6_closeFactor 34 = .ok (.goto (-34), 3) := by decide +kernel
theorem dX6_closeFactor_37 : decode cX6_closeFactor 37 = .ok (.return_, 1) := by decide +kernel
theorem dX6_readsRow_0 : decode cX6_readsRow 0 = .ok (.aload_n 0, 1) := by decide +kernel
theorem dX6_readsRow_1 : decode cX6_readsRow 1 = .ok (.getfield 108, 3) := by decide +kernel
theorem dX6_readsRow_4 : decode cX6_readsRow 4 = .ok (.istore_n 1, 1) := by decide +kernel
theorem dX6_readsRow_5 : decode cX6_readsRow 5 = .ok (.aload_n 0, 1) := by decide +kernel
theorem dX6_readsRow_6 : decode cX6_readsRow 6 = .ok (.invokevirtual 149, 3) := by decide +kernel
theorem dX6_readsRow_9 : decode cX6_readsRow 9 = .ok (.ifCond .ne 5, 3) := by decide +kernel
theorem dX6_readsRow_12 : decode cX6_readsRow 12 = .ok (.iconst 0, 1) := by decide +kernel
theorem dX6_readsRow_13 : decode cX6_readsRow 13 = .ok (.ireturn, 1) := by decide +kernel
theorem dX6_readsRow_14 : decode cX6_readsRow 14 = .ok (.aload_n 0, 1) := by decide +kernel
theorem dX6_readsRow_15 : decode cX6_readsRow 15 = .ok (.aload_n 0, 1) := by decide +kernel
theorem dX6_readsRow_16 : decode cX6_readsRow 16 = .ok (.aload_n 0, 1) := by decide +kernel
theorem dX6_readsRow_17 : decode cX6_readsRow 17 = .ok (.getfield 124, 3) := by decide +kernel
theorem dX6_readsRow_20 : decode cX6_readsRow 20 = .ok (.invokevirtual 74, 3) := by decide +kernel
theorem dX6_readsRow_23 : decode cX6_readsRow 23 = .ok (.ifCond .ne 7, 3) := by decide +kernel
theorem dX6_readsRow_26 : decode cX6_readsRow 26 = .ok (.iconst 1, 1) := by decide +kernel
theorem dX6_readsRow_27 : decode cX6_readsRow 27 = .ok (.goto 4, 3) := by decide +kernel
theorem dX6_readsRow_30 : decode cX6_readsRow 30 = .ok (.iconst 0, 1) := by decide +kernel
theorem dX6_readsRow_31 : decode cX6_readsRow 31 = .ok (.iload_n 1, 1) := by decide +kernel
theorem dX6_readsRow_32 : decode cX6_readsRow 32 = .ok (.invokevirtual 153, 3) := by decide +kernel
theorem dX6_readsRow_35 : decode cX6_readsRow 35 = .ok (.aload_n 0, 1) := by decide +kernel
theorem dX6_readsRow_36 : decode cX6_readsRow 36 = .ok (.getfield 142, 3) := by decide +kernel
theorem dX6_readsRow_39 : decode cX6_readsRow 39 = .ok (.ifCond .eq 21, 3) := by decide +kernel
theorem dX6_readsRow_42 : decode cX6_readsRow 42 = .ok (.aload_n 0, 1) := by decide +kernel
theorem dX6_readsRow_43 : decode cX6_readsRow 43 = .ok (.aload_n 0, 1) := by decide +kernel
theorem dX6_readsRow_44 : decode cX6_readsRow 44 = .ok (.getfield 124, 3) := by decide +kernel
theorem dX6_readsRow_47 : decode cX6_readsRow 47 = .ok (.invokestatic 71, 3) := by decide +kernel
theorem dX6_readsRow_50 : decode cX6_readsRow 50 = .ok (.aload_n 0, 1) := by decide +kernel
theorem dX6_readsRow_51 : decode cX6_readsRow 51 = .ok (.getfield 139, 3) := by decide +kernel
theorem dX6_readsRow_54 : decode cX6_readsRow 54 = .ok (.invokestatic 54, 3) := by decide +kernel
theorem dX6_readsRow_57 : decode cX6_readsRow 57 = .ok (.invokevirtual 65, 3) := by decide +kernel
theorem dX6_readsRow_60 : decode cX6_readsRow 60 = .ok (.aload_n 0, 1) := by decide +kernel
theorem dX6_readsRow_61 : decode cX6_readsRow 61 = .ok (.dup, 1) := by decide +kernel
theorem dX6_readsRow_62 : decode cX6_readsRow 62 = .ok (.getfield 139, 3) := by decide +kernel
theorem dX6_readsRow_65 : decode cX6_readsRow 65 = .ok (.iconst 1, 1) := by decide +kernel
theorem dX6_readsRow_66 : decode cX6_readsRow 66 = .ok (.iadd, 1) := by decide +kernel
theorem dX6_readsRow_67 : decode cX6_readsRow 67 = .ok (.putfield 139, 3) := by decide +kernel
theorem dX6_readsRow_70 : decode cX6_readsRow 70 = .ok (.aload_n 0, 1) := by decide +kernel
theorem dX6_readsRow_71 : decode cX6_readsRow 71 = .ok (.invokevirtual 120, 3) := by decide +kernel
theorem dX6_readsRow_74 : decode cX6_readsRow 74 = .ok (.istore_n 2, 1) := by decide +kernel
theorem dX6_readsRow_75 : decode cX6_readsRow 75 = .ok (.iload_n 2, 1) := by decide +kernel
theorem dX6_readsRow_76 : decode cX6_readsRow 76 = .ok (.bipush 60, 2) := by decide +kernel
theorem dX6_readsRow_78 : decode cX6_readsRow 78 = .ok (.if_icmp .eq 9, 3) := by decide +kernel
theorem dX6_readsRow_81 : decode cX6_readsRow 81 = .ok (.iload_n 2, 1) := by decide +kernel
theorem dX6_readsRow_82 : decode cX6_readsRow 82 = .ok (.bipush 62, 2) := by decide +kernel
theorem dX6_readsRow_84 : decode cX6_readsRow 84 = .ok (.if_icmp .ne 90, 3) := by decide +kernel
theorem dX6_readsRow_87 : decode cX6_readsRow 87 = .ok (.aload_n 0, 1) := by decide +kernel
theorem dX6_readsRow_88 : decode cX6_readsRow 88 = .ok (.dup, 1) := by decide +kernel
theorem dX6_readsRow_89 : decode cX6_readsRow 89 = .ok (.getfield 108, 3) := by decide +kernel
theorem dX6_readsRow_92 : decode cX6_readsRow 92 = .ok (.iconst 1, 1) := by decide +kernel
theorem dX6_readsRow_93 : decode cX6_readsRow 93 = .ok (.iadd, 1) := by decide +kernel
theorem dX6_readsRow_94 : decode cX6_readsRow 94 = .ok (.putfield 108, 3) := by decide +kernel
theorem dX6_readsRow_97 : decode cX6_readsRow 97 = .ok (.aload_n 0, 1) := by decide +kernel
theorem dX6_readsRow_98 : decode cX6_readsRow 98 = .ok (.invokevirtual 120, 3) := by decide +kernel
theorem dX6_readsRow_101 : decode cX6_readsRow 101 = .ok (.pop, 1) := by decide +kernel
theorem dX6_readsRow_102 : decode cX6_readsRow 102 = .ok (.aload_n 0, 1) := by decide +kernel
theorem dX6_readsRow_103 : decode cX6_readsRow 103 = .ok (.getfield 108, 3) := by decide +kernel
theorem dX6_readsRow_106 : decode cX6_readsRow 106 = .ok (.istore_n 1, 1) := by decide +kernel
theorem dX6_readsRow_107 : decode cX6_readsRow 107 = .ok (.aload_n 0, 1) := by decide +kernel
theorem dX6_readsRow_108 : decode cX6_readsRow 108 = .ok (.invokevirtual 149, 3) := by decide +kernel
theorem dX6_readsRow_111 : decode cX6_readsRow 111 = .ok (.ifCond .ne 5, 3) := by decide +kernel
theorem dX6_readsRow_114 : decode cX6_readsRow 114 = .ok (.iconst 0, 1) := by decide +kernel
theorem dX6_readsRow_115 : decode cX6_readsRow 115 = .ok (.ireturn, 1) := by decide +kernel
theorem dX6_readsRow_116 : decode cX6_readsRow 116 = .ok (.aload_n 0, 1) := by decide +kernel
theorem dX6_readsRow_117 : decode cX6_readsRow 117 = .ok (.aload_n 0, 1) := by decide +kernel
theorem dX6_readsRow_118 : decode cX6_readsRow 118 = .ok (.getfield 124, 3) := by decide +kernel
theorem dX6_readsRow_121 : decode cX6_readsRow 121 = .ok (.sipush 600, 3) := by decide +kernel
theorem dX6_readsRow_124 : decode cX6_readsRow 124 = .ok (.if_icmp .le 7, 3) := by decide +kernel
theorem dX6_readsRow_127 : decode cX6_readsRow 127 = .ok (.iconst 1, 1) := by decide +kernel
theorem dX6_readsRow_128 : decode cX6_readsRow 128 = .ok (.goto 4, 3) := by decide +kernel
theorem dX6_readsRow_131 : decode cX6_readsRow 131 = .ok (.iconst 0, 1) := by decide +kernel
theorem dX6_readsRow_132 : decode cX6_readsRow 132 = .ok (.iload_n 1, 1) := by decide +kernel
theorem dX6_readsRow_133 : decode cX6_readsRow 133 = .ok (.invokevirtual 153, 3) := by decide +kernel
theorem dX6_readsRow_136 : decode cX6_readsRow 136 = .ok (.aload_n 0, 1) := by decide +kernel
theorem dX6_readsRow_137 : decode cX6_readsRow 137 = .ok (.getfield 142, 3) := by decide +kernel
theorem dX6_readsRow_140 : decode cX6_readsRow 140 = .ok (.ifCond .eq 34, 3) := by decide +kernel
theorem dX6_readsRow_143 : decode cX6_readsRow 143 = .ok (.aload_n 0, 1) := by decide +kernel
theorem dX6_readsRow_144 : decode cX6_readsRow 144 = .ok (.aload_n 0, 1) := by decide +kernel
theorem dX6_readsRow_145 : decode cX6_readsRow 145 = .ok (.getfield 139, 3) := by decide +kernel
theorem dX6_readsRow_148 : decode cX6_readsRow 148 = .ok (.iconst 1, 1) := by decide +kernel
theorem dX6_readsRow_149 : decode cX6_readsRow 149 = .ok (.isub, 1) := by decide +kernel
theorem dX6_readsRow_150 : decode cX6_readsRow 150 = .ok (.invokestatic 54, 3) := by decide +kernel
theorem dX6_readsRow_153 : decode cX6_readsRow 153 = .ok (.iload_n 2, 1) := by decide +kernel
theorem dX6_readsRow_154 : decode cX6_readsRow 154 = .ok (.bipush 60, 2) := by decide +kernel
theorem dX6_readsRow_156 : decode cX6_readsRow 156 = .ok (.if_icmp .ne 10, 3) := by decide +kernel
theorem dX6_readsRow_159 : decode cX6_readsRow 159 = .ok (.aload_n 0, 1) := by decide +kernel
theorem dX6_readsRow_160 : decode cX6_readsRow 160 = .ok (.getfield 124, 3) := by decide +kernel
theorem dX6_readsRow_163 : decode cX6_readsRow 163 = .ok (.goto 8, 3) := by decide +kernel
theorem dX6_readsRow_166 : decode cX6_readsRow 166 = .ok (.aload_n 0, 1) := by decide +kernel
theorem dX6_readsRow_167 : decode cX6_readsRow 167 = .ok (.getfield 124, 3) := by decide +kernel
theorem dX6_readsRow_170 : decode cX6_readsRow 170 = .ok (.ineg, 1) := by decide +kernel
theorem dX6_readsRow_171 : decode cX6_readsRow 171 = .ok (.invokevirtual 102, 3) := by decide +kernel
theorem dX6_readsRow_174 : decode cX6_readsRow 174 = .ok (.aload_n 0, 1) := by decide +kernel
theorem dX6_readsRow_175 : decode cX6_readsRow 175 = .ok (.invokevirtual 157, 3) := by decide +kernel
theorem dX6_readsRow_178 : decode cX6_readsRow 178 = .ok (.iconst 1, 1) := by decide +kernel
theorem dX6_readsRow_179 : decode cX6_readsRow 179 = .ok (.ireturn, 1) := by decide +kernel
theorem dX6_readsFactor_0 : decode cX6_readsFactor 0 = .ok (.aload_n 0, 1) := by decide +kernel
theorem dX6_readsFactor_1 : decode cX6_readsFactor 1 = .ok (.invokevirtual 120, 3) := by decide +kernel
theorem dX6_readsFactor_4 : decode cX6_readsFactor 4 = .ok (.istore_n 1, 1) := by decide +kernel
theorem dX6_readsFactor_5 : decode cX6_readsFactor 5 = .ok (.iload_n 1, 1) := by decide +kernel
theorem dX6_readsFactor_6 : decode cX6_readsFactor 6 = .ok (.bipush 40, 2) := by decide +kernel
theorem dX6_readsFactor_8 : decode cX6_readsFactor 8 = .ok (.if_icmp .eq 9, 3) := by decide +kernel
theorem dX6_readsFactor_11 : decode cX6_readsFactor 11 = .ok (.iload_n 1, 1) := by decide +kernel
theorem dX6_readsFactor_12 : decode cX6_readsFactor 12 = .ok (.bipush 126, 2) := by decide +kernel
theorem dX6_readsFactor_14 : decode cX6_readsFactor 14 = .ok (.if_icmp .ne 35, 3) := by decide +kernel
theorem dX6_readsFactor_17 : decode cX6_readsFactor 17 = .ok (.aload_n 0, 1) := by decide +kernel
theorem dX6_readsFactor_18 : decode cX6_readsFactor 18 = .ok (.getfield 114, 3) := by decide +kernel
theorem dX6_readsFactor_21 : decode cX6_readsFactor 21 = .ok (.bipush 8, 2) := by decide +kernel
theorem dX6_readsFactor_23 : decode cX6_readsFactor 23 = .ok (.if_icmp .ge 26, 3) := by decide +kernel
theorem dX6_readsFactor_26 : decode cX6_readsFactor 26 = .ok (.aload_n 0, 1) := by decide +kernel
theorem dX6_readsFactor_27 : decode cX6_readsFactor 27 = .ok (.iload_n 1, 1) := by decide +kernel
theorem dX6_readsFactor_28 : decode cX6_readsFactor 28 = .ok (.invokevirtual 160, 3) := by decide +kernel
theorem dX6_readsFactor_31 : decode cX6_readsFactor 31 = .ok (.aload_n 0, 1) := by decide +kernel
theorem dX6_readsFactor_32 : decode cX6_readsFactor 32 = .ok (.dup, 1) := by decide +kernel
theorem dX6_readsFactor_33 : decode cX6_readsFactor 33 = .ok (.getfield 108, 3) := by decide +kernel
theorem dX6_readsFactor_36 : decode cX6_readsFactor 36 = .ok (.iconst 1, 1) := by decide +kernel
theorem dX6_readsFactor_37 : decode cX6_readsFactor 37 = .ok (.iadd, 1) := by decide +kernel
theorem dX6_readsFactor_38 : decode cX6_readsFactor 38 = .ok (.putfield 108, 3) := by decide +kernel
theorem dX6_readsFactor_41 : decode cX6_readsFactor 41 = .ok (.aload_n 0, 1) := by decide +kernel
theorem dX6_readsFactor_42 : decode cX6_readsFactor 42 = .ok (.invokevirtual 120, 3) := by decide +kernel
theorem dX6_readsFactor_45 : decode cX6_readsFactor 45 = .ok (.istore_n 1, 1) := by decide +kernel
theorem dX6_readsFactor_46 : decode cX6_readsFactor 46 = .ok (.goto (-41), 3) := by decide +kernel
theorem dX6_readsFactor_49 : decode cX6_readsFactor 49 = .ok (.iload_n 1, 1) := by decide +kernel
theorem dX6_readsFactor_50 : decode cX6_readsFactor 50 = .ok (.bipush 48, 2) := by decide +kernel
theorem dX6_readsFactor_52 : decode cX6_readsFactor 52 = .ok (.bipush 57, 2) := by decide +kernel
theorem dX6_readsFactor_54 : decode cX6_readsFactor 54 = .ok (.invokestatic 31, 3) := by decide +kernel
theorem dX6_readsFactor_57 : decode cX6_readsFactor 57 = .ok (.ifCond .eq 14, 3) := by decide +kernel
theorem dX6_readsFactor_60 : decode cX6_readsFactor 60 = .ok (.aload_n 0, 1) := by decide +kernel
theorem dX6_readsFactor_61 : decode cX6_readsFactor 61 = .ok (.invokevirtual 162, 3) := by decide +kernel
theorem dX6_readsFactor_64 : decode cX6_readsFactor 64 = .ok (.ifCond .eq 7, 3) := by decide +kernel
theorem dX6_readsFactor_67 : decode cX6_readsFactor 67 = .ok (.iconst 1, 1) := by decide +kernel
theorem dX6_readsFactor_68 : decode cX6_readsFactor 68 = .ok (.goto 4, 3) := by decide +kernel
theorem dX6_readsFactor_71 : decode cX6_readsFactor 71 = .ok (.iconst 0, 1) := by decide +kernel
theorem dX6_readsFactor_72 : decode cX6_readsFactor 72 = .ok (.ireturn, 1) := by decide +kernel
theorem dX6_readsOn_0 : decode cX6_readsOn 0 = .ok (.aload_n 0, 1) := by decide +kernel
theorem dX6_readsOn_1 : decode cX6_readsOn 1 = .ok (.invokevirtual 120, 3) := by decide +kernel
theorem dX6_readsOn_4 : decode cX6_readsOn 4 = .ok (.istore_n 1, 1) := by decide +kernel
theorem dX6_readsOn_5 : decode cX6_readsOn 5 = .ok (.iload_n 1, 1) := by decide +kernel
theorem dX6_readsOn_6 : decode cX6_readsOn 6 = .ok (.bipush 41, 2) := by decide +kernel
theorem dX6_readsOn_8 : decode cX6_readsOn 8 = .ok (.if_icmp .ne 46, 3) := by decide +kernel
theorem dX6_readsOn_11 : decode cX6_readsOn 11 = .ok (.aload_n 0, 1) := by decide +kernel
theorem dX6_readsOn_12 : decode cX6_readsOn 12 = .ok (.iconst 1, 1) := by decide +kernel
theorem dX6_readsOn_13 : decode cX6_readsOn 13 = .ok (.invokevirtual 165, 3) := by decide +kernel
theorem dX6_readsOn_16 : decode cX6_readsOn 16 = .ok (.aload_n 0, 1) := by decide +kernel
theorem dX6_readsOn_17 : decode cX6_readsOn 17 = .ok (.invokevirtual 130, 3) := by decide +kernel
theorem dX6_readsOn_20 : decode cX6_readsOn 20 = .ok (.bipush 40, 2) := by decide +kernel
theorem dX6_readsOn_22 : decode cX6_readsOn 22 = .ok (.if_icmp .eq 5, 3) := by decide +kernel
theorem dX6_readsOn_25 : decode cX6_readsOn 25 = .ok (.iconst 0, 1) := by decide +kernel
theorem dX6_readsOn_26 : decode cX6_readsOn 26 = .ok (.ireturn, 1) := by decide +kernel
theorem dX6_readsOn_27 : decode cX6_readsOn 27 = .ok (.aload_n 0, 1) := by decide +kernel
theorem dX6_readsOn_28 : decode cX6_readsOn 28 = .ok (.invokevirtual 136, 3) := by decide +kernel
theorem dX6_readsOn_31 : decode cX6_readsOn 31 = .ok (.pop, 1) := by decide +kernel
theorem dX6_readsOn_32 : decode cX6_readsOn 32 = .ok (.aload_n 0, 1) := by decide +kernel
theorem dX6_readsOn_33 : decode cX6_readsOn 33 = .ok (.invokevirtual 157, 3) := by decide +kernel
theorem dX6_readsOn_36 : decode cX6_readsOn 36 = .ok (.aload_n 0, 1) := by decide +kernel
theorem dX6_readsOn_37 : decode cX6_readsOn 37 = .ok (.dup, 1) := by decide +kernel
theorem dX6_readsOn_38 : decode cX6_readsOn 38 = .ok (.getfield 108, 3) := by decide +kernel
theorem dX6_readsOn_41 : decode cX6_readsOn 41 = .ok (.iconst 1, 1) := by decide +kernel
theorem dX6_readsOn_42 : decode cX6_readsOn 42 = .ok (.iadd, 1) := by decide +kernel
theorem dX6_readsOn_43 : decode cX6_readsOn 43 = .ok (.putfield 108, 3) := by decide +kernel
theorem dX6_readsOn_46 : decode cX6_readsOn 46 = .ok (.aload_n 0, 1) := by decide +kernel
theorem dX6_readsOn_47 : decode cX6_readsOn 47 = .ok (.invokevirtual 120, 3) := by decide +kernel
theorem dX6_readsOn_50 : decode cX6_readsOn 50 = .ok (.istore_n 1, 1) := by decide +kernel
theorem dX6_readsOn_51 : decode cX6_readsOn 51 = .ok (.goto (-46), 3) := by decide +kernel
theorem dX6_readsOn_54 : decode cX6_readsOn 54 = .ok (.iload_n 1, 1) := by decide +kernel
theorem dX6_readsOn_55 : decode cX6_readsOn 55 = .ok (.invokestatic 133, 3) := by decide +kernel
theorem dX6_readsOn_58 : decode cX6_readsOn 58 = .ok (.ifCond .ne 5, 3) := by decide +kernel
theorem dX6_readsOn_61 : decode cX6_readsOn 61 = .ok (.iconst 0, 1) := by decide +kernel
theorem dX6_readsOn_62 : decode cX6_readsOn 62 = .ok (.ireturn, 1) := by decide +kernel
theorem dX6_readsOn_63 : decode cX6_readsOn 63 = .ok (.aload_n 0, 1) := by decide +kernel
theorem dX6_readsOn_64 : decode cX6_readsOn 64 = .ok (.iload_n 1, 1) := by decide +kernel
theorem dX6_readsOn_65 : decode cX6_readsOn 65 = .ok (.invokestatic 133, 3) := by decide +kernel
theorem dX6_readsOn_68 : decode cX6_readsOn 68 = .ok (.invokevirtual 165, 3) := by decide +kernel
theorem dX6_readsOn_71 : decode cX6_readsOn 71 = .ok (.aload_n 0, 1) := by decide +kernel
theorem dX6_readsOn_72 : decode cX6_readsOn 72 = .ok (.iload_n 1, 1) := by decide +kernel
theorem dX6_readsOn_73 : decode cX6_readsOn 73 = .ok (.invokevirtual 160, 3) := by decide +kernel
theorem dX6_readsOn_76 : decode cX6_readsOn 76 = .ok (.aload_n 0, 1) := by decide +kernel
theorem dX6_readsOn_77 : decode cX6_readsOn 77 = .ok (.dup, 1) := by decide +kernel
theorem dX6_readsOn_78 : decode cX6_readsOn 78 = .ok (.getfield 108, 3) := by decide +kernel
theorem dX6_readsOn_81 : decode cX6_readsOn 81 = .ok (.iconst 1, 1) := by decide +kernel
theorem dX6_readsOn_82 : decode cX6_readsOn 82 = .ok (.iadd, 1) := by decide +kernel
theorem dX6_readsOn_83 : decode cX6_readsOn 83 = .ok (.putfield 108, 3) := by decide +kernel
theorem dX6_readsOn_86 : decode cX6_readsOn 86 = .ok (.iconst 1, 1) := by decide +kernel
theorem dX6_readsOn_87 : decode cX6_readsOn 87 = .ok (.ireturn, 1) := by decide +kernel
theorem dX6_reads_0 : decode cX6_reads 0 = .ok (.aload_n 0, 1) := by decide +kernel
theorem dX6_reads_1 : decode cX6_reads 1 = .ok (.iload_n 1, 1) := by decide +kernel
theorem dX6_reads_2 : decode cX6_reads 2 = .ok (.putfield 142, 3) := by decide +kernel
theorem dX6_reads_5 : decode cX6_reads 5 = .ok (.aload_n 0, 1) := by decide +kernel
theorem dX6_reads_6 : decode cX6_reads 6 = .ok (.iconst 0, 1) := by decide +kernel
theorem dX6_reads_7 : decode cX6_reads 7 = .ok (.putfield 108, 3) := by decide +kernel
theorem dX6_reads_10 : decode cX6_reads 10 = .ok (.aload_n 0, 1) := by decide +kernel
theorem dX6_reads_11 : decode cX6_reads 11 = .ok (.iconst 0, 1) := by decide +kernel
theorem dX6_reads_12 : decode cX6_reads 12 = .ok (.putfield 127, 3) := by decide +kernel
theorem dX6_reads_15 : decode cX6_reads 15 = .ok (.aload_n 0, 1) := by decide +kernel
theorem dX6_reads_16 : decode cX6_reads 16 = .ok (.iconst 0, 1) := by decide +kernel
theorem dX6_reads_17 : decode cX6_reads 17 = .ok (.putfield 114, 3) := by decide +kernel
theorem dX6_reads_20 : decode cX6_reads 20 = .ok (.aload_n 0, 1) := by decide +kernel
theorem dX6_reads_21 : decode cX6_reads 21 = .ok (.iconst 0, 1) := by decide +kernel
theorem dX6_reads_22 : decode cX6_reads 22 = .ok (.putfield 139, 3) := by decide +kernel
theorem dX6_reads_25 : decode cX6_reads 25 = .ok (.aload_n 0, 1) := by decide +kernel
theorem dX6_reads_26 : decode cX6_reads 26 = .ok (.iconst (-1), 1) := by decide +kernel
theorem dX6_reads_27 : decode cX6_reads 27 = .ok (.putfield 111, 3) := by decide +kernel
theorem dX6_reads_30 : decode cX6_reads 30 = .ok (.aload_n 0, 1) := by decide +kernel
theorem dX6_reads_31 : decode cX6_reads 31 = .ok (.invokevirtual 168, 3) := by decide +kernel
theorem dX6_reads_34 : decode cX6_reads 34 = .ok (.istore_n 2, 1) := by decide +kernel
theorem dX6_reads_35 : decode cX6_reads 35 = .ok (.iload_n 2, 1) := by decide +kernel
theorem dX6_reads_36 : decode cX6_reads 36 = .ok (.ifCond .eq 18, 3) := by decide +kernel
theorem dX6_reads_39 : decode cX6_reads 39 = .ok (.aload_n 0, 1) := by decide +kernel
theorem dX6_reads_40 : decode cX6_reads 40 = .ok (.invokevirtual 171, 3) := by decide +kernel
theorem dX6_reads_43 : decode cX6_reads 43 = .ok (.ifCond .eq 11, 3) := by decide +kernel
theorem dX6_reads_46 : decode cX6_reads 46 = .ok (.aload_n 0, 1) := by decide +kernel
theorem dX6_reads_47 : decode cX6_reads 47 = .ok (.invokevirtual 168, 3) := by decide +kernel
theorem dX6_reads_50 : decode cX6_reads 50 = .ok (.istore_n 2, 1) := by decide +kernel
theorem dX6_reads_51 : decode cX6_reads 51 = .ok (.goto (-16), 3) := by decide +kernel
theorem dX6_reads_54 : decode cX6_reads 54 = .ok (.iload_n 2, 1) := by decide +kernel
theorem dX6_reads_55 : decode cX6_reads 55 = .ok (.ifCond .eq 14, 3) := by decide +kernel
theorem dX6_reads_58 : decode cX6_reads 58 = .ok (.aload_n 0, 1) := by decide +kernel
theorem dX6_reads_59 : decode cX6_reads 59 = .ok (.getfield 108, 3) := by decide +kernel
theorem dX6_reads_62 : decode cX6_reads 62 = .ok (.aload_n 0, 1) := by decide +kernel
theorem dX6_reads_63 : decode cX6_reads 63 = .ok (.getfield 105, 3) := by decide +kernel
theorem dX6_reads_66 : decode cX6_reads 66 = .ok (.if_icmp .ge 5, 3) := by decide +kernel
theorem dX6_reads_69 : decode cX6_reads 69 = .ok (.iconst 0, 1) := by decide +kernel
theorem dX6_reads_70 : decode cX6_reads 70 = .ok (.ireturn, 1) := by decide +kernel
theorem dX6_reads_71 : decode cX6_reads 71 = .ok (.aload_n 0, 1) := by decide +kernel
theorem dX6_reads_72 : decode cX6_reads 72 = .ok (.iconst 1, 1) := by decide +kernel
theorem dX6_reads_73 : decode cX6_reads 73 = .ok (.invokevirtual 165, 3) := by decide +kernel
theorem dX6_reads_76 : decode cX6_reads 76 = .ok (.aload_n 0, 1) := by decide +kernel
theorem dX6_reads_77 : decode cX6_reads 77 = .ok (.getfield 127, 3) := by decide +kernel
theorem dX6_reads_80 : decode cX6_reads 80 = .ok (.ifCond .ne 7, 3) := by decide +kernel
theorem dX6_reads_83 : decode cX6_reads 83 = .ok (.iconst 1, 1) := by decide +kernel
theorem dX6_reads_84 : decode cX6_reads 84 = .ok (.goto 4, 3) := by decide +kernel
theorem dX6_reads_87 : decode cX6_reads 87 = .ok (.iconst 0, 1) := by decide +kernel
theorem dX6_reads_88 : decode cX6_reads 88 = .ok (.ireturn, 1) := by decide +kernel
theorem dX6_fail_0 : decode cX6_fail 0 = .ok (.aload_n 0, 1) := by decide +kernel
theorem dX6_fail_1 : decode cX6_fail 1 = .ok (.iload_n 1, 1) := by decide +kernel
theorem dX6_fail_2 : decode cX6_fail 2 = .ok (.putfield 174, 3) := by decide +kernel
theorem dX6_fail_5 : decode cX6_fail 5 = .ok (.aload_n 0, 1) := by decide +kernel
theorem dX6_fail_6 : decode cX6_fail 6 = .ok (.iload_n 2, 1) := by decide +kernel
theorem dX6_fail_7 : decode cX6_fail 7 = .ok (.putfield 177, 3) := by decide +kernel
theorem dX6_fail_10 : decode cX6_fail 10 = .ok (.aload_n 0, 1) := by decide +kernel
theorem dX6_fail_11 : decode cX6_fail 11 = .ok (.iload_n 3, 1) := by decide +kernel
theorem dX6_fail_12 : decode cX6_fail 12 = .ok (.putfield 180, 3) := by decide +kernel
theorem dX6_fail_15 : decode cX6_fail 15 = .ok (.sipush (-1000), 3) := by decide +kernel
theorem dX6_fail_18 : decode cX6_fail 18 = .ok (.iload_n 2, 1) := by decide +kernel
theorem dX6_fail_19 : decode cX6_fail 19 = .ok (.isub, 1) := by decide +kernel
theorem dX6_fail_20 : decode cX6_fail 20 = .ok (.ireturn, 1) := by decide +kernel
theorem dX6_evaluate_0 : decode cX6_evaluate 0 = .ok (.aload_n 0, 1) := by decide +kernel
theorem dX6_evaluate_1 : decode cX6_evaluate 1 = .ok (.iload_n 1, 1) := by decide +kernel
theorem dX6_evaluate_2 : decode cX6_evaluate 2 = .ok (.invokevirtual 74, 3) := by decide +kernel
theorem dX6_evaluate_5 : decode cX6_evaluate 5 = .ok (.ifCond .ne 5, 3) := by decide +kernel
theorem dX6_evaluate_8 : decode cX6_evaluate 8 = .ok (.iconst (-1), 1) := by decide +kernel
theorem dX6_evaluate_9 : decode cX6_evaluate 9 = .ok (.ireturn, 1) := by decide +kernel
theorem dX6_evaluate_10 : decode cX6_evaluate 10 = .ok (.aload_n 0, 1) := by decide +kernel
theorem dX6_evaluate_11 : decode cX6_evaluate 11 = .ok (.iconst 0, 1) := by decide +kernel
theorem dX6_evaluate_12 : decode cX6_evaluate 12 = .ok (.invokevirtual 183, 3) := by decide +kernel
theorem dX6_evaluate_15 : decode cX6_evaluate 15 = .ok (.ifCond .ne 17, 3) := by decide +kernel
theorem dX6_evaluate_18 : decode cX6_evaluate 18 = .ok (.aload_n 0, 1) := by decide +kernel
theorem dX6_evaluate_19 : decode cX6_evaluate 19 = .ok (.iconst 1, 1) := by decide +kernel
theorem dX6_evaluate_20 : decode cX6_evaluate 20 = .ok (.aload_n 0, 1) := by decide +kernel
theorem dX6_evaluate_21 : decode cX6_evaluate 21 = .ok (.getfield 108, 3) := by decide +kernel
theorem dX6_evaluate_24 : decode cX6_evaluate 24 = .ok (.aload_n 0, 1) := by decide +kernel
theorem dX6_evaluate_25 : decode cX6_evaluate 25 = .ok (.getfield 114, 3) := by decide +kernel
theorem dX6_evaluate_28 : decode cX6_evaluate 28 = .ok (.invokevirtual 187, 3) := by decide +kernel
theorem dX6_evaluate_31 : decode cX6_evaluate 31 = .ok (.ireturn, 1) := by decide +kernel
theorem dX6_evaluate_32 : decode cX6_evaluate 32 = .ok (.aload_n 0, 1) := by decide +kernel
theorem dX6_evaluate_33 : decode cX6_evaluate 33 = .ok (.getfield 111, 3) := by decide +kernel
theorem dX6_evaluate_36 : decode cX6_evaluate 36 = .ok (.ifCond .lt 17, 3) := by decide +kernel
theorem dX6_evaluate_39 : decode cX6_evaluate 39 = .ok (.aload_n 0, 1) := by decide +kernel
theorem dX6_evaluate_40 : decode cX6_evaluate 40 = .ok (.iconst 2, 1) := by decide +kernel
theorem dX6_evaluate_41 : decode cX6_evaluate 41 = .ok (.aload_n 0, 1) := by decide +kernel
theorem dX6_evaluate_42 : decode cX6_evaluate 42 = .ok (.getfield 111, 3) := by decide +kernel
theorem dX6_evaluate_45 : decode cX6_evaluate 45 = .ok (.aload_n 0, 1) := by decide +kernel
theorem dX6_evaluate_46 : decode cX6_evaluate 46 = .ok (.getfield 117, 3) := by decide +kernel
theorem dX6_evaluate_49 : decode cX6_evaluate 49 = .ok (.invokevirtual 187, 3) := by decide +kernel
theorem dX6_evaluate_52 : decode cX6_evaluate 52 = .ok (.ireturn, 1) := by decide +kernel
theorem dX6_evaluate_53 : decode cX6_evaluate 53 = .ok (.aload_n 0, 1) := by decide +kernel
theorem dX6_evaluate_54 : decode cX6_evaluate 54 = .ok (.invokevirtual 68, 3) := by decide +kernel
theorem dX6_evaluate_57 : decode cX6_evaluate 57 = .ok (.aload_n 0, 1) := by decide +kernel
theorem dX6_evaluate_58 : decode cX6_evaluate 58 = .ok (.iconst 1, 1) := by decide +kernel
theorem dX6_evaluate_59 : decode cX6_evaluate 59 = .ok (.invokevirtual 183, 3) := by decide +kernel
theorem dX6_evaluate_62 : decode cX6_evaluate 62 = .ok (.pop, 1) := by decide +kernel
theorem dX6_evaluate_63 : decode cX6_evaluate 63 = .ok (.aload_n 0, 1) := by decide +kernel
theorem dX6_evaluate_64 : decode cX6_evaluate 64 = .ok (.iconst 0, 1) := by decide +kernel
theorem dX6_evaluate_65 : decode cX6_evaluate 65 = .ok (.invokestatic 54, 3) := by decide +kernel
theorem dX6_evaluate_68 : decode cX6_evaluate 68 = .ok (.iload_n 1, 1) := by decide +kernel
theorem dX6_evaluate_69 : decode cX6_evaluate 69 = .ok (.invokestatic 71, 3) := by decide +kernel
theorem dX6_evaluate_72 : decode cX6_evaluate 72 = .ok (.invokevirtual 65, 3) := by decide +kernel
theorem dX6_evaluate_75 : decode cX6_evaluate 75 = .ok (.aload_n 0, 1) := by decide +kernel
theorem dX6_evaluate_76 : decode cX6_evaluate 76 = .ok (.iload_n 1, 1) := by decide +kernel
theorem dX6_evaluate_77 : decode cX6_evaluate 77 = .ok (.invokestatic 71, 3) := by decide +kernel
theorem dX6_evaluate_80 : decode cX6_evaluate 80 = .ok (.iconst 3, 1) := by decide +kernel
theorem dX6_evaluate_81 : decode cX6_evaluate 81 = .ok (.invokevirtual 82, 3) := by decide +kernel
theorem dX6_evaluate_84 : decode cX6_evaluate 84 = .ok (.ireturn, 1) := by decide +kernel
theorem dX6_failure_0 : decode cX6_failure 0 = .ok (.iload_n 1, 1) := by decide +kernel
theorem dX6_failure_1 : decode cX6_failure 1 = .ok (.iconst 0, 1) := by decide +kernel
theorem dX6_failure_2 : decode cX6_failure 2 = .ok (.iconst 2, 1) := by decide +kernel
theorem dX6_failure_3 : decode cX6_failure 3 = .ok (.invokestatic 31, 3) := by decide +kernel
theorem dX6_failure_6 : decode cX6_failure 6 = .ok (.ifCond .ne 5, 3) := by decide +kernel
theorem dX6_failure_9 : decode cX6_failure 9 = .ok (.iconst (-1), 1) := by decide +kernel
theorem dX6_failure_10 : decode cX6_failure 10 = .ok (.ireturn, 1) := by decide +kernel
theorem dX6_failure_11 : decode cX6_failure 11 = .ok (.aload_n 0, 1) := by decide +kernel
theorem dX6_failure_12 : decode cX6_failure 12 = .ok (.getfield 174, 3) := by decide +kernel
theorem dX6_failure_15 : decode cX6_failure 15 = .ok (.ifCond .ne 8, 3) := by decide +kernel
theorem dX6_failure_18 : decode cX6_failure 18 = .ok (.bipush (-9), 2) := by decide +kernel
theorem dX6_failure_20 : decode cX6_failure 20 = .ok (.goto 30, 3) := by decide +kernel
theorem dX6_failure_23 : decode cX6_failure 23 = .ok (.iload_n 1, 1) := by decide +kernel
theorem dX6_failure_24 : decode cX6_failure 24 = .ok (.ifCond .ne 10, 3) := by decide +kernel
theorem dX6_failure_27 : decode cX6_failure 27 = .ok (.aload_n 0, 1) := by decide +kernel
theorem dX6_failure_28 : decode cX6_failure 28 = .ok (.getfield 174, 3) := by decide +kernel
theorem dX6_failure_31 : decode cX6_failure 31 = .ok (.goto 19, 3) := by decide +kernel
theorem dX6_failure_34 : decode cX6_failure 34 = .ok (.iload_n 1, 1) := by decide +kernel
theorem dX6_failure_35 : decode cX6_failure 35 = .ok (.iconst 1, 1) := by decide +kernel
theorem dX6_failure_36 : decode cX6_failure 36 = .ok (.if_icmp .ne 10, 3) := by decide +kernel
theorem dX6_failure_39 : decode cX6_failure 39 = .ok (.aload_n 0, 1) := by decide +kernel
theorem dX6_failure_40 : decode cX6_failure 40 = .ok (.getfield 177, 3) := by decide +kernel
theorem dX6_failure_43 : decode cX6_failure 43 = .ok (.goto 7, 3) := by decide +kernel
theorem dX6_failure_46 : decode cX6_failure 46 = .ok (.aload_n 0, 1) := by decide +kernel
theorem dX6_failure_47 : decode cX6_failure 47 = .ok (.getfield 180, 3) := by decide +kernel
theorem dX6_failure_50 : decode cX6_failure 50 = .ok (.ireturn, 1) := by decide +kernel
theorem dX6_count_0 : decode cX6_count 0 = .ok (.iconst 0, 1) := by decide +kernel
theorem dX6_count_1 : decode cX6_count 1 = .ok (.istore_n 2, 1) := by decide +kernel
theorem dX6_count_2 : decode cX6_count 2 = .ok (.iconst 0, 1) := by decide +kernel
theorem dX6_count_3 : decode cX6_count 3 = .ok (.istore_n 3, 1) := by decide +kernel
theorem dX6_count_4 : decode cX6_count 4 = .ok (.iconst 0, 1) := by decide +kernel
theorem dX6_count_5 : decode cX6_count 5 = .ok (.istore 4, 2) := by decide +kernel
theorem dX6_count_7 : decode cX6_count 7 = .ok (.iconst 0, 1) := by decide +kernel
theorem dX6_count_8 : decode cX6_count 8 = .ok (.istore 5, 2) := by decide +kernel
theorem dX6_count_10 : decode cX6_count 10 = .ok (.iload 5, 2) := by decide +kernel
theorem dX6_count_12 : decode cX6_count 12 = .ok (.aload_n 0, 1) := by decide +kernel
theorem dX6_count_13 : decode cX6_count 13 = .ok (.getfield 8, 3) := by decide +kernel
theorem dX6_count_16 : decode cX6_count 16 = .ok (.sipush 4808, 3) := by decide +kernel
theorem dX6_count_19 : decode cX6_count 19 = .ok (.iaload, 1) := by decide +kernel
theorem dX6_count_20 : decode cX6_count 20 = .ok (.if_icmp .ge 49, 3) := by decide +kernel
theorem dX6_count_23 : decode cX6_count 23 = .ok (.iload_n 2, 1) := by decide +kernel
theorem dX6_count_24 : decode cX6_count 24 = .ok (.aload_n 0, 1) := by decide +kernel
theorem dX6_count_25 : decode cX6_count 25 = .ok (.getfield 8, 3) := by decide +kernel
theorem dX6_count_28 : decode cX6_count 28 = .ok (.iload 5, 2) := by decide +kernel
theorem dX6_count_30 : decode cX6_count 30 = .ok (.invokestatic 71, 3) := by decide +kernel
theorem dX6_count_33 : decode cX6_count 33 = .ok (.iaload, 1) := by decide +kernel
theorem dX6_count_34 : decode cX6_count 34 = .ok (.iadd, 1) := by decide +kernel
theorem dX6_count_35 : decode cX6_count 35 = .ok (.istore_n 2, 1) := by decide +kernel
theorem dX6_count_36 : decode cX6_count 36 = .ok (.iload_n 3, 1) := by decide +kernel
theorem dX6_count_37 : decode cX6_count 37 = .ok (.aload_n 0, 1) := by decide +kernel
theorem dX6_count_38 : decode cX6_count 38 = .ok (.iload 5, 2) := by decide +kernel
theorem dX6_count_40 : decode cX6_count 40 = .ok (.invokestatic 71, 3) := by decide +kernel
theorem dX6_count_43 : decode cX6_count 43 = .ok (.iconst 3, 1) := by decide +kernel
theorem dX6_count_44 : decode cX6_count 44 = .ok (.invokevirtual 82, 3) := by decide +kernel
theorem dX6_count_47 : decode cX6_count 47 = .ok (.iadd, 1) := by decide +kernel
theorem dX6_count_48 : decode cX6_count 48 = .ok (.istore_n 3, 1) := by decide +kernel
theorem dX6_count_49 : decode cX6_count 49 = .ok (.iload 4, 2) := by decide +kernel
theorem dX6_count_51 : decode cX6_count 51 = .ok (.aload_n 0, 1) := by decide +kernel
theorem dX6_count_52 : decode cX6_count 52 = .ok (.iload 5, 2) := by decide +kernel
theorem dX6_count_54 : decode cX6_count 54 = .ok (.invokestatic 71, 3) := by decide +kernel
theorem dX6_count_57 : decode cX6_count 57 = .ok (.invokevirtual 99, 3) := by decide +kernel
theorem dX6_count_60 : decode cX6_count 60 = .ok (.iadd, 1) := by decide +kernel
theorem dX6_count_61 : decode cX6_count 61 = .ok (.istore 4, 2) := by decide +kernel
theorem dX6_count_63 : decode cX6_count 63 = .ok (.iinc 5 1, 3) := by decide +kernel
theorem dX6_count_66 : decode cX6_count 66 = .ok (.goto (-56), 3) := by decide +kernel
theorem dX6_count_69 : decode cX6_count 69 = .ok (.iload_n 1, 1) := by decide +kernel
theorem dX6_count_70 : decode cX6_count 70 = .ok (.tableswitch 64 0 5 #[38, 47, 49, 51, 54, 59], 38) := by decide +kernel
theorem dX6_count_108 : decode cX6_count 108 = .ok (.aload_n 0, 1) := by decide +kernel
theorem dX6_count_109 : decode cX6_count 109 = .ok (.getfield 8, 3) := by decide +kernel
theorem dX6_count_112 : decode cX6_count 112 = .ok (.sipush 4808, 3) := by decide +kernel
theorem dX6_count_115 : decode cX6_count 115 = .ok (.iaload, 1) := by decide +kernel
theorem dX6_count_116 : decode cX6_count 116 = .ok (.ireturn, 1) := by decide +kernel
theorem dX6_count_117 : decode cX6_count 117 = .ok (.iload_n 2, 1) := by decide +kernel
theorem dX6_count_118 : decode cX6_count 118 = .ok (.ireturn, 1) := by decide +kernel
theorem dX6_count_119 : decode cX6_count 119 = .ok (.iload_n 3, 1) := by decide +kernel
theorem dX6_count_120 : decode cX6_count 120 = .ok (.ireturn, 1) := by decide +kernel
theorem dX6_count_121 : decode cX6_count 121 = .ok (.iload 4, 2) := by decide +kernel
theorem dX6_count_123 : decode cX6_count 123 = .ok (.ireturn, 1) := by decide +kernel
theorem dX6_count_124 : decode cX6_count 124 = .ok (.aload_n 0, 1) := by decide +kernel
theorem dX6_count_125 : decode cX6_count 125 = .ok (.getfield 23, 3) := by decide +kernel
theorem dX6_count_128 : decode cX6_count 128 = .ok (.ireturn, 1) := by decide +kernel
theorem dX6_count_129 : decode cX6_count 129 = .ok (.aload_n 0, 1) := by decide +kernel
theorem dX6_count_130 : decode cX6_count 130 = .ok (.getfield 105, 3) := by decide +kernel
theorem dX6_count_133 : decode cX6_count 133 = .ok (.ireturn, 1) := by decide +kernel
theorem dX6_count_134 : decode cX6_count 134 = .ok (.iconst (-1), 1) := by decide +kernel
theorem dX6_count_135 : decode cX6_count 135 = .ok (.ireturn, 1) := by decide +kernel
theorem dX6_placeOf_0 : decode cX6_placeOf 0 = .ok (.iload_n 2, 1) := by decide +kernel
theorem dX6_placeOf_1 : decode cX6_placeOf 1 = .ok (.istore_n 3, 1) := by decide +kernel
theorem dX6_placeOf_2 : decode cX6_placeOf 2 = .ok (.iconst 0, 1) := by decide +kernel
theorem dX6_placeOf_3 : decode cX6_placeOf 3 = .ok (.istore 4, 2) := by decide +kernel
theorem dX6_placeOf_5 : decode cX6_placeOf 5 = .ok (.iload 4, 2) := by decide +kernel
theorem dX6_placeOf_7 : decode cX6_placeOf 7 = .ok (.aload_n 0, 1) := by decide +kernel
theorem dX6_placeOf_8 : decode cX6_placeOf 8 = .ok (.getfield 8, 3) := by decide +kernel
theorem dX6_placeOf_11 : decode cX6_placeOf 11 = .ok (.iload_n 1, 1) := by decide +kernel
theorem dX6_placeOf_12 : decode cX6_placeOf 12 = .ok (.iaload, 1) := by decide +kernel
theorem dX6_placeOf_13 : decode cX6_placeOf 13 = .ok (.if_icmp .ge 30, 3) := by decide +kernel
theorem dX6_placeOf_16 : decode cX6_placeOf 16 = .ok (.aload_n 0, 1) := by decide +kernel
theorem dX6_placeOf_17 : decode cX6_placeOf 17 = .ok (.iload_n 1, 1) := by decide +kernel
theorem dX6_placeOf_18 : decode cX6_placeOf 18 = .ok (.iload 4, 2) := by decide +kernel
theorem dX6_placeOf_20 : decode cX6_placeOf 20 = .ok (.invokevirtual 35, 3) := by decide +kernel
theorem dX6_placeOf_23 : decode cX6_placeOf 23 = .ok (.iconst 1, 1) := by decide +kernel
theorem dX6_placeOf_24 : decode cX6_placeOf 24 = .ok (.if_icmp .ne 13, 3) := by decide +kernel
theorem dX6_placeOf_27 : decode cX6_placeOf 27 = .ok (.iload_n 3, 1) := by decide +kernel
theorem dX6_placeOf_28 : decode cX6_placeOf 28 = .ok (.ifCond .ne 6, 3) := by decide +kernel
theorem dX6_placeOf_31 : decode cX6_placeOf 31 = .ok (.iload 4, 2) := by decide +kernel
theorem dX6_placeOf_33 : decode cX6_placeOf 33 = .ok (.ireturn, 1) := by decide +kernel
theorem dX6_placeOf_34 : decode cX6_placeOf 34 = .ok (.iinc 3 (-1), 3) := by decide +kernel
theorem dX6_placeOf_37 : decode cX6_placeOf 37 = .ok (.iinc 4 1, 3) := by decide +kernel
theorem dX6_placeOf_40 : decode cX6_placeOf 40 = .ok (.goto (-35), 3) := by decide +kernel
theorem dX6_placeOf_43 : decode cX6_placeOf 43 = .ok (.bipush (-9), 2) := by decide +kernel
theorem dX6_placeOf_45 : decode cX6_placeOf 45 = .ok (.ireturn, 1) := by decide +kernel
theorem dX6_row_0 : decode cX6_row 0 = .ok (.aload_n 0, 1) := by decide +kernel
theorem dX6_row_1 : decode cX6_row 1 = .ok (.iload_n 1, 1) := by decide +kernel
theorem dX6_row_2 : decode cX6_row 2 = .ok (.invokevirtual 74, 3) := by decide +kernel
theorem dX6_row_5 : decode cX6_row 5 = .ok (.ifCond .ne 5, 3) := by decide +kernel
theorem dX6_row_8 : decode cX6_row 8 = .ok (.iconst (-1), 1) := by decide +kernel
theorem dX6_row_9 : decode cX6_row 9 = .ok (.ireturn, 1) := by decide +kernel
theorem dX6_row_10 : decode cX6_row 10 = .ok (.iload_n 1, 1) := by decide +kernel
theorem dX6_row_11 : decode cX6_row 11 = .ok (.invokestatic 71, 3) := by decide +kernel
theorem dX6_row_14 : decode cX6_row 14 = .ok (.istore_n 3, 1) := by decide +kernel
theorem dX6_row_15 : decode cX6_row 15 = .ok (.iload_n 2, 1) := by decide +kernel
theorem dX6_row_16 : decode cX6_row 16 = .ok (.tableswitch 117 0 7 #[48, 55, 62, 69, 69, 78, 84, 91], 48) := by decide +kernel
theorem dX6_row_64 : decode cX6_row 64 = .ok (.aload_n 0, 1) := by decide +kernel
theorem dX6_row_65 : decode cX6_row 65 = .ok (.getfield 8, 3) := by decide +kernel
theorem dX6_row_68 : decode cX6_row 68 = .ok (.iload_n 3, 1) := by decide +kernel
theorem dX6_row_69 : decode cX6_row 69 = .ok (.iaload, 1) := by decide +kernel
theorem dX6_row_70 : decode cX6_row 70 = .ok (.ireturn, 1) := by decide +kernel
theorem dX6_row_71 : decode cX6_row 71 = .ok (.aload_n 0, 1) := by decide +kernel
theorem dX6_row_72 : decode cX6_row 72 = .ok (.iload_n 3, 1) := by decide +kernel
theorem dX6_row_73 : decode cX6_row 73 = .ok (.iconst 3, 1) := by decide +kernel
theorem dX6_row_74 : decode cX6_row 74 = .ok (.invokevirtual 82, 3) := by decide +kernel
theorem dX6_row_77 : decode cX6_row 77 = .ok (.ireturn, 1) := by decide +kernel
theorem dX6_row_78 : decode cX6_row 78 = .ok (.aload_n 0, 1) := by decide +kernel
theorem dX6_row_79 : decode cX6_row 79 = .ok (.iload_n 3, 1) := by decide +kernel
theorem dX6_row_80 : decode cX6_row 80 = .ok (.iconst 2, 1) := by decide +kernel
theorem dX6_row_81 : decode cX6_row 81 = .ok (.invokevirtual 82, 3) := by decide +kernel
theorem dX6_row_84 : decode cX6_row 84 = .ok (.ireturn, 1) := by decide +kernel
theorem dX6_row_85 : decode cX6_row 85 = .ok (.aload_n 0, 1) := by decide +kernel
theorem dX6_row_86 : decode cX6_row 86 = .ok (.iload_n 3, 1) := by decide +kernel
theorem dX6_row_87 : decode cX6_row 87 = .ok (.iload_n 2, 1) := by decide +kernel
theorem dX6_row_88 : decode cX6_row 88 = .ok (.iconst 3, 1) := by decide +kernel
theorem dX6_row_89 : decode cX6_row 89 = .ok (.isub, 1) := by decide +kernel
theorem dX6_row_90 : decode cX6_row 90 = .ok (.invokevirtual 82, 3) := by decide +kernel
theorem dX6_row_93 : decode cX6_row 93 = .ok (.ireturn, 1) := by decide +kernel
theorem dX6_row_94 : decode cX6_row 94 = .ok (.aload_n 0, 1) := by decide +kernel
theorem dX6_row_95 : decode cX6_row 95 = .ok (.iload_n 3, 1) := by decide +kernel
theorem dX6_row_96 : decode cX6_row 96 = .ok (.invokevirtual 99, 3) := by decide +kernel
theorem dX6_row_99 : decode cX6_row 99 = .ok (.ireturn, 1) := by decide +kernel
theorem dX6_row_100 : decode cX6_row 100 = .ok (.aload_n 0, 1) := by decide +kernel
theorem dX6_row_101 : decode cX6_row 101 = .ok (.iload_n 3, 1) := by decide +kernel
theorem dX6_row_102 : decode cX6_row 102 = .ok (.iconst 0, 1) := by decide +kernel
theorem dX6_row_103 : decode cX6_row 103 = .ok (.invokevirtual 190, 3) := by decide +kernel
theorem dX6_row_106 : decode cX6_row 106 = .ok (.ireturn, 1) := by decide +kernel
theorem dX6_row_107 : decode cX6_row 107 = .ok (.aload_n 0, 1) := by decide +kernel
theorem dX6_row_108 : decode cX6_row 108 = .ok (.iload_n 3, 1) := by decide +kernel
theorem dX6_row_109 : decode cX6_row 109 = .ok (.invokevirtual 99, 3) := by decide +kernel
theorem dX6_row_112 : decode cX6_row 112 = .ok (.ifCond .ne 8, 3) := by decide +kernel
theorem dX6_row_115 : decode cX6_row 115 = .ok (.bipush (-9), 2) := by decide +kernel
theorem dX6_row_117 : decode cX6_row 117 = .ok (.goto 15, 3) := by decide +kernel
theorem dX6_row_120 : decode cX6_row 120 = .ok (.aload_n 0, 1) := by decide +kernel
theorem dX6_row_121 : decode cX6_row 121 = .ok (.iload_n 3, 1) := by decide +kernel
theorem dX6_row_122 : decode cX6_row 122 = .ok (.aload_n 0, 1) := by decide +kernel
theorem dX6_row_123 : decode cX6_row 123 = .ok (.iload_n 3, 1) := by decide +kernel
theorem dX6_row_124 : decode cX6_row 124 = .ok (.invokevirtual 99, 3) := by decide +kernel
theorem dX6_row_127 : decode cX6_row 127 = .ok (.iconst 1, 1) := by decide +kernel
theorem dX6_row_128 : decode cX6_row 128 = .ok (.isub, 1) := by decide +kernel
theorem dX6_row_129 : decode cX6_row 129 = .ok (.invokevirtual 190, 3) := by decide +kernel
theorem dX6_row_132 : decode cX6_row 132 = .ok (.ireturn, 1) := by decide +kernel
theorem dX6_row_133 : decode cX6_row 133 = .ok (.iconst (-1), 1) := by decide +kernel
theorem dX6_row_134 : decode cX6_row 134 = .ok (.ireturn, 1) := by decide +kernel
theorem dX6_word_0 : decode cX6_word 0 = .ok (.aload_n 0, 1) := by decide +kernel
theorem dX6_word_1 : decode cX6_word 1 = .ok (.iload_n 1, 1) := by decide +kernel
theorem dX6_word_2 : decode cX6_word 2 = .ok (.invokevirtual 74, 3) := by decide +kernel
theorem dX6_word_5 : decode cX6_word 5 = .ok (.ifCond .eq 7, 3) := by decide +kernel
theorem dX6_word_8 : decode cX6_word 8 = .ok (.iload_n 2, 1) := by decide +kernel
theorem dX6_word_9 : decode cX6_word 9 = .ok (.ifCond .ge 5, 3) := by decide +kernel
theorem dX6_word_12 : decode cX6_word 12 = .ok (.iconst (-1), 1) := by decide +kernel
theorem dX6_word_13 : decode cX6_word 13 = .ok (.ireturn, 1) := by decide +kernel
theorem dX6_word_14 : decode cX6_word 14 = .ok (.iload_n 2, 1) := by decide +kernel
theorem dX6_word_15 : decode cX6_word 15 = .ok (.istore_n 3, 1) := by decide +kernel
theorem dX6_word_16 : decode cX6_word 16 = .ok (.iconst 0, 1) := by decide +kernel
theorem dX6_word_17 : decode cX6_word 17 = .ok (.istore 4, 2) := by decide +kernel
theorem dX6_word_19 : decode cX6_word 19 = .ok (.iload 4, 2) := by decide +kernel
theorem dX6_word_21 : decode cX6_word 21 = .ok (.aload_n 0, 1) := by decide +kernel
theorem dX6_word_22 : decode cX6_word 22 = .ok (.iload_n 1, 1) := by decide +kernel
theorem dX6_word_23 : decode cX6_word 23 = .ok (.invokestatic 71, 3) := by decide +kernel
theorem dX6_word_26 : decode cX6_word 26 = .ok (.invokevirtual 45, 3) := by decide +kernel
theorem dX6_word_29 : decode cX6_word 29 = .ok (.if_icmp .ge 36, 3) := by decide +kernel
theorem dX6_word_32 : decode cX6_word 32 = .ok (.iload_n 3, 1) := by decide +kernel
theorem dX6_word_33 : decode cX6_word 33 = .ok (.ifCond .ne 14, 3) := by decide +kernel
theorem dX6_word_36 : decode cX6_word 36 = .ok (.aload_n 0, 1) := by decide +kernel
theorem dX6_word_37 : decode cX6_word 37 = .ok (.iload_n 1, 1) := by decide +kernel
theorem dX6_word_38 : decode cX6_word 38 = .ok (.invokestatic 71, 3) := by decide +kernel
theorem dX6_word_41 : decode cX6_word 41 = .ok (.iload 4, 2) := by decide +kernel
theorem dX6_word_43 : decode cX6_word 43 = .ok (.invokevirtual 193, 3) := by decide +kernel
theorem dX6_word_46 : decode cX6_word 46 = .ok (.ireturn, 1) := by decide +kernel
theorem dX6_word_47 : decode cX6_word 47 = .ok (.iinc 3 (-1), 3) := by decide +kernel
theorem dX6_word_50 : decode cX6_word 50 = .ok (.aload_n 0, 1) := by decide +kernel
theorem dX6_word_51 : decode cX6_word 51 = .ok (.iload_n 1, 1) := by decide +kernel
theorem dX6_word_52 : decode cX6_word 52 = .ok (.invokestatic 71, 3) := by decide +kernel
theorem dX6_word_55 : decode cX6_word 55 = .ok (.iload 4, 2) := by decide +kernel
theorem dX6_word_57 : decode cX6_word 57 = .ok (.invokevirtual 49, 3) := by decide +kernel
theorem dX6_word_60 : decode cX6_word 60 = .ok (.istore 4, 2) := by decide +kernel
theorem dX6_word_62 : decode cX6_word 62 = .ok (.goto (-43), 3) := by decide +kernel
theorem dX6_word_65 : decode cX6_word 65 = .ok (.bipush (-9), 2) := by decide +kernel
theorem dX6_word_67 : decode cX6_word 67 = .ok (.ireturn, 1) := by decide +kernel
theorem dX6_bit_0 : decode cX6_bit 0 = .ok (.aload_n 0, 1) := by decide +kernel
theorem dX6_bit_1 : decode cX6_bit 1 = .ok (.iload_n 1, 1) := by decide +kernel
theorem dX6_bit_2 : decode cX6_bit 2 = .ok (.iload_n 2, 1) := by decide +kernel
theorem dX6_bit_3 : decode cX6_bit 3 = .ok (.iconst 0, 1) := by decide +kernel
theorem dX6_bit_4 : decode cX6_bit 4 = .ok (.invokevirtual 85, 3) := by decide +kernel
theorem dX6_bit_7 : decode cX6_bit 7 = .ok (.ifCond .eq 15, 3) := by decide +kernel
theorem dX6_bit_10 : decode cX6_bit 10 = .ok (.aload_n 0, 1) := by decide +kernel
theorem dX6_bit_11 : decode cX6_bit 11 = .ok (.iload_n 1, 1) := by decide +kernel
theorem dX6_bit_12 : decode cX6_bit 12 = .ok (.invokestatic 71, 3) := by decide +kernel
theorem dX6_bit_15 : decode cX6_bit 15 = .ok (.iload_n 2, 1) := by decide +kernel
theorem dX6_bit_16 : decode cX6_bit 16 = .ok (.invokevirtual 35, 3) := by decide +kernel
theorem dX6_bit_19 : decode cX6_bit 19 = .ok (.goto 4, 3) := by decide +kernel
theorem dX6_bit_22 : decode cX6_bit 22 = .ok (.iconst (-1), 1) := by decide +kernel
theorem dX6_bit_23 : decode cX6_bit 23 = .ok (.ireturn, 1) := by decide +kernel
theorem dX6_rank__0 : decode cX6_rank_ 0 = .ok (.aload_n 0, 1) := by decide +kernel
theorem dX6_rank__1 : decode cX6_rank_ 1 = .ok (.iload_n 1, 1) := by decide +kernel
theorem dX6_rank__2 : decode cX6_rank_ 2 = .ok (.iload_n 2, 1) := by decide +kernel
theorem dX6_rank__3 : decode cX6_rank_ 3 = .ok (.iconst 1, 1) := by decide +kernel
theorem dX6_rank__4 : decode cX6_rank_ 4 = .ok (.invokevirtual 85, 3) := by decide +kernel
theorem dX6_rank__7 : decode cX6_rank_ 7 = .ok (.ifCond .ne 5, 3) := by decide +kernel
theorem dX6_rank__10 : decode cX6_rank_ 10 = .ok (.iconst (-1), 1) := by decide +kernel
theorem dX6_rank__11 : decode cX6_rank_ 11 = .ok (.ireturn, 1) := by decide +kernel
theorem dX6_rank__12 : decode cX6_rank_ 12 = .ok (.iconst 0, 1) := by decide +kernel
theorem dX6_rank__13 : decode cX6_rank_ 13 = .ok (.istore_n 3, 1) := by decide +kernel
theorem dX6_rank__14 : decode cX6_rank_ 14 = .ok (.iconst 0, 1) := by decide +kernel
theorem dX6_rank__15 : decode cX6_rank_ 15 = .ok (.istore 4, 2) := by decide +kernel
theorem dX6_rank__17 : decode cX6_rank_ 17 = .ok (.iload 4, 2) := by decide +kernel
theorem dX6_rank__19 : decode cX6_rank_ 19 = .ok (.iload_n 2, 1) := by decide +kernel
theorem dX6_rank__20 : decode cX6_rank_ 20 = .ok (.if_icmp .ge 22, 3) := by decide +kernel
theorem dX6_rank__23 : decode cX6_rank_ 23 = .ok (.iload_n 3, 1) := by decide +kernel
theorem dX6_rank__24 : decode cX6_rank_ 24 = .ok (.aload_n 0, 1) := by decide +kernel
theorem dX6_rank__25 : decode cX6_rank_ 25 = .ok (.iload_n 1, 1) := by decide +kernel
theorem dX6_rank__26 : decode cX6_rank_ 26 = .ok (.invokestatic 71, 3) := by decide +kernel
theorem dX6_rank__29 : decode cX6_rank_ 29 = .ok (.iload 4, 2) := by decide +kernel
theorem dX6_rank__31 : decode cX6_rank_ 31 = .ok (.invokevirtual 35, 3) := by decide +kernel
theorem dX6_rank__34 : decode cX6_rank_ 34 = .ok (.iadd, 1) := by decide +kernel
theorem dX6_rank__35 : decode cX6_rank_ 35 = .ok (.istore_n 3, 1) := by decide +kernel
theorem dX6_rank__36 : decode cX6_rank_ 36 = .ok (.iinc 4 1, 3) := by decide +kernel
theorem dX6_rank__39 : decode cX6_rank_ 39 = .ok (.goto (-22), 3) := by decide +kernel
theorem dX6_rank__42 : decode cX6_rank_ 42 = .ok (.iload_n 3, 1) := by decide +kernel
theorem dX6_rank__43 : decode cX6_rank_ 43 = .ok (.ireturn, 1) := by decide +kernel
theorem dX6_select_0 : decode cX6_select 0 = .ok (.aload_n 0, 1) := by decide +kernel
theorem dX6_select_1 : decode cX6_select 1 = .ok (.iload_n 1, 1) := by decide +kernel
theorem dX6_select_2 : decode cX6_select 2 = .ok (.invokevirtual 74, 3) := by decide +kernel
theorem dX6_select_5 : decode cX6_select 5 = .ok (.ifCond .eq 19, 3) := by decide +kernel
theorem dX6_select_8 : decode cX6_select 8 = .ok (.iload_n 2, 1) := by decide +kernel
theorem dX6_select_9 : decode cX6_select 9 = .ok (.ifCond .lt 15, 3) := by decide +kernel
theorem dX6_select_12 : decode cX6_select 12 = .ok (.aload_n 0, 1) := by decide +kernel
theorem dX6_select_13 : decode cX6_select 13 = .ok (.iload_n 1, 1) := by decide +kernel
theorem dX6_select_14 : decode cX6_select 14 = .ok (.invokestatic 71, 3) := by decide +kernel
theorem dX6_select_17 : decode cX6_select 17 = .ok (.iload_n 2, 1) := by decide +kernel
theorem dX6_select_18 : decode cX6_select 18 = .ok (.invokevirtual 190, 3) := by decide +kernel
theorem dX6_select_21 : decode cX6_select 21 = .ok (.goto 4, 3) := by decide +kernel
theorem dX6_select_24 : decode cX6_select 24 = .ok (.iconst (-1), 1) := by decide +kernel
theorem dX6_select_25 : decode cX6_select 25 = .ok (.ireturn, 1) := by decide +kernel
theorem dX6_would_0 : decode cX6_would 0 = .ok (.iload_n 1, 1) := by decide +kernel
theorem dX6_would_1 : decode cX6_would 1 = .ok (.iconst 0, 1) := by decide +kernel
theorem dX6_would_2 : decode cX6_would 2 = .ok (.iconst 3, 1) := by decide +kernel
theorem dX6_would_3 : decode cX6_would 3 = .ok (.invokestatic 31, 3) := by decide +kernel
theorem dX6_would_6 : decode cX6_would 6 = .ok (.ifCond .eq 29, 3) := by decide +kernel
theorem dX6_would_9 : decode cX6_would 9 = .ok (.aload_n 0, 1) := by decide +kernel
theorem dX6_would_10 : decode cX6_would 10 = .ok (.iload_n 2, 1) := by decide +kernel
theorem dX6_would_11 : decode cX6_would 11 = .ok (.invokevirtual 74, 3) := by decide +kernel
theorem dX6_would_14 : decode cX6_would 14 = .ok (.ifCond .eq 21, 3) := by decide +kernel
theorem dX6_would_17 : decode cX6_would 17 = .ok (.aload_n 0, 1) := by decide +kernel
theorem dX6_would_18 : decode cX6_would 18 = .ok (.iload_n 3, 1) := by decide +kernel
theorem dX6_would_19 : decode cX6_would 19 = .ok (.invokevirtual 74, 3) := by decide +kernel
theorem dX6_would_22 : decode cX6_would 22 = .ok (.ifCond .eq 13, 3) := by decide +kernel
theorem dX6_would_25 : decode cX6_would 25 = .ok (.iload 4, 2) := by decide +kernel
theorem dX6_would_27 : decode cX6_would 27 = .ok (.iconst 0, 1) := by decide +kernel
theorem dX6_would_28 : decode cX6_would 28 = .ok (.iconst 2, 1) := by decide +kernel
theorem dX6_would_29 : decode cX6_would 29 = .ok (.invokestatic 31, 3) := by decide +kernel
theorem dX6_would_32 : decode cX6_would 32 = .ok (.ifCond .ne 5, 3) := by decide +kernel
theorem dX6_would_35 : decode cX6_would 35 = .ok (.iconst (-1), 1) := by decide +kernel
theorem dX6_would_36 : decode cX6_would 36 = .ok (.ireturn, 1) := by decide +kernel
theorem dX6_would_37 : decode cX6_would 37 = .ok (.aload_n 0, 1) := by decide +kernel
theorem dX6_would_38 : decode cX6_would 38 = .ok (.iload_n 1, 1) := by decide +kernel
theorem dX6_would_39 : decode cX6_would 39 = .ok (.iload_n 2, 1) := by decide +kernel
theorem dX6_would_40 : decode cX6_would 40 = .ok (.invokestatic 71, 3) := by decide +kernel
theorem dX6_would_43 : decode cX6_would 43 = .ok (.iload_n 3, 1) := by decide +kernel
theorem dX6_would_44 : decode cX6_would 44 = .ok (.invokestatic 71, 3) := by decide +kernel
theorem dX6_would_47 : decode cX6_would 47 = .ok (.iconst 0, 1) := by decide +kernel
theorem dX6_would_48 : decode cX6_would 48 = .ok (.invokestatic 54, 3) := by decide +kernel
theorem dX6_would_51 : decode cX6_would 51 = .ok (.invokevirtual 91, 3) := by decide +kernel
theorem dX6_would_54 : decode cX6_would 54 = .ok (.iload 4, 2) := by decide +kernel
theorem dX6_would_56 : decode cX6_would 56 = .ok (.ifCond .ne 18, 3) := by decide +kernel
theorem dX6_would_59 : decode cX6_would 59 = .ok (.aload_n 0, 1) := by decide +kernel
theorem dX6_would_60 : decode cX6_would 60 = .ok (.iload_n 2, 1) := by decide +kernel
theorem dX6_would_61 : decode cX6_would 61 = .ok (.invokestatic 71, 3) := by decide +kernel
theorem dX6_would_64 : decode cX6_would 64 = .ok (.iload_n 3, 1) := by decide +kernel
theorem dX6_would_65 : decode cX6_would 65 = .ok (.invokestatic 71, 3) := by decide +kernel
theorem dX6_would_68 : decode cX6_would 68 = .ok (.invokevirtual 88, 3) := by decide +kernel
theorem dX6_would_71 : decode cX6_would 71 = .ok (.goto 29, 3) := by decide +kernel
theorem dX6_would_74 : decode cX6_would 74 = .ok (.iload 4, 2) := by decide +kernel
theorem dX6_would_76 : decode cX6_would 76 = .ok (.iconst 1, 1) := by decide +kernel
theorem dX6_would_77 : decode cX6_would 77 = .ok (.if_icmp .ne 15, 3) := by decide +kernel
theorem dX6_would_80 : decode cX6_would 80 = .ok (.aload_n 0, 1) := by decide +kernel
theorem dX6_would_81 : decode cX6_would 81 = .ok (.iconst 0, 1) := by decide +kernel
theorem dX6_would_82 : decode cX6_would 82 = .ok (.invokestatic 54, 3) := by decide +kernel
theorem dX6_would_85 : decode cX6_would 85 = .ok (.iconst 3, 1) := by decide +kernel
theorem dX6_would_86 : decode cX6_would 86 = .ok (.invokevirtual 82, 3) := by decide +kernel
theorem dX6_would_89 : decode cX6_would 89 = .ok (.goto 11, 3) := by decide +kernel
theorem dX6_would_92 : decode cX6_would 92 = .ok (.aload_n 0, 1) := by decide +kernel
theorem dX6_would_93 : decode cX6_would 93 = .ok (.iconst 0, 1) := by decide +kernel
theorem dX6_would_94 : decode cX6_would 94 = .ok (.invokestatic 54, 3) := by decide +kernel
theorem dX6_would_97 : decode cX6_would 97 = .ok (.invokevirtual 99, 3) := by decide +kernel
theorem dX6_would_100 : decode cX6_would 100 = .ok (.ireturn, 1) := by decide +kernel
theorem dX6_areSame_0 : decode cX6_areSame 0 = .ok (.aload_n 0, 1) := by decide +kernel
theorem dX6_areSame_1 : decode cX6_areSame 1 = .ok (.getfield 8, 3) := by decide +kernel
theorem dX6_areSame_4 : decode cX6_areSame 4 = .ok (.iload_n 1, 1) := by decide +kernel
theorem dX6_areSame_5 : decode cX6_areSame 5 = .ok (.iaload, 1) := by decide +kernel
theorem dX6_areSame_6 : decode cX6_areSame 6 = .ok (.aload_n 0, 1) := by decide +kernel
theorem dX6_areSame_7 : decode cX6_areSame 7 = .ok (.getfield 8, 3) := by decide +kernel
theorem dX6_areSame_10 : decode cX6_areSame 10 = .ok (.iload_n 2, 1) := by decide +kernel
theorem dX6_areSame_11 : decode cX6_areSame 11 = .ok (.iaload, 1) := by decide +kernel
theorem dX6_areSame_12 : decode cX6_areSame 12 = .ok (.if_icmp .ne 7, 3) := by decide +kernel
theorem dX6_areSame_15 : decode cX6_areSame 15 = .ok (.iconst 1, 1) := by decide +kernel
theorem dX6_areSame_16 : decode cX6_areSame 16 = .ok (.goto 4, 3) := by decide +kernel
theorem dX6_areSame_19 : decode cX6_areSame 19 = .ok (.iconst 0, 1) := by decide +kernel
theorem dX6_areSame_20 : decode cX6_areSame 20 = .ok (.istore_n 3, 1) := by decide +kernel
theorem dX6_areSame_21 : decode cX6_areSame 21 = .ok (.iconst 0, 1) := by decide +kernel
theorem dX6_areSame_22 : decode cX6_areSame 22 = .ok (.istore 4, 2) := by decide +kernel
theorem dX6_areSame_24 : decode cX6_areSame 24 = .ok (.iload 4, 2) := by decide +kernel
theorem dX6_areSame_26 : decode cX6_areSame 26 = .ok (.aload_n 0, 1) := by decide +kernel
theorem dX6_areSame_27 : decode cX6_areSame 27 = .ok (.getfield 8, 3) := by decide +kernel
theorem dX6_areSame_30 : decode cX6_areSame 30 = .ok (.iload_n 1, 1) := by decide +kernel
theorem dX6_areSame_31 : decode cX6_areSame 31 = .ok (.iaload, 1) := by decide +kernel
theorem dX6_areSame_32 : decode cX6_areSame 32 = .ok (.if_icmp .ge 36, 3) := by decide +kernel
theorem dX6_areSame_35 : decode cX6_areSame 35 = .ok (.iload_n 3, 1) := by decide +kernel
theorem dX6_areSame_36 : decode cX6_areSame 36 = .ok (.ifCond .eq 24, 3) := by decide +kernel
theorem dX6_areSame_39 : decode cX6_areSame 39 = .ok (.aload_n 0, 1) := by decide +kernel
theorem dX6_areSame_40 : decode cX6_areSame 40 = .ok (.iload_n 1, 1) := by decide +kernel
theorem dX6_areSame_41 : decode cX6_areSame 41 = .ok (.iload 4, 2) := by decide +kernel
theorem dX6_areSame_43 : decode cX6_areSame 43 = .ok (.invokevirtual 35, 3) := by decide +kernel
theorem dX6_areSame_46 : decode cX6_areSame 46 = .ok (.aload_n 0, 1) := by decide +kernel
theorem dX6_areSame_47 : decode cX6_areSame 47 = .ok (.iload_n 2, 1) := by decide +kernel
theorem dX6_areSame_48 : decode cX6_areSame 48 = .ok (.iload 4, 2) := by decide +kernel
theorem dX6_areSame_50 : decode cX6_areSame 50 = .ok (.invokevirtual 35, 3) := by decide +kernel
theorem dX6_areSame_53 : decode cX6_areSame 53 = .ok (.if_icmp .ne 7, 3) := by decide +kernel
theorem dX6_areSame_56 : decode cX6_areSame 56 = .ok (.iconst 1, 1) := by decide +kernel
theorem dX6_areSame_57 : decode cX6_areSame 57 = .ok (.goto 4, 3) := by decide +kernel
theorem dX6_areSame_60 : decode cX6_areSame 60 = .ok (.iconst 0, 1) := by decide +kernel
theorem dX6_areSame_61 : decode cX6_areSame 61 = .ok (.istore_n 3, 1) := by decide +kernel
theorem dX6_areSame_62 : decode cX6_areSame 62 = .ok (.iinc 4 1, 3) := by decide +kernel
theorem dX6_areSame_65 : decode cX6_areSame 65 = .ok (.goto (-41), 3) := by decide +kernel
theorem dX6_areSame_68 : decode cX6_areSame 68 = .ok (.iload_n 3, 1) := by decide +kernel
theorem dX6_areSame_69 : decode cX6_areSame 69 = .ok (.ireturn, 1) := by decide +kernel
theorem dX6_same_0 : decode cX6_same 0 = .ok (.aload_n 0, 1) := by decide +kernel
theorem dX6_same_1 : decode cX6_same 1 = .ok (.iload_n 1, 1) := by decide +kernel
theorem dX6_same_2 : decode cX6_same 2 = .ok (.invokevirtual 74, 3) := by decide +kernel
theorem dX6_same_5 : decode cX6_same 5 = .ok (.ifCond .ne 5, 3) := by decide +kernel
theorem dX6_same_8 : decode cX6_same 8 = .ok (.iconst (-1), 1) := by decide +kernel
theorem dX6_same_9 : decode cX6_same 9 = .ok (.ireturn, 1) := by decide +kernel
theorem dX6_same_10 : decode cX6_same 10 = .ok (.iconst 0, 1) := by decide +kernel
theorem dX6_same_11 : decode cX6_same 11 = .ok (.istore_n 2, 1) := by decide +kernel
theorem dX6_same_12 : decode cX6_same 12 = .ok (.aload_n 0, 1) := by decide +kernel
theorem dX6_same_13 : decode cX6_same 13 = .ok (.iload_n 2, 1) := by decide +kernel
theorem dX6_same_14 : decode cX6_same 14 = .ok (.invokestatic 71, 3) := by decide +kernel
theorem dX6_same_17 : decode cX6_same 17 = .ok (.iload_n 1, 1) := by decide +kernel
theorem dX6_same_18 : decode cX6_same 18 = .ok (.invokestatic 71, 3) := by decide +kernel
theorem dX6_same_21 : decode cX6_same 21 = .ok (.invokevirtual 196, 3) := by decide +kernel
theorem dX6_same_24 : decode cX6_same 24 = .ok (.ifCond .ne 9, 3) := by decide +kernel
theorem dX6_same_27 : decode cX6_same 27 = .ok (.iinc 2 1, 3) := by decide +kernel
theorem dX6_same_30 : decode cX6_same 30 = .ok (.goto (-18), 3) := by decide +kernel
theorem dX6_same_33 : decode cX6_same 33 = .ok (.iload_n 2, 1) := by decide +kernel
theorem dX6_same_34 : decode cX6_same 34 = .ok (.ireturn, 1) := by decide +kernel
theorem dX6_bestShift_0 : decode cX6_bestShift 0 = .ok (.aload_n 0, 1) := by decide +kernel
theorem dX6_bestShift_1 : decode cX6_bestShift 1 = .ok (.iload_n 1, 1) := by decide +kernel
theorem dX6_bestShift_2 : decode cX6_bestShift 2 = .ok (.invokevirtual 74, 3) := by decide +kernel
theorem dX6_bestShift_5 : decode cX6_bestShift 5 = .ok (.ifCond .ne 5, 3) := by decide +kernel
theorem dX6_bestShift_8 : decode cX6_bestShift 8 = .ok (.iconst (-1), 1) := by decide +kernel
theorem dX6_bestShift_9 : decode cX6_bestShift 9 = .ok (.ireturn, 1) := by decide +kernel
theorem dX6_bestShift_10 : decode cX6_bestShift 10 = .ok (.iconst 0, 1) := by decide +kernel
theorem dX6_bestShift_11 : decode cX6_bestShift 11 = .ok (.istore_n 2, 1) := by decide +kernel
theorem dX6_bestShift_12 : decode cX6_bestShift 12 = .ok (.iconst 0, 1) := by decide +kernel
theorem dX6_bestShift_13 : decode cX6_bestShift 13 = .ok (.istore_n 3, 1) := by decide +kernel
theorem dX6_bestShift_14 : decode cX6_bestShift 14 = .ok (.iconst 0, 1) := by decide +kernel
theorem dX6_bestShift_15 : decode cX6_bestShift 15 = .ok (.istore 4, 2) := by decide +kernel
theorem dX6_bestShift_17 : decode cX6_bestShift 17 = .ok (.iload 4, 2) := by decide +kernel
theorem dX6_bestShift_19 : decode cX6_bestShift 19 = .ok (.bipush 15, 2) := by decide +kernel
theorem dX6_bestShift_21 : decode cX6_bestShift 21 = .ok (.if_icmp .ge 78, 3) := by decide +kernel
theorem dX6_bestShift_24 : decode cX6_bestShift 24 = .ok (.aload_n 0, 1) := by decide +kernel
theorem dX6_bestShift_25 : decode cX6_bestShift 25 = .ok (.iload_n 1, 1) := by decide +kernel
theorem dX6_bestShift_26 : decode cX6_bestShift 26 = .ok (.invokestatic 71, 3) := by decide +kernel
theorem dX6_bestShift_29 : decode cX6_bestShift 29 = .ok (.iconst 0, 1) := by decide +kernel
theorem dX6_bestShift_30 : decode cX6_bestShift 30 = .ok (.invokestatic 54, 3) := by decide +kernel
theorem dX6_bestShift_33 : decode cX6_bestShift 33 = .ok (.invokevirtual 65, 3) := by decide +kernel
theorem dX6_bestShift_36 : decode cX6_bestShift 36 = .ok (.aload_n 0, 1) := by decide +kernel
theorem dX6_bestShift_37 : decode cX6_bestShift 37 = .ok (.iconst 0, 1) := by decide +kernel
theorem dX6_bestShift_38 : decode cX6_bestShift 38 = .ok (.invokestatic 54, 3) := by decide +kernel
theorem dX6_bestShift_41 : decode cX6_bestShift 41 = .ok (.iload 4, 2) := by decide +kernel
theorem dX6_bestShift_43 : decode cX6_bestShift 43 = .ok (.invokevirtual 102, 3) := by decide +kernel
theorem dX6_bestShift_46 : decode cX6_bestShift 46 = .ok (.aload_n 0, 1) := by decide +kernel
theorem dX6_bestShift_47 : decode cX6_bestShift 47 = .ok (.iconst 0, 1) := by decide +kernel
theorem dX6_bestShift_48 : decode cX6_bestShift 48 = .ok (.invokestatic 54, 3) := by decide +kernel
theorem dX6_bestShift_51 : decode cX6_bestShift 51 = .ok (.iconst 3, 1) := by decide +kernel
theorem dX6_bestShift_52 : decode cX6_bestShift 52 = .ok (.invokevirtual 82, 3) := by decide +kernel
theorem dX6_bestShift_55 : decode cX6_bestShift 55 = .ok (.istore 5, 2) := by decide +kernel
theorem dX6_bestShift_57 : decode cX6_bestShift 57 = .ok (.iload 4, 2) := by decide +kernel
theorem dX6_bestShift_59 : decode cX6_bestShift 59 = .ok (.ifCond .eq 9, 3) := by decide +kernel
theorem dX6_bestShift_62 : decode cX6_bestShift 62 = .ok (.iload 5, 2) := by decide +kernel
theorem dX6_bestShift_64 : decode cX6_bestShift 64 = .ok (.iload_n 3, 1) := by decide +kernel
theorem dX6_bestShift_65 : decode cX6_bestShift 65 = .ok (.if_icmp .ge 8, 3) := by decide +kernel
theorem dX6_bestShift_68 : decode cX6_bestShift 68 = .ok (.iload 4, 2) := by decide +kernel
theorem dX6_bestShift_70 : decode cX6_bestShift 70 = .ok (.goto 4, 3) := by decide +kernel
theorem dX6_bestShift_73 : decode cX6_bestShift 73 = .ok (.iload_n 2, 1) := by decide +kernel
theorem dX6_bestShift_74 : decode cX6_bestShift 74 = .ok (.istore_n 2, 1) := by decide +kernel
theorem dX6_bestShift_75 : decode cX6_bestShift 75 = .ok (.iload 4, 2) := by decide +kernel
theorem dX6_bestShift_77 : decode cX6_bestShift 77 = .ok (.ifCond .eq 9, 3) := by decide +kernel
theorem dX6_bestShift_80 : decode cX6_bestShift 80 = .ok (.iload 5, 2) := by decide +kernel
theorem dX6_bestShift_82 : decode cX6_bestShift 82 = .ok (.iload_n 3, 1) := by decide +kernel
theorem dX6_bestShift_83 : decode cX6_bestShift 83 = .ok (.if_icmp .ge 8, 3) := by decide +kernel
theorem dX6_bestShift_86 : decode cX6_bestShift 86 = .ok (.iload 5, 2) := by decide +kernel
theorem dX6_bestShift_88 : decode cX6_bestShift 88 = .ok (.goto 4, 3) := by decide +kernel
theorem dX6_bestShift_91 : decode cX6_bestShift 91 = .ok (.iload_n 3, 1) := by decide +kernel
theorem dX6_bestShift_92 : decode cX6_bestShift 92 = .ok (.istore_n 3, 1) := by decide +kernel
theorem dX6_bestShift_93 : decode cX6_bestShift 93 = .ok (.iinc 4 1, 3) := by decide +kernel
theorem dX6_bestShift_96 : decode cX6_bestShift 96 = .ok (.goto (-79), 3) := by decide +kernel
theorem dX6_bestShift_99 : decode cX6_bestShift 99 = .ok (.iload_n 2, 1) := by decide +kernel
theorem dX6_bestShift_100 : decode cX6_bestShift 100 = .ok (.ireturn, 1) := by decide +kernel
theorem dJ6_bitCount_0f7a4_0 : decode cJ6_bitCount_0f7a4 0 = .ok (.iload_n 0, 1) := by decide +kernel
theorem dJ6_bitCount_0f7a4_1 : decode cJ6_bitCount_0f7a4 1 = .ok (.iload_n 0, 1) := by decide +kernel
theorem dJ6_bitCount_0f7a4_2 : decode cJ6_bitCount_0f7a4 2 = .ok (.iconst 1, 1) := by decide +kernel
theorem dJ6_bitCount_0f7a4_3 : decode cJ6_bitCount_0f7a4 3 = .ok (.iushr, 1) := by decide +kernel
theorem dJ6_bitCount_0f7a4_4 : decode cJ6_bitCount_0f7a4 4 = .ok (.ldc_w 265, 3) := by decide +kernel
theorem dJ6_bitCount_0f7a4_7 : decode cJ6_bitCount_0f7a4 7 = .ok (.iand, 1) := by decide +kernel
theorem dJ6_bitCount_0f7a4_8 : decode cJ6_bitCount_0f7a4 8 = .ok (.isub, 1) := by decide +kernel
theorem dJ6_bitCount_0f7a4_9 : decode cJ6_bitCount_0f7a4 9 = .ok (.istore_n 0, 1) := by decide +kernel
theorem dJ6_bitCount_0f7a4_10 : decode cJ6_bitCount_0f7a4 10 = .ok (.iload_n 0, 1) := by decide +kernel
theorem dJ6_bitCount_0f7a4_11 : decode cJ6_bitCount_0f7a4 11 = .ok (.ldc_w 266, 3) := by decide +kernel
theorem dJ6_bitCount_0f7a4_14 : decode cJ6_bitCount_0f7a4 14 = .ok (.iand, 1) := by decide +kernel
theorem dJ6_bitCount_0f7a4_15 : decode cJ6_bitCount_0f7a4 15 = .ok (.iload_n 0, 1) := by decide +kernel
theorem dJ6_bitCount_0f7a4_16 : decode cJ6_bitCount_0f7a4 16 = .ok (.iconst 2, 1) := by decide +kernel
theorem dJ6_bitCount_0f7a4_17 : decode cJ6_bitCount_0f7a4 17 = .ok (.iushr, 1) := by decide +kernel
theorem dJ6_bitCount_0f7a4_18 : decode cJ6_bitCount_0f7a4 18 = .ok (.ldc_w 266, 3) := by decide +kernel
theorem dJ6_bitCount_0f7a4_21 : decode cJ6_bitCount_0f7a4 21 = .ok (.iand, 1) := by decide +kernel
theorem dJ6_bitCount_0f7a4_22 : decode cJ6_bitCount_0f7a4 22 = .ok (.iadd, 1) := by decide +kernel
theorem dJ6_bitCount_0f7a4_23 : decode cJ6_bitCount_0f7a4 23 = .ok (.istore_n 0, 1) := by decide +kernel
theorem dJ6_bitCount_0f7a4_24 : decode cJ6_bitCount_0f7a4 24 = .ok (.iload_n 0, 1) := by decide +kernel
theorem dJ6_bitCount_0f7a4_25 : decode cJ6_bitCount_0f7a4 25 = .ok (.iload_n 0, 1) := by decide +kernel
theorem dJ6_bitCount_0f7a4_26 : decode cJ6_bitCount_0f7a4 26 = .ok (.iconst 4, 1) := by decide +kernel
theorem dJ6_bitCount_0f7a4_27 : decode cJ6_bitCount_0f7a4 27 = .ok (.iushr, 1) := by decide +kernel
theorem dJ6_bitCount_0f7a4_28 : decode cJ6_bitCount_0f7a4 28 = .ok (.iadd, 1) := by decide +kernel
theorem dJ6_bitCount_0f7a4_29 : decode cJ6_bitCount_0f7a4 29 = .ok (.ldc_w 267, 3) := by decide +kernel
theorem dJ6_bitCount_0f7a4_32 : decode cJ6_bitCount_0f7a4 32 = .ok (.iand, 1) := by decide +kernel
theorem dJ6_bitCount_0f7a4_33 : decode cJ6_bitCount_0f7a4 33 = .ok (.istore_n 0, 1) := by decide +kernel
theorem dJ6_bitCount_0f7a4_34 : decode cJ6_bitCount_0f7a4 34 = .ok (.iload_n 0, 1) := by decide +kernel
theorem dJ6_bitCount_0f7a4_35 : decode cJ6_bitCount_0f7a4 35 = .ok (.iload_n 0, 1) := by decide +kernel
theorem dJ6_bitCount_0f7a4_36 : decode cJ6_bitCount_0f7a4 36 = .ok (.bipush 8, 2) := by decide +kernel
theorem dJ6_bitCount_0f7a4_38 : decode cJ6_bitCount_0f7a4 38 = .ok (.iushr, 1) := by decide +kernel
theorem dJ6_bitCount_0f7a4_39 : decode cJ6_bitCount_0f7a4 39 = .ok (.iadd, 1) := by decide +kernel
theorem dJ6_bitCount_0f7a4_40 : decode cJ6_bitCount_0f7a4 40 = .ok (.istore_n 0, 1) := by decide +kernel
theorem dJ6_bitCount_0f7a4_41 : decode cJ6_bitCount_0f7a4 41 = .ok (.iload_n 0, 1) := by decide +kernel
theorem dJ6_bitCount_0f7a4_42 : decode cJ6_bitCount_0f7a4 42 = .ok (.iload_n 0, 1) := by decide +kernel
theorem dJ6_bitCount_0f7a4_43 : decode cJ6_bitCount_0f7a4 43 = .ok (.bipush 16, 2) := by decide +kernel
theorem dJ6_bitCount_0f7a4_45 : decode cJ6_bitCount_0f7a4 45 = .ok (.iushr, 1) := by decide +kernel
theorem dJ6_bitCount_0f7a4_46 : decode cJ6_bitCount_0f7a4 46 = .ok (.iadd, 1) := by decide +kernel
theorem dJ6_bitCount_0f7a4_47 : decode cJ6_bitCount_0f7a4 47 = .ok (.istore_n 0, 1) := by decide +kernel
theorem dJ6_bitCount_0f7a4_48 : decode cJ6_bitCount_0f7a4 48 = .ok (.iload_n 0, 1) := by decide +kernel
theorem dJ6_bitCount_0f7a4_49 : decode cJ6_bitCount_0f7a4 49 = .ok (.bipush 63, 2) := by decide +kernel
theorem dJ6_bitCount_0f7a4_51 : decode cJ6_bitCount_0f7a4 51 = .ok (.iand, 1) := by decide +kernel
theorem dJ6_bitCount_0f7a4_52 : decode cJ6_bitCount_0f7a4 52 = .ok (.ireturn, 1) := by decide +kernel
theorem dJ9_floorDiv_7cf53_0 : decode cJ9_floorDiv_7cf53 0 = .ok (.iload_n 0, 1) := by decide +kernel
theorem dJ9_floorDiv_7cf53_1 : decode cJ9_floorDiv_7cf53 1 = .ok (.iload_n 1, 1) := by decide +kernel
theorem dJ9_floorDiv_7cf53_2 : decode cJ9_floorDiv_7cf53 2 = .ok (.idiv, 1) := by decide +kernel
theorem dJ9_floorDiv_7cf53_3 : decode cJ9_floorDiv_7cf53 3 = .ok (.istore_n 2, 1) := by decide +kernel
theorem dJ9_floorDiv_7cf53_4 : decode cJ9_floorDiv_7cf53 4 = .ok (.iload_n 0, 1) := by decide +kernel
theorem dJ9_floorDiv_7cf53_5 : decode cJ9_floorDiv_7cf53 5 = .ok (.iload_n 1, 1) := by decide +kernel
theorem dJ9_floorDiv_7cf53_6 : decode cJ9_floorDiv_7cf53 6 = .ok (.ixor, 1) := by decide +kernel
theorem dJ9_floorDiv_7cf53_7 : decode cJ9_floorDiv_7cf53 7 = .ok (.ifCond .ge 14, 3) := by decide +kernel
theorem dJ9_floorDiv_7cf53_10 : decode cJ9_floorDiv_7cf53 10 = .ok (.iload_n 2, 1) := by decide +kernel
theorem dJ9_floorDiv_7cf53_11 : decode cJ9_floorDiv_7cf53 11 = .ok (.iload_n 1, 1) := by decide +kernel
theorem dJ9_floorDiv_7cf53_12 : decode cJ9_floorDiv_7cf53 12 = .ok (.imul, 1) := by decide +kernel
theorem dJ9_floorDiv_7cf53_13 : decode cJ9_floorDiv_7cf53 13 = .ok (.iload_n 0, 1) := by decide +kernel
theorem dJ9_floorDiv_7cf53_14 : decode cJ9_floorDiv_7cf53 14 = .ok (.if_icmp .eq 7, 3) := by decide +kernel
theorem dJ9_floorDiv_7cf53_17 : decode cJ9_floorDiv_7cf53 17 = .ok (.iload_n 2, 1) := by decide +kernel
theorem dJ9_floorDiv_7cf53_18 : decode cJ9_floorDiv_7cf53 18 = .ok (.iconst 1, 1) := by decide +kernel
theorem dJ9_floorDiv_7cf53_19 : decode cJ9_floorDiv_7cf53 19 = .ok (.isub, 1) := by decide +kernel
theorem dJ9_floorDiv_7cf53_20 : decode cJ9_floorDiv_7cf53 20 = .ok (.ireturn, 1) := by decide +kernel
theorem dJ9_floorDiv_7cf53_21 : decode cJ9_floorDiv_7cf53 21 = .ok (.iload_n 2, 1) := by decide +kernel
theorem dJ9_floorDiv_7cf53_22 : decode cJ9_floorDiv_7cf53 22 = .ok (.ireturn, 1) := by decide +kernel
theorem dJ9_floorMod_7cf53_0 : decode cJ9_floorMod_7cf53 0 = .ok (.iload_n 0, 1) := by decide +kernel
theorem dJ9_floorMod_7cf53_1 : decode cJ9_floorMod_7cf53 1 = .ok (.iload_n 1, 1) := by decide +kernel
theorem dJ9_floorMod_7cf53_2 : decode cJ9_floorMod_7cf53 2 = .ok (.irem, 1) := by decide +kernel
theorem dJ9_floorMod_7cf53_3 : decode cJ9_floorMod_7cf53 3 = .ok (.istore_n 2, 1) := by decide +kernel
theorem dJ9_floorMod_7cf53_4 : decode cJ9_floorMod_7cf53 4 = .ok (.iload_n 0, 1) := by decide +kernel
theorem dJ9_floorMod_7cf53_5 : decode cJ9_floorMod_7cf53 5 = .ok (.iload_n 1, 1) := by decide +kernel
theorem dJ9_floorMod_7cf53_6 : decode cJ9_floorMod_7cf53 6 = .ok (.ixor, 1) := by decide +kernel
theorem dJ9_floorMod_7cf53_7 : decode cJ9_floorMod_7cf53 7 = .ok (.ifCond .ge 11, 3) := by decide +kernel
theorem dJ9_floorMod_7cf53_10 : decode cJ9_floorMod_7cf53 10 = .ok (.iload_n 2, 1) := by decide +kernel
theorem dJ9_floorMod_7cf53_11 : decode cJ9_floorMod_7cf53 11 = .ok (.ifCond .eq 7, 3) := by decide +kernel
theorem dJ9_floorMod_7cf53_14 : decode cJ9_floorMod_7cf53 14 = .ok (.iload_n 2, 1) := by decide +kernel
theorem dJ9_floorMod_7cf53_15 : decode cJ9_floorMod_7cf53 15 = .ok (.iload_n 1, 1) := by decide +kernel
theorem dJ9_floorMod_7cf53_16 : decode cJ9_floorMod_7cf53 16 = .ok (.iadd, 1) := by decide +kernel
theorem dJ9_floorMod_7cf53_17 : decode cJ9_floorMod_7cf53 17 = .ok (.ireturn, 1) := by decide +kernel
theorem dJ9_floorMod_7cf53_18 : decode cJ9_floorMod_7cf53 18 = .ok (.iload_n 2, 1) := by decide +kernel
theorem dJ9_floorMod_7cf53_19 : decode cJ9_floorMod_7cf53 19 = .ok (.ireturn, 1) := by decide +kernel
theorem dJ9_max_7cf53_0 : decode cJ9_max_7cf53 0 = .ok (.iload_n 0, 1) := by decide +kernel
theorem dJ9_max_7cf53_1 : decode cJ9_max_7cf53 1 = .ok (.iload_n 1, 1) := by decide +kernel
theorem dJ9_max_7cf53_2 : decode cJ9_max_7cf53 2 = .ok (.if_icmp .lt 7, 3) := by decide +kernel
theorem dJ9_max_7cf53_5 : decode cJ9_max_7cf53 5 = .ok (.iload_n 0, 1) := by decide +kernel
theorem dJ9_max_7cf53_6 : decode cJ9_max_7cf53 6 = .ok (.goto 4, 3) := by decide +kernel
theorem dJ9_max_7cf53_9 : decode cJ9_max_7cf53 9 = .ok (.iload_n 1, 1) := by decide +kernel
theorem dJ9_max_7cf53_10 : decode cJ9_max_7cf53 10 = .ok (.ireturn, 1) := by decide +kernel
theorem dJ9_min_7cf53_0 : decode cJ9_min_7cf53 0 = .ok (.iload_n 0, 1) := by decide +kernel
theorem dJ9_min_7cf53_1 : decode cJ9_min_7cf53 1 = .ok (.iload_n 1, 1) := by decide +kernel
theorem dJ9_min_7cf53_2 : decode cJ9_min_7cf53 2 = .ok (.if_icmp .gt 7, 3) := by decide +kernel
theorem dJ9_min_7cf53_5 : decode cJ9_min_7cf53 5 = .ok (.iload_n 0, 1) := by decide +kernel
theorem dJ9_min_7cf53_6 : decode cJ9_min_7cf53 6 = .ok (.goto 4, 3) := by decide +kernel
theorem dJ9_min_7cf53_9 : decode cJ9_min_7cf53 9 = .ok (.iload_n 1, 1) := by decide +kernel
theorem dJ9_min_7cf53_10 : decode cJ9_min_7cf53 10 = .ok (.ireturn, 1) := by decide +kernel
theorem dL_law_0 : decode cL_law 0 = .ok (.new 7, 3) := by decide +kernel
theorem dL_law_3 : decode cL_law 3 = .ok (.dup, 1) := by decide +kernel
theorem dL_law_4 : decode cL_law 4 = .ok (.invokespecial 9, 3) := by decide +kernel
theorem dL_law_7 : decode cL_law 7 = .ok (.astore_n 1, 1) := by decide +kernel
theorem dL_law_8 : decode cL_law 8 = .ok (.new 10, 3) := by decide +kernel
theorem dL_law_11 : decode cL_law 11 = .ok (.dup, 1) := by decide +kernel
theorem dL_law_12 : decode cL_law 12 = .ok (.invokespecial 12, 3) := by decide +kernel
theorem dL_law_15 : decode cL_law 15 = .ok (.astore_n 2, 1) := by decide +kernel
theorem dL_law_16 : decode cL_law 16 = .ok (.iconst 0, 1) := by decide +kernel
theorem dL_law_17 : decode cL_law 17 = .ok (.istore_n 3, 1) := by decide +kernel
theorem dL_law_18 : decode cL_law 18 = .ok (.iload_n 3, 1) := by decide +kernel
theorem dL_law_19 : decode cL_law 19 = .ok (.aload_n 0, 1) := by decide +kernel
theorem dL_law_20 : decode cL_law 20 = .ok (.arraylength, 1) := by decide +kernel
theorem dL_law_21 : decode cL_law 21 = .ok (.iconst 5, 1) := by decide +kernel
theorem dL_law_22 : decode cL_law 22 = .ok (.isub, 1) := by decide +kernel
theorem dL_law_23 : decode cL_law 23 = .ok (.if_icmp .gt 785, 3) := by decide +kernel
theorem dL_law_26 : decode cL_law 26 = .ok (.aload_n 0, 1) := by decide +kernel
theorem dL_law_27 : decode cL_law 27 = .ok (.iload_n 3, 1) := by decide +kernel
theorem dL_law_28 : decode cL_law 28 = .ok (.iaload, 1) := by decide +kernel
theorem dL_law_29 : decode cL_law 29 = .ok (.bipush 31, 2) := by decide +kernel
theorem dL_law_31 : decode cL_law 31 = .ok (.iand, 1) := by decide +kernel
theorem dL_law_32 : decode cL_law 32 = .ok (.tableswitch 770 0 21 #[104, 117, 160, 203, 246, 279, 332, 355, 388, 401, 424, 437, 460, 483, 506, 539, 572, 605, 638, 671, 724, 747], 104) := by decide +kernel
theorem dL_law_136 : decode cL_law 136 = .ok (.aload_n 1, 1) := by decide +kernel
theorem dL_law_137 : decode cL_law 137 = .ok (.invokevirtual 13, 3) := by decide +kernel
theorem dL_law_140 : decode cL_law 140 = .ok (.aload_n 2, 1) := by decide +kernel
theorem dL_law_141 : decode cL_law 141 = .ok (.invokevirtual 17, 3) := by decide +kernel
theorem dL_law_144 : decode cL_law 144 = .ok (.if_icmp .eq 658, 3) := by decide +kernel
theorem dL_law_147 : decode cL_law 147 = .ok (.iconst 0, 1) := by decide +kernel
theorem dL_law_148 : decode cL_law 148 = .ok (.ireturn, 1) := by decide +kernel
theorem dL_law_149 : decode cL_law 149 = .ok (.aload_n 1, 1) := by decide +kernel
theorem dL_law_150 : decode cL_law 150 = .ok (.aload_n 0, 1) := by decide +kernel
theorem dL_law_151 : decode cL_law 151 = .ok (.iload_n 3, 1) := by decide +kernel
theorem dL_law_152 : decode cL_law 152 = .ok (.iconst 1, 1) := by decide +kernel
theorem dL_law_153 : decode cL_law 153 = .ok (.iadd, 1) := by decide +kernel
theorem dL_law_154 : decode cL_law 154 = .ok (.iaload, 1) := by decide +kernel
theorem dL_law_155 : decode cL_law 155 = .ok (.aload_n 0, 1) := by decide +kernel
theorem dL_law_156 : decode cL_law 156 = .ok (.iload_n 3, 1) := by decide +kernel
theorem dL_law_157 : decode cL_law 157 = .ok (.iconst 2, 1) := by decide +kernel
theorem dL_law_158 : decode cL_law 158 = .ok (.iadd, 1) := by decide +kernel
theorem dL_law_159 : decode cL_law 159 = .ok (.iaload, 1) := by decide +kernel
theorem dL_law_160 : decode cL_law 160 = .ok (.aload_n 0, 1) := by decide +kernel
theorem dL_law_161 : decode cL_law 161 = .ok (.iload_n 3, 1) := by decide +kernel
theorem dL_law_162 : decode cL_law 162 = .ok (.iconst 3, 1) := by decide +kernel
theorem dL_law_163 : decode cL_law 163 = .ok (.iadd, 1) := by decide +kernel
theorem dL_law_164 : decode cL_law 164 = .ok (.iaload, 1) := by decide +kernel
theorem dL_law_165 : decode cL_law 165 = .ok (.invokevirtual 18, 3) := by decide +kernel
theorem dL_law_168 : decode cL_law 168 = .ok (.aload_n 2, 1) := by decide +kernel
theorem dL_law_169 : decode cL_law 169 = .ok (.aload_n 0, 1) := by decide +kernel
theorem dL_law_170 : decode cL_law 170 = .ok (.iload_n 3, 1) := by decide +kernel
theorem dL_law_171 : decode cL_law 171 = .ok (.iconst 1, 1) := by decide +kernel
theorem dL_law_172 : decode cL_law 172 = .ok (.iadd, 1) := by decide +kernel
theorem dL_law_173 : decode cL_law 173 = .ok (.iaload, 1) := by decide +kernel
theorem dL_law_174 : decode cL_law 174 = .ok (.aload_n 0, 1) := by decide +kernel
theorem dL_law_175 : decode cL_law 175 = .ok (.iload_n 3, 1) := by decide +kernel
theorem dL_law_176 : decode cL_law 176 = .ok (.iconst 2, 1) := by decide +kernel
theorem dL_law_177 : decode cL_law 177 = .ok (.iadd, 1) := by decide +kernel
theorem dL_law_178 : decode cL_law 178 = .ok (.iaload, 1) := by decide +kernel
theorem dL_law_179 : decode cL_law 179 = .ok (.aload_n 0, 1) := by decide +kernel
theorem dL_law_180 : decode cL_law 180 = .ok (.iload_n 3, 1) := by decide +kernel
theorem dL_law_181 : decode cL_law 181 = .ok (.iconst 3, 1) := by decide +kernel
theorem dL_law_182 : decode cL_law 182 = .ok (.iadd, 1) := by decide +kernel
theorem dL_law_183 : decode cL_law 183 = .ok (.iaload, 1) := by decide +kernel
theorem dL_law_184 : decode cL_law 184 = .ok (.invokevirtual 22, 3) := by decide +kernel
theorem dL_law_187 : decode cL_law 187 = .ok (.if_icmp .eq 615, 3) := by decide +kernel
theorem dL_law_190 : decode cL_law 190 = .ok (.iconst 0, 1) := by decide +kernel
theorem dL_law_191 : decode cL_law 191 = .ok (.ireturn, 1) := by decide +kernel
theorem dL_law_192 : decode cL_law 192 = .ok (.aload_n 1, 1) := by decide +kernel
theorem dL_law_193 : decode cL_law 193 = .ok (.aload_n 0, 1) := by decide +kernel
theorem dL_law_194 : decode cL_law 194 = .ok (.iload_n 3, 1) := by decide +kernel
theorem dL_law_195 : decode cL_law 195 = .ok (.iconst 1, 1) := by decide +kernel
theorem dL_law_196 : decode cL_law 196 = .ok (.iadd, 1) := by decide +kernel
theorem dL_law_197 : decode cL_law 197 = .ok (.iaload, 1) := by decide +kernel
theorem dL_law_198 : decode cL_law 198 = .ok (.aload_n 0, 1) := by decide +kernel
theorem dL_law_199 : decode cL_law 199 = .ok (.iload_n 3, 1) := by decide +kernel
theorem dL_law_200 : decode cL_law 200 = .ok (.iconst 2, 1) := by decide +kernel
theorem dL_law_201 : decode cL_law 201 = .ok (.iadd, 1) := by decide +kernel
theorem dL_law_202 : decode cL_law 202 = .ok (.iaload, 1) := by decide +kernel
theorem dL_law_203 : decode cL_law 203 = .ok (.aload_n 0, 1) := by decide +kernel
theorem dL_law_204 : decode cL_law 204 = .ok (.iload_n 3, 1) := by decide +kernel
theorem dL_law_205 : decode cL_law 205 = .ok (.iconst 3, 1) := by decide +kernel
theorem dL_law_206 : decode cL_law 206 = .ok (.iadd, 1) := by decide +kernel
theorem dL_law_207 : decode cL_law 207 = .ok (.iaload, 1) := by decide +kernel
theorem dL_law_208 : decode cL_law 208 = .ok (.invokevirtual 23, 3) := by decide +kernel
theorem dL_law_211 : decode cL_law 211 = .ok (.aload_n 2, 1) := by decide +kernel
theorem dL_law_212 : decode cL_law 212 = .ok (.aload_n 0, 1) := by decide +kernel
theorem dL_law_213 : decode cL_law 213 = .ok (.iload_n 3, 1) := by decide +kernel
theorem dL_law_214 : decode cL_law 214 = .ok (.iconst 1, 1) := by decide +kernel
theorem dL_law_215 : decode cL_law 215 = .ok (.iadd, 1) := by decide +kernel
theorem dL_law_216 : decode cL_law 216 = .ok (.iaload, 1) := by decide +kernel
theorem dL_law_217 : decode cL_law 217 = .ok (.aload_n 0, 1) := by decide +kernel
theorem dL_law_218 : decode cL_law 218 = .ok (.iload_n 3, 1) := by decide +kernel
theorem dL_law_219 : decode cL_law 219 = .ok (.iconst 2, 1) := by decide +kernel
theorem dL_law_220 : decode cL_law 220 = .ok (.iadd, 1) := by decide +kernel
theorem dL_law_221 : decode cL_law 221 = .ok (.iaload, 1) := by decide +kernel
theorem dL_law_222 : decode cL_law 222 = .ok (.aload_n 0, 1) := by decide +kernel
theorem dL_law_223 : decode cL_law 223 = .ok (.iload_n 3, 1) := by decide +kernel
theorem dL_law_224 : decode cL_law 224 = .ok (.iconst 3, 1) := by decide +kernel
theorem dL_law_225 : decode cL_law 225 = .ok (.iadd, 1) := by decide +kernel
theorem dL_law_226 : decode cL_law 226 = .ok (.iaload, 1) := by decide +kernel
theorem dL_law_227 : decode cL_law 227 = .ok (.invokevirtual 26, 3) := by decide +kernel
theorem dL_law_230 : decode cL_law 230 = .ok (.if_icmp .eq 572, 3) := by decide +kernel
theorem dL_law_233 : decode cL_law 233 = .ok (.iconst 0, 1) := by decide +kernel
theorem dL_law_234 : decode cL_law 234 = .ok (.ireturn, 1) := by decide +kernel
theorem dL_law_235 : decode cL_law 235 = .ok (.aload_n 1, 1) := by decide +kernel
theorem dL_law_236 : decode cL_law 236 = .ok (.aload_n 0, 1) := by decide +kernel
theorem dL_law_237 : decode cL_law 237 = .ok (.iload_n 3, 1) := by decide +kernel
theorem dL_law_238 : decode cL_law 238 = .ok (.iconst 1, 1) := by decide +kernel
theorem dL_law_239 : decode cL_law 239 = .ok (.iadd, 1) := by decide +kernel
theorem dL_law_240 : decode cL_law 240 = .ok (.iaload, 1) := by decide +kernel
theorem dL_law_241 : decode cL_law 241 = .ok (.aload_n 0, 1) := by decide +kernel
theorem dL_law_242 : decode cL_law 242 = .ok (.iload_n 3, 1) := by decide +kernel
theorem dL_law_243 : decode cL_law 243 = .ok (.iconst 2, 1) := by decide +kernel
theorem dL_law_244 : decode cL_law 244 = .ok (.iadd, 1) := by decide +kernel
theorem dL_law_245 : decode cL_law 245 = .ok (.iaload, 1) := by decide +kernel
theorem dL_law_246 : decode cL_law 246 = .ok (.aload_n 0, 1) := by decide +kernel
theorem dL_law_247 : decode cL_law 247 = .ok (.iload_n 3, 1) := by decide +kernel
theorem dL_law_248 : decode cL_law 248 = .ok (.iconst 3, 1) := by decide +kernel
theorem dL_law_249 : decode cL_law 249 = .ok (.iadd, 1) := by decide +kernel
theorem dL_law_250 : decode cL_law 250 = .ok (.iaload, 1) := by decide +kernel
theorem dL_law_251 : decode cL_law 251 = .ok (.invokevirtual 27, 3) := by decide +kernel
theorem dL_law_254 : decode cL_law 254 = .ok (.aload_n 2, 1) := by decide +kernel
theorem dL_law_255 : decode cL_law 255 = .ok (.aload_n 0, 1) := by decide +kernel
theorem dL_law_256 : decode cL_law 256 = .ok (.iload_n 3, 1) := by decide +kernel
theorem dL_law_257 : decode cL_law 257 = .ok (.iconst 1, 1) := by decide +kernel
theorem dL_law_258 : decode cL_law 258 = .ok (.iadd, 1) := by decide +kernel
theorem dL_law_259 : decode cL_law 259 = .ok (.iaload, 1) := by decide +kernel
theorem dL_law_260 : decode cL_law 260 = .ok (.aload_n 0, 1) := by decide +kernel
theorem dL_law_261 : decode cL_law 261 = .ok (.iload_n 3, 1) := by decide +kernel
theorem dL_law_262 : decode cL_law 262 = .ok (.iconst 2, 1) := by decide +kernel
theorem dL_law_263 : decode cL_law 263 = .ok (.iadd, 1) := by decide +kernel
theorem dL_law_264 : decode cL_law 264 = .ok (.iaload, 1) := by decide +kernel
theorem dL_law_265 : decode cL_law 265 = .ok (.aload_n 0, 1) := by decide +kernel
theorem dL_law_266 : decode cL_law 266 = .ok (.iload_n 3, 1) := by decide +kernel
theorem dL_law_267 : decode cL_law 267 = .ok (.iconst 3, 1) := by decide +kernel
theorem dL_law_268 : decode cL_law 268 = .ok (.iadd, 1) := by decide +kernel
theorem dL_law_269 : decode cL_law 269 = .ok (.iaload, 1) := by decide +kernel
theorem dL_law_270 : decode cL_law 270 = .ok (.invokevirtual 30, 3) := by decide +kernel
theorem dL_law_273 : decode cL_law 273 = .ok (.if_icmp .eq 529, 3) := by decide +kernel
theorem dL_law_276 : decode cL_law 276 = .ok (.iconst 0, 1) := by decide +kernel
theorem dL_law_277 : decode cL_law 277 = .ok (.ireturn, 1) := by decide +kernel
theorem dL_law_278 : decode cL_law 278 = .ok (.aload_n 1, 1) := by decide +kernel
theorem dL_law_279 : decode cL_law 279 = .ok (.aload_n 0, 1) := by decide +kernel
theorem dL_law_280 : decode cL_law 280 = .ok (.iload_n 3, 1) := by decide +kernel
theorem dL_law_281 : decode cL_law 281 = .ok (.iconst 1, 1) := by decide +kernel
theorem dL_law_282 : decode cL_law 282 = .ok (.iadd, 1) := by decide +kernel
theorem dL_law_283 : decode cL_law 283 = .ok (.iaload, 1) := by decide +kernel
theorem dL_law_284 : decode cL_law 284 = .ok (.aload_n 0, 1) := by decide +kernel
theorem dL_law_285 : decode cL_law 285 = .ok (.iload_n 3, 1) := by decide +kernel
theorem dL_law_286 : decode cL_law 286 = .ok (.iconst 2, 1) := by decide +kernel
theorem dL_law_287 : decode cL_law 287 = .ok (.iadd, 1) := by decide +kernel
theorem dL_law_288 : decode cL_law 288 = .ok (.iaload, 1) := by decide +kernel
theorem dL_law_289 : decode cL_law 289 = .ok (.invokevirtual 31, 3) := by decide +kernel
theorem dL_law_292 : decode cL_law 292 = .ok (.aload_n 2, 1) := by decide +kernel
theorem dL_law_293 : decode cL_law 293 = .ok (.aload_n 0, 1) := by decide +kernel
theorem dL_law_294 : decode cL_law 294 = .ok (.iload_n 3, 1) := by decide +kernel
theorem dL_law_295 : decode cL_law 295 = .ok (.iconst 1, 1) := by decide +kernel
theorem dL_law_296 : decode cL_law 296 = .ok (.iadd, 1) := by decide +kernel
theorem dL_law_297 : decode cL_law 297 = .ok (.iaload, 1) := by decide +kernel
theorem dL_law_298 : decode cL_law 298 = .ok (.aload_n 0, 1) := by decide +kernel
theorem dL_law_299 : decode cL_law 299 = .ok (.iload_n 3, 1) := by decide +kernel
theorem dL_law_300 : decode cL_law 300 = .ok (.iconst 2, 1) := by decide +kernel
theorem dL_law_301 : decode cL_law 301 = .ok (.iadd, 1) := by decide +kernel
theorem dL_law_302 : decode cL_law 302 = .ok (.iaload, 1) := by decide +kernel
theorem dL_law_303 : decode cL_law 303 = .ok (.invokevirtual 35, 3) := by decide +kernel
theorem dL_law_306 : decode cL_law 306 = .ok (.if_icmp .eq 496, 3) := by decide +kernel
theorem dL_law_309 : decode cL_law 309 = .ok (.iconst 0, 1) := by decide +kernel
theorem dL_law_310 : decode cL_law 310 = .ok (.ireturn, 1) := by decide +kernel
theorem dL_law_311 : decode cL_law 311 = .ok (.aload_n 1, 1) := by decide +kernel
theorem dL_law_312 : decode cL_law 312 = .ok (.aload_n 0, 1) := by decide +kernel
theorem dL_law_313 : decode cL_law 313 = .ok (.iload_n 3, 1) := by decide +kernel
theorem dL_law_314 : decode cL_law 314 = .ok (.iconst 1, 1) := by decide +kernel
theorem dL_law_315 : decode cL_law 315 = .ok (.iadd, 1) := by decide +kernel
theorem dL_law_316 : decode cL_law 316 = .ok (.iaload, 1) := by decide +kernel
theorem dL_law_317 : decode cL_law 317 = .ok (.aload_n 0, 1) := by decide +kernel
theorem dL_law_318 : decode cL_law 318 = .ok (.iload_n 3, 1) := by decide +kernel
theorem dL_law_319 : decode cL_law 319 = .ok (.iconst 2, 1) := by decide +kernel
theorem dL_law_320 : decode cL_law 320 = .ok (.iadd, 1) := by decide +kernel
theorem dL_law_321 : decode cL_law 321 = .ok (.iaload, 1) := by decide +kernel
theorem dL_law_322 : decode cL_law 322 = .ok (.aload_n 0, 1) := by decide +kernel
theorem dL_law_323 : decode cL_law 323 = .ok (.iload_n 3, 1) := by decide +kernel
theorem dL_law_324 : decode cL_law 324 = .ok (.iconst 3, 1) := by decide +kernel
theorem dL_law_325 : decode cL_law 325 = .ok (.iadd, 1) := by decide +kernel
theorem dL_law_326 : decode cL_law 326 = .ok (.iaload, 1) := by decide +kernel
theorem dL_law_327 : decode cL_law 327 = .ok (.aload_n 0, 1) := by decide +kernel
theorem dL_law_328 : decode cL_law 328 = .ok (.iload_n 3, 1) := by decide +kernel
theorem dL_law_329 : decode cL_law 329 = .ok (.iconst 4, 1) := by decide +kernel
theorem dL_law_330 : decode cL_law 330 = .ok (.iadd, 1) := by decide +kernel
theorem dL_law_331 : decode cL_law 331 = .ok (.iaload, 1) := by decide +kernel
theorem dL_law_332 : decode cL_law 332 = .ok (.invokevirtual 36, 3) := by decide +kernel
theorem dL_law_335 : decode cL_law 335 = .ok (.aload_n 2, 1) := by decide +kernel
theorem dL_law_336 : decode cL_law 336 = .ok (.aload_n 0, 1) := by decide +kernel
theorem dL_law_337 : decode cL_law 337 = .ok (.iload_n 3, 1) := by decide +kernel
theorem dL_law_338 : decode cL_law 338 = .ok (.iconst 1, 1) := by decide +kernel
theorem dL_law_339 : decode cL_law 339 = .ok (.iadd, 1) := by decide +kernel
theorem dL_law_340 : decode cL_law 340 = .ok (.iaload, 1) := by decide +kernel
theorem dL_law_341 : decode cL_law 341 = .ok (.aload_n 0, 1) := by decide +kernel
theorem dL_law_342 : decode cL_law 342 = .ok (.iload_n 3, 1) := by decide +kernel
theorem dL_law_343 : decode cL_law 343 = .ok (.iconst 2, 1) := by decide +kernel
theorem dL_law_344 : decode cL_law 344 = .ok (.iadd, 1) := by decide +kernel
theorem dL_law_345 : decode cL_law 345 = .ok (.iaload, 1) := by decide +kernel
theorem dL_law_346 : decode cL_law 346 = .ok (.aload_n 0, 1) := by decide +kernel
theorem dL_law_347 : decode cL_law 347 = .ok (.iload_n 3, 1) := by decide +kernel
theorem dL_law_348 : decode cL_law 348 = .ok (.iconst 3, 1) := by decide +kernel
theorem dL_law_349 : decode cL_law 349 = .ok (.iadd, 1) := by decide +kernel
theorem dL_law_350 : decode cL_law 350 = .ok (.iaload, 1) := by decide +kernel
theorem dL_law_351 : decode cL_law 351 = .ok (.aload_n 0, 1) := by decide +kernel
theorem dL_law_352 : decode cL_law 352 = .ok (.iload_n 3, 1) := by decide +kernel
theorem dL_law_353 : decode cL_law 353 = .ok (.iconst 4, 1) := by decide +kernel
theorem dL_law_354 : decode cL_law 354 = .ok (.iadd, 1) := by decide +kernel
theorem dL_law_355 : decode cL_law 355 = .ok (.iaload, 1) := by decide +kernel
theorem dL_law_356 : decode cL_law 356 = .ok (.invokevirtual 40, 3) := by decide +kernel
theorem dL_law_359 : decode cL_law 359 = .ok (.if_icmp .eq 443, 3) := by decide +kernel
theorem dL_law_362 : decode cL_law 362 = .ok (.iconst 0, 1) := by decide +kernel
theorem dL_law_363 : decode cL_law 363 = .ok (.ireturn, 1) := by decide +kernel
theorem dL_law_364 : decode cL_law 364 = .ok (.aload_n 1, 1) := by decide +kernel
theorem dL_law_365 : decode cL_law 365 = .ok (.aload_n 0, 1) := by decide +kernel
theorem dL_law_366 : decode cL_law 366 = .ok (.iload_n 3, 1) := by decide +kernel
theorem dL_law_367 : decode cL_law 367 = .ok (.iconst 1, 1) := by decide +kernel
theorem dL_law_368 : decode cL_law 368 = .ok (.iadd, 1) := by decide +kernel
theorem dL_law_369 : decode cL_law 369 = .ok (.iaload, 1) := by decide +kernel
theorem dL_law_370 : decode cL_law 370 = .ok (.invokevirtual 41, 3) := by decide +kernel
theorem dL_law_373 : decode cL_law 373 = .ok (.aload_n 2, 1) := by decide +kernel
theorem dL_law_374 : decode cL_law 374 = .ok (.aload_n 0, 1) := by decide +kernel
theorem dL_law_375 : decode cL_law 375 = .ok (.iload_n 3, 1) := by decide +kernel
theorem dL_law_376 : decode cL_law 376 = .ok (.iconst 1, 1) := by decide +kernel
theorem dL_law_377 : decode cL_law 377 = .ok (.iadd, 1) := by decide +kernel
theorem dL_law_378 : decode cL_law 378 = .ok (.iaload, 1) := by decide +kernel
theorem dL_law_379 : decode cL_law 379 = .ok (.invokevirtual 45, 3) := by decide +kernel
theorem dL_law_382 : decode cL_law 382 = .ok (.if_icmp .eq 420, 3) := by decide +kernel
theorem dL_law_385 : decode cL_law 385 = .ok (.iconst 0, 1) := by decide +kernel
theorem dL_law_386 : decode cL_law 386 = .ok (.ireturn, 1) := by decide +kernel
theorem dL_law_387 : decode cL_law 387 = .ok (.aload_n 1, 1) := by decide +kernel
theorem dL_law_388 : decode cL_law 388 = .ok (.aload_n 0, 1) := by decide +kernel
theorem dL_law_389 : decode cL_law 389 = .ok (.iload_n 3, 1) := by decide +kernel
theorem dL_law_390 : decode cL_law 390 = .ok (.iconst 1, 1) := by decide +kernel
theorem dL_law_391 : decode cL_law 391 = .ok (.iadd, 1) := by decide +kernel
theorem dL_law_392 : decode cL_law 392 = .ok (.iaload, 1) := by decide +kernel
theorem dL_law_393 : decode cL_law 393 = .ok (.aload_n 0, 1) := by decide +kernel
theorem dL_law_394 : decode cL_law 394 = .ok (.iload_n 3, 1) := by decide +kernel
theorem dL_law_395 : decode cL_law 395 = .ok (.iconst 2, 1) := by decide +kernel
theorem dL_law_396 : decode cL_law 396 = .ok (.iadd, 1) := by decide +kernel
theorem dL_law_397 : decode cL_law 397 = .ok (.iaload, 1) := by decide +kernel
theorem dL_law_398 : decode cL_law 398 = .ok (.invokevirtual 46, 3) := by decide +kernel
theorem dL_law_401 : decode cL_law 401 = .ok (.aload_n 2, 1) := by decide +kernel
theorem dL_law_402 : decode cL_law 402 = .ok (.aload_n 0, 1) := by decide +kernel
theorem dL_law_403 : decode cL_law 403 = .ok (.iload_n 3, 1) := by decide +kernel
theorem dL_law_404 : decode cL_law 404 = .ok (.iconst 1, 1) := by decide +kernel
theorem dL_law_405 : decode cL_law 405 = .ok (.iadd, 1) := by decide +kernel
theorem dL_law_406 : decode cL_law 406 = .ok (.iaload, 1) := by decide +kernel
theorem dL_law_407 : decode cL_law 407 = .ok (.aload_n 0, 1) := by decide +kernel
theorem dL_law_408 : decode cL_law 408 = .ok (.iload_n 3, 1) := by decide +kernel
theorem dL_law_409 : decode cL_law 409 = .ok (.iconst 2, 1) := by decide +kernel
theorem dL_law_410 : decode cL_law 410 = .ok (.iadd, 1) := by decide +kernel
theorem dL_law_411 : decode cL_law 411 = .ok (.iaload, 1) := by decide +kernel
theorem dL_law_412 : decode cL_law 412 = .ok (.invokevirtual 49, 3) := by decide +kernel
theorem dL_law_415 : decode cL_law 415 = .ok (.if_icmp .eq 387, 3) := by decide +kernel
theorem dL_law_418 : decode cL_law 418 = .ok (.iconst 0, 1) := by decide +kernel
theorem dL_law_419 : decode cL_law 419 = .ok (.ireturn, 1) := by decide +kernel
theorem dL_law_420 : decode cL_law 420 = .ok (.aload_n 1, 1) := by decide +kernel
theorem dL_law_421 : decode cL_law 421 = .ok (.invokevirtual 50, 3) := by decide +kernel
theorem dL_law_424 : decode cL_law 424 = .ok (.aload_n 2, 1) := by decide +kernel
theorem dL_law_425 : decode cL_law 425 = .ok (.invokevirtual 53, 3) := by decide +kernel
theorem dL_law_428 : decode cL_law 428 = .ok (.if_icmp .eq 374, 3) := by decide +kernel
theorem dL_law_431 : decode cL_law 431 = .ok (.iconst 0, 1) := by decide +kernel
theorem dL_law_432 : decode cL_law 432 = .ok (.ireturn, 1) := by decide +kernel
theorem dL_law_433 : decode cL_law 433 = .ok (.aload_n 1, 1) := by decide +kernel
theorem dL_law_434 : decode cL_law 434 = .ok (.aload_n 0, 1) := by decide +kernel
theorem dL_law_435 : decode cL_law 435 = .ok (.iload_n 3, 1) := by decide +kernel
theorem dL_law_436 : decode cL_law 436 = .ok (.iconst 1, 1) := by decide +kernel
theorem dL_law_437 : decode cL_law 437 = .ok (.iadd, 1) := by decide +kernel
theorem dL_law_438 : decode cL_law 438 = .ok (.iaload, 1) := by decide +kernel
theorem dL_law_439 : decode cL_law 439 = .ok (.invokevirtual 54, 3) := by decide +kernel
theorem dL_law_442 : decode cL_law 442 = .ok (.aload_n 2, 1) := by decide +kernel
theorem dL_law_443 : decode cL_law 443 = .ok (.aload_n 0, 1) := by decide +kernel
theorem dL_law_444 : decode cL_law 444 = .ok (.iload_n 3, 1) := by decide +kernel
theorem dL_law_445 : decode cL_law 445 = .ok (.iconst 1, 1) := by decide +kernel
theorem dL_law_446 : decode cL_law 446 = .ok (.iadd, 1) := by decide +kernel
theorem dL_law_447 : decode cL_law 447 = .ok (.iaload, 1) := by decide +kernel
theorem dL_law_448 : decode cL_law 448 = .ok (.invokevirtual 57, 3) := by decide +kernel
theorem dL_law_451 : decode cL_law 451 = .ok (.if_icmp .eq 351, 3) := by decide +kernel
theorem dL_law_454 : decode cL_law 454 = .ok (.iconst 0, 1) := by decide +kernel
theorem dL_law_455 : decode cL_law 455 = .ok (.ireturn, 1) := by decide +kernel
theorem dL_law_456 : decode cL_law 456 = .ok (.aload_n 1, 1) := by decide +kernel
theorem dL_law_457 : decode cL_law 457 = .ok (.invokevirtual 58, 3) := by decide +kernel
theorem dL_law_460 : decode cL_law 460 = .ok (.aload_n 2, 1) := by decide +kernel
theorem dL_law_461 : decode cL_law 461 = .ok (.invokevirtual 61, 3) := by decide +kernel
theorem dL_law_464 : decode cL_law 464 = .ok (.if_icmp .eq 338, 3) := by decide +kernel
theorem dL_law_467 : decode cL_law 467 = .ok (.iconst 0, 1) := by decide +kernel
theorem dL_law_468 : decode cL_law 468 = .ok (.ireturn, 1) := by decide +kernel
theorem dL_law_469 : decode cL_law 469 = .ok (.aload_n 1, 1) := by decide +kernel
theorem dL_law_470 : decode cL_law 470 = .ok (.aload_n 0, 1) := by decide +kernel
theorem dL_law_471 : decode cL_law 471 = .ok (.iload_n 3, 1) := by decide +kernel
theorem dL_law_472 : decode cL_law 472 = .ok (.iconst 1, 1) := by decide +kernel
theorem dL_law_473 : decode cL_law 473 = .ok (.iadd, 1) := by decide +kernel
theorem dL_law_474 : decode cL_law 474 = .ok (.iaload, 1) := by decide +kernel
theorem dL_law_475 : decode cL_law 475 = .ok (.invokevirtual 62, 3) := by decide +kernel
theorem dL_law_478 : decode cL_law 478 = .ok (.aload_n 2, 1) := by decide +kernel
theorem dL_law_479 : decode cL_law 479 = .ok (.aload_n 0, 1) := by decide +kernel
theorem dL_law_480 : decode cL_law 480 = .ok (.iload_n 3, 1) := by decide +kernel
theorem dL_law_481 : decode cL_law 481 = .ok (.iconst 1, 1) := by decide +kernel
theorem dL_law_482 : decode cL_law 482 = .ok (.iadd, 1) := by decide +kernel
theorem dL_law_483 : decode cL_law 483 = .ok (.iaload, 1) := by decide +kernel
theorem dL_law_484 : decode cL_law 484 = .ok (.invokevirtual 65, 3) := by decide +kernel
theorem dL_law_487 : decode cL_law 487 = .ok (.if_icmp .eq 315, 3) := by decide +kernel
theorem dL_law_490 : decode cL_law 490 = .ok (.iconst 0, 1) := by decide +kernel
theorem dL_law_491 : decode cL_law 491 = .ok (.ireturn, 1) := by decide +kernel
theorem dL_law_492 : decode cL_law 492 = .ok (.aload_n 1, 1) := by decide +kernel
theorem dL_law_493 : decode cL_law 493 = .ok (.aload_n 0, 1) := by decide +kernel
theorem dL_law_494 : decode cL_law 494 = .ok (.iload_n 3, 1) := by decide +kernel
theorem dL_law_495 : decode cL_law 495 = .ok (.iconst 1, 1) := by decide +kernel
theorem dL_law_496 : decode cL_law 496 = .ok (.iadd, 1) := by decide +kernel
theorem dL_law_497 : decode cL_law 497 = .ok (.iaload, 1) := by decide +kernel
theorem dL_law_498 : decode cL_law 498 = .ok (.invokevirtual 66, 3) := by decide +kernel
theorem dL_law_501 : decode cL_law 501 = .ok (.aload_n 2, 1) := by decide +kernel
theorem dL_law_502 : decode cL_law 502 = .ok (.aload_n 0, 1) := by decide +kernel
theorem dL_law_503 : decode cL_law 503 = .ok (.iload_n 3, 1) := by decide +kernel
theorem dL_law_504 : decode cL_law 504 = .ok (.iconst 1, 1) := by decide +kernel
theorem dL_law_505 : decode cL_law 505 = .ok (.iadd, 1) := by decide +kernel
theorem dL_law_506 : decode cL_law 506 = .ok (.iaload, 1) := by decide +kernel
theorem dL_law_507 : decode cL_law 507 = .ok (.invokevirtual 69, 3) := by decide +kernel
theorem dL_law_510 : decode cL_law 510 = .ok (.if_icmp .eq 292, 3) := by decide +kernel
theorem dL_law_513 : decode cL_law 513 = .ok (.iconst 0, 1) := by decide +kernel
theorem dL_law_514 : decode cL_law 514 = .ok (.ireturn, 1) := by decide +kernel
theorem dL_law_515 : decode cL_law 515 = .ok (.aload_n 1, 1) := by decide +kernel
theorem dL_law_516 : decode cL_law 516 = .ok (.aload_n 0, 1) := by decide +kernel
theorem dL_law_517 : decode cL_law 517 = .ok (.iload_n 3, 1) := by decide +kernel
theorem dL_law_518 : decode cL_law 518 = .ok (.iconst 1, 1) := by decide +kernel
theorem dL_law_519 : decode cL_law 519 = .ok (.iadd, 1) := by decide +kernel
theorem dL_law_520 : decode cL_law 520 = .ok (.iaload, 1) := by decide +kernel
theorem dL_law_521 : decode cL_law 521 = .ok (.invokevirtual 70, 3) := by decide +kernel
theorem dL_law_524 : decode cL_law 524 = .ok (.aload_n 2, 1) := by decide +kernel
theorem dL_law_525 : decode cL_law 525 = .ok (.aload_n 0, 1) := by decide +kernel
theorem dL_law_526 : decode cL_law 526 = .ok (.iload_n 3, 1) := by decide +kernel
theorem dL_law_527 : decode cL_law 527 = .ok (.iconst 1, 1) := by decide +kernel
theorem dL_law_528 : decode cL_law 528 = .ok (.iadd, 1) := by decide +kernel
theorem dL_law_529 : decode cL_law 529 = .ok (.iaload, 1) := by decide +kernel
theorem dL_law_530 : decode cL_law 530 = .ok (.invokevirtual 73, 3) := by decide +kernel
theorem dL_law_533 : decode cL_law 533 = .ok (.if_icmp .eq 269, 3) := by decide +kernel
theorem dL_law_536 : decode cL_law 536 = .ok (.iconst 0, 1) := by decide +kernel
theorem dL_law_537 : decode cL_law 537 = .ok (.ireturn, 1) := by decide +kernel
theorem dL_law_538 : decode cL_law 538 = .ok (.aload_n 1, 1) := by decide +kernel
theorem dL_law_539 : decode cL_law 539 = .ok (.aload_n 0, 1) := by decide +kernel
theorem dL_law_540 : decode cL_law 540 = .ok (.iload_n 3, 1) := by decide +kernel
theorem dL_law_541 : decode cL_law 541 = .ok (.iconst 1, 1) := by decide +kernel
theorem dL_law_542 : decode cL_law 542 = .ok (.iadd, 1) := by decide +kernel
theorem dL_law_543 : decode cL_law 543 = .ok (.iaload, 1) := by decide +kernel
theorem dL_law_544 : decode cL_law 544 = .ok (.aload_n 0, 1) := by decide +kernel
theorem dL_law_545 : decode cL_law 545 = .ok (.iload_n 3, 1) := by decide +kernel
theorem dL_law_546 : decode cL_law 546 = .ok (.iconst 2, 1) := by decide +kernel
theorem dL_law_547 : decode cL_law 547 = .ok (.iadd, 1) := by decide +kernel
theorem dL_law_548 : decode cL_law 548 = .ok (.iaload, 1) := by decide +kernel
theorem dL_law_549 : decode cL_law 549 = .ok (.invokevirtual 74, 3) := by decide +kernel
theorem dL_law_552 : decode cL_law 552 = .ok (.aload_n 2, 1) := by decide +kernel
theorem dL_law_553 : decode cL_law 553 = .ok (.aload_n 0, 1) := by decide +kernel
theorem dL_law_554 : decode cL_law 554 = .ok (.iload_n 3, 1) := by decide +kernel
theorem dL_law_555 : decode cL_law 555 = .ok (.iconst 1, 1) := by decide +kernel
theorem dL_law_556 : decode cL_law 556 = .ok (.iadd, 1) := by decide +kernel
theorem dL_law_557 : decode cL_law 557 = .ok (.iaload, 1) := by decide +kernel
theorem dL_law_558 : decode cL_law 558 = .ok (.aload_n 0, 1) := by decide +kernel
theorem dL_law_559 : decode cL_law 559 = .ok (.iload_n 3, 1) := by decide +kernel
theorem dL_law_560 : decode cL_law 560 = .ok (.iconst 2, 1) := by decide +kernel
theorem dL_law_561 : decode cL_law 561 = .ok (.iadd, 1) := by decide +kernel
theorem dL_law_562 : decode cL_law 562 = .ok (.iaload, 1) := by decide +kernel
theorem dL_law_563 : decode cL_law 563 = .ok (.invokevirtual 77, 3) := by decide +kernel
theorem dL_law_566 : decode cL_law 566 = .ok (.if_icmp .eq 236, 3) := by decide +kernel
theorem dL_law_569 : decode cL_law 569 = .ok (.iconst 0, 1) := by decide +kernel
theorem dL_law_570 : decode cL_law 570 = .ok (.ireturn, 1) := by decide +kernel
theorem dL_law_571 : decode cL_law 571 = .ok (.aload_n 1, 1) := by decide +kernel
theorem dL_law_572 : decode cL_law 572 = .ok (.aload_n 0, 1) := by decide +kernel
theorem dL_law_573 : decode cL_law 573 = .ok (.iload_n 3, 1) := by decide +kernel
theorem dL_law_574 : decode cL_law 574 = .ok (.iconst 1, 1) := by decide +kernel
theorem dL_law_575 : decode cL_law 575 = .ok (.iadd, 1) := by decide +kernel
theorem dL_law_576 : decode cL_law 576 = .ok (.iaload, 1) := by decide +kernel
theorem dL_law_577 : decode cL_law 577 = .ok (.aload_n 0, 1) := by decide +kernel
theorem dL_law_578 : decode cL_law 578 = .ok (.iload_n 3, 1) := by decide +kernel
theorem dL_law_579 : decode cL_law 579 = .ok (.iconst 2, 1) := by decide +kernel
theorem dL_law_580 : decode cL_law 580 = .ok (.iadd, 1) := by decide +kernel
theorem dL_law_581 : decode cL_law 581 = .ok (.iaload, 1) := by decide +kernel
theorem dL_law_582 : decode cL_law 582 = .ok (.invokevirtual 78, 3) := by decide +kernel
theorem dL_law_585 : decode cL_law 585 = .ok (.aload_n 2, 1) := by decide +kernel
theorem dL_law_586 : decode cL_law 586 = .ok (.aload_n 0, 1) := by decide +kernel
theorem dL_law_587 : decode cL_law 587 = .ok (.iload_n 3, 1) := by decide +kernel
theorem dL_law_588 : decode cL_law 588 = .ok (.iconst 1, 1) := by decide +kernel
theorem dL_law_589 : decode cL_law 589 = .ok (.iadd, 1) := by decide +kernel
theorem dL_law_590 : decode cL_law 590 = .ok (.iaload, 1) := by decide +kernel
theorem dL_law_591 : decode cL_law 591 = .ok (.aload_n 0, 1) := by decide +kernel
theorem dL_law_592 : decode cL_law 592 = .ok (.iload_n 3, 1) := by decide +kernel
theorem dL_law_593 : decode cL_law 593 = .ok (.iconst 2, 1) := by decide +kernel
theorem dL_law_594 : decode cL_law 594 = .ok (.iadd, 1) := by decide +kernel
theorem dL_law_595 : decode cL_law 595 = .ok (.iaload, 1) := by decide +kernel
theorem dL_law_596 : decode cL_law 596 = .ok (.invokevirtual 81, 3) := by decide +kernel
theorem dL_law_599 : decode cL_law 599 = .ok (.if_icmp .eq 203, 3) := by decide +kernel
theorem dL_law_602 : decode cL_law 602 = .ok (.iconst 0, 1) := by decide +kernel
theorem dL_law_603 : decode cL_law 603 = .ok (.ireturn, 1) := by decide +kernel
theorem dL_law_604 : decode cL_law 604 = .ok (.aload_n 1, 1) := by decide +kernel
theorem dL_law_605 : decode cL_law 605 = .ok (.aload_n 0, 1) := by decide +kernel
theorem dL_law_606 : decode cL_law 606 = .ok (.iload_n 3, 1) := by decide +kernel
theorem dL_law_607 : decode cL_law 607 = .ok (.iconst 1, 1) := by decide +kernel
theorem dL_law_608 : decode cL_law 608 = .ok (.iadd, 1) := by decide +kernel
theorem dL_law_609 : decode cL_law 609 = .ok (.iaload, 1) := by decide +kernel
theorem dL_law_610 : decode cL_law 610 = .ok (.aload_n 0, 1) := by decide +kernel
theorem dL_law_611 : decode cL_law 611 = .ok (.iload_n 3, 1) := by decide +kernel
theorem dL_law_612 : decode cL_law 612 = .ok (.iconst 2, 1) := by decide +kernel
theorem dL_law_613 : decode cL_law 613 = .ok (.iadd, 1) := by decide +kernel
theorem dL_law_614 : decode cL_law 614 = .ok (.iaload, 1) := by decide +kernel
theorem dL_law_615 : decode cL_law 615 = .ok (.invokevirtual 82, 3) := by decide +kernel
theorem dL_law_618 : decode cL_law 618 = .ok (.aload_n 2, 1) := by decide +kernel
theorem dL_law_619 : decode cL_law 619 = .ok (.aload_n 0, 1) := by decide +kernel
theorem dL_law_620 : decode cL_law 620 = .ok (.iload_n 3, 1) := by decide +kernel
theorem dL_law_621 : decode cL_law 621 = .ok (.iconst 1, 1) := by decide +kernel
theorem dL_law_622 : decode cL_law 622 = .ok (.iadd, 1) := by decide +kernel
theorem dL_law_623 : decode cL_law 623 = .ok (.iaload, 1) := by decide +kernel
theorem dL_law_624 : decode cL_law 624 = .ok (.aload_n 0, 1) := by decide +kernel
theorem dL_law_625 : decode cL_law 625 = .ok (.iload_n 3, 1) := by decide +kernel
theorem dL_law_626 : decode cL_law 626 = .ok (.iconst 2, 1) := by decide +kernel
theorem dL_law_627 : decode cL_law 627 = .ok (.iadd, 1) := by decide +kernel
theorem dL_law_628 : decode cL_law 628 = .ok (.iaload, 1) := by decide +kernel
theorem dL_law_629 : decode cL_law 629 = .ok (.invokevirtual 85, 3) := by decide +kernel
theorem dL_law_632 : decode cL_law 632 = .ok (.if_icmp .eq 170, 3) := by decide +kernel
theorem dL_law_635 : decode cL_law 635 = .ok (.iconst 0, 1) := by decide +kernel
theorem dL_law_636 : decode cL_law 636 = .ok (.ireturn, 1) := by decide +kernel
theorem dL_law_637 : decode cL_law 637 = .ok (.aload_n 1, 1) := by decide +kernel
theorem dL_law_638 : decode cL_law 638 = .ok (.aload_n 0, 1) := by decide +kernel
theorem dL_law_639 : decode cL_law 639 = .ok (.iload_n 3, 1) := by decide +kernel
theorem dL_law_640 : decode cL_law 640 = .ok (.iconst 1, 1) := by decide +kernel
theorem dL_law_641 : decode cL_law 641 = .ok (.iadd, 1) := by decide +kernel
theorem dL_law_642 : decode cL_law 642 = .ok (.iaload, 1) := by decide +kernel
theorem dL_law_643 : decode cL_law 643 = .ok (.aload_n 0, 1) := by decide +kernel
theorem dL_law_644 : decode cL_law 644 = .ok (.iload_n 3, 1) := by decide +kernel
theorem dL_law_645 : decode cL_law 645 = .ok (.iconst 2, 1) := by decide +kernel
theorem dL_law_646 : decode cL_law 646 = .ok (.iadd, 1) := by decide +kernel
theorem dL_law_647 : decode cL_law 647 = .ok (.iaload, 1) := by decide +kernel
theorem dL_law_648 : decode cL_law 648 = .ok (.invokevirtual 86, 3) := by decide +kernel
theorem dL_law_651 : decode cL_law 651 = .ok (.aload_n 2, 1) := by decide +kernel
theorem dL_law_652 : decode cL_law 652 = .ok (.aload_n 0, 1) := by decide +kernel
theorem dL_law_653 : decode cL_law 653 = .ok (.iload_n 3, 1) := by decide +kernel
theorem dL_law_654 : decode cL_law 654 = .ok (.iconst 1, 1) := by decide +kernel
theorem dL_law_655 : decode cL_law 655 = .ok (.iadd, 1) := by decide +kernel
theorem dL_law_656 : decode cL_law 656 = .ok (.iaload, 1) := by decide +kernel
theorem dL_law_657 : decode cL_law 657 = .ok (.aload_n 0, 1) := by decide +kernel
theorem dL_law_658 : decode cL_law 658 = .ok (.iload_n 3, 1) := by decide +kernel
theorem dL_law_659 : decode cL_law 659 = .ok (.iconst 2, 1) := by decide +kernel
theorem dL_law_660 : decode cL_law 660 = .ok (.iadd, 1) := by decide +kernel
theorem dL_law_661 : decode cL_law 661 = .ok (.iaload, 1) := by decide +kernel
theorem dL_law_662 : decode cL_law 662 = .ok (.invokevirtual 89, 3) := by decide +kernel
theorem dL_law_665 : decode cL_law 665 = .ok (.if_icmp .eq 137, 3) := by decide +kernel
theorem dL_law_668 : decode cL_law 668 = .ok (.iconst 0, 1) := by decide +kernel
theorem dL_law_669 : decode cL_law 669 = .ok (.ireturn, 1) := by decide +kernel
theorem dL_law_670 : decode cL_law 670 = .ok (.aload_n 1, 1) := by decide +kernel
theorem dL_law_671 : decode cL_law 671 = .ok (.aload_n 0, 1) := by decide +kernel
theorem dL_law_672 : decode cL_law 672 = .ok (.iload_n 3, 1) := by decide +kernel
theorem dL_law_673 : decode cL_law 673 = .ok (.iconst 1, 1) := by decide +kernel
theorem dL_law_674 : decode cL_law 674 = .ok (.iadd, 1) := by decide +kernel
theorem dL_law_675 : decode cL_law 675 = .ok (.iaload, 1) := by decide +kernel
theorem dL_law_676 : decode cL_law 676 = .ok (.aload_n 0, 1) := by decide +kernel
theorem dL_law_677 : decode cL_law 677 = .ok (.iload_n 3, 1) := by decide +kernel
theorem dL_law_678 : decode cL_law 678 = .ok (.iconst 2, 1) := by decide +kernel
theorem dL_law_679 : decode cL_law 679 = .ok (.iadd, 1) := by decide +kernel
theorem dL_law_680 : decode cL_law 680 = .ok (.iaload, 1) := by decide +kernel
theorem dL_law_681 : decode cL_law 681 = .ok (.invokevirtual 90, 3) := by decide +kernel
theorem dL_law_684 : decode cL_law 684 = .ok (.aload_n 2, 1) := by decide +kernel
theorem dL_law_685 : decode cL_law 685 = .ok (.aload_n 0, 1) := by decide +kernel
theorem dL_law_686 : decode cL_law 686 = .ok (.iload_n 3, 1) := by decide +kernel
theorem dL_law_687 : decode cL_law 687 = .ok (.iconst 1, 1) := by decide +kernel
theorem dL_law_688 : decode cL_law 688 = .ok (.iadd, 1) := by decide +kernel
theorem dL_law_689 : decode cL_law 689 = .ok (.iaload, 1) := by decide +kernel
theorem dL_law_690 : decode cL_law 690 = .ok (.aload_n 0, 1) := by decide +kernel
theorem dL_law_691 : decode cL_law 691 = .ok (.iload_n 3, 1) := by decide +kernel
theorem dL_law_692 : decode cL_law 692 = .ok (.iconst 2, 1) := by decide +kernel
theorem dL_law_693 : decode cL_law 693 = .ok (.iadd, 1) := by decide +kernel
theorem dL_law_694 : decode cL_law 694 = .ok (.iaload, 1) := by decide +kernel
theorem dL_law_695 : decode cL_law 695 = .ok (.invokevirtual 93, 3) := by decide +kernel
theorem dL_law_698 : decode cL_law 698 = .ok (.if_icmp .eq 104, 3) := by decide +kernel
theorem dL_law_701 : decode cL_law 701 = .ok (.iconst 0, 1) := by decide +kernel
theorem dL_law_702 : decode cL_law 702 = .ok (.ireturn, 1) := by decide +kernel
theorem dL_law_703 : decode cL_law 703 = .ok (.aload_n 1, 1) := by decide +kernel
theorem dL_law_704 : decode cL_law 704 = .ok (.aload_n 0, 1) := by decide +kernel
theorem dL_law_705 : decode cL_law 705 = .ok (.iload_n 3, 1) := by decide +kernel
theorem dL_law_706 : decode cL_law 706 = .ok (.iconst 1, 1) := by decide +kernel
theorem dL_law_707 : decode cL_law 707 = .ok (.iadd, 1) := by decide +kernel
theorem dL_law_708 : decode cL_law 708 = .ok (.iaload, 1) := by decide +kernel
theorem dL_law_709 : decode cL_law 709 = .ok (.aload_n 0, 1) := by decide +kernel
theorem dL_law_710 : decode cL_law 710 = .ok (.iload_n 3, 1) := by decide +kernel
theorem dL_law_711 : decode cL_law 711 = .ok (.iconst 2, 1) := by decide +kernel
theorem dL_law_712 : decode cL_law 712 = .ok (.iadd, 1) := by decide +kernel
theorem dL_law_713 : decode cL_law 713 = .ok (.iaload, 1) := by decide +kernel
theorem dL_law_714 : decode cL_law 714 = .ok (.aload_n 0, 1) := by decide +kernel
theorem dL_law_715 : decode cL_law 715 = .ok (.iload_n 3, 1) := by decide +kernel
theorem dL_law_716 : decode cL_law 716 = .ok (.iconst 3, 1) := by decide +kernel
theorem dL_law_717 : decode cL_law 717 = .ok (.iadd, 1) := by decide +kernel
theorem dL_law_718 : decode cL_law 718 = .ok (.iaload, 1) := by decide +kernel
theorem dL_law_719 : decode cL_law 719 = .ok (.aload_n 0, 1) := by decide +kernel
theorem dL_law_720 : decode cL_law 720 = .ok (.iload_n 3, 1) := by decide +kernel
theorem dL_law_721 : decode cL_law 721 = .ok (.iconst 4, 1) := by decide +kernel
theorem dL_law_722 : decode cL_law 722 = .ok (.iadd, 1) := by decide +kernel
theorem dL_law_723 : decode cL_law 723 = .ok (.iaload, 1) := by decide +kernel
theorem dL_law_724 : decode cL_law 724 = .ok (.invokevirtual 94, 3) := by decide +kernel
theorem dL_law_727 : decode cL_law 727 = .ok (.aload_n 2, 1) := by decide +kernel
theorem dL_law_728 : decode cL_law 728 = .ok (.aload_n 0, 1) := by decide +kernel
theorem dL_law_729 : decode cL_law 729 = .ok (.iload_n 3, 1) := by decide +kernel
theorem dL_law_730 : decode cL_law 730 = .ok (.iconst 1, 1) := by decide +kernel
theorem dL_law_731 : decode cL_law 731 = .ok (.iadd, 1) := by decide +kernel
theorem dL_law_732 : decode cL_law 732 = .ok (.iaload, 1) := by decide +kernel
theorem dL_law_733 : decode cL_law 733 = .ok (.aload_n 0, 1) := by decide +kernel
theorem dL_law_734 : decode cL_law 734 = .ok (.iload_n 3, 1) := by decide +kernel
theorem dL_law_735 : decode cL_law 735 = .ok (.iconst 2, 1) := by decide +kernel
theorem dL_law_736 : decode cL_law 736 = .ok (.iadd, 1) := by decide +kernel
theorem dL_law_737 : decode cL_law 737 = .ok (.iaload, 1) := by decide +kernel
theorem dL_law_738 : decode cL_law 738 = .ok (.aload_n 0, 1) := by decide +kernel
theorem dL_law_739 : decode cL_law 739 = .ok (.iload_n 3, 1) := by decide +kernel
theorem dL_law_740 : decode cL_law 740 = .ok (.iconst 3, 1) := by decide +kernel
theorem dL_law_741 : decode cL_law 741 = .ok (.iadd, 1) := by decide +kernel
theorem dL_law_742 : decode cL_law 742 = .ok (.iaload, 1) := by decide +kernel
theorem dL_law_743 : decode cL_law 743 = .ok (.aload_n 0, 1) := by decide +kernel
theorem dL_law_744 : decode cL_law 744 = .ok (.iload_n 3, 1) := by decide +kernel
theorem dL_law_745 : decode cL_law 745 = .ok (.iconst 4, 1) := by decide +kernel
theorem dL_law_746 : decode cL_law 746 = .ok (.iadd, 1) := by decide +kernel
theorem dL_law_747 : decode cL_law 747 = .ok (.iaload, 1) := by decide +kernel
theorem dL_law_748 : decode cL_law 748 = .ok (.invokevirtual 97, 3) := by decide +kernel
theorem dL_law_751 : decode cL_law 751 = .ok (.if_icmp .eq 51, 3) := by decide +kernel
theorem dL_law_754 : decode cL_law 754 = .ok (.iconst 0, 1) := by decide +kernel
theorem dL_law_755 : decode cL_law 755 = .ok (.ireturn, 1) := by decide +kernel
theorem dL_law_756 : decode cL_law 756 = .ok (.aload_n 1, 1) := by decide +kernel
theorem dL_law_757 : decode cL_law 757 = .ok (.aload_n 0, 1) := by decide +kernel
theorem dL_law_758 : decode cL_law 758 = .ok (.iload_n 3, 1) := by decide +kernel
theorem dL_law_759 : decode cL_law 759 = .ok (.iconst 1, 1) := by decide +kernel
theorem dL_law_760 : decode cL_law 760 = .ok (.iadd, 1) := by decide +kernel
theorem dL_law_761 : decode cL_law 761 = .ok (.iaload, 1) := by decide +kernel
theorem dL_law_762 : decode cL_law 762 = .ok (.invokevirtual 98, 3) := by decide +kernel
theorem dL_law_765 : decode cL_law 765 = .ok (.aload_n 2, 1) := by decide +kernel
theorem dL_law_766 : decode cL_law 766 = .ok (.aload_n 0, 1) := by decide +kernel
theorem dL_law_767 : decode cL_law 767 = .ok (.iload_n 3, 1) := by decide +kernel
theorem dL_law_768 : decode cL_law 768 = .ok (.iconst 1, 1) := by decide +kernel
theorem dL_law_769 : decode cL_law 769 = .ok (.iadd, 1) := by decide +kernel
theorem dL_law_770 : decode cL_law 770 = .ok (.iaload, 1) := by decide +kernel
theorem dL_law_771 : decode cL_law 771 = .ok (.invokevirtual 101, 3) := by decide +kernel
theorem dL_law_774 : decode cL_law 774 = .ok (.if_icmp .eq 28, 3) := by decide +kernel
theorem dL_law_777 : decode cL_law 777 = .ok (.iconst 0, 1) := by decide +kernel
theorem dL_law_778 : decode cL_law 778 = .ok (.ireturn, 1) := by decide +kernel
theorem dL_law_779 : decode cL_law 779 = .ok (.aload_n 1, 1) := by decide +kernel
theorem dL_law_780 : decode cL_law 780 = .ok (.aload_n 0, 1) := by decide +kernel
theorem dL_law_781 : decode cL_law 781 = .ok (.iload_n 3, 1) := by decide +kernel
theorem dL_law_782 : decode cL_law 782 = .ok (.iconst 1, 1) := by decide +kernel
theorem dL_law_783 : decode cL_law 783 = .ok (.iadd, 1) := by decide +kernel
theorem dL_law_784 : decode cL_law 784 = .ok (.iaload, 1) := by decide +kernel
theorem dL_law_785 : decode cL_law 785 = .ok (.invokevirtual 102, 3) := by decide +kernel
theorem dL_law_788 : decode cL_law 788 = .ok (.aload_n 2, 1) := by decide +kernel
theorem dL_law_789 : decode cL_law 789 = .ok (.aload_n 0, 1) := by decide +kernel
theorem dL_law_790 : decode cL_law 790 = .ok (.iload_n 3, 1) := by decide +kernel
theorem dL_law_791 : decode cL_law 791 = .ok (.iconst 1, 1) := by decide +kernel
theorem dL_law_792 : decode cL_law 792 = .ok (.iadd, 1) := by decide +kernel
theorem dL_law_793 : decode cL_law 793 = .ok (.iaload, 1) := by decide +kernel
theorem dL_law_794 : decode cL_law 794 = .ok (.invokevirtual 105, 3) := by decide +kernel
theorem dL_law_797 : decode cL_law 797 = .ok (.if_icmp .eq 5, 3) := by decide +kernel
theorem dL_law_800 : decode cL_law 800 = .ok (.iconst 0, 1) := by decide +kernel
theorem dL_law_801 : decode cL_law 801 = .ok (.ireturn, 1) := by decide +kernel
theorem dL_law_802 : decode cL_law 802 = .ok (.iinc 3 5, 3) := by decide +kernel
theorem dL_law_805 : decode cL_law 805 = .ok (.goto (-787), 3) := by decide +kernel
theorem dL_law_808 : decode cL_law 808 = .ok (.iconst 1, 1) := by decide +kernel
theorem dL_law_809 : decode cL_law 809 = .ok (.ireturn, 1) := by decide +kernel
end
section
/-! THE MEMORY: cells in the order in which they are made, from the address B on; a cell has a kind and a size, numbers I and cells' numbers P -/
abbrev gV : Type := Int32 ⊕ Option Nat
abbrev vi (x : Int32) : gV := .inl x
abbrev vr (a : Nat) : gV := .inr (some a)
abbrev vsc : gV := .inr none
def gv (B b : Nat) (v : gV) : Value := match v with
  | .inl x => .int x
  | .inr (some a) => .ref (B + a)
  | .inr none => .ref b
abbrev gI : Type := Nat → Nat → Int32
abbrev gP : Type := Nat → Nat → Option Nat
abbrev gM : Type := List (Nat × Nat) × gI × gP
/-- number of fields of a class (its place in vwCl), and which of them hold cells -/
def gN (ci : Nat) : Nat := match ci with
  | 0 => 2
  | 1 => 3
  | 2 => 10
  | 3 => 2
  | 4 => 5
  | _ => 17
def gR (ci k : Nat) : Bool := match ci with
  | 0 => k == 0
  | 1 => k == 0
  | 2 => k == 0 || k == 5 || k == 6
  | 3 => k == 0
  | 4 => k == 0 || k == 2 || k == 3 || k == 4
  | _ => k == 0 || k == 2 || k == 4 || k == 9
def gF (B : Nat) (I : gI) (P : gP) (ci a k : Nat) : Value := if gR ci k = true then va_rf ((P a k).map (fun x => B + x)) else .int (I a k)
/-- kinds: 0 to 5 an object of this place in vwCl; 10 ints, 11 chars, 12 rows of bits, 13 changes -/
def gE (Gc : Nat → ClassId) (B : Nat) (I : gI) (P : gP) (a : Nat) (sh : Nat × Nat) : va_E :=
  if sh.1 < 10 then .inr (sh.1, (List.range (gN sh.1)).map (gF B I P sh.1 a))
  else if sh.1 < 12 then .inl (Gc sh.1, sh.2, .inl (I a))
  else .inl (Gc sh.1, sh.2, .inr (.inr (.inr (.inr (fun j => (P a j).map (fun x => B + x))))))
def gW (Gc : Nat → ClassId) (B : Nat) (M : gM) : va_W := M.1.mapIdx fun a sh => (B + a, gE Gc B M.2.1 M.2.2 a sh)
def uI (I : gI) (a k : Nat) (x : Int32) : gI := fun c => if c = a then upd (I c) k x else I c
def uP (P : gP) (a k : Nat) (x : Option Nat) : gP := fun c => if c = a then va_up (P c) k x else P c
theorem gW_at {Gc : Nat → ClassId} {B : Nat} {M : gM} {a : Nat} {sh : Nat × Nat} (h : M.1[a]? = some sh) : (gW Gc B M)[a]? = some (B + a, gE Gc B M.2.1 M.2.2 a sh) := by
  simp [gW, List.getElem?_mapIdx, h]
theorem gW_of {Gc : Nat → ClassId} {B : Nat} {M : gM} {a : Nat} {q : Nat × va_E} (h : (gW Gc B M)[a]? = some q) : ∃ sh, M.1[a]? = some sh ∧ q = (B + a, gE Gc B M.2.1 M.2.2 a sh) := by
  simp only [gW, List.getElem?_mapIdx, Option.map_eq_some_iff] at h
  obtain ⟨sh, h1, h2⟩ := h
  exact ⟨sh, h1, h2.symm⟩
theorem gW_D {Gc : Nat → ClassId} {B : Nat} {M : gM} : va_D (fun q => B ≤ q) (gW Gc B M) := by
  refine ⟨fun i j p q hp hq h => ?_, fun k q hq => ?_⟩
  · obtain ⟨_, _, rfl⟩ := gW_of hp
    obtain ⟨_, _, rfl⟩ := gW_of hq
    have h' : B + i = B + j := h
    omega
  · obtain ⟨_, _, rfl⟩ := gW_of hq
    exact Nat.le_add_right _ _
theorem gE_uI_ne {Gc : Nat → ClassId} {B : Nat} {I : gI} {P : gP} {a c k : Nat} {x : Int32} {sh : Nat × Nat} (h : c ≠ a) : gE Gc B (uI I a k x) P c sh = gE Gc B I P c sh := by
  have e : uI I a k x c = I c := by simp [uI, h]
  have e2 : gF B (uI I a k x) P sh.1 c = gF B I P sh.1 c := by funext j; simp [gF, e]
  simp only [gE, e, e2]
theorem gE_uP_ne {Gc : Nat → ClassId} {B : Nat} {I : gI} {P : gP} {a c k : Nat} {x : Option Nat} {sh : Nat × Nat} (h : c ≠ a) : gE Gc B I (uP P a k x) c sh = gE Gc B I P c sh := by
  have e : uP P a k x c = P c := by simp [uP, h]
  have e2 : gF B I (uP P a k x) sh.1 c = gF B I P sh.1 c := by funext j; simp [gF, e]
  simp only [gE, e, e2]
theorem gW_set {Gc : Nat → ClassId} {B : Nat} {S : List (Nat × Nat)} {I I' : gI} {P P' : gP} {a : Nat} {sh : Nat × Nat} (h : S[a]? = some sh) (hne : ∀ c s, c ≠ a → gE Gc B I' P' c s = gE Gc B I P c s) : gW Gc B (S, I', P') = (gW Gc B (S, I, P)).set a (B + a, gE Gc B I' P' a sh) := by
  apply List.ext_getElem?
  intro i
  by_cases hi : i = a
  · subst hi
    have hlt : i < (gW Gc B (S, I, P)).length := by
      simp only [gW, List.length_mapIdx]
      exact (List.getElem?_eq_some_iff.mp h).1
    rw [List.getElem?_set_self hlt]
    exact gW_at h
  · rw [List.getElem?_set_ne (Ne.symm hi)]
    simp only [gW, List.getElem?_mapIdx]
    cases S[i]? with
    | none => rfl
    | some s => simp [hne i s hi]
theorem gW_uI {Gc : Nat → ClassId} {B : Nat} {S : List (Nat × Nat)} {I : gI} {P : gP} {a k : Nat} {x : Int32} {sh : Nat × Nat} (h : S[a]? = some sh) : gW Gc B (S, uI I a k x, P) = (gW Gc B (S, I, P)).set a (B + a, gE Gc B (uI I a k x) P a sh) := gW_set h fun _ _ hc => gE_uI_ne hc
theorem gW_uP {Gc : Nat → ClassId} {B : Nat} {S : List (Nat × Nat)} {I : gI} {P : gP} {a k : Nat} {x : Option Nat} {sh : Nat × Nat} (h : S[a]? = some sh) : gW Gc B (S, I, uP P a k x) = (gW Gc B (S, I, P)).set a (B + a, gE Gc B I (uP P a k x) a sh) := gW_set h fun _ _ hc => gE_uP_ne hc
theorem gE_obj {Gc : Nat → ClassId} {B : Nat} {I : gI} {P : gP} {a ci n : Nat} (h : ci < 10) : gE Gc B I P a (ci, n) = .inr (ci, (List.range (gN ci)).map (gF B I P ci a)) := by simp [gE, h]
theorem gE_int {Gc : Nat → ClassId} {B : Nat} {I : gI} {P : gP} {a kd n : Nat} (h1 : ¬ kd < 10) (h2 : kd < 12) : gE Gc B I P a (kd, n) = .inl (Gc kd, n, .inl (I a)) := by simp [gE, h1, h2]
theorem gE_ref {Gc : Nat → ClassId} {B : Nat} {I : gI} {P : gP} {a kd n : Nat} (h2 : ¬ kd < 12) : gE Gc B I P a (kd, n) = .inl (Gc kd, n, .inr (.inr (.inr (.inr (fun j => (P a j).map (fun x => B + x)))))) := by
  have h1 : ¬ kd < 10 := by omega
  simp [gE, h1, h2]
theorem gFs_at {B : Nat} {I : gI} {P : gP} {ci a k : Nat} (h : k < gN ci) : ((List.range (gN ci)).map (gF B I P ci a))[k]? = some (gF B I P ci a k) := by
  simp [h]
theorem gFs_uI {B : Nat} {I : gI} {P : gP} {ci a k : Nat} {x : Int32} (h : k < gN ci) (hr : gR ci k = false) : (List.range (gN ci)).map (gF B (uI I a k x) P ci a) = ((List.range (gN ci)).map (gF B I P ci a)).set k (.int x) := by
  apply List.ext_getElem?
  intro i
  by_cases hi : i = k
  · subst hi
    rw [List.getElem?_set_self (by simpa using h), gFs_at h]
    simp [gF, hr, uI, upd]
  · rw [List.getElem?_set_ne (Ne.symm hi)]
    simp only [List.getElem?_map]
    cases hh : (List.range (gN ci))[i]? with
    | none => rfl
    | some j =>
      by_cases hj : j = k
      · exfalso
        obtain ⟨_, h3⟩ := List.getElem?_eq_some_iff.mp hh
        simp at h3
        omega
      · simp [gF, uI, upd, hj]
theorem gFs_uP {B : Nat} {I : gI} {P : gP} {ci a k : Nat} {x : Option Nat} (h : k < gN ci) (hr : gR ci k = true) : (List.range (gN ci)).map (gF B I (uP P a k x) ci a) = ((List.range (gN ci)).map (gF B I P ci a)).set k (va_rf (x.map (fun y => B + y))) := by
  apply List.ext_getElem?
  intro i
  by_cases hi : i = k
  · subst hi
    rw [List.getElem?_set_self (by simpa using h), gFs_at h]
    simp [gF, hr, uP, va_up]
  · rw [List.getElem?_set_ne (Ne.symm hi)]
    simp only [List.getElem?_map]
    cases hh : (List.range (gN ci))[i]? with
    | none => rfl
    | some j =>
      by_cases hj : j = k
      · exfalso
        obtain ⟨_, h3⟩ := List.getElem?_eq_some_iff.mp hh
        simp at h3
        omega
      · simp [gF, uP, va_up, hj]
/-! THE WORDS that every method may use, and what the tables say besides -/
def gT : List Cond := lw_tbl.filter goodWord
theorem gT_in {w : Cond} (i : Nat) (h : lw_tbl[i]? = some w) (hg : goodWord w = true) : w ∈ gT := List.mem_filter.mpr ⟨List.mem_of_getElem? h, hg⟩
theorem gT_good {ws : List Cond} (h : ∀ w ∈ ws, w ∈ gT) : GoodIn gT ws := fun w hw => ⟨h w hw, good_of_word (List.mem_filter.mp (h w hw)).2⟩
def gTy (Gc : Nat → ClassId) : List (ClassId × FieldType) := [(Gc 10, .int), (Gc 11, .char), (Gc 12, .object RX0), (Gc 13, .object RX1)]
def gKK (D : va_G) (Gc : Nat → ClassId) (U : State) : Prop := va_K D vwCl (gTy Gc) U ∧ va_AO RX0 U ∧ va_AO RX1 U ∧ va_Nw (.methodLinkNest RX5 29 yX0_init RX5) U ∧ va_Nw (.methodLinkNest RX1 9 yX0_init RX5) U ∧ va_Nw (.methodLinkNest RX2 24 yX0_init RX5) U ∧ va_Nw (.methodLinkNest RX3 17 yX1_init RX5) U
theorem gKK.moved {D : va_G} {Gc : Nat → ClassId} {s U : State} (hW : s.WarmedH U.vm) (h : gKK D Gc s) : gKK D Gc U :=
  ⟨va_K.moved hW.alike h.1, va_AO.moved hW.alike h.2.1, va_AO.moved hW.alike h.2.2.1, va_Nw.warmM hW h.2.2.2.1, va_Nw.warmM hW h.2.2.2.2.1, va_Nw.warmM hW h.2.2.2.2.2.1, va_Nw.warmM hW h.2.2.2.2.2.2⟩
theorem gKK.same {D : va_G} {Gc : Nat → ClassId} {s U : State} (e : s.vm = U.vm) (h : gKK D Gc s) : gKK D Gc U :=
  ⟨va_K.moved (by rw [e]; exact Vm.Alike.refl _) h.1, va_AO.moved (by rw [e]; exact Vm.Alike.refl _) h.2.1, va_AO.moved (by rw [e]; exact Vm.Alike.refl _) h.2.2.1, va_Nw.same rfl e h.2.2.2.1, va_Nw.same rfl e h.2.2.2.2.1, va_Nw.same rfl e h.2.2.2.2.2.1, va_Nw.same rfl e h.2.2.2.2.2.2⟩
/-! THE JUDGEMENT -/
abbrev gEnv : Type := Launch × va_G × (Nat → ClassId) × Nat × Nat
abbrev gCtx : Type := Program × Env × Room × State × MethodId × Array Value × List Frame × Method × Code × (State → Prop)
def gLk (B b : Nat) (la : Array Slot) (ls : List (Option gV)) : Prop := la.size = ls.length ∧ lv_wf la ∧ ∀ (i : Nat) (v : gV), ls[i]? = some (some v) → la[i]? = some (Slot.val (gv B b v))
def G (E : gEnv) (κ : gCtx) (cells slots pc : Nat) (ls : List (Option gV)) (st : List gV) (M : gM) : Prop := match E, κ with
  | (l, D, Gc, B, b), (p, e, R, s, m, args, below, meth, c, Q) =>
    ∀ (H : Heap) (locs : List Loc) (la : Array Slot), gLk B b la ls → va_P D vwCl (gW Gc B M) H → va_S (fun q => B ≤ q) s.heap H locs → W p l e R s m args below meth c H locs cells slots Q (F0 m pc la (st.map (gv B b)))
def Cx (E : gEnv) (κ : gCtx) (cc : ByteArray) (nL : Nat) (own : String) (ret : Option FieldType) (d cz sz : Nat) : Prop := match E, κ with
  | (_, D, Gc, B, _), (p, _, R, s, m, args, _, meth, c, _) =>
    p.tables.exec = Jvm.exec ∧ c.code = cc ∧ c.maxLocals = nL ∧ s.vm.findClass own = some m.cls ∧ (∀ w ∈ gT, w.before args s = true) ∧ gKK D Gc s ∧ B ≤ s.heap.size ∧ meth.locks = false ∧ meth.sig.returnType = ret ∧ d ≤ R.frames ∧ 40 * d ≤ R.locals ∧ cz ≤ R.cells ∧ sz ≤ R.slots
def gQo (D : va_G) (Gc : Nat → ClassId) (B b : Nat) (rv : Option gV) (M' : gM) : Array Value → State → Outcome → State → Prop := fun _ st oc t => oc = .returned (rv.map (gv B b)) ∧ va_P D vwCl (gW Gc B M') t.heap ∧ va_F (fun q => B ≤ q) st t
def gPr (D : va_G) (Gc : Nat → ClassId) (B : Nat) (M : gM) (U : State) : Prop := va_P D vwCl (gW Gc B M) U.heap ∧ gKK D Gc U ∧ B ≤ U.heap.size
def gRt (E : gEnv) (κ : gCtx) (mc ms : Nat) (rv : Option gV) (M' : gM) : Prop := match E, κ with
  | (_, D, Gc, B, b), (_, _, _, s, _, args, below, _, _, Q) => Q = MQ below (gQo D Gc B b rv M') args s mc ms (fun q => B ≤ q)
def gws (y : MethodName) (b : ByteArray) (nL : Nat) (ret : Option FieldType) : List Cond := .code y b nL ret :: gT
def Ctr (E : gEnv) (y : MethodName) (bc : ByteArray) (nL : Nat) (ret : Option FieldType) (d mc ms : Nat) (av : List gV) (M : gM) (rv : Option gV) (M' : gM) : Prop := match E with
  | (l, D, Gc, B, b) => Met l y (gws y bc nL ret) { frames := d, cells := mc, slots := ms, locals := 40 * d } (va_Pc (av.map (gv B b)) (gPr D Gc B M)) (gQo D Gc B b rv M') mc ms (fun q => B ≤ q)
def gent (nL : Nat) (av : List gV) : List (Option gV) := av.map some ++ List.replicate (nL - av.length) none
theorem gv_cat (B b : Nat) (v : gV) : (gv B b v).category = 1 := by
  rcases v with x | (_ | a) <;> rfl
theorem lg_sl_gv (B b : Nat) : ∀ av : List gV, lg_sl (av.map (gv B b)) = av.map (fun v => Slot.val (gv B b v))
  | [] => rfl
  | v :: r => by
    have ih := lg_sl_gv B b r
    unfold lg_sl at ih ⊢
    rw [List.map_cons, List.flatMap_cons, ih]
    simp [gv_cat]
theorem gLk_entry {B b nL : Nat} {av : List gV} (h : av.length ≤ nL) : gLk B b ((lg_sl (av.map (gv B b)) ++ List.replicate (nL - (lg_sl (av.map (gv B b))).length) Slot.unset).toArray) (gent nL av) := by
  have hlen : (lg_sl (av.map (gv B b))).length = av.length := by rw [lg_sl_gv]; simp
  have h1 := lv_entry (av.map (gv B b)) (n := nL) (by rw [hlen]; exact h)
  refine ⟨by rw [h1.1]; simp [gent]; omega, h1.2.1, fun i v hv => ?_⟩
  simp only [gent] at hv
  simp only [lg_sl_gv]
  by_cases hi : i < av.length
  · rw [List.getElem?_append_left (by simpa using hi)] at hv
    simp only [List.getElem?_map, Option.map_eq_some_iff] at hv
    obtain ⟨w, hw, he⟩ := hv
    cases he
    obtain ⟨_, e⟩ := List.getElem?_eq_some_iff.mp hw
    simp [List.getElem?_append_left, hi, e]
  · rw [List.getElem?_append_right (by simpa using hi)] at hv
    simp [List.getElem?_replicate] at hv
theorem Ctr.mk {E : gEnv} {y : MethodName} {bc : ByteArray} {nL d mc ms : Nat} {ret : Option FieldType} {av : List gV} {M M' : gM} {rv : Option gV} (hy : plainFor y = true) (hn : av.length ≤ nL)
    (h : ∀ κ : gCtx, Cx E κ bc nL y.cls ret d mc ms → gRt E κ mc ms rv M' → κ.2.2.2.2.2.2.2.1.name = y.name → G E κ 0 0 0 (gent nL av) [] M) : Ctr E y bc nL ret d mc ms av M rv M' := by
  obtain ⟨l, D, Gc, B, b⟩ := E
  refine va_MetF (cc := bc) (maxL := nL) (ret := ret) hy rfl ?_
  intro p e s m args below meth c s₁ Bd hml hv
  obtain ⟨rfl, hP, hKK, hB⟩ := hv
  have hts : ∀ w ∈ gT, w.before (av.map (gv B b)).toArray s = true := fun w hw => atoms_spec (ws := gws y bc nL ret) Bd.pre w (List.mem_cons_of_mem _ hw)
  have hown : s.vm.findClass y.cls = some m.cls := findClass_of_methodNamed Bd.named
  have hnm : meth.name = y.name := (name_of_methodNamed Bd.named Bd.method).1
  have h1 := h (p, e, (headSpec (gws y bc nL ret) { frames := d, cells := mc, slots := ms, locals := 40 * d }).room, s, m, (av.map (gv B b)).toArray, below, meth, c, MQ below (gQo D Gc B b rv M') (av.map (gv B b)).toArray s mc ms (fun q => B ≤ q))
    ⟨Bd.exec, Bd.bytes, hml, hown, hts, hKK, hB, Bd.notSynchronized, Bd.returns, Nat.le_refl _, Nat.le_refl _, Nat.le_refl _, Nat.le_refl _⟩ rfl hnm
  rw [lg_entry_eq]
  exact h1 s.heap [] _ (gLk_entry hn) hP va_S.rf
end
section
/-! THE RULES: one instruction each -/
section GRules
variable {E : gEnv} {κ : gCtx} {cc : ByteArray} {nL d cz sz cells slots pc : Nat} {own : String} {ret : Option FieldType} {ls : List (Option gV)} {st : List gV} {M : gM}
theorem G_iconst (X : Cx E κ cc nL own ret d cz sz) {n : Int} {v : Int32} (hd : decode cc pc = .ok (.iconst n, 1)) (hv : Int32.ofInt n = v) (k : G E κ cells slots (pc + 1) ls (vi v :: st) M) : G E κ cells slots pc ls st M := by
  obtain ⟨l, D, Gc, B, b⟩ := E
  obtain ⟨p, e, R, s, m, args, below, meth, c, Q⟩ := κ
  obtain ⟨hx, hb, -⟩ := X
  exact fun H locs la hl hP hS => lv_iconst hx hb hd hv (k H locs la hl hP hS)
theorem G_bipush (X : Cx E κ cc nL own ret d cz sz) {n : Int} {v : Int32} (hd : decode cc pc = .ok (.bipush n, 2)) (hv : (Int8.ofInt n).toInt32 = v) (k : G E κ cells slots (pc + 2) ls (vi v :: st) M) : G E κ cells slots pc ls st M := by
  obtain ⟨l, D, Gc, B, b⟩ := E
  obtain ⟨p, e, R, s, m, args, below, meth, c, Q⟩ := κ
  obtain ⟨hx, hb, -⟩ := X
  exact fun H locs la hl hP hS => lv_bipush hx hb hd hv (k H locs la hl hP hS)
theorem G_sipush (X : Cx E κ cc nL own ret d cz sz) {n : Int} {v : Int32} (hd : decode cc pc = .ok (.sipush n, 3)) (hv : (Int16.ofInt n).toInt32 = v) (k : G E κ cells slots (pc + 3) ls (vi v :: st) M) : G E κ cells slots pc ls st M := by
  obtain ⟨l, D, Gc, B, b⟩ := E
  obtain ⟨p, e, R, s, m, args, below, meth, c, Q⟩ := κ
  obtain ⟨hx, hb, -⟩ := X
  exact fun H locs la hl hP hS => lv_sipush hx hb hd hv (k H locs la hl hP hS)
theorem G_ldc (X : Cx E κ cc nL own ret d cz sz) {ix : Nat} {v : Int32} (hc : Cond.constant own ix v ∈ gT) (hd : decode cc pc = .ok (.ldc ix, 2)) (k : G E κ cells slots (pc + 2) ls (vi v :: st) M) : G E κ cells slots pc ls st M := by
  obtain ⟨l, D, Gc, B, b⟩ := E
  obtain ⟨p, e, R, s, m, args, below, meth, c, Q⟩ := κ
  obtain ⟨hx, hb, -, ho, hts, -⟩ := X
  exact fun H locs la hl hP hS => lv_ldc hx hb ho (hts _ hc) hd (k H locs la hl hP hS)
theorem G_ldc_w (X : Cx E κ cc nL own ret d cz sz) {ix : Nat} {v : Int32} (hc : Cond.constant own ix v ∈ gT) (hd : decode cc pc = .ok (.ldc_w ix, 3)) (k : G E κ cells slots (pc + 3) ls (vi v :: st) M) : G E κ cells slots pc ls st M := by
  obtain ⟨l, D, Gc, B, b⟩ := E
  obtain ⟨p, e, R, s, m, args, below, meth, c, Q⟩ := κ
  obtain ⟨hx, hb, -, ho, hts, -⟩ := X
  exact fun H locs la hl hP hS => lv_ldcw hx hb ho (hts _ hc) hd (k H locs la hl hP hS)
theorem G_iload_n (X : Cx E κ cc nL own ret d cz sz) {j : Fin 4} {i : Nat} {x : Int32} (hd : decode cc pc = .ok (.iload_n j, 1)) (hi : (j : Nat) = i) (hv : ls[i]? = some (some (vi x))) (k : G E κ cells slots (pc + 1) ls (vi x :: st) M) : G E κ cells slots pc ls st M := by
  obtain ⟨l, D, Gc, B, b⟩ := E
  obtain ⟨p, e, R, s, m, args, below, meth, c, Q⟩ := κ
  obtain ⟨hx, hb, -⟩ := X
  exact fun H locs la hl hP hS => lv_iload_n hx hb hd hi (hl.2.2 i _ hv) (k H locs la hl hP hS)
theorem G_iload (X : Cx E κ cc nL own ret d cz sz) {i : Nat} {x : Int32} (hd : decode cc pc = .ok (.iload i, 2)) (hv : ls[i]? = some (some (vi x))) (k : G E κ cells slots (pc + 2) ls (vi x :: st) M) : G E κ cells slots pc ls st M := by
  obtain ⟨l, D, Gc, B, b⟩ := E
  obtain ⟨p, e, R, s, m, args, below, meth, c, Q⟩ := κ
  obtain ⟨hx, hb, -⟩ := X
  exact fun H locs la hl hP hS => lv_iload hx hb hd (hl.2.2 i _ hv) (k H locs la hl hP hS)
theorem G_aload_n (X : Cx E κ cc nL own ret d cz sz) {j : Fin 4} {i : Nat} {x : Option Nat} (hd : decode cc pc = .ok (.aload_n j, 1)) (hi : (j : Nat) = i) (hv : ls[i]? = some (some (.inr x))) (k : G E κ cells slots (pc + 1) ls (.inr x :: st) M) : G E κ cells slots pc ls st M := by
  obtain ⟨l, D, Gc, B, b⟩ := E
  obtain ⟨p, e, R, s, m, args, below, meth, c, Q⟩ := κ
  obtain ⟨hx, hb, -⟩ := X
  intro H locs la hl hP hS
  cases x with
  | none => exact lv_aload_n hx hb hd hi (hl.2.2 i _ hv) (k H locs la hl hP hS)
  | some a => exact lv_aload_n hx hb hd hi (hl.2.2 i _ hv) (k H locs la hl hP hS)
theorem G_aload (X : Cx E κ cc nL own ret d cz sz) {i : Nat} {x : Option Nat} (hd : decode cc pc = .ok (.aload i, 2)) (hv : ls[i]? = some (some (.inr x))) (k : G E κ cells slots (pc + 2) ls (.inr x :: st) M) : G E κ cells slots pc ls st M := by
  obtain ⟨l, D, Gc, B, b⟩ := E
  obtain ⟨p, e, R, s, m, args, below, meth, c, Q⟩ := κ
  obtain ⟨hx, hb, -⟩ := X
  intro H locs la hl hP hS
  cases x with
  | none => exact lv_aload hx hb hd (hl.2.2 i _ hv) (k H locs la hl hP hS)
  | some a => exact lv_aload hx hb hd (hl.2.2 i _ hv) (k H locs la hl hP hS)
/-- all that is known of the locals, as the kit lists it -/
def gls (B b : Nat) (ls : List (Option gV)) : List (Nat × Value) := (List.range ls.length).filterMap (fun i => (ls[i]?.join).map (fun v => (i, gv B b v)))
theorem gls_has {B b : Nat} {la : Array Slot} {ls : List (Option gV)} (h : gLk B b la ls) : lv_has la ls.length (gls B b ls) := by
  refine ⟨h.1, h.2.1, fun q hq => ?_⟩
  obtain ⟨i, -, hi⟩ := List.mem_filterMap.mp hq
  rw [Option.map_eq_some_iff] at hi
  obtain ⟨v, hv, rfl⟩ := hi
  refine h.2.2 i v ?_
  cases h3 : ls[i]? with
  | none => rw [h3] at hv; cases hv
  | some w => rw [h3] at hv; simp at hv; rw [hv]
theorem gls_set {B b : Nat} {la : Array Slot} {ls : List (Option gV)} {i : Nat} {v : gV} (hi : i < ls.length) (h : lv_has la ls.length ((i, gv B b v) :: (gls B b ls).filter (fun q => !(q.1 == i) && !(q.1 + 1 == i && q.2.category == 2)))) : gLk B b la (ls.set i (some v)) := by
  refine ⟨by rw [h.1]; simp, h.2.1, fun j w hw => ?_⟩
  by_cases hj : j = i
  · subst hj
    rw [List.getElem?_set_self hi] at hw
    cases hw
    exact h.2.2 (j, gv B b v) List.mem_cons_self
  · rw [List.getElem?_set_ne (Ne.symm hj)] at hw
    refine h.2.2 (j, gv B b w) (List.mem_cons_of_mem _ (List.mem_filter.mpr ⟨List.mem_filterMap.mpr ⟨j, ?_, ?_⟩, ?_⟩))
    · exact List.mem_range.mpr (List.getElem?_eq_some_iff.mp hw).1
    · simp [hw]
    · simp [hj, gv_cat]
theorem gls_self {ls : List (Option gV)} {B b : Nat} {la : Array Slot} {nL : Nat} (h : gLk B b la ls) (hn : ls.length = nL) : lv_has la nL (gls B b ls) := by
  subst hn; exact gls_has h
theorem G_istore_n (X : Cx E κ cc nL own ret d cz sz) {j : Fin 4} {i : Nat} {x : Int32} {ls' : List (Option gV)} (hd : decode cc pc = .ok (.istore_n j, 1)) (hi : (j : Nat) = i) (hn : i < ls.length) (hs : ls.set i (some (vi x)) = ls') (k : G E κ cells slots (pc + 1) ls' st M) : G E κ cells slots pc ls (vi x :: st) M := by
  subst hs
  obtain ⟨l, D, Gc, B, b⟩ := E
  obtain ⟨p, e, R, s, m, args, below, meth, c, Q⟩ := κ
  obtain ⟨hx, hb, -⟩ := X
  exact fun H locs la hl hP hS => lv_istore_n hx hb hd hi (gls_has hl) hn rfl (fun la' hl' => k H locs la' (gls_set hn hl') hP hS)
theorem G_istore (X : Cx E κ cc nL own ret d cz sz) {i : Nat} {x : Int32} {ls' : List (Option gV)} (hd : decode cc pc = .ok (.istore i, 2)) (hn : i < ls.length) (hs : ls.set i (some (vi x)) = ls') (k : G E κ cells slots (pc + 2) ls' st M) : G E κ cells slots pc ls (vi x :: st) M := by
  subst hs
  obtain ⟨l, D, Gc, B, b⟩ := E
  obtain ⟨p, e, R, s, m, args, below, meth, c, Q⟩ := κ
  obtain ⟨hx, hb, -⟩ := X
  exact fun H locs la hl hP hS => lv_istore hx hb hd (gls_has hl) hn rfl (fun la' hl' => k H locs la' (gls_set hn hl') hP hS)
theorem G_astore_n (X : Cx E κ cc nL own ret d cz sz) {j : Fin 4} {i : Nat} {x : Nat} {ls' : List (Option gV)} (hd : decode cc pc = .ok (.astore_n j, 1)) (hi : (j : Nat) = i) (hn : i < ls.length) (hs : ls.set i (some (vr x)) = ls') (k : G E κ cells slots (pc + 1) ls' st M) : G E κ cells slots pc ls (vr x :: st) M := by
  subst hs
  obtain ⟨l, D, Gc, B, b⟩ := E
  obtain ⟨p, e, R, s, m, args, below, meth, c, Q⟩ := κ
  obtain ⟨hx, hb, -⟩ := X
  exact fun H locs la hl hP hS => lv_astore_n hx hb hd hi (gls_has hl) hn rfl (fun la' hl' => k H locs la' (gls_set (v := vr x) hn hl') hP hS)
theorem G_astore (X : Cx E κ cc nL own ret d cz sz) {i : Nat} {x : Nat} {ls' : List (Option gV)} (hd : decode cc pc = .ok (.astore i, 2)) (hn : i < ls.length) (hs : ls.set i (some (vr x)) = ls') (k : G E κ cells slots (pc + 2) ls' st M) : G E κ cells slots pc ls (vr x :: st) M := by
  subst hs
  obtain ⟨l, D, Gc, B, b⟩ := E
  obtain ⟨p, e, R, s, m, args, below, meth, c, Q⟩ := κ
  obtain ⟨hx, hb, -⟩ := X
  exact fun H locs la hl hP hS => lv_astore hx hb hd (gls_has hl) hn rfl (fun la' hl' => k H locs la' (gls_set (v := vr x) hn hl') hP hS)
theorem gls_at {B b : Nat} {ls : List (Option gV)} {i : Nat} {v : gV} (h : ls[i]? = some (some v)) : ∃ k : Nat, (gls B b ls)[k]? = some (i, gv B b v) :=
  List.getElem?_of_mem (List.mem_filterMap.mpr ⟨i, List.mem_range.mpr (List.getElem?_eq_some_iff.mp h).1, by simp [h]⟩)
theorem G_iinc (X : Cx E κ cc nL own ret d cz sz) {i : Nat} {n : Int} {x v : Int32} {ls' : List (Option gV)} (hd : decode cc pc = .ok (.iinc i n, 3)) (hv : ls[i]? = some (some (vi x))) (hn : Int32.ofInt n = v) (hs : ls.set i (some (vi (x + v))) = ls') (k : G E κ cells slots (pc + 3) ls' st M) : G E κ cells slots pc ls st M := by
  subst hs
  subst hn
  obtain ⟨l, D, Gc, B, b⟩ := E
  obtain ⟨p, e, R, s, m, args, below, meth, c, Q⟩ := κ
  obtain ⟨hx, hb, -⟩ := X
  intro H locs la hl hP hS
  have hn : i < ls.length := (List.getElem?_eq_some_iff.mp hv).1
  obtain ⟨k0, hk0⟩ := gls_at (B := B) (b := b) hv
  exact lv_iinc hx hb hd (gls_has hl) hk0 rfl hn rfl (fun la' hl' => k H locs la' (gls_set (v := vi (x + Int32.ofInt n)) hn hl') hP hS)
/-- less is known of the locals -/
theorem G_weak {ls' : List (Option gV)} (h : ls.length = ls'.length ∧ ∀ (i : Nat) (v : gV), ls'[i]? = some (some v) → ls[i]? = some (some v)) (k : G E κ cells slots pc ls' st M) : G E κ cells slots pc ls st M := by
  obtain ⟨l, D, Gc, B, b⟩ := E
  obtain ⟨p, e, R, s, m, args, below, meth, c, Q⟩ := κ
  exact fun H locs la hl hP hS => k H locs la ⟨hl.1.trans h.1, hl.2.1, fun i v hv => hl.2.2 i v (h.2 i v hv)⟩ hP hS
end GRules
section GRules2
variable {E : gEnv} {κ : gCtx} {cc : ByteArray} {nL d cz sz cells slots pc : Nat} {own : String} {ret : Option FieldType} {ls : List (Option gV)} {st : List gV} {M : gM}
theorem G_iadd (X : Cx E κ cc nL own ret d cz sz) {x y : Int32} (hd : decode cc pc = .ok (.iadd, 1)) (k : G E κ cells slots (pc + 1) ls (vi (x + y) :: st) M) : G E κ cells slots pc ls (vi y :: vi x :: st) M := by
  obtain ⟨l, D, Gc, B, b⟩ := E
  obtain ⟨p, e, R, s, m, args, below, meth, c, Q⟩ := κ
  obtain ⟨hx, hb, -⟩ := X
  exact fun H locs la hl hP hS => lv_iadd hx hb hd (k H locs la hl hP hS)
theorem G_isub (X : Cx E κ cc nL own ret d cz sz) {x y : Int32} (hd : decode cc pc = .ok (.isub, 1)) (k : G E κ cells slots (pc + 1) ls (vi (x - y) :: st) M) : G E κ cells slots pc ls (vi y :: vi x :: st) M := by
  obtain ⟨l, D, Gc, B, b⟩ := E
  obtain ⟨p, e, R, s, m, args, below, meth, c, Q⟩ := κ
  obtain ⟨hx, hb, -⟩ := X
  exact fun H locs la hl hP hS => lv_isub hx hb hd (k H locs la hl hP hS)
theorem G_imul (X : Cx E κ cc nL own ret d cz sz) {x y : Int32} (hd : decode cc pc = .ok (.imul, 1)) (k : G E κ cells slots (pc + 1) ls (vi (x * y) :: st) M) : G E κ cells slots pc ls (vi y :: vi x :: st) M := by
  obtain ⟨l, D, Gc, B, b⟩ := E
  obtain ⟨p, e, R, s, m, args, below, meth, c, Q⟩ := κ
  obtain ⟨hx, hb, -⟩ := X
  exact fun H locs la hl hP hS => lv_imul hx hb hd (k H locs la hl hP hS)
theorem G_iand (X : Cx E κ cc nL own ret d cz sz) {x y : Int32} (hd : decode cc pc = .ok (.iand, 1)) (k : G E κ cells slots (pc + 1) ls (vi (x &&& y) :: st) M) : G E κ cells slots pc ls (vi y :: vi x :: st) M := by
  obtain ⟨l, D, Gc, B, b⟩ := E
  obtain ⟨p, e, R, s, m, args, below, meth, c, Q⟩ := κ
  obtain ⟨hx, hb, -⟩ := X
  exact fun H locs la hl hP hS => lv_iand hx hb hd (k H locs la hl hP hS)
theorem G_ior (X : Cx E κ cc nL own ret d cz sz) {x y : Int32} (hd : decode cc pc = .ok (.ior, 1)) (k : G E κ cells slots (pc + 1) ls (vi (x ||| y) :: st) M) : G E κ cells slots pc ls (vi y :: vi x :: st) M := by
  obtain ⟨l, D, Gc, B, b⟩ := E
  obtain ⟨p, e, R, s, m, args, below, meth, c, Q⟩ := κ
  obtain ⟨hx, hb, -⟩ := X
  exact fun H locs la hl hP hS => lv_ior hx hb hd (k H locs la hl hP hS)
theorem G_ixor (X : Cx E κ cc nL own ret d cz sz) {x y : Int32} (hd : decode cc pc = .ok (.ixor, 1)) (k : G E κ cells slots (pc + 1) ls (vi (x ^^^ y) :: st) M) : G E κ cells slots pc ls (vi y :: vi x :: st) M := by
  obtain ⟨l, D, Gc, B, b⟩ := E
  obtain ⟨p, e, R, s, m, args, below, meth, c, Q⟩ := κ
  obtain ⟨hx, hb, -⟩ := X
  exact fun H locs la hl hP hS => lv_ixor hx hb hd (k H locs la hl hP hS)
theorem G_ishl (X : Cx E κ cc nL own ret d cz sz) {x y : Int32} (hd : decode cc pc = .ok (.ishl, 1)) (k : G E κ cells slots (pc + 1) ls (vi (x <<< (y &&& 31)) :: st) M) : G E κ cells slots pc ls (vi y :: vi x :: st) M := by
  obtain ⟨l, D, Gc, B, b⟩ := E
  obtain ⟨p, e, R, s, m, args, below, meth, c, Q⟩ := κ
  obtain ⟨hx, hb, -⟩ := X
  exact fun H locs la hl hP hS => lv_ishl hx hb hd (k H locs la hl hP hS)
theorem G_ishr (X : Cx E κ cc nL own ret d cz sz) {x y : Int32} (hd : decode cc pc = .ok (.ishr, 1)) (k : G E κ cells slots (pc + 1) ls (vi (x >>> (y &&& 31)) :: st) M) : G E κ cells slots pc ls (vi y :: vi x :: st) M := by
  obtain ⟨l, D, Gc, B, b⟩ := E
  obtain ⟨p, e, R, s, m, args, below, meth, c, Q⟩ := κ
  obtain ⟨hx, hb, -⟩ := X
  exact fun H locs la hl hP hS => lv_ishr hx hb hd (k H locs la hl hP hS)
theorem G_idiv (X : Cx E κ cc nL own ret d cz sz) {x y : Int32} (hd : decode cc pc = .ok (.idiv, 1)) (hne : ¬ y = 0) (k : G E κ cells slots (pc + 1) ls (vi (x / y) :: st) M) : G E κ cells slots pc ls (vi y :: vi x :: st) M := by
  obtain ⟨l, D, Gc, B, b⟩ := E
  obtain ⟨p, e, R, s, m, args, below, meth, c, Q⟩ := κ
  obtain ⟨hx, hb, -⟩ := X
  exact fun H locs la hl hP hS => lv_idiv hx hb hd hne (k H locs la hl hP hS)
theorem G_irem (X : Cx E κ cc nL own ret d cz sz) {x y : Int32} (hd : decode cc pc = .ok (.irem, 1)) (hne : ¬ y = 0) (k : G E κ cells slots (pc + 1) ls (vi (x - x / y * y) :: st) M) : G E κ cells slots pc ls (vi y :: vi x :: st) M := by
  obtain ⟨l, D, Gc, B, b⟩ := E
  obtain ⟨p, e, R, s, m, args, below, meth, c, Q⟩ := κ
  obtain ⟨hx, hb, -⟩ := X
  exact fun H locs la hl hP hS => lv_irem hx hb hd hne (k H locs la hl hP hS)
theorem G_ineg (X : Cx E κ cc nL own ret d cz sz) {x : Int32} (hd : decode cc pc = .ok (.ineg, 1)) (k : G E κ cells slots (pc + 1) ls (vi (-x) :: st) M) : G E κ cells slots pc ls (vi x :: st) M := by
  obtain ⟨l, D, Gc, B, b⟩ := E
  obtain ⟨p, e, R, s, m, args, below, meth, c, Q⟩ := κ
  obtain ⟨hx, hb, -⟩ := X
  exact fun H locs la hl hP hS => lv_ineg hx hb hd (k H locs la hl hP hS)
theorem G_iushr (X : Cx E κ cc nL own ret d cz sz) {x y : Int32} (hd : decode cc pc = .ok (.iushr, 1)) (k : G E κ cells slots (pc + 1) ls (vi ((x.toUInt32 >>> (y.toUInt32 &&& Int32.toUInt32 31)).toInt32) :: st) M) : G E κ cells slots pc ls (vi y :: vi x :: st) M := by
  obtain ⟨l, D, Gc, B, b⟩ := E
  obtain ⟨p, e, R, s, m, args, below, meth, c, Q⟩ := κ
  obtain ⟨hx, hb, -⟩ := X
  exact fun H locs la hl hP hS => lv_iushr hx hb hd rfl (k H locs la hl hP hS)
theorem G_i2c (X : Cx E κ cc nL own ret d cz sz) {x : Int32} (hd : decode cc pc = .ok (.i2c, 1)) (k : G E κ cells slots (pc + 1) ls (vi ((x.toUInt32 % 65536).toInt32) :: st) M) : G E κ cells slots pc ls (vi x :: st) M := by
  obtain ⟨l, D, Gc, B, b⟩ := E
  obtain ⟨p, e, R, s, m, args, below, meth, c, Q⟩ := κ
  obtain ⟨hx, hb, -⟩ := X
  exact fun H locs la hl hP hS => lv_i2c hx hb hd rfl (k H locs la hl hP hS)
theorem G_dup (X : Cx E κ cc nL own ret d cz sz) {v : gV} (hd : decode cc pc = .ok (.dup, 1)) (k : G E κ cells slots (pc + 1) ls (v :: v :: st) M) : G E κ cells slots pc ls (v :: st) M := by
  obtain ⟨l, D, Gc, B, b⟩ := E
  obtain ⟨p, e, R, s, m, args, below, meth, c, Q⟩ := κ
  obtain ⟨hx, hb, -⟩ := X
  exact fun H locs la hl hP hS => lv_dup hx hb hd (gv_cat _ _ _) (k H locs la hl hP hS)
theorem G_dup2 (X : Cx E κ cc nL own ret d cz sz) {v w : gV} (hd : decode cc pc = .ok (.dup2, 1)) (k : G E κ cells slots (pc + 1) ls (v :: w :: v :: w :: st) M) : G E κ cells slots pc ls (v :: w :: st) M := by
  obtain ⟨l, D, Gc, B, b⟩ := E
  obtain ⟨p, e, R, s, m, args, below, meth, c, Q⟩ := κ
  obtain ⟨hx, hb, -⟩ := X
  exact fun H locs la hl hP hS => lv_dup2_11 hx hb hd (gv_cat _ _ _) (gv_cat _ _ _) (k H locs la hl hP hS)
theorem G_pop (X : Cx E κ cc nL own ret d cz sz) {v : gV} (hd : decode cc pc = .ok (.pop, 1)) (k : G E κ cells slots (pc + 1) ls st M) : G E κ cells slots pc ls (v :: st) M := by
  obtain ⟨l, D, Gc, B, b⟩ := E
  obtain ⟨p, e, R, s, m, args, below, meth, c, Q⟩ := κ
  obtain ⟨hx, hb, -⟩ := X
  exact fun H locs la hl hP hS => lv_pop hx hb hd (gv_cat _ _ _) (k H locs la hl hP hS)
theorem G_if_eq (X : Cx E κ cc nL own ret d cz sz) {x : Int32} {off : Int} {tgt : Nat} (hd : decode cc pc = .ok (.ifCond .eq off, 3)) (ht : (pc : Int) + off = (tgt : Int)) (kt : x = 0 → G E κ cells slots tgt ls st M) (kf : ¬ x = 0 → G E κ cells slots (pc + 3) ls st M) : G E κ cells slots pc ls (vi x :: st) M := by
  obtain ⟨l, D, Gc, B, b⟩ := E
  obtain ⟨p, e, R, s, m, args, below, meth, c, Q⟩ := κ
  obtain ⟨hx, hb, -⟩ := X
  exact fun H locs la hl hP hS => lv_if_eq hx hb hd ht (fun q => kt q H locs la hl hP hS) (fun q => kf q H locs la hl hP hS)
theorem G_icmp_eq (X : Cx E κ cc nL own ret d cz sz) {x y : Int32} {off : Int} {tgt : Nat} (hd : decode cc pc = .ok (.if_icmp .eq off, 3)) (ht : (pc : Int) + off = (tgt : Int)) (kt : x = y → G E κ cells slots tgt ls st M) (kf : ¬ x = y → G E κ cells slots (pc + 3) ls st M) : G E κ cells slots pc ls (vi y :: vi x :: st) M := by
  obtain ⟨l, D, Gc, B, b⟩ := E
  obtain ⟨p, e, R, s, m, args, below, meth, c, Q⟩ := κ
  obtain ⟨hx, hb, -⟩ := X
  exact fun H locs la hl hP hS => lv_icmp_eq hx hb hd ht (fun q => kt q H locs la hl hP hS) (fun q => kf q H locs la hl hP hS)
theorem G_if_ne (X : Cx E κ cc nL own ret d cz sz) {x : Int32} {off : Int} {tgt : Nat} (hd : decode cc pc = .ok (.ifCond .ne off, 3)) (ht : (pc : Int) + off = (tgt : Int)) (kt : ¬ x = 0 → G E κ cells slots tgt ls st M) (kf : x = 0 → G E κ cells slots (pc + 3) ls st M) : G E κ cells slots pc ls (vi x :: st) M := by
  obtain ⟨l, D, Gc, B, b⟩ := E
  obtain ⟨p, e, R, s, m, args, below, meth, c, Q⟩ := κ
  obtain ⟨hx, hb, -⟩ := X
  exact fun H locs la hl hP hS => lv_if_ne hx hb hd ht (fun q => kt q H locs la hl hP hS) (fun q => kf q H locs la hl hP hS)
theorem G_icmp_ne (X : Cx E κ cc nL own ret d cz sz) {x y : Int32} {off : Int} {tgt : Nat} (hd : decode cc pc = .ok (.if_icmp .ne off, 3)) (ht : (pc : Int) + off = (tgt : Int)) (kt : ¬ x = y → G E κ cells slots tgt ls st M) (kf : x = y → G E κ cells slots (pc + 3) ls st M) : G E κ cells slots pc ls (vi y :: vi x :: st) M := by
  obtain ⟨l, D, Gc, B, b⟩ := E
  obtain ⟨p, e, R, s, m, args, below, meth, c, Q⟩ := κ
  obtain ⟨hx, hb, -⟩ := X
  exact fun H locs la hl hP hS => lv_icmp_ne hx hb hd ht (fun q => kt q H locs la hl hP hS) (fun q => kf q H locs la hl hP hS)
theorem G_if_lt (X : Cx E κ cc nL own ret d cz sz) {x : Int32} {off : Int} {tgt : Nat} (hd : decode cc pc = .ok (.ifCond .lt off, 3)) (ht : (pc : Int) + off = (tgt : Int)) (kt : x < 0 → G E κ cells slots tgt ls st M) (kf : ¬ x < 0 → G E κ cells slots (pc + 3) ls st M) : G E κ cells slots pc ls (vi x :: st) M := by
  obtain ⟨l, D, Gc, B, b⟩ := E
  obtain ⟨p, e, R, s, m, args, below, meth, c, Q⟩ := κ
  obtain ⟨hx, hb, -⟩ := X
  exact fun H locs la hl hP hS => lv_if_lt hx hb hd ht (fun q => kt q H locs la hl hP hS) (fun q => kf q H locs la hl hP hS)
theorem G_icmp_lt (X : Cx E κ cc nL own ret d cz sz) {x y : Int32} {off : Int} {tgt : Nat} (hd : decode cc pc = .ok (.if_icmp .lt off, 3)) (ht : (pc : Int) + off = (tgt : Int)) (kt : x < y → G E κ cells slots tgt ls st M) (kf : ¬ x < y → G E κ cells slots (pc + 3) ls st M) : G E κ cells slots pc ls (vi y :: vi x :: st) M := by
  obtain ⟨l, D, Gc, B, b⟩ := E
  obtain ⟨p, e, R, s, m, args, below, meth, c, Q⟩ := κ
  obtain ⟨hx, hb, -⟩ := X
  exact fun H locs la hl hP hS => lv_icmp_lt hx hb hd ht (fun q => kt q H locs la hl hP hS) (fun q => kf q H locs la hl hP hS)
theorem G_if_ge (X : Cx E κ cc nL own ret d cz sz) {x : Int32} {off : Int} {tgt : Nat} (hd : decode cc pc = .ok (.ifCond .ge off, 3)) (ht : (pc : Int) + off = (tgt : Int)) (kt : 0 ≤ x → G E κ cells slots tgt ls st M) (kf : ¬ 0 ≤ x → G E κ cells slots (pc + 3) ls st M) : G E κ cells slots pc ls (vi x :: st) M := by
  obtain ⟨l, D, Gc, B, b⟩ := E
  obtain ⟨p, e, R, s, m, args, below, meth, c, Q⟩ := κ
  obtain ⟨hx, hb, -⟩ := X
  exact fun H locs la hl hP hS => lv_if_ge hx hb hd ht (fun q => kt q H locs la hl hP hS) (fun q => kf q H locs la hl hP hS)
theorem G_icmp_ge (X : Cx E κ cc nL own ret d cz sz) {x y : Int32} {off : Int} {tgt : Nat} (hd : decode cc pc = .ok (.if_icmp .ge off, 3)) (ht : (pc : Int) + off = (tgt : Int)) (kt : y ≤ x → G E κ cells slots tgt ls st M) (kf : ¬ y ≤ x → G E κ cells slots (pc + 3) ls st M) : G E κ cells slots pc ls (vi y :: vi x :: st) M := by
  obtain ⟨l, D, Gc, B, b⟩ := E
  obtain ⟨p, e, R, s, m, args, below, meth, c, Q⟩ := κ
  obtain ⟨hx, hb, -⟩ := X
  exact fun H locs la hl hP hS => lv_icmp_ge hx hb hd ht (fun q => kt q H locs la hl hP hS) (fun q => kf q H locs la hl hP hS)
theorem G_if_gt (X : Cx E κ cc nL own ret d cz sz) {x : Int32} {off : Int} {tgt : Nat} (hd : decode cc pc = .ok (.ifCond .gt off, 3)) (ht : (pc : Int) + off = (tgt : Int)) (kt : 0 < x → G E κ cells slots tgt ls st M) (kf : ¬ 0 < x → G E κ cells slots (pc + 3) ls st M) : G E κ cells slots pc ls (vi x :: st) M := by
  obtain ⟨l, D, Gc, B, b⟩ := E
  obtain ⟨p, e, R, s, m, args, below, meth, c, Q⟩ := κ
  obtain ⟨hx, hb, -⟩ := X
  exact fun H locs la hl hP hS => lv_if_gt hx hb hd ht (fun q => kt q H locs la hl hP hS) (fun q => kf q H locs la hl hP hS)
theorem G_icmp_gt (X : Cx E κ cc nL own ret d cz sz) {x y : Int32} {off : Int} {tgt : Nat} (hd : decode cc pc = .ok (.if_icmp .gt off, 3)) (ht : (pc : Int) + off = (tgt : Int)) (kt : y < x → G E κ cells slots tgt ls st M) (kf : ¬ y < x → G E κ cells slots (pc + 3) ls st M) : G E κ cells slots pc ls (vi y :: vi x :: st) M := by
  obtain ⟨l, D, Gc, B, b⟩ := E
  obtain ⟨p, e, R, s, m, args, below, meth, c, Q⟩ := κ
  obtain ⟨hx, hb, -⟩ := X
  exact fun H locs la hl hP hS => lv_icmp_gt hx hb hd ht (fun q => kt q H locs la hl hP hS) (fun q => kf q H locs la hl hP hS)
theorem G_if_le (X : Cx E κ cc nL own ret d cz sz) {x : Int32} {off : Int} {tgt : Nat} (hd : decode cc pc = .ok (.ifCond .le off, 3)) (ht : (pc : Int) + off = (tgt : Int)) (kt : x ≤ 0 → G E κ cells slots tgt ls st M) (kf : ¬ x ≤ 0 → G E κ cells slots (pc + 3) ls st M) : G E κ cells slots pc ls (vi x :: st) M := by
  obtain ⟨l, D, Gc, B, b⟩ := E
  obtain ⟨p, e, R, s, m, args, below, meth, c, Q⟩ := κ
  obtain ⟨hx, hb, -⟩ := X
  exact fun H locs la hl hP hS => lv_if_le hx hb hd ht (fun q => kt q H locs la hl hP hS) (fun q => kf q H locs la hl hP hS)
theorem G_icmp_le (X : Cx E κ cc nL own ret d cz sz) {x y : Int32} {off : Int} {tgt : Nat} (hd : decode cc pc = .ok (.if_icmp .le off, 3)) (ht : (pc : Int) + off = (tgt : Int)) (kt : x ≤ y → G E κ cells slots tgt ls st M) (kf : ¬ x ≤ y → G E κ cells slots (pc + 3) ls st M) : G E κ cells slots pc ls (vi y :: vi x :: st) M := by
  obtain ⟨l, D, Gc, B, b⟩ := E
  obtain ⟨p, e, R, s, m, args, below, meth, c, Q⟩ := κ
  obtain ⟨hx, hb, -⟩ := X
  exact fun H locs la hl hP hS => lv_icmp_le hx hb hd ht (fun q => kt q H locs la hl hP hS) (fun q => kf q H locs la hl hP hS)
theorem G_goto (X : Cx E κ cc nL own ret d cz sz) {off : Int} {tgt : Nat} (hd : decode cc pc = .ok (.goto off, 3)) (ht : (pc : Int) + off = (tgt : Int)) (k : G E κ cells slots tgt ls st M) : G E κ cells slots pc ls st M := by
  obtain ⟨l, D, Gc, B, b⟩ := E
  obtain ⟨p, e, R, s, m, args, below, meth, c, Q⟩ := κ
  obtain ⟨hx, hb, -⟩ := X
  exact fun H locs la hl hP hS => lv_goto hx hb hd ht (k H locs la hl hP hS)
theorem G_tableOut (X : Cx E κ cc nL own ret d cz sz) {dflt lo hi : Int} {offs : Array Int} {len : Nat} {x : Int32} {tgt : Nat} (hd : decode cc pc = .ok (.tableswitch dflt lo hi offs, len)) (h : x.toInt < lo ∨ hi < x.toInt) (ht : (pc : Int) + dflt = (tgt : Int)) (k : G E κ cells slots tgt ls st M) : G E κ cells slots pc ls (vi x :: st) M := by
  obtain ⟨l, D, Gc, B, b⟩ := E
  obtain ⟨p, e, R, s, m, args, below, meth, c, Q⟩ := κ
  obtain ⟨hx, hb, -⟩ := X
  exact fun H locs la hl hP hS => lv_tableOut hx hb hd h ht (k H locs la hl hP hS)
theorem G_tableIn (X : Cx E κ cc nL own ret d cz sz) {dflt lo hi : Int} {offs : Array Int} {len : Nat} {x : Int32} {off : Int} {tgt : Nat} (hd : decode cc pc = .ok (.tableswitch dflt lo hi offs, len)) (h1 : ¬ x.toInt < lo) (h2 : ¬ hi < x.toInt) (ho : offs[(x.toInt - lo).toNat]? = some off) (ht : (pc : Int) + off = (tgt : Int)) (k : G E κ cells slots tgt ls st M) : G E κ cells slots pc ls (vi x :: st) M := by
  obtain ⟨l, D, Gc, B, b⟩ := E
  obtain ⟨p, e, R, s, m, args, below, meth, c, Q⟩ := κ
  obtain ⟨hx, hb, -⟩ := X
  exact fun H locs la hl hP hS => lv_tableIn hx hb hd h1 h2 ho ht (k H locs la hl hP hS)
theorem G_lookup (X : Cx E κ cc nL own ret d cz sz) {dflt : Int} {ps : Array (Int × Int)} {len : Nat} {x : Int32} {off : Int} {tgt : Nat} (hd : decode cc pc = .ok (.lookupswitch dflt ps, len)) (hp : (ps.toList.zip (ps.toList.drop 1)).all (fun (a, next) => a.1 < next.1) = true) (ho : Op.lookupswitch.offset ps.toList dflt x.toInt = off) (ht : (pc : Int) + off = (tgt : Int)) (k : G E κ cells slots tgt ls st M) : G E κ cells slots pc ls (vi x :: st) M := by
  obtain ⟨l, D, Gc, B, b⟩ := E
  obtain ⟨p, e, R, s, m, args, below, meth, c, Q⟩ := κ
  obtain ⟨hx, hb, -⟩ := X
  exact fun H locs la hl hP hS => lv_lookup hx hb hd hp ho ht (k H locs la hl hP hS)
end GRules2
end
section
/-! THE RULES for fields, arrays, calls and returns -/
def uC (I : gI) (a : Nat) (f : Nat → Int32) : gI := fun c => if c = a then f else I c
def uQ (P : gP) (a : Nat) (f : Nat → Option Nat) : gP := fun c => if c = a then f else P c
/-- a field, as an instruction of the class 'own' names it -/
def gFd (own : String) (ix ci k : Nat) (fin : Bool) (ty : FieldType) : Prop := ∃ (C : String) (T : u_T) (N : Nat) (tys : Nat → FieldType), vwCl[ci]? = some (C, T, N) ∧ N = gN ci ∧ (∀ w ∈ u_ws C T N, w ∈ gT) ∧ k < N ∧ Cond.fieldLink own ix C (T k).2.1 (T k).2.2.1 ∈ gT ∧ (T k).1 = C ∧ (T k).2.2.2 = fin ∧ parseFieldDescriptor (T k).2.2.1 = some ty ∧ (∀ j, j < N → parseFieldDescriptor (T j).2.2.1 = some (tys j)) ∧ (∀ a, a < N → ∀ b, b < N → a ≠ b → (T a).2.1 ≠ (T b).2.1)
def gCB (own : String) (ix : Nat) (y : MethodName) (bc : ByteArray) (nL : Nat) (ret : Option FieldType) (n : Nat) : Prop := Cond.methodLink own ix y ∈ gT ∧ Cond.initialized y.cls ∈ gT ∧ Cond.code y bc nL ret ∈ gT ∧ (y.cls ≠ "java/lang/invoke/MethodHandle" ∧ y.cls ≠ "java/lang/invoke/VarHandle" ∧ (parseMethodDescriptor y.desc).map (fun d => d.parameters.length) = some n)
def gCN (y : MethodName) (bc : ByteArray) (nL : Nat) (ret : Option FieldType) (n : Nat) : Prop := Cond.initialized y.cls ∈ gT ∧ Cond.code y bc nL ret ∈ gT ∧ (y.cls ≠ "java/lang/invoke/MethodHandle" ∧ y.cls ≠ "java/lang/invoke/VarHandle" ∧ (parseMethodDescriptor y.desc).map (fun d => d.parameters.length) = some n)
def gVI (y : MethodName) : Prop := Cond.instanceMethod y ∈ gT ∧ Cond.selects y.cls y y ∈ gT
theorem lt10 {ci : Nat} {q : vw_C} (h : vwCl[ci]? = some q) : ci < 10 := by
  have h1 : ci < 6 := (List.getElem?_eq_some_iff.mp h).1
  omega
section GMem
variable {E : gEnv} {κ : gCtx} {cc : ByteArray} {nL d cz sz cells slots pc : Nat} {own : String} {ret : Option FieldType} {ls : List (Option gV)} {st : List gV} {S : List (Nat × Nat)} {I : gI} {P : gP}
theorem G_getI (X : Cx E κ cc nL own ret d cz sz) {ix ci k a n : Nat} {fin : Bool} {ty : FieldType} (hF : gFd own ix ci k fin ty) (hr : gR ci k = false) (hsh : S[a]? = some (ci, n)) (hd : decode cc pc = .ok (.getfield ix, 3)) (kk : G E κ cells slots (pc + 3) ls (vi (I a k) :: st) (S, I, P)) : G E κ cells slots pc ls (vr a :: st) (S, I, P) := by
  obtain ⟨l, D, Gc, B, b⟩ := E
  obtain ⟨p, e, R, s, m, args, below, meth, c, Q⟩ := κ
  obtain ⟨hx, hb, -, ho, hts, hK, -⟩ := X
  obtain ⟨C, T, N, tys, hc, hN, hin, hk, hl, hT, -⟩ := hF
  intro H locs la hl0 hP hS
  have h10 := lt10 hc
  have he := gW_at (Gc := Gc) (B := B) (M := (S, I, P)) hsh
  rw [gE_obj h10] at he
  refine va_get (D := D) hx hb hts hin ho hK.1 hP a he hc k hk (hts _ hl) (fun x h => by rw [hT] at h; exact h) (v := .int (I a k)) ?_ hd (kk H locs la hl0 hP hS)
  rw [gFs_at (by rw [← hN]; exact hk)]
  simp [gF, hr]
theorem G_getR (X : Cx E κ cc nL own ret d cz sz) {ix ci k a n r : Nat} {fin : Bool} {ty : FieldType} (hF : gFd own ix ci k fin ty) (hr : gR ci k = true) (hsh : S[a]? = some (ci, n)) (hv : P a k = some r) (hd : decode cc pc = .ok (.getfield ix, 3)) (kk : G E κ cells slots (pc + 3) ls (vr r :: st) (S, I, P)) : G E κ cells slots pc ls (vr a :: st) (S, I, P) := by
  obtain ⟨l, D, Gc, B, b⟩ := E
  obtain ⟨p, e, R, s, m, args, below, meth, c, Q⟩ := κ
  obtain ⟨hx, hb, -, ho, hts, hK, -⟩ := X
  obtain ⟨C, T, N, tys, hc, hN, hin, hk, hl, hT, -⟩ := hF
  intro H locs la hl0 hP hS
  have h10 := lt10 hc
  have he := gW_at (Gc := Gc) (B := B) (M := (S, I, P)) hsh
  rw [gE_obj h10] at he
  refine va_get (D := D) hx hb hts hin ho hK.1 hP a he hc k hk (hts _ hl) (fun x h => by rw [hT] at h; exact h) (v := .ref (B + r)) ?_ hd (kk H locs la hl0 hP hS)
  rw [gFs_at (by rw [← hN]; exact hk)]
  simp [gF, hr, hv, va_rf]
theorem G_putI (X : Cx E κ cc nL own ret d cz sz) {ix ci k a n : Nat} {ty : FieldType} {x : Int32} (hF : gFd own ix ci k false ty) (hr : gR ci k = false) (hsh : S[a]? = some (ci, n)) (hn : narrow ty (.int x) = .int x) (hf : fits ty (.int x) = true) (hd : decode cc pc = .ok (.putfield ix, 3)) (kk : G E κ cells slots (pc + 3) ls st (S, uI I a k x, P)) : G E κ cells slots pc ls (vi x :: vr a :: st) (S, I, P) := by
  obtain ⟨l, D, Gc, B, b⟩ := E
  obtain ⟨p, e, R, s, m, args, below, meth, c, Q⟩ := κ
  obtain ⟨hx, hb, -, ho, hts, hK, -⟩ := X
  obtain ⟨C, T, N, tys, hc, hN, hin, hk, hl, hT, hfin, hpd, hty, hnm⟩ := hF
  intro H locs la hl0 hP hS
  have h10 := lt10 hc
  have he := gW_at (Gc := Gc) (B := B) (M := (S, I, P)) hsh
  rw [gE_obj h10] at he
  have hk' : k < gN ci := by rw [← hN]; exact hk
  refine va_put (D := D) hx hb hts hin tys hty hnm ho hK.1 hP gW_D hS a he hc k hk (hts _ hl) (fun x h => by rw [hT] at h; exact h) hfin hpd hn hf (by simpa using hk') hd (fun H1 locs1 hP1 _ hS1 => kk H1 locs1 la hl0 ?_ hS1)
  rw [gW_uI hsh, gE_obj h10, gFs_uI hk' hr]
  exact hP1
theorem G_putR (X : Cx E κ cc nL own ret d cz sz) {ix ci k a n r : Nat} {ty : FieldType} (hF : gFd own ix ci k false ty) (hr : gR ci k = true) (hsh : S[a]? = some (ci, n)) (hn : ∀ q, narrow ty (.ref q) = .ref q) (hf : ∀ q, fits ty (.ref q) = true) (hd : decode cc pc = .ok (.putfield ix, 3)) (kk : G E κ cells slots (pc + 3) ls st (S, I, uP P a k (some r))) : G E κ cells slots pc ls (vr r :: vr a :: st) (S, I, P) := by
  obtain ⟨l, D, Gc, B, b⟩ := E
  obtain ⟨p, e, R, s, m, args, below, meth, c, Q⟩ := κ
  obtain ⟨hx, hb, -, ho, hts, hK, -⟩ := X
  obtain ⟨C, T, N, tys, hc, hN, hin, hk, hl, hT, hfin, hpd, hty, hnm⟩ := hF
  intro H locs la hl0 hP hS
  have h10 := lt10 hc
  have he := gW_at (Gc := Gc) (B := B) (M := (S, I, P)) hsh
  rw [gE_obj h10] at he
  have hk' : k < gN ci := by rw [← hN]; exact hk
  refine va_put (D := D) (v := .ref (B + r)) hx hb hts hin tys hty hnm ho hK.1 hP gW_D hS a he hc k hk (hts _ hl) (fun x h => by rw [hT] at h; exact h) hfin hpd (hn _) (hf _) (by simpa using hk') hd (fun H1 locs1 hP1 _ hS1 => kk H1 locs1 la hl0 ?_ hS1)
  rw [gW_uP hsh, gE_obj h10, gFs_uP hk' hr]
  exact hP1
theorem G_putF (X : Cx E κ cc nL own ret d cz sz) {ix ci k a n r : Nat} {ty : FieldType} (hF : gFd own ix ci k true ty) (hO : ∀ q : vw_C, vwCl[ci]? = some q → q.1 = own) (hr : gR ci k = true) (hsh : S[a]? = some (ci, n)) (hn : ∀ q, narrow ty (.ref q) = .ref q) (hf : ∀ q, fits ty (.ref q) = true) (hnm2 : κ.2.2.2.2.2.2.2.1.name = "<init>") (hd : decode cc pc = .ok (.putfield ix, 3)) (kk : G E κ cells slots (pc + 3) ls st (S, I, uP P a k (some r))) : G E κ cells slots pc ls (vr r :: vr a :: st) (S, I, P) := by
  obtain ⟨l, D, Gc, B, b⟩ := E
  obtain ⟨p, e, R, s, m, args, below, meth, c, Q⟩ := κ
  obtain ⟨hx, hb, -, ho, hts, hK, -⟩ := X
  obtain ⟨C, T, N, tys, hc, hN, hin, hk, hl, hT, hfin, hpd, hty, hnm⟩ := hF
  intro H locs la hl0 hP hS
  have h10 := lt10 hc
  have he := gW_at (Gc := Gc) (B := B) (M := (S, I, P)) hsh
  rw [gE_obj h10] at he
  have hk' : k < gN ci := by rw [← hN]; exact hk
  have hO' : C = own := hO _ hc
  refine va_putF (D := D) (v := .ref (B + r)) hx hb hts hin tys hty hnm ho hK.1 hP gW_D hS a he hc k hk (hts _ hl) (fun x h => by rw [hT] at h; exact h) hfin hnm2 (by rw [hT, hO']) hpd (hn _) (hf _) (by simpa using hk') hd (fun H1 locs1 hP1 _ hS1 => kk H1 locs1 la hl0 ?_ hS1)
  rw [gW_uP hsh, gE_obj h10, gFs_uP hk' hr]
  exact hP1
theorem G_iald (X : Cx E κ cc nL own ret d cz sz) {a n : Nat} {i : Int32} (hsh : S[a]? = some (10, n)) (hin : vp_in i n) (hd : decode cc pc = .ok (.iaload, 1)) (kk : G E κ cells slots (pc + 1) ls (vi (I a i.toNatClampNeg) :: st) (S, I, P)) : G E κ cells slots pc ls (vi i :: vr a :: st) (S, I, P) := by
  obtain ⟨l, D, Gc, B, b⟩ := E
  obtain ⟨p, e, R, s, m, args, below, meth, c, Q⟩ := κ
  obtain ⟨hx, hb, -, ho, hts, hK, -⟩ := X
  intro H locs la hl0 hP hS
  have he := gW_at (Gc := Gc) (B := B) (M := (S, I, P)) hsh
  rw [gE_int (by decide) (by decide)] at he
  exact va_iald hx hb hK.1 hP a 0 he rfl hin hd (kk H locs la hl0 hP hS)
theorem G_cald (X : Cx E κ cc nL own ret d cz sz) {a n : Nat} {i : Int32} (hsh : S[a]? = some (11, n)) (hin : vp_in i n) (hd : decode cc pc = .ok (.caload, 1)) (kk : G E κ cells slots (pc + 1) ls (vi (I a i.toNatClampNeg) :: st) (S, I, P)) : G E κ cells slots pc ls (vi i :: vr a :: st) (S, I, P) := by
  obtain ⟨l, D, Gc, B, b⟩ := E
  obtain ⟨p, e, R, s, m, args, below, meth, c, Q⟩ := κ
  obtain ⟨hx, hb, -, ho, hts, hK, -⟩ := X
  intro H locs la hl0 hP hS
  have he := gW_at (Gc := Gc) (B := B) (M := (S, I, P)) hsh
  rw [gE_int (by decide) (by decide)] at he
  exact va_cald hx hb hK.1 hP a 1 he rfl hin hd (kk H locs la hl0 hP hS)
theorem G_iast (X : Cx E κ cc nL own ret d cz sz) {a n : Nat} {i x : Int32} (hsh : S[a]? = some (10, n)) (hin : vp_in i n) (hd : decode cc pc = .ok (.iastore, 1)) (kk : G E κ cells slots (pc + 1) ls st (S, uI I a i.toNatClampNeg x, P)) : G E κ cells slots pc ls (vi x :: vi i :: vr a :: st) (S, I, P) := by
  obtain ⟨l, D, Gc, B, b⟩ := E
  obtain ⟨p, e, R, s, m, args, below, meth, c, Q⟩ := κ
  obtain ⟨hx, hb, -, ho, hts, hK, -⟩ := X
  intro H locs la hl0 hP hS
  have he := gW_at (Gc := Gc) (B := B) (M := (S, I, P)) hsh
  rw [gE_int (by decide) (by decide)] at he
  refine va_iast hx hb hK.1 hP gW_D hS a 0 he rfl hin hd (fun H1 locs1 hP1 _ hS1 => kk H1 locs1 la hl0 ?_ hS1)
  rw [gW_uI hsh, gE_int (by decide) (by decide)]
  have e : uI I a i.toNatClampNeg x a = upd (I a) i.toNatClampNeg x := by simp [uI]
  rw [e]
  exact hP1
theorem G_cast (X : Cx E κ cc nL own ret d cz sz) {a n : Nat} {i x : Int32} (hsh : S[a]? = some (11, n)) (hin : vp_in i n) (hd : decode cc pc = .ok (.castore, 1)) (kk : G E κ cells slots (pc + 1) ls st (S, uI I a i.toNatClampNeg (vp_nar .char x), P)) : G E κ cells slots pc ls (vi x :: vi i :: vr a :: st) (S, I, P) := by
  obtain ⟨l, D, Gc, B, b⟩ := E
  obtain ⟨p, e, R, s, m, args, below, meth, c, Q⟩ := κ
  obtain ⟨hx, hb, -, ho, hts, hK, -⟩ := X
  intro H locs la hl0 hP hS
  have he := gW_at (Gc := Gc) (B := B) (M := (S, I, P)) hsh
  rw [gE_int (by decide) (by decide)] at he
  refine va_cast hx hb hK.1 hP gW_D hS a 1 he rfl hin hd (fun H1 locs1 hP1 _ hS1 => kk H1 locs1 la hl0 ?_ hS1)
  rw [gW_uI hsh, gE_int (by decide) (by decide)]
  have e : uI I a i.toNatClampNeg (vp_nar .char x) a = upd (I a) i.toNatClampNeg (vp_nar .char x) := by simp [uI]
  rw [e]
  exact hP1
theorem gTy_at (Gc : Nat → ClassId) {kd : Nat} (h : kd = 12 ∨ kd = 13) : (gTy Gc)[kd - 10]? = some (Gc kd, .object (if kd = 12 then RX0 else RX1)) := by
  rcases h with rfl | rfl <;> rfl
theorem G_aald (X : Cx E κ cc nL own ret d cz sz) {a n kd r : Nat} {i : Int32} (hsh : S[a]? = some (kd, n)) (hkd : kd = 12 ∨ kd = 13) (hin : vp_in i n) (hv : P a i.toNatClampNeg = some r) (hd : decode cc pc = .ok (.aaload, 1)) (kk : G E κ cells slots (pc + 1) ls (vr r :: st) (S, I, P)) : G E κ cells slots pc ls (vi i :: vr a :: st) (S, I, P) := by
  obtain ⟨l, D, Gc, B, b⟩ := E
  obtain ⟨p, e, R, s, m, args, below, meth, c, Q⟩ := κ
  obtain ⟨hx, hb, -, ho, hts, hK, -⟩ := X
  intro H locs la hl0 hP hS
  have he := gW_at (Gc := Gc) (B := B) (M := (S, I, P)) hsh
  rw [gE_ref (by omega)] at he
  refine va_aldq hx hb hK.1 hP a (kd - 10) he (gTy_at Gc hkd) hin hd ?_
  have e : va_rf ((fun j => (P a j).map (fun x => B + x)) i.toNatClampNeg) = .ref (B + r) := by simp [hv, va_rf]
  rw [e]
  exact kk H locs la hl0 hP hS
theorem G_aast (X : Cx E κ cc nL own ret d cz sz) {a n kd r nr : Nat} {i : Int32} (hsh : S[a]? = some (kd, n)) (hkd : kd = 12 ∨ kd = 13) (hr : S[r]? = some (kd - 12, nr)) (hin : vp_in i n) (hd : decode cc pc = .ok (.aastore, 1)) (kk : G E κ cells slots (pc + 1) ls st (S, I, uP P a i.toNatClampNeg (some r))) : G E κ cells slots pc ls (vr r :: vi i :: vr a :: st) (S, I, P) := by
  obtain ⟨l, D, Gc, B, b⟩ := E
  obtain ⟨p, e, R, s, m, args, below, meth, c, Q⟩ := κ
  obtain ⟨hx, hb, -, ho, hts, hK, -⟩ := X
  intro H locs la hl0 hP hS
  have he := gW_at (Gc := Gc) (B := B) (M := (S, I, P)) hsh
  rw [gE_ref (by omega)] at he
  have hv := gW_at (Gc := Gc) (B := B) (M := (S, I, P)) hr
  rw [gE_obj (by omega)] at hv
  have hc : ∃ q : vw_C, vwCl[kd - 12]? = some q ∧ (if kd = 12 then RX0 else RX1) = q.1 := by
    rcases hkd with rfl | rfl
    · exact ⟨_, rfl, rfl⟩
    · exact ⟨_, rfl, rfl⟩
  obtain ⟨q, hq, hqe⟩ := hc
  have ht := gTy_at Gc hkd
  rw [hqe] at ht
  refine va_astq hx hb hK.1 hP gW_D hS a (kd - 10) r (kd - 12) he ht hv hq hin hd (fun H1 locs1 hP1 _ hS1 => kk H1 locs1 la hl0 ?_ hS1)
  rw [gW_uP hsh, gE_ref (by omega)]
  have e : (fun j => (uP P a i.toNatClampNeg (some r) a j).map (fun x => B + x)) = va_up (fun j => (P a j).map (fun x => B + x)) i.toNatClampNeg (some (B + r)) := by
    funext j
    by_cases hj : j = i.toNatClampNeg
    · simp [uP, va_up, hj]
    · simp [uP, va_up, hj]
  rw [e]
  exact hP1
theorem G_alen (X : Cx E κ cc nL own ret d cz sz) {a n kd : Nat} (hsh : S[a]? = some (kd, n)) (hkd : kd = 10 ∨ kd = 11 ∨ kd = 12 ∨ kd = 13) (hd : decode cc pc = .ok (.arraylength, 1)) (kk : G E κ cells slots (pc + 1) ls (vi (nI n) :: st) (S, I, P)) : G E κ cells slots pc ls (vr a :: st) (S, I, P) := by
  obtain ⟨l, D, Gc, B, b⟩ := E
  obtain ⟨p, e, R, s, m, args, below, meth, c, Q⟩ := κ
  obtain ⟨hx, hb, -, ho, hts, hK, -⟩ := X
  intro H locs la hl0 hP hS
  have he := gW_at (Gc := Gc) (B := B) (M := (S, I, P)) hsh
  rcases hkd with rfl | rfl | rfl | rfl
  · rw [gE_int (by decide) (by decide)] at he
    exact va_alen hx hb hK.1 hP a 0 he rfl rfl hd (kk H locs la hl0 hP hS)
  · rw [gE_int (by decide) (by decide)] at he
    exact va_alen hx hb hK.1 hP a 1 he rfl rfl hd (kk H locs la hl0 hP hS)
  · rw [gE_ref (by decide)] at he
    exact va_alen hx hb hK.1 hP a 2 he rfl rfl hd (kk H locs la hl0 hP hS)
  · rw [gE_ref (by decide)] at he
    exact va_alen hx hb hK.1 hP a 3 he rfl rfl hd (kk H locs la hl0 hP hS)
/-- the law's script -/
def gX (E : gEnv) (κ : gCtx) (L : Nat) (xs : Nat → Int32) : Prop := match E, κ with
  | (_, _, _, B, b), (_, _, _, s, _) => va_X b L xs s s.heap ∧ b < B ∧ b < s.heap.size
theorem G_sld (X : Cx E κ cc nL own ret d cz sz) {L : Nat} {xs : Nat → Int32} {M : gM} (hX : gX E κ L xs) {i : Int32} (hin : vp_in i L) (hd : decode cc pc = .ok (.iaload, 1)) (kk : G E κ cells slots (pc + 1) ls (vi (xs i.toNatClampNeg) :: st) M) : G E κ cells slots pc ls (vi i :: vsc :: st) M := by
  obtain ⟨l, D, Gc, B, b⟩ := E
  obtain ⟨p, e, R, s, m, args, below, meth, c, Q⟩ := κ
  obtain ⟨hx, hb, -, ho, hts, hK, -⟩ := X
  intro H locs la hl0 hP hS
  exact va_sld hx hb hX.1 hX.2.2 (Nat.not_le.mpr hX.2.1) hS hin hd (kk H locs la hl0 hP hS)
theorem G_slen (X : Cx E κ cc nL own ret d cz sz) {L : Nat} {xs : Nat → Int32} {M : gM} (hX : gX E κ L xs) (hd : decode cc pc = .ok (.arraylength, 1)) (kk : G E κ cells slots (pc + 1) ls (vi (nI L) :: st) M) : G E κ cells slots pc ls (vsc :: st) M := by
  obtain ⟨l, D, Gc, B, b⟩ := E
  obtain ⟨p, e, R, s, m, args, below, meth, c, Q⟩ := κ
  obtain ⟨hx, hb, -, ho, hts, hK, -⟩ := X
  intro H locs la hl0 hP hS
  exact va_slen hx hb hX.1 hX.2.2 (Nat.not_le.mpr hX.2.1) hS hd (kk H locs la hl0 hP hS)
theorem gcat_sum (B b : Nat) : ∀ st : List gV, ((st.map (gv B b)).map fun v => v.category).sum = st.length
  | [] => rfl
  | v :: r => by
    rw [List.map_cons, List.map_cons, List.sum_cons, gcat_sum B b r, gv_cat, List.length_cons]
    omega
theorem groom (B b : Nat) {m : MethodId} {pc : Nat} {la : Array Slot} {s0 : List Value} {st : List gV} (h : st.length ≤ 8) : 2 * (F0 m pc la s0).monitorRoom + ((st.map (gv B b)).map fun v => v.category).sum ≤ 8 := lv_room (by rw [gcat_sum]; exact h)
theorem gws_good {y : MethodName} {bc : ByteArray} {nL' : Nat} {ret' : Option FieldType} (h : Cond.code y bc nL' ret' ∈ gT) : GoodIn gT (gws y bc nL' ret') := gT_good fun w hw => by
  rcases List.mem_cons.mp hw with rfl | h1
  · exact h
  · exact h1
theorem gPr_blind {D : va_G} {Gc : Nat → ClassId} {B : Nat} {M : gM} {av : List Value} : FrameBlind (va_Pc av (gPr D Gc B M)) := fun a U g mk q => ⟨q.1, q.2.1, gKK.same (s := U) (U := U.calling g mk a) rfl q.2.2.1, q.2.2.2⟩
/-- behind a call, whatever the kind of the invoke -/
theorem G_back {l : Launch} {D : va_G} {Gc : Nat → ClassId} {B b : Nat} {p : Program} {e : Env} {R : Room} {s : State} {m : MethodId} {args : Array Value} {below : List Frame} {meth : Method} {c : Code} {Q : State → Prop} {H : Heap} {locs : List Loc} {la : Array Slot} {s0 : List Value} {a : Array Value} {mc ms : Nat} {rv : Option gV} {M1 : gM} (hB : B ≤ s.heap.size)
    (hr : va_Run p l e R s m args below meth c H locs cells slots mc ms (F0 m pc la s0) (st.map (gv B b)) (gQo D Gc B b rv M1 a) (fun q => B ≤ q)) (hl0 : gLk B b la ls) (hS : va_S (fun q => B ≤ q) s.heap H locs)
    (kk : G (l, D, Gc, B, b) (p, e, R, s, m, args, below, meth, c, Q) (cells + mc) (slots + ms) (pc + 3) ls (rv.toList ++ st) M1) : W p l e R s m args below meth c H locs cells slots Q (F0 m pc la s0) := by
  intro T hT X
  obtain ⟨v, st₀, t, T', L, h0, X', hL, e1, e2, ⟨hv, hP, hz, hk⟩, st1⟩ := hr T hT X
  cases hv
  rw [h0] at hz hk
  have hS' : va_S (fun q => B ≤ q) s.heap T'.heap (locs ++ L) := ⟨Nat.le_trans hS.1 (by rw [e1]; exact hz), fun q h1 h2 => by
      rw [e1, hk q (Nat.lt_of_lt_of_le h1 hS.1) h2]
      exact hS.2.1 q h1 h2, fun q hq => by
      rcases List.mem_append.mp hq with h | h
      · exact hS.2.2 q h
      · exact hL q h⟩
  obtain ⟨t2, a1, b1⟩ := kk T'.heap (locs ++ L) la hl0 (by rw [e1]; exact hP) hS' T' rfl X'
  refine ⟨t2, st1 t2 ?_, b1⟩
  cases rv with
  | none => exact a1
  | some w => exact a1
theorem G_callV (X : Cx E κ cc nL own ret d cz sz) {y : MethodName} {bc : ByteArray} {nL' ix n d' mc ms a ci k : Nat} {ret' : Option FieldType} {As sk : List gV} {M M1 : gM} {rv : Option gV} {C : String} {T : u_T} {N : Nat} (hM : Ctr E y bc nL' ret' d' mc ms (vr a :: As) M rv M1) (hw : gCB own ix y bc nL' ret' n) (hv : gVI y) (hc : vwCl[ci]? = some (C, T, N)) (hC : y.cls = C) (hsh : M.1[a]? = some (ci, k))
    (hn : As.length = n) (hsk : sk = As.reverse ++ vr a :: st) (hst : st.length ≤ 8) (hfr : d' + 1 ≤ d) (hnL : nL' ≤ 21) (hlen : ls.length = nL) (hcz : cells + mc ≤ cz) (hsz : slots + ms ≤ sz) (hd : decode cc pc = .ok (.invokevirtual ix, 3)) (kk : G E κ (cells + mc) (slots + ms) (pc + 3) ls (rv.toList ++ st) M1) : G E κ cells slots pc ls sk M := by
  subst hsk
  obtain ⟨l, D, Gc, B, b⟩ := E
  obtain ⟨p, e, R, s, m, args, below, meth, c, Q⟩ := κ
  obtain ⟨hx, hb, hml, ho, hts, hK, hB, -, -, hfr2, hlo, hcz2, hsz2⟩ := X
  obtain ⟨w1, w2, w3, w4⟩ := hw
  intro H locs la hl0 hP hS
  have h10 := lt10 hc
  have he := gW_at (Gc := Gc) (B := B) (M := M) hsh
  rw [gE_obj h10] at he
  have cb : CallB R s args own ix y bc nL' ret' (gws y bc nL' ret') { frames := d', cells := mc, slots := ms, locals := 40 * d' } mc ms n :=
    callB_of n hts (gws_good w3) rfl rfl rfl (hts _ w2) (hts _ w1) w4 ⟨by show d' + 1 ≤ R.frames; omega, by show 8 + (nL' + 11) + 40 * d' ≤ R.locals; omega⟩
  subst hC
  have hr := va_runV (b := B + a) (As := As.map (gv B b)) (rest := st.map (gv B b)) (g := F0 m pc la ((As.reverse ++ vr a :: st).map (gv B b))) (cells := cells) (slots := slots) (locs := locs) (below := below) (meth := meth) (e := e) (H := H) (C := y.cls) ⟨hx, hb, hml, ho, hts⟩ hM ⟨cb, hts _ hv.1, hts _ hv.2⟩
    ⟨gPr_blind, va_recv hK.1 hP hc he, fun U hU hW => ⟨rfl, by rw [hU]; exact hP, gKK.moved hW hK, by rw [hU]; exact Nat.le_trans hB hS.1⟩⟩ rfl (by simpa using hn) (hl0.1.trans hlen) (by simp [gv]) (groom B b hst) hd ⟨by omega, by omega⟩
  exact G_back hB hr hl0 hS kk
theorem G_callS (X : Cx E κ cc nL own ret d cz sz) {y : MethodName} {bc : ByteArray} {nL' ix n d' mc ms : Nat} {ret' : Option FieldType} {As sk : List gV} {M M1 : gM} {rv : Option gV} (hM : Ctr E y bc nL' ret' d' mc ms As M rv M1) (hw : gCB own ix y bc nL' ret' n) (hv : Cond.static y ∈ gT)
    (hn : As.length = n) (hsk : sk = As.reverse ++ st) (hst : st.length ≤ 8) (hfr : d' + 1 ≤ d) (hnL : nL' ≤ 21) (hlen : ls.length = nL) (hcz : cells + mc ≤ cz) (hsz : slots + ms ≤ sz) (hd : decode cc pc = .ok (.invokestatic ix, 3)) (kk : G E κ (cells + mc) (slots + ms) (pc + 3) ls (rv.toList ++ st) M1) : G E κ cells slots pc ls sk M := by
  subst hsk
  obtain ⟨l, D, Gc, B, b⟩ := E
  obtain ⟨p, e, R, s, m, args, below, meth, c, Q⟩ := κ
  obtain ⟨hx, hb, hml, ho, hts, hK, hB, -, -, hfr2, hlo, hcz2, hsz2⟩ := X
  obtain ⟨w1, w2, w3, w4⟩ := hw
  intro H locs la hl0 hP hS
  have cb : CallB R s args own ix y bc nL' ret' (gws y bc nL' ret') { frames := d', cells := mc, slots := ms, locals := 40 * d' } mc ms n :=
    callB_of n hts (gws_good w3) rfl rfl rfl (hts _ w2) (hts _ w1) w4 ⟨by show d' + 1 ≤ R.frames; omega, by show 8 + (nL' + 11) + 40 * d' ≤ R.locals; omega⟩
  have hr := va_runS (As := As.map (gv B b)) (rest := st.map (gv B b)) (g := F0 m pc la ((As.reverse ++ st).map (gv B b))) (cells := cells) (slots := slots) (locs := locs) (below := below) (meth := meth) (e := e) (H := H) ⟨hx, hb, hml, ho, hts⟩ hM ⟨cb, hts _ hv⟩
    ⟨gPr_blind, fun U hU hW => ⟨rfl, by rw [hU]; exact hP, gKK.moved hW hK, by rw [hU]; exact Nat.le_trans hB hS.1⟩⟩ rfl (by simpa using hn) (hl0.1.trans hlen) (by simp) (groom B b hst) hd ⟨by omega, by omega⟩
  exact G_back hB hr hl0 hS kk
theorem G_callI (X : Cx E κ cc nL own ret d cz sz) {y : MethodName} {bc : ByteArray} {nL' ix n d' mc ms a : Nat} {As sk : List gV} {M M1 : gM} {rv : Option gV} (hM : Ctr E y bc nL' none d' mc ms (vr a :: As) M rv M1) (hw : gCB own ix y bc nL' none n) (hv : Cond.instanceMethod y ∈ gT) (hy : y.name = "<init>")
    (hn : As.length = n) (hsk : sk = As.reverse ++ vr a :: st) (hst : st.length ≤ 8) (hfr : d' + 1 ≤ d) (hnL : nL' ≤ 21) (hlen : ls.length = nL) (hcz : cells + mc ≤ cz) (hsz : slots + ms ≤ sz) (hd : decode cc pc = .ok (.invokespecial ix, 3)) (kk : G E κ (cells + mc) (slots + ms) (pc + 3) ls (rv.toList ++ st) M1) : G E κ cells slots pc ls sk M := by
  subst hsk
  obtain ⟨l, D, Gc, B, b⟩ := E
  obtain ⟨p, e, R, s, m, args, below, meth, c, Q⟩ := κ
  obtain ⟨hx, hb, hml, ho, hts, hK, hB, -, -, hfr2, hlo, hcz2, hsz2⟩ := X
  obtain ⟨w1, w2, w3, w4⟩ := hw
  intro H locs la hl0 hP hS
  have cb : CallB R s args own ix y bc nL' none (gws y bc nL' none) { frames := d', cells := mc, slots := ms, locals := 40 * d' } mc ms n :=
    callB_of n hts (gws_good w3) rfl rfl rfl (hts _ w2) (hts _ w1) w4 ⟨by show d' + 1 ≤ R.frames; omega, by show 8 + (nL' + 11) + 40 * d' ≤ R.locals; omega⟩
  have hr := va_runI (b := B + a) (As := As.map (gv B b)) (rest := st.map (gv B b)) (g := F0 m pc la ((As.reverse ++ vr a :: st).map (gv B b))) (cells := cells) (slots := slots) (locs := locs) (below := below) (meth := meth) (e := e) (H := H) ⟨hx, hb, hml, ho, hts⟩ hM ⟨cb, hy, hts _ hv⟩
    ⟨gPr_blind, fun U hU hW => ⟨rfl, by rw [hU]; exact hP, gKK.moved hW hK, by rw [hU]; exact Nat.le_trans hB hS.1⟩⟩ rfl (by simpa using hn) (hl0.1.trans hlen) (by simp [gv]) (groom B b hst) hd ⟨by omega, by omega⟩
  exact G_back hB hr hl0 hS kk
def gNw (E : gEnv) (κ : gCtx) (w : Cond) : Prop := va_Nw w κ.2.2.2.1
theorem G_callIN (X : Cx E κ cc nL own ret d cz sz) {y : MethodName} {bc : ByteArray} {nL' ix n d' mc ms a : Nat} {As sk : List gV} {M M1 : gM} {rv : Option gV} {host : String} (hM : Ctr E y bc nL' none d' mc ms (vr a :: As) M rv M1) (hw : gCN y bc nL' none n) (hNw : gNw E κ (.methodLinkNest own ix y host)) (hv : Cond.instanceMethod y ∈ gT) (hy : y.name = "<init>")
    (hn : As.length = n) (hsk : sk = As.reverse ++ vr a :: st) (hst : st.length ≤ 8) (hfr : d' + 1 ≤ d) (hnL : nL' ≤ 21) (hlen : ls.length = nL) (hcz : cells + mc ≤ cz) (hsz : slots + ms ≤ sz) (hd : decode cc pc = .ok (.invokespecial ix, 3)) (kk : G E κ (cells + mc) (slots + ms) (pc + 3) ls (rv.toList ++ st) M1) : G E κ cells slots pc ls sk M := by
  subst hsk
  obtain ⟨l, D, Gc, B, b⟩ := E
  obtain ⟨p, e, R, s, m, args, below, meth, c, Q⟩ := κ
  obtain ⟨hx, hb, hml, ho, hts, hK, hB, -, -, hfr2, hlo, hcz2, hsz2⟩ := X
  obtain ⟨w2, w3, w4⟩ := hw
  intro H locs la hl0 hP hS
  have cb : va_CN R s args own ix y host bc nL' none (gws y bc nL' none) { frames := d', cells := mc, slots := ms, locals := 40 * d' } mc ms n :=
    va_cnB n hts (gws_good w3) rfl rfl rfl hNw (hts _ w2) w4 ⟨by show d' + 1 ≤ R.frames; omega, by show 8 + (nL' + 11) + 40 * d' ≤ R.locals; omega⟩
  have hr := va_runIN (b := B + a) (As := As.map (gv B b)) (rest := st.map (gv B b)) (g := F0 m pc la ((As.reverse ++ vr a :: st).map (gv B b))) (cells := cells) (slots := slots) (locs := locs) (below := below) (meth := meth) (e := e) (H := H) ⟨hx, hb, hml, ho, hts⟩ hM ⟨cb, hy, hts _ hv⟩
    ⟨gPr_blind, fun U hU hW => ⟨rfl, by rw [hU]; exact hP, gKK.moved hW hK, by rw [hU]; exact Nat.le_trans hB hS.1⟩⟩ rfl (by simpa using hn) (hl0.1.trans hlen) (by simp [gv]) (groom B b hst) hd ⟨by omega, by omega⟩
  exact G_back hB hr hl0 hS kk
theorem G_objInit (X : Cx E κ cc nL own ret d cz sz) {ix : Nat} {a : Nat} {M : gM} (h1 : Cond.methodLink own ix Lib.objectInit ∈ gT) (h2 : Cond.instanceMethod Lib.objectInit ∈ gT) (h3 : Cond.code Lib.objectInit ⟨#[0xb1]⟩ 1 none ∈ gT) (hst : st.length ≤ 8) (hfr : 1 ≤ d) (hlen : ls.length = nL) (hd : decode cc pc = .ok (.invokespecial ix, 3)) (kk : G E κ cells slots (pc + 3) ls st M) : G E κ cells slots pc ls (vr a :: st) M := by
  obtain ⟨l, D, Gc, B, b⟩ := E
  obtain ⟨p, e, R, s, m, args, below, meth, c, Q⟩ := κ
  obtain ⟨hx, hb, hml, ho, hts, hK, hB, -, -, hfr2, hlo, hcz2, hsz2⟩ := X
  intro H locs la hl0 hP hS
  refine W.objInit hx hb ho (hts _ h1) (hts _ h2) (hts _ h3) (g := F0 m pc la ((vr a :: st).map (gv B b))) rfl (by rw [hml]; exact hl0.1.trans hlen) rfl hd (by omega) ?_ (kk H locs la hl0 hP hS)
  have := groom B b (m := m) (pc := pc) (la := la) (s0 := (vr a :: st).map (gv B b)) hst
  omega
theorem G_iret (X : Cx E κ cc nL own ret d cz sz) {x : Int32} {M : gM} {ty : FieldType} (hR : gRt E κ cells slots (some (vi x)) M) (hret : ret = some ty) (hn : narrow ty (.int x) = .int x) (hd : decode cc pc = .ok (.ireturn, 1)) : G E κ cells slots pc ls [vi x] M := by
  subst hret
  obtain ⟨l, D, Gc, B, b⟩ := E
  obtain ⟨p, e, R, s, m, args, below, meth, c, Q⟩ := κ
  obtain ⟨hx, hb, hml, ho, hts, hK, hB, hlk, hr, -⟩ := X
  have hR : Q = _ := hR
  subst hR
  intro H locs la hl0 hP hS
  exact W.zret hx hb hr hn (fun t ht hW => ⟨rfl, by rw [ht]; exact hP, hS.F ht⟩) hS.2.2 hd hlk
theorem G_vret (X : Cx E κ cc nL own ret d cz sz) {M : gM} (hR : gRt E κ cells slots none M) (hret : ret = none) (hd : decode cc pc = .ok (.return_, 1)) : G E κ cells slots pc ls [] M := by
  subst hret
  obtain ⟨l, D, Gc, B, b⟩ := E
  obtain ⟨p, e, R, s, m, args, below, meth, c, Q⟩ := κ
  obtain ⟨hx, hb, hml, ho, hts, hK, hB, hlk, hr, -⟩ := X
  have hR : Q = _ := hR
  subst hR
  intro H locs la hl0 hP hS
  exact W.vret hx hb hr (fun t ht hW => ⟨rfl, by rw [ht]; exact hP, hS.F ht⟩) hS.2.2 hd hlk
theorem G_aret (X : Cx E κ cc nL own ret d cz sz) {a : Nat} {M : gM} {C : String} (hR : gRt E κ cells slots (some (vr a)) M) (hret : ret = some (.object C)) (hd : decode cc pc = .ok (.areturn, 1)) : G E κ cells slots pc ls [vr a] M := by
  subst hret
  obtain ⟨l, D, Gc, B, b⟩ := E
  obtain ⟨p, e, R, s, m, args, below, meth, c, Q⟩ := κ
  obtain ⟨hx, hb, hml, ho, hts, hK, hB, hlk, hr, -⟩ := X
  have hR : Q = _ := hR
  subst hR
  intro H locs la hl0 hP hS
  exact W.aret hx hb hr (Or.inl ⟨_, rfl⟩) (Or.inr ⟨_, rfl⟩) (fun t ht hW => ⟨rfl, by rw [ht]; exact hP, hS.F ht⟩) hS.2.2 hd hlk
end GMem
end
section
/-! THE RULES for what is made, and for the library's members -/
/-- the cells so far: those of the start and those that were made -/
def gSz (E : gEnv) (κ : gCtx) (cells n : Nat) : Prop := κ.2.2.2.1.heap.size + cells = E.2.2.2.1 + n
def uZ (I : gI) (a : Nat) : gI := uC I a (fun _ => 0)
def uZP (P : gP) (a : Nat) : gP := uQ P a (fun _ => none)
section GNew
variable {E : gEnv} {κ : gCtx} {cc : ByteArray} {nL d cz sz cells slots pc : Nat} {own : String} {ret : Option FieldType} {ls : List (Option gV)} {st : List gV} {S : List (Nat × Nat)} {I : gI} {P : gP}
theorem gE_uC_ne {Gc : Nat → ClassId} {B : Nat} {I : gI} {P : gP} {a c : Nat} {f : Nat → Int32} {sh : Nat × Nat} (h : c ≠ a) : gE Gc B (uC I a f) P c sh = gE Gc B I P c sh := by
  have e : uC I a f c = I c := by simp [uC, h]
  have e2 : gF B (uC I a f) P sh.1 c = gF B I P sh.1 c := by funext j; simp [gF, e]
  simp only [gE, e, e2]
theorem gE_uQ_ne {Gc : Nat → ClassId} {B : Nat} {I : gI} {P : gP} {a c : Nat} {f : Nat → Option Nat} {sh : Nat × Nat} (h : c ≠ a) : gE Gc B I (uQ P a f) c sh = gE Gc B I P c sh := by
  have e : uQ P a f c = P c := by simp [uQ, h]
  have e2 : gF B I (uQ P a f) sh.1 c = gF B I P sh.1 c := by funext j; simp [gF, e]
  simp only [gE, e, e2]
theorem gW_push {Gc : Nat → ClassId} {B : Nat} {f : Nat → Int32} {g : Nat → Option Nat} (sh : Nat × Nat) : gW Gc B (S ++ [sh], uC I S.length f, uQ P S.length g) = gW Gc B (S, I, P) ++ [(B + S.length, gE Gc B (uC I S.length f) (uQ P S.length g) S.length sh)] := by
  apply List.ext_getElem?
  intro i
  by_cases hi : i < S.length
  · rw [List.getElem?_append_left (by simpa [gW] using hi)]
    simp only [gW, List.getElem?_mapIdx, List.getElem?_append_left hi]
    rw [List.getElem?_eq_getElem hi]
    simp only [Option.map_some]
    rw [gE_uQ_ne (by omega), gE_uC_ne (by omega)]
  · by_cases hj : i = S.length
    · subst hj
      rw [List.getElem?_append_right (by simp [gW])]
      simp [gW]
    · rw [List.getElem?_eq_none (by simp [gW]; omega), List.getElem?_eq_none (by simp [gW]; omega)]
/-- how many cells there can be -/
theorem W_sz {p : Program} {l : Launch} {e : Env} {R : Room} {s : State} {m : MethodId} {args : Array Value} {below : List Frame} {meth : Method} {c : Code} {H : Heap} {locs : List Loc} {cells slots : Nat} {Q : State → Prop} {g : JFrame} (h : H.size ≤ s.heap.size + cells → W p l e R s m args below meth c H locs cells slots Q g) : W p l e R s m args below meth c H locs cells slots Q g := by
  intro T hT X
  exact h (by rw [← hT]; exact X.heapSize) T hT X
theorem gW_len {Gc : Nat → ClassId} {B : Nat} {M : gM} : (gW Gc B M).length = M.1.length := by simp [gW]
/-- the new cell's place -/
theorem g_fresh {Gc : Nat → ClassId} {B q : Nat} {M : gM} {x : va_E} {D : va_G} {H1 : Heap} {n : Nat} (hP : va_P D vwCl (gW Gc B M ++ [(q, x)]) H1) (hD : va_D (fun q => B ≤ q) (gW Gc B M ++ [(q, x)])) (hz : H1.size ≤ B + n + 1) (hn : M.1.length = n) : q = B + n := by
  subst hn
  have hq : (gW Gc B M ++ [(q, x)])[M.1.length]? = some (q, x) := by
    rw [List.getElem?_append_right (by rw [gW_len]; exact Nat.le_refl _), gW_len]
    simp
  have h1 : B ≤ q := hD.2 _ _ hq
  have h2 : q < H1.size := (hP _ _ hq).lt
  by_cases h3 : q = B + M.1.length
  · exact h3
  · exfalso
    have h4 : q - B < M.1.length := by omega
    obtain ⟨sh, hsh⟩ : ∃ sh, M.1[q - B]? = some sh := ⟨_, List.getElem?_eq_getElem h4⟩
    have h5 := gW_at (Gc := Gc) (B := B) hsh
    have h6 : (gW Gc B M ++ [(q, x)])[q - B]? = some (B + (q - B), gE Gc B M.2.1 M.2.2 (q - B) sh) := by
      rw [List.getElem?_append_left (by rw [gW_len]; exact h4)]
      exact h5
    have h7 := hD.1 _ _ _ _ hq h6 (by show q = B + (q - B); omega)
    omega
def gCl (own : String) (ix ci : Nat) : Prop := ∃ (C : String) (T : u_T) (N : Nat) (tys : Nat → FieldType), vwCl[ci]? = some (C, T, N) ∧ N = gN ci ∧ (∀ w ∈ u_ws C T N, w ∈ gT) ∧ (∀ j, j < N → parseFieldDescriptor (T j).2.2.1 = some (tys j)) ∧ Cond.classLink own ix C ∈ gT ∧ Cond.instantiable C N ∈ gT ∧ Cond.initialized C ∈ gT ∧ ∀ j, j < N → defaultValue (tys j) = if gR ci j = true then .null else .int 0
theorem G_new (X : Cx E κ cc nL own ret d cz sz) {ix ci : Nat} (hcl : gCl own ix ci) (hZ : gSz E κ cells S.length) (hcz : cells + 1 ≤ cz) (hsz : slots + gN ci ≤ sz) (hd : decode cc pc = .ok (.new ix, 3)) (kk : G E κ (cells + 1) (slots + gN ci) (pc + 3) ls (vr S.length :: st) (S ++ [(ci, 0)], uZ I S.length, uZP P S.length)) : G E κ cells slots pc ls st (S, I, P) := by
  obtain ⟨l, D, Gc, B, b⟩ := E
  obtain ⟨p, e, R, s, m, args, below, meth, c, Q⟩ := κ
  obtain ⟨hx, hb, hml, ho, hts, hK, hB, -, -, hfr2, hlo, hcz2, hsz2⟩ := X
  obtain ⟨C, T, N, tys, hc, hN, hin, hty, w1, w2, w3, hdf⟩ := hcl
  have hZ : s.heap.size + cells = B + S.length := hZ
  have h10 := lt10 hc
  subst hN
  intro H locs la hl0 hP hS
  refine va_new (D := D) (fs := (List.range (gN ci)).map (gF B (uZ I S.length) (uZP P S.length) ci S.length)) hx hb hts hin tys hty ho (hts _ w1) (hts _ w2) (hts _ w3) hK.1 hP gW_D hS (fun q hq => Nat.le_trans hB hq) hc (fun j hj => ?_) (by omega) (by omega) hd (fun q H1 hP1 hD1 hS1 => W_sz fun hz => ?_)
  · rw [hdf j hj]
    simp only [vp_V, List.getD, gFs_at hj, Option.getD_some]
    unfold gF
    split <;> simp [uZ, uZP, uC, uQ, va_rf]
  · have hq : q = B + S.length := g_fresh hP1 hD1 (by omega) rfl
    subst hq
    refine kk H1 locs la hl0 ?_ hS1
    have e := gW_push (Gc := Gc) (B := B) (S := S) (I := I) (P := P) (f := fun _ => 0) (g := fun _ => none) (ci, 0)
    rw [gE_obj h10] at e
    show va_P D vwCl (gW Gc B (S ++ [(ci, 0)], uC I S.length (fun _ => 0), uQ P S.length (fun _ => none))) H1
    rw [e]
    exact hP1
theorem va_RA_inj {U : State} {c1 c2 : ClassId} {ty : FieldType} (h1 : va_RA U c1 ty) (h2 : va_RA U c2 ty) : c1 = c2 := by
  cases ty with
  | object C =>
    obtain ⟨_, _, _, _, _, h⟩ := h1
    obtain ⟨_, _, _, _, _, h'⟩ := h2
    exact Option.some.inj (h.symm.trans h')
  | _ => exact Option.some.inj (h1.symm.trans h2)
theorem G_newa_int (X : Cx E κ cc nL own ret d cz sz) {n : Int32} {N : Nat} (hw : Cond.arrayClass .int ∈ gT) (hn : ¬ n < 0) (hN : n.toNatClampNeg = N) (hby : N ≤ 100000) (hZ : gSz E κ cells S.length) (hcz : cells + 1 ≤ cz) (hsz : slots + N ≤ sz) (hd : decode cc pc = .ok (.newarray .int, 2)) (kk : G E κ (cells + 1) (slots + N) (pc + 2) ls (vr S.length :: st) (S ++ [(10, N)], uZ I S.length, uZP P S.length)) : G E κ cells slots pc ls (vi n :: st) (S, I, P) := by
  obtain ⟨l, D, Gc, B, b⟩ := E
  obtain ⟨p, e, R, s, m, args, below, meth, c, Q⟩ := κ
  obtain ⟨hx, hb, hml, ho, hts, hK, hB, -, -, hfr2, hlo, hcz2, hsz2⟩ := X
  have hZ : s.heap.size + cells = B + S.length := hZ
  intro H locs la hl0 hP hS
  refine va_newa (atype := .int) (D := D) (ty := .int) (a0 := (N, .inl (fun _ => 0))) hx hb (hts _ hw) rfl hK.1 hP gW_D hS (fun q hq => Nat.le_trans hB hq) (fun cA => rfl) hn hN (by show N * 4 ≤ _; omega) (by omega) (by omega) hd (fun q cA H1 hK1 hP1 hD1 hS1 => W_sz fun hz => ?_)
  have hc : cA = Gc 10 := va_RA_inj (hK1.2 4 (cA, .int) rfl).2 (hK1.2 0 (Gc 10, .int) rfl).2
  subst hc
  have hq : q = B + S.length := g_fresh hP1 hD1 (by omega) rfl
  subst hq
  refine kk H1 locs la hl0 ?_ hS1
  have e := gW_push (Gc := Gc) (B := B) (S := S) (I := I) (P := P) (f := fun _ => 0) (g := fun _ => none) (10, N)
  rw [gE_int (by decide) (by decide)] at e
  show va_P D vwCl (gW Gc B (S ++ [(10, N)], uC I S.length (fun _ => 0), uQ P S.length (fun _ => none))) H1
  rw [e]
  have e2 : uC I S.length (fun _ => 0) S.length = fun _ => 0 := by simp [uC]
  rw [e2]
  exact hP1
theorem G_newa_char (X : Cx E κ cc nL own ret d cz sz) {n : Int32} {N : Nat} (hw : Cond.arrayClass .char ∈ gT) (hn : ¬ n < 0) (hN : n.toNatClampNeg = N) (hby : N ≤ 100000) (hZ : gSz E κ cells S.length) (hcz : cells + 1 ≤ cz) (hsz : slots + N ≤ sz) (hd : decode cc pc = .ok (.newarray .char, 2)) (kk : G E κ (cells + 1) (slots + N) (pc + 2) ls (vr S.length :: st) (S ++ [(11, N)], uZ I S.length, uZP P S.length)) : G E κ cells slots pc ls (vi n :: st) (S, I, P) := by
  obtain ⟨l, D, Gc, B, b⟩ := E
  obtain ⟨p, e, R, s, m, args, below, meth, c, Q⟩ := κ
  obtain ⟨hx, hb, hml, ho, hts, hK, hB, -, -, hfr2, hlo, hcz2, hsz2⟩ := X
  have hZ : s.heap.size + cells = B + S.length := hZ
  intro H locs la hl0 hP hS
  refine va_newa (atype := .char) (D := D) (ty := .char) (a0 := (N, .inl (fun _ => 0))) hx hb (hts _ hw) rfl hK.1 hP gW_D hS (fun q hq => Nat.le_trans hB hq) (fun cA => rfl) hn hN (by show N * 2 ≤ _; omega) (by omega) (by omega) hd (fun q cA H1 hK1 hP1 hD1 hS1 => W_sz fun hz => ?_)
  have hc : cA = Gc 11 := va_RA_inj (hK1.2 4 (cA, .char) rfl).2 (hK1.2 1 (Gc 11, .char) rfl).2
  subst hc
  have hq : q = B + S.length := g_fresh hP1 hD1 (by omega) rfl
  subst hq
  refine kk H1 locs la hl0 ?_ hS1
  have e := gW_push (Gc := Gc) (B := B) (S := S) (I := I) (P := P) (f := fun _ => 0) (g := fun _ => none) (11, N)
  rw [gE_int (by decide) (by decide)] at e
  show va_P D vwCl (gW Gc B (S ++ [(11, N)], uC I S.length (fun _ => 0), uQ P S.length (fun _ => none))) H1
  rw [e]
  have e2 : uC I S.length (fun _ => 0) S.length = fun _ => 0 := by simp [uC]
  rw [e2]
  exact hP1
theorem G_newq (X : Cx E κ cc nL own ret d cz sz) {ix kd : Nat} {n : Int32} {N : Nat} (hkd : kd = 12 ∨ kd = 13) (hw : Cond.classLink own ix (if kd = 12 then RX0 else RX1) ∈ gT) (hn : ¬ n < 0) (hN : n.toNatClampNeg = N) (hby : N ≤ 100000) (hZ : gSz E κ cells S.length) (hcz : cells + 1 ≤ cz) (hsz : slots + N ≤ sz) (hd : decode cc pc = .ok (.anewarray ix, 3)) (kk : G E κ (cells + 1) (slots + N) (pc + 3) ls (vr S.length :: st) (S ++ [(kd, N)], uZ I S.length, uZP P S.length)) : G E κ cells slots pc ls (vi n :: st) (S, I, P) := by
  obtain ⟨l, D, Gc, B, b⟩ := E
  obtain ⟨p, e, R, s, m, args, below, meth, c, Q⟩ := κ
  obtain ⟨hx, hb, hml, ho, hts, hK, hB, -, -, hfr2, hlo, hcz2, hsz2⟩ := X
  have hZ : s.heap.size + cells = B + S.length := hZ
  have hao : va_AO (if kd = 12 then RX0 else RX1) s := by
    split
    · exact hK.2.1
    · exact hK.2.2.1
  intro H locs la hl0 hP hS
  refine va_newq (D := D) (C := if kd = 12 then RX0 else RX1) hx hb ho (hts _ hw) hao hK.1 hP gW_D hS (fun q hq => Nat.le_trans hB hq) hn hN (by omega) (by omega) (by omega) hd (fun q cA H1 hK1 hP1 hD1 hS1 => W_sz fun hz => ?_)
  have hc : cA = Gc kd := by
    have h1 := gTy_at Gc hkd
    have h2 : kd - 10 < (gTy Gc).length := (List.getElem?_eq_some_iff.mp h1).1
    exact va_RA_inj (hK1.2 4 (cA, .object (if kd = 12 then RX0 else RX1)) rfl).2 (hK1.2 (kd - 10) _ (by rw [List.getElem?_append_left h2]; exact h1)).2
  subst hc
  have hq : q = B + S.length := g_fresh hP1 hD1 (by omega) rfl
  subst hq
  refine kk H1 locs la hl0 ?_ hS1
  have e := gW_push (Gc := Gc) (B := B) (S := S) (I := I) (P := P) (f := fun _ => 0) (g := fun _ => none) (kd, N)
  rw [gE_ref (by omega)] at e
  show va_P D vwCl (gW Gc B (S ++ [(kd, N)], uC I S.length (fun _ => 0), uQ P S.length (fun _ => none))) H1
  rw [e]
  have e2 : (fun j => (uQ P S.length (fun _ => none) S.length j).map (fun x => B + x)) = fun _ => none := by funext j; simp [uQ]
  rw [e2]
  exact hP1
theorem G_max (X : Cx E κ cc nL own ret d cz sz) {ix : Nat} {x y : Int32} {M : gM} (hw1 : Cond.methodLink own ix Lib.Math.max.name ∈ gT) (hw2 : Cond.static Lib.Math.max.name ∈ gT) (hw3 : Cond.initialized "java/lang/Math" ∈ gT) (hw4 : Cond.code Lib.Math.max.name Lib.Math.max.code 2 (some .int) ∈ gT) (hst : st.length ≤ 8) (hfr : 1 ≤ d) (hlen : ls.length = nL) (hcz : cells ≤ cz) (hsz : slots ≤ sz) (hd : decode cc pc = .ok (.invokestatic ix, 3)) (kk : G E κ cells slots (pc + 3) ls (vi (if x < y then y else x) :: st) M) : G E κ cells slots pc ls (vi y :: vi x :: st) M := by
  obtain ⟨l, D, Gc, B, b⟩ := E
  obtain ⟨p, e, R, s, m, args, below, meth, c, Q⟩ := κ
  obtain ⟨hx, hb, hml, ho, hts, hK, hB, -, -, hfr2, hlo, hcz2, hsz2⟩ := X
  intro H locs la hl0 hP hS
  exact va_mmax hx hb (hml.trans (hlen.symm.trans hl0.1.symm)) ho (hts _ hw1) (hts _ hw2) (hts _ hw3) (hts _ hw4) (by omega) (by rw [gcat_sum]; omega) (by omega) (by omega) hd (kk H locs la hl0 hP hS)
theorem G_min (X : Cx E κ cc nL own ret d cz sz) {ix : Nat} {x y : Int32} {M : gM} (hw1 : Cond.methodLink own ix Lib.Math.min.name ∈ gT) (hw2 : Cond.static Lib.Math.min.name ∈ gT) (hw3 : Cond.initialized "java/lang/Math" ∈ gT) (hw4 : Cond.code Lib.Math.min.name Lib.Math.min.code 2 (some .int) ∈ gT) (hst : st.length ≤ 8) (hfr : 1 ≤ d) (hlen : ls.length = nL) (hcz : cells ≤ cz) (hsz : slots ≤ sz) (hd : decode cc pc = .ok (.invokestatic ix, 3)) (kk : G E κ cells slots (pc + 3) ls (vi (if y < x then y else x) :: st) M) : G E κ cells slots pc ls (vi y :: vi x :: st) M := by
  obtain ⟨l, D, Gc, B, b⟩ := E
  obtain ⟨p, e, R, s, m, args, below, meth, c, Q⟩ := κ
  obtain ⟨hx, hb, hml, ho, hts, hK, hB, -, -, hfr2, hlo, hcz2, hsz2⟩ := X
  intro H locs la hl0 hP hS
  exact va_mmin hx hb (hml.trans (hlen.symm.trans hl0.1.symm)) ho (hts _ hw1) (hts _ hw2) (hts _ hw3) (hts _ hw4) (by omega) (by rw [gcat_sum]; omega) (by omega) (by omega) hd (kk H locs la hl0 hP hS)
theorem G_copyi (X : Cx E κ cc nL own ret d cz sz) {ix a0 a n0 n1 : Nat} {sp dp n : Int32} (hw1 : Cond.methodLink own ix arraycopyName ∈ gT) (hw2 : Cond.native arraycopyName ∈ gT) (hw3 : Cond.static arraycopyName ∈ gT) (hw4 : Cond.initialized "java/lang/System" ∈ gT) (hs0 : S[a0]? = some (10, n0)) (hs1 : S[a]? = some (10, n1))
    (h1 : ¬ sp < 0) (h2 : ¬ dp < 0) (h3 : ¬ n < 0) (h4 : sp.toNatClampNeg + n.toNatClampNeg ≤ n0) (h5 : dp.toNatClampNeg + n.toNatClampNeg ≤ n1) (hst : st.length ≤ 8) (hfr : 1 ≤ d) (hlen : ls.length = nL) (hd : decode cc pc = .ok (.invokestatic ix, 3))
    (kk : G E κ cells slots (pc + 3) ls st (S, uC I a (va_cpy (I a0) (I a) sp.toNatClampNeg dp.toNatClampNeg n.toNatClampNeg), P)) : G E κ cells slots pc ls (vi n :: vi dp :: vr a :: vi sp :: vr a0 :: st) (S, I, P) := by
  obtain ⟨l, D, Gc, B, b⟩ := E
  obtain ⟨p, e, R, s, m, args, below, meth, c, Q⟩ := κ
  obtain ⟨hx, hb, hml, ho, hts, hK, hB, -, -, hfr2, hlo, hcz2, hsz2⟩ := X
  intro H locs la hl0 hP hS
  have he0 := gW_at (Gc := Gc) (B := B) (M := (S, I, P)) hs0
  rw [gE_int (by decide) (by decide)] at he0
  have he1 := gW_at (Gc := Gc) (B := B) (M := (S, I, P)) hs1
  rw [gE_int (by decide) (by decide)] at he1
  refine va_copyi hx hb (hml.trans (hlen.symm.trans hl0.1.symm)) ho (hts _ hw1) (hts _ hw2) (hts _ hw3) (hts _ hw4) hK.1 hP gW_D hS a0 a 0 0 he0 he1 rfl rfl rfl h1 h2 h3 h4 h5 (fun i _ => rfl) (by omega) ?_ hd (fun H1 locs1 hP1 _ hS1 => kk H1 locs1 la hl0 ?_ hS1)
  · rw [gcat_sum]
    have : nativeFrameWords "java/lang/System" "arraycopy" 5 ≤ 20 := by decide +kernel
    omega
  · have e := gW_set (Gc := Gc) (B := B) (I := I) (P := P) (P' := P) (I' := uC I a (va_cpy (I a0) (I a) sp.toNatClampNeg dp.toNatClampNeg n.toNatClampNeg)) hs1 (fun _ _ hc => gE_uC_ne hc)
    rw [e, gE_int (by decide) (by decide)]
    have e2 : uC I a (va_cpy (I a0) (I a) sp.toNatClampNeg dp.toNatClampNeg n.toNatClampNeg) a = va_cpy (I a0) (I a) sp.toNatClampNeg dp.toNatClampNeg n.toNatClampNeg := by simp [uC]
    rw [e2]
    exact hP1
end GNew
end
section
/-! THE MEMORY BEHIND THE CONSTRUCTORS: 84 cells whose shapes stay; all that changes are numbers (a change's number among them: cell 3 and field 6 of cell 19 keep cells' numbers as numbers) -/
def SH : List (Nat × Nat) := [(4, 0), (12, 8), (3, 0), (13, 5), (1, 0), (0, 0), (10, 40), (1, 0), (0, 0), (10, 40), (1, 0), (0, 0), (10, 40), (1, 0), (0, 0), (10, 40), (1, 0), (0, 0), (10, 40), (2, 0), (11, 100), (12, 19), (12, 0),
  (0, 0), (10, 40), (0, 0), (10, 40), (0, 0), (10, 40), (0, 0), (10, 40), (0, 0), (10, 40), (0, 0), (10, 40), (0, 0), (10, 40), (0, 0), (10, 40), (0, 0), (10, 40), (0, 0), (10, 40), (0, 0), (10, 40), (0, 0), (10, 40), (0, 0), (10, 40), (0, 0), (10, 40), (0, 0), (10, 40), (0, 0), (10, 40), (0, 0), (10, 40), (0, 0), (10, 40), (0, 0), (10, 40),
  (0, 0), (10, 40), (0, 0), (10, 40), (0, 0), (10, 40), (0, 0), (10, 40), (0, 0), (10, 40), (0, 0), (10, 40), (0, 0), (10, 40), (0, 0), (10, 40), (0, 0), (10, 40), (5, 0), (10, 48086), (10, 100), (10, 41), (10, 40)]
/-- the cells that stand in fields and rows for good -/
def pv (a k : Nat) : Option Nat := match SH[a]? with
  | some (0, _) => if k = 0 then some (a + 1) else none
  | some (1, _) => if k = 0 then some (a + 1) else none
  | some (2, _) => if k = 0 then some 20 else if k = 5 then some 21 else none
  | some (3, _) => if k = 0 then some 3 else none
  | some (4, _) => if k = 0 then some 1 else if k = 2 then some 2 else if k = 3 then some 19 else if k = 4 then some 61 else none
  | some (5, _) => if k = 0 then some 80 else if k = 2 then some 81 else if k = 4 then some 82 else if k = 9 then some 83 else none
  | some (12, 8) => if k < 8 then some (63 + 2 * k) else none
  | some (12, 19) => if k < 19 then some (23 + 2 * k) else none
  | _ => none
def Pof (I : gI) : gP := fun a k => if a = 3 then some (I 3 k).toNatClampNeg else if a = 19 ∧ k = 6 then some (I 19 6).toNatClampNeg else pv a k
def mm (I : gI) : gM := (SH, I, Pof I)
def isB (b : Nat) : Prop := SH[b]? = some (0, 0) ∧ SH[b + 1]? = some (10, 40)
def isC (c : Nat) : Prop := SH[c]? = some (1, 0) ∧ isB (c + 1)
def ib (i : Int32) (n : Nat) : Bool := decide (¬ i < 0) && decide (i.toNatClampNeg < n)
def b2i (b : Bool) : Int32 := if b = true then 1 else 0
theorem ib_in {i : Int32} {n : Nat} (h : ib i n = true) : vp_in i n := by
  simp only [ib, Bool.and_eq_true, decide_eq_true_eq] at h
  exact fun q => q.elim h.1 (fun z => absurd h.2 (Nat.not_lt.mpr z))
theorem ib_lt {i : Int32} {n : Nat} (h : ib i n = true) : i.toNatClampNeg < n := by
  simp only [ib, Bool.and_eq_true, decide_eq_true_eq] at h
  exact h.2
def isCb (c : Nat) : Bool := c == 4 || c == 7 || c == 10 || c == 13 || c == 16
theorem isCb_isC {c : Nat} (h : isCb c = true) : isC c := by
  simp only [isCb, Bool.or_eq_true, beq_iff_eq] at h
  rcases h with (((rfl | rfl) | rfl) | rfl) | rfl <;> exact ⟨rfl, rfl, rfl⟩
theorem isB_ne3 {b : Nat} (h : isB b) : b ≠ 3 ∧ b ≠ 19 ∧ b + 1 ≠ 3 ∧ b + 1 ≠ 19 := by
  obtain ⟨h1, h2⟩ := h
  refine ⟨?_, ?_, ?_, ?_⟩ <;> rintro e
  · subst e; exact absurd h1 (by decide)
  · subst e; exact absurd h1 (by decide)
  · rw [e] at h2; exact absurd h2 (by decide)
  · rw [e] at h2; exact absurd h2 (by decide)
theorem isC_ne3 {c : Nat} (h : isC c) : c ≠ 3 ∧ c ≠ 19 := by
  obtain ⟨h1, -⟩ := h
  refine ⟨?_, ?_⟩ <;> rintro e <;> subst e <;> exact absurd h1 (by decide)
theorem isB_p {b : Nat} {I : gI} (h : isB b) : Pof I b 0 = some (b + 1) := by
  obtain ⟨h3, h19, -⟩ := isB_ne3 h
  simp [Pof, h3, pv, h.1]
theorem isC_p {c : Nat} {I : gI} (h : isC c) : Pof I c 0 = some (c + 1) := by
  obtain ⟨h3, h19⟩ := isC_ne3 h
  simp [Pof, h3, pv, h.1]
theorem rB_is {i : Nat} (h : i < 8) : isB (63 + 2 * i) := by
  rcases (show i = 0 ∨ i = 1 ∨ i = 2 ∨ i = 3 ∨ i = 4 ∨ i = 5 ∨ i = 6 ∨ i = 7 by omega) with rfl | rfl | rfl | rfl | rfl | rfl | rfl | rfl <;> exact ⟨rfl, rfl⟩
theorem vB_is {i : Nat} (h : i < 19) : isB (23 + 2 * i) := by
  rcases (show i = 0 ∨ i = 1 ∨ i = 2 ∨ i = 3 ∨ i = 4 ∨ i = 5 ∨ i = 6 ∨ i = 7 ∨ i = 8 ∨ i = 9 ∨ i = 10 ∨ i = 11 ∨ i = 12 ∨ i = 13 ∨ i = 14 ∨ i = 15 ∨ i = 16 ∨ i = 17 ∨ i = 18 by omega) with rfl | rfl | rfl | rfl | rfl | rfl | rfl | rfl | rfl | rfl | rfl | rfl | rfl | rfl | rfl | rfl | rfl | rfl | rfl <;> exact ⟨rfl, rfl⟩
theorem sB_is : isB 61 := ⟨rfl, rfl⟩
theorem p_row {I : gI} {i : Nat} (h : i < 8) : Pof I 1 i = some (63 + 2 * i) := by
  show (if i < 8 then some (63 + 2 * i) else none) = _
  rw [if_pos h]
theorem p_val {I : gI} {i : Nat} (h : i < 19) : Pof I 21 i = some (23 + 2 * i) := by
  show (if i < 19 then some (23 + 2 * i) else none) = _
  rw [if_pos h]
theorem p_chg (I : gI) (i : Nat) : Pof I 3 i = some (I 3 i).toNatClampNeg := rfl
theorem p_rw {I : gI} (h : I 19 6 = 1) : Pof I 19 6 = some 1 := by
  show some (I 19 6).toNatClampNeg = _
  rw [h]
  rfl
theorem Pof_uI {I : gI} {a k : Nat} {x : Int32} (h3 : a ≠ 3) (h19 : ¬ (a = 19 ∧ k = 6)) : Pof (uI I a k x) = Pof I := by
  funext c j
  have e3 : uI I a k x 3 = I 3 := by simp [uI, Ne.symm h3]
  have e19 : uI I a k x 19 6 = I 19 6 := by
    by_cases ha : a = 19
    · subst ha
      have hk : k ≠ 6 := fun q => h19 ⟨rfl, q⟩
      simp [uI, upd, Ne.symm hk]
    · simp [uI, Ne.symm ha]
  simp only [Pof, e3, e19]
theorem mm_uI {I : gI} {a k : Nat} {x : Int32} (h3 : a ≠ 3) (h19 : ¬ (a = 19 ∧ k = 6)) : mm (uI I a k x) = (SH, uI I a k x, Pof I) := by
  simp only [mm, Pof_uI h3 h19]
/-- a number in a place that holds a cell is not looked at -/
theorem gW_hidden3 {Gc : Nat → ClassId} {B : Nat} {I : gI} {P : gP} {k : Nat} {x : Int32} : gW Gc B (SH, uI I 3 k x, P) = gW Gc B (SH, I, P) := by
  have h : SH[3]? = some (13, 5) := rfl
  rw [gW_uI h, gE_ref (by decide)]
  apply List.ext_getElem?
  intro i
  by_cases hi : i = 3
  · subst hi
    rw [List.getElem?_set_self (by rw [gW_len]; exact (by decide : 3 < SH.length)), gW_at h, gE_ref (by decide)]
  · rw [List.getElem?_set_ne (Ne.symm hi)]
theorem gW_hidden19 {Gc : Nat → ClassId} {B : Nat} {I : gI} {P : gP} {x : Int32} : gW Gc B (SH, uI I 19 6 x, P) = gW Gc B (SH, I, P) := by
  have h : SH[19]? = some (2, 0) := rfl
  rw [gW_uI h, gE_obj (by decide)]
  have e : (List.range (gN 2)).map (gF B (uI I 19 6 x) P 2 19) = (List.range (gN 2)).map (gF B I P 2 19) := by
    apply List.map_congr_left
    intro j hj
    by_cases h6 : j = 6
    · subst h6; rfl
    · simp [gF, uI, upd, h6]
  rw [e]
  apply List.ext_getElem?
  intro i
  by_cases hi : i = 19
  · subst hi
    rw [List.getElem?_set_self (by rw [gW_len]; exact (by decide : 19 < SH.length)), gW_at h, gE_obj (by decide)]
  · rw [List.getElem?_set_ne (Ne.symm hi)]
theorem mm_chg {I : gI} {k c : Nat} (hc : c < 84) : Pof (uI I 3 k (nI c)) = uP (Pof I) 3 k (some c) := by
  funext a j
  by_cases ha : a = 3
  · subst ha
    have e : (nI c).toNatClampNeg = c := nI_clamp (by omega)
    by_cases hj : j = k
    · subst hj
      simp [Pof, uP, va_up, uI, upd, e]
    · simp [Pof, uP, va_up, uI, upd, hj]
  · have e19 : uI I 3 k (nI c) 19 = I 19 := by simp [uI]
    simp [Pof, uP, ha, e19]
theorem mm_rw {I : gI} : Pof (uI I 19 6 1) = uP (Pof I) 19 6 (some 1) := by
  funext a j
  by_cases ha : a = 3
  · subst ha; simp [Pof, uP, uI]
  · by_cases h19 : a = 19
    · subst h19
      by_cases hj : j = 6
      · subst hj
        have e : uI I 19 6 1 19 6 = 1 := by simp [uI, upd]
        simp [Pof, uP, va_up, e]
      · simp [Pof, uP, va_up, hj]
    · simp [Pof, uP, ha, h19]
section GMain
variable {E : gEnv} {κ : gCtx} {cc : ByteArray} {nL d cz sz cells slots pc : Nat} {own : String} {ret : Option FieldType} {ls : List (Option gV)} {st : List gV} {I : gI}
theorem M_getI (X : Cx E κ cc nL own ret d cz sz) {ix ci k a n : Nat} {fin : Bool} {ty : FieldType} (hF : gFd own ix ci k fin ty) (hr : gR ci k = false) (hsh : SH[a]? = some (ci, n)) (hd : decode cc pc = .ok (.getfield ix, 3)) (kk : G E κ cells slots (pc + 3) ls (vi (I a k) :: st) (mm I)) : G E κ cells slots pc ls (vr a :: st) (mm I) := G_getI X hF hr hsh hd kk
theorem M_getR (X : Cx E κ cc nL own ret d cz sz) {ix ci k a n r : Nat} {fin : Bool} {ty : FieldType} (hF : gFd own ix ci k fin ty) (hr : gR ci k = true) (hsh : SH[a]? = some (ci, n)) (hv : Pof I a k = some r) (hd : decode cc pc = .ok (.getfield ix, 3)) (kk : G E κ cells slots (pc + 3) ls (vr r :: st) (mm I)) : G E κ cells slots pc ls (vr a :: st) (mm I) := G_getR X hF hr hsh hv hd kk
theorem M_putI (X : Cx E κ cc nL own ret d cz sz) {ix ci k a n : Nat} {ty : FieldType} {x : Int32} (hF : gFd own ix ci k false ty) (hr : gR ci k = false) (hsh : SH[a]? = some (ci, n)) (hn : narrow ty (.int x) = .int x) (hf : fits ty (.int x) = true) (hd : decode cc pc = .ok (.putfield ix, 3)) (kk : G E κ cells slots (pc + 3) ls st (mm (uI I a k x))) : G E κ cells slots pc ls (vi x :: vr a :: st) (mm I) := by
  have h10 : ci < 10 := by obtain ⟨C, T, N, tys, hc, -⟩ := hF; exact lt10 hc
  refine G_putI X hF hr hsh hn hf hd ?_
  rw [mm_uI] at kk
  · exact kk
  · rintro rfl
    have h13 : SH[3]? = some (13, 5) := rfl
    have := h13.symm.trans hsh
    simp at this
    omega
  · rintro ⟨rfl, rfl⟩
    have h2 : SH[19]? = some (2, 0) := rfl
    have := h2.symm.trans hsh
    simp at this
    obtain ⟨rfl, -⟩ := this
    exact absurd hr (by decide)
theorem M_iald (X : Cx E κ cc nL own ret d cz sz) {a n : Nat} {i : Int32} (hsh : SH[a]? = some (10, n)) (hin : ib i n = true) (hd : decode cc pc = .ok (.iaload, 1)) (kk : G E κ cells slots (pc + 1) ls (vi (I a i.toNatClampNeg) :: st) (mm I)) : G E κ cells slots pc ls (vi i :: vr a :: st) (mm I) := G_iald X hsh (ib_in hin) hd kk
theorem M_cald (X : Cx E κ cc nL own ret d cz sz) {a n : Nat} {i : Int32} (hsh : SH[a]? = some (11, n)) (hin : ib i n = true) (hd : decode cc pc = .ok (.caload, 1)) (kk : G E κ cells slots (pc + 1) ls (vi (I a i.toNatClampNeg) :: st) (mm I)) : G E κ cells slots pc ls (vi i :: vr a :: st) (mm I) := G_cald X hsh (ib_in hin) hd kk
theorem kd_ne {a kd n : Nat} (hsh : SH[a]? = some (kd, n)) (h : kd = 10 ∨ kd = 11) : a ≠ 3 ∧ ∀ k, ¬ (a = 19 ∧ k = 6) := by
  refine ⟨?_, fun k => ?_⟩
  · rintro rfl
    have h13 : SH[3]? = some (13, 5) := rfl
    have := h13.symm.trans hsh
    simp at this
    omega
  · rintro ⟨rfl, rfl⟩
    have h2 : SH[19]? = some (2, 0) := rfl
    have := h2.symm.trans hsh
    simp at this
    omega
theorem M_iast (X : Cx E κ cc nL own ret d cz sz) {a n : Nat} {i x : Int32} (hsh : SH[a]? = some (10, n)) (hin : ib i n = true) (hd : decode cc pc = .ok (.iastore, 1)) (kk : G E κ cells slots (pc + 1) ls st (mm (uI I a i.toNatClampNeg x))) : G E κ cells slots pc ls (vi x :: vi i :: vr a :: st) (mm I) := by
  have hk := kd_ne hsh (Or.inl rfl)
  refine G_iast X hsh (ib_in hin) hd ?_
  rw [mm_uI hk.1 (hk.2 _)] at kk
  exact kk
theorem M_cast (X : Cx E κ cc nL own ret d cz sz) {a n : Nat} {i x : Int32} (hsh : SH[a]? = some (11, n)) (hin : ib i n = true) (hd : decode cc pc = .ok (.castore, 1)) (kk : G E κ cells slots (pc + 1) ls st (mm (uI I a i.toNatClampNeg (vp_nar .char x)))) : G E κ cells slots pc ls (vi x :: vi i :: vr a :: st) (mm I) := by
  have hk := kd_ne hsh (Or.inr rfl)
  refine G_cast X hsh (ib_in hin) hd ?_
  rw [mm_uI hk.1 (hk.2 _)] at kk
  exact kk
theorem M_aald (X : Cx E κ cc nL own ret d cz sz) {a n kd r : Nat} {i : Int32} (hsh : SH[a]? = some (kd, n)) (hkd : kd = 12 ∨ kd = 13) (hin : ib i n = true) (hv : Pof I a i.toNatClampNeg = some r) (hd : decode cc pc = .ok (.aaload, 1)) (kk : G E κ cells slots (pc + 1) ls (vr r :: st) (mm I)) : G E κ cells slots pc ls (vi i :: vr a :: st) (mm I) := G_aald X hsh hkd (ib_in hin) hv hd kk
theorem M_alen (X : Cx E κ cc nL own ret d cz sz) {a n kd : Nat} (hsh : SH[a]? = some (kd, n)) (hkd : kd = 10 ∨ kd = 11 ∨ kd = 12 ∨ kd = 13) (hd : decode cc pc = .ok (.arraylength, 1)) {v : Int32} (hv : nI n = v) (kk : G E κ cells slots (pc + 1) ls (vi v :: st) (mm I)) : G E κ cells slots pc ls (vr a :: st) (mm I) := by
  subst hv; exact G_alen X hsh hkd hd kk
theorem G_eqW {S : List (Nat × Nat)} {I1 I2 : gI} {P : gP} (h : ∀ (Gc : Nat → ClassId) (B : Nat), gW Gc B (S, I1, P) = gW Gc B (S, I2, P)) (kk : G E κ cells slots pc ls st (S, I1, P)) : G E κ cells slots pc ls st (S, I2, P) := by
  obtain ⟨l, D, Gc, B, b⟩ := E
  obtain ⟨p, e, R, s, m, args, below, meth, c, Q⟩ := κ
  intro H locs la hl hP hS
  exact kk H locs la hl (by rw [h]; exact hP) hS
theorem M_aast (X : Cx E κ cc nL own ret d cz sz) {c : Nat} {i : Int32} (hc : isC c) (hin : ib i 5 = true) (hd : decode cc pc = .ok (.aastore, 1)) (kk : G E κ cells slots (pc + 1) ls st (mm (uI I 3 i.toNatClampNeg (nI c)))) : G E κ cells slots pc ls (vr c :: vi i :: vr 3 :: st) (mm I) := by
  have hlt : c < 84 := (List.getElem?_eq_some_iff.mp hc.1).1
  refine G_aast X (kd := 13) (n := 5) rfl (Or.inr rfl) hc.1 (ib_in hin) hd ?_
  have e : mm (uI I 3 i.toNatClampNeg (nI c)) = (SH, uI I 3 i.toNatClampNeg (nI c), uP (Pof I) 3 i.toNatClampNeg (some c)) := by simp only [mm, mm_chg hlt]
  rw [e] at kk
  exact G_eqW (fun Gc B => gW_hidden3) kk
theorem M_putRw (X : Cx E κ cc nL own ret d cz sz) {ix : Nat} {ty : FieldType} (hF : gFd own ix 2 6 false ty) (hn : ∀ q, narrow ty (.ref q) = .ref q) (hf : ∀ q, fits ty (.ref q) = true) (hd : decode cc pc = .ok (.putfield ix, 3)) (kk : G E κ cells slots (pc + 3) ls st (mm (uI I 19 6 1))) : G E κ cells slots pc ls (vr 1 :: vr 19 :: st) (mm I) := by
  refine G_putR X hF rfl (n := 0) rfl hn hf hd ?_
  have e : mm (uI I 19 6 1) = (SH, uI I 19 6 1, uP (Pof I) 19 6 (some 1)) := by simp only [mm, mm_rw]
  rw [e] at kk
  exact G_eqW (fun Gc B => gW_hidden19) kk
theorem M_copyi (X : Cx E κ cc nL own ret d cz sz) {ix b0 b : Nat} (hw1 : Cond.methodLink own ix arraycopyName ∈ gT) (hw2 : Cond.native arraycopyName ∈ gT) (hw3 : Cond.static arraycopyName ∈ gT) (hw4 : Cond.initialized "java/lang/System" ∈ gT) (hs0 : isB b0) (hs1 : isB b)
    (hst : st.length ≤ 8) (hfr : 1 ≤ d) (hlen : ls.length = nL) (hd : decode cc pc = .ok (.invokestatic ix, 3))
    (kk : G E κ cells slots (pc + 3) ls st (mm (uC I (b + 1) (va_cpy (I (b0 + 1)) (I (b + 1)) 0 0 40)))) : G E κ cells slots pc ls (vi 40 :: vi 0 :: vr (b + 1) :: vi 0 :: vr (b0 + 1) :: st) (mm I) := by
  obtain ⟨-, -, h3, h19⟩ := isB_ne3 hs1
  have e : mm (uC I (b + 1) (va_cpy (I (b0 + 1)) (I (b + 1)) 0 0 40)) = (SH, uC I (b + 1) (va_cpy (I (b0 + 1)) (I (b + 1)) 0 0 40), Pof I) := by
    have e1 : Pof (uC I (b + 1) (va_cpy (I (b0 + 1)) (I (b + 1)) 0 0 40)) = Pof I := by
      funext c j
      simp only [Pof, uC, if_neg (Ne.symm h3), if_neg (Ne.symm h19)]
    simp only [mm, e1]
  rw [e] at kk
  refine G_copyi X hw1 hw2 hw3 hw4 hs0.2 hs1.2 (by decide) (by decide) (by decide) ?_ ?_ hst hfr hlen hd kk
  · exact Nat.le_of_ble_eq_true rfl
  · exact Nat.le_of_ble_eq_true rfl
end GMain
/-! steps of the functions that are printed -/
theorem obd {α β : Type} {o : Option α} {f : α → Option β} {r : β} (h : o.bind f = some r) : ∃ v, o = some v ∧ f v = some r := by
  cases o with
  | none => cases h
  | some v => exact ⟨v, rfl, h⟩
theorem ock {β : Type} {c : Prop} [Decidable c] {a : Option β} {r : β} (h : (if c then a else none) = some r) : c ∧ a = some r := by
  by_cases hc : c
  · rw [if_pos hc] at h; exact ⟨hc, h⟩
  · rw [if_neg hc] at h; cases h
theorem nar_b2i (b : Bool) : narrow .boolean (.int (b2i b)) = .int (b2i b) := by cases b <;> decide +kernel
theorem fit_b2i (b : Bool) : fits .boolean (.int (b2i b)) = true := by cases b <;> decide +kernel
def zb (x : Int32) : Bool := x == 0 || x == 1
theorem zb_or {x : Int32} (h : zb x = true) : x = 0 ∨ x = 1 := by simpa [zb] using h
theorem nar_zb {x : Int32} (h : zb x = true) : narrow .boolean (.int x) = .int x := by rcases zb_or h with rfl | rfl <;> decide +kernel
theorem fit_zb {x : Int32} (h : zb x = true) : fits .boolean (.int x) = true := by rcases zb_or h with rfl | rfl <;> decide +kernel
def zB (x : Int32) : Bool := x == 1
theorem zB_b2i {x : Int32} (h : zb x = true) : b2i (zB x) = x := by rcases zb_or h with rfl | rfl <;> decide +kernel
def cb (x : Int32) : Bool := decide (0 ≤ x) && decide (x ≤ 65535)
theorem cb_nat {x : Int32} (h : cb x = true) : x.toBitVec.toNat < 65536 := by
  simp only [cb, Bool.and_eq_true, decide_eq_true_eq] at h
  obtain ⟨h1, h2⟩ := h
  rw [Int32.le_iff_toInt_le] at h1 h2
  have e1 : (65535 : Int32).toInt = 65535 := by decide
  rw [e1] at h2
  have e0 : (0 : Int32).toInt = 0 := by decide
  rw [e0] at h1
  have h3 : x.toInt = x.toBitVec.toInt := rfl
  rw [h3, BitVec.toInt_eq_toNat_cond] at h1 h2
  have h4 := x.toBitVec.isLt
  split at h1 <;> omega
theorem nar_cb {x : Int32} (h : cb x = true) : narrow .char (.int x) = .int x := by
  have h1 := cb_nat h
  show Value.int (x.toUInt32.toUInt16.toUInt32.toInt32) = .int x
  congr 1
  apply Int32.toBitVec_inj.mp
  show ((x.toBitVec.setWidth 16).setWidth 32) = x.toBitVec
  apply BitVec.eq_of_toNat_eq
  simp only [BitVec.toNat_setWidth]
  omega
def FU : Nat := 5000
def isBb (b : Nat) : Bool := SH[b]? == some (0, 0) && SH[b + 1]? == some (10, 40)
theorem isBb_isB {b : Nat} (h : isBb b = true) : isB b := by
  simp only [isBb, Bool.and_eq_true, beq_iff_eq] at h
  exact h
theorem b2i_t {b : Bool} (h : ¬ b2i b = 0) : b = true := by cases b with
  | true => rfl
  | false => exact absurd rfl h
theorem b2i_f {b : Bool} (h : b2i b = 0) : ¬ b = true := by cases b with
  | true => exact absurd h (by decide)
  | false => exact fun q => by cases q
def Wk : List (Option gV) → List (Option gV) → Prop
  | [], [] => True
  | x :: r, y :: s => (y = none ∨ x = y) ∧ Wk r s
  | _, _ => False
theorem Wk_ok : ∀ {ls ls' : List (Option gV)}, Wk ls ls' → ls.length = ls'.length ∧ ∀ (i : Nat) (v : gV), ls'[i]? = some (some v) → ls[i]? = some (some v)
  | [], [], _ => ⟨rfl, fun _ _ h => h⟩
  | x :: r, y :: s, h => by
    obtain ⟨h1, h2⟩ := Wk_ok (ls := r) (ls' := s) h.2
    refine ⟨by simp [h1], fun i v hv => ?_⟩
    cases i with
    | zero =>
      simp only [List.getElem?_cons_zero, Option.some.injEq] at hv ⊢
      rcases h.1 with rfl | rfl
      · cases hv
      · exact hv
    | succ i =>
      simp only [List.getElem?_cons_succ] at hv ⊢
      exact h2 i v hv
  | [], _ :: _, h => h.elim
  | _ :: _, [], h => h.elim
section GMain2
variable {E : gEnv} {κ : gCtx} {cc : ByteArray} {nL d cz sz cells slots pc : Nat} {own : String} {ret : Option FieldType} {ls : List (Option gV)} {st : List gV} {M : gM}
theorem G_weakL {ls' : List (Option gV)} (h : Wk ls ls') (k : G E κ cells slots pc ls' st M) : G E κ cells slots pc ls st M := G_weak (Wk_ok h) k
theorem G_tableJ (X : Cx E κ cc nL own ret d cz sz) {dflt hi : Int} {offs : Array Int} {len : Nat} {x : Int32} {off : Int} {tgt : Nat} (j : Nat) (hd : decode cc pc = .ok (.tableswitch dflt 0 hi offs, len)) (hx : x = nI j) (hj : j < 1000) (hh : (j : Int) ≤ hi) (ho : offs[j]? = some off) (ht : (pc : Int) + off = (tgt : Int)) (k : G E κ cells slots tgt ls st M) : G E κ cells slots pc ls (vi x :: st) M := by
  subst hx
  have e : (nI j).toInt = (j : Int) := nI_toInt (by omega)
  refine G_tableIn X hd (by rw [e]; omega) (by rw [e]; omega) ?_ ht k
  rw [e]
  simpa using ho
theorem G_tableD (X : Cx E κ cc nL own ret d cz sz) {dflt hi : Int} {offs : Array Int} {len : Nat} {x : Int32} {tgt : Nat} (n : Nat) (hd : decode cc pc = .ok (.tableswitch dflt 0 hi offs, len)) (hn : hi + 1 = (n : Int)) (h : ∀ j, j < n → ¬ x = nI j) (ht : (pc : Int) + dflt = (tgt : Int)) (k : G E κ cells slots tgt ls st M) : G E κ cells slots pc ls (vi x :: st) M := by
  refine G_tableOut X hd ?_ ht k
  by_cases h1 : x.toInt < 0
  · exact Or.inl h1
  · by_cases h2 : hi < x.toInt
    · exact Or.inr h2
    · exfalso
      have h3 : x.toInt < 2 ^ 31 := x.toInt_lt
      refine h x.toInt.toNat (by omega) (Int32.toInt_inj.mp ?_)
      rw [nI_toInt (by omega)]
      omega
end GMain2
end
section
/-! WORDS: which row of the tables says what an instruction links (places by program) -/
theorem gT_tb {w : Cond} (h : w ∈ tables_1) (hg : goodWord w = true) : w ∈ gT := List.mem_filter.mpr ⟨List.mem_append_right _ h, hg⟩
theorem gT_t1 {w : Cond} (i : Nat) (h : tables_1_1[i]? = some w) (hg : goodWord w = true) : w ∈ gT := gT_tb (List.mem_append_left _ (List.mem_of_getElem? h)) hg
theorem gT_t2 {w : Cond} (i : Nat) (h : tables_1_2[i]? = some w) (hg : goodWord w = true) : w ∈ gT := gT_tb (List.mem_append_right _ (List.mem_append_left _ (List.mem_of_getElem? h))) hg
theorem gT_t3 {w : Cond} (i : Nat) (h : tables_1_3[i]? = some w) (hg : goodWord w = true) : w ∈ gT := gT_tb (List.mem_append_right _ (List.mem_append_right _ (List.mem_append_left _ (List.mem_of_getElem? h)))) hg
theorem gT_t4 {w : Cond} (i : Nat) (h : tables_1_4[i]? = some w) (hg : goodWord w = true) : w ∈ gT := gT_tb (List.mem_append_right _ (List.mem_append_right _ (List.mem_append_right _ (List.mem_of_getElem? h)))) hg
theorem gT_p {w : Cond} (i : Nat) (h : (k2_sels lw_privs)[i]? = some w) (hg : goodWord w = true) : w ∈ gT := List.mem_filter.mpr ⟨List.mem_append_left _ (List.mem_of_getElem? h), hg⟩
theorem ws_inX0 : ∀ w ∈ u_ws RX0 TX0 2, w ∈ gT := by
  intro w hw
  obtain ⟨k, hk, rfl⟩ := List.mem_map.mp hw
  have hk := List.mem_range.mp hk
  rcases (show k = 0 ∨ k = 1 by omega) with rfl | rfl
  · exact gT_t1 43 (by decide +kernel) rfl
  · exact gT_t1 45 (by decide +kernel) rfl
theorem ws_inX1 : ∀ w ∈ u_ws RX1 TX1 3, w ∈ gT := by
  intro w hw
  obtain ⟨k, hk, rfl⟩ := List.mem_map.mp hw
  have hk := List.mem_range.mp hk
  rcases (show k = 0 ∨ k = 1 ∨ k = 2 by omega) with rfl | rfl | rfl
  · exact gT_t1 56 (by decide +kernel) rfl
  · exact gT_t1 58 (by decide +kernel) rfl
  · exact gT_t1 60 (by decide +kernel) rfl
theorem ws_inX2 : ∀ w ∈ u_ws RX2 TX2 10, w ∈ gT := by
  intro w hw
  obtain ⟨k, hk, rfl⟩ := List.mem_map.mp hw
  have hk := List.mem_range.mp hk
  rcases (show k = 0 ∨ k = 1 ∨ k = 2 ∨ k = 3 ∨ k = 4 ∨ k = 5 ∨ k = 6 ∨ k = 7 ∨ k = 8 ∨ k = 9 by omega) with rfl | rfl | rfl | rfl | rfl | rfl | rfl | rfl | rfl | rfl
  · exact gT_t1 93 (by decide +kernel) rfl
  · exact gT_t1 95 (by decide +kernel) rfl
  · exact gT_t1 97 (by decide +kernel) rfl
  · exact gT_t1 99 (by decide +kernel) rfl
  · exact gT_t1 101 (by decide +kernel) rfl
  · exact gT_t1 103 (by decide +kernel) rfl
  · exact gT_t1 105 (by decide +kernel) rfl
  · exact gT_t1 107 (by decide +kernel) rfl
  · exact gT_t1 109 (by decide +kernel) rfl
  · exact gT_t1 111 (by decide +kernel) rfl
theorem ws_inX3 : ∀ w ∈ u_ws RX3 TX3 2, w ∈ gT := by
  intro w hw
  obtain ⟨k, hk, rfl⟩ := List.mem_map.mp hw
  have hk := List.mem_range.mp hk
  rcases (show k = 0 ∨ k = 1 by omega) with rfl | rfl
  · exact gT_t1 66 (by decide +kernel) rfl
  · exact gT_t1 68 (by decide +kernel) rfl
theorem ws_inX5 : ∀ w ∈ u_ws RX5 TX5 5, w ∈ gT := by
  intro w hw
  obtain ⟨k, hk, rfl⟩ := List.mem_map.mp hw
  have hk := List.mem_range.mp hk
  rcases (show k = 0 ∨ k = 1 ∨ k = 2 ∨ k = 3 ∨ k = 4 by omega) with rfl | rfl | rfl | rfl | rfl
  · exact gT_t1 121 (by decide +kernel) rfl
  · exact gT_t1 123 (by decide +kernel) rfl
  · exact gT_t1 125 (by decide +kernel) rfl
  · exact gT_t1 127 (by decide +kernel) rfl
  · exact gT_t1 129 (by decide +kernel) rfl
theorem ws_inX6 : ∀ w ∈ u_ws RX6 TX6 17, w ∈ gT := by
  intro w hw
  obtain ⟨k, hk, rfl⟩ := List.mem_map.mp hw
  have hk := List.mem_range.mp hk
  rcases (show k = 0 ∨ k = 1 ∨ k = 2 ∨ k = 3 ∨ k = 4 ∨ k = 5 ∨ k = 6 ∨ k = 7 ∨ k = 8 ∨ k = 9 ∨ k = 10 ∨ k = 11 ∨ k = 12 ∨ k = 13 ∨ k = 14 ∨ k = 15 ∨ k = 16 by omega) with rfl | rfl | rfl | rfl | rfl | rfl | rfl | rfl | rfl | rfl | rfl | rfl | rfl | rfl | rfl | rfl | rfl
  · exact gT_t2 232 (by decide +kernel) rfl
  · exact gT_t2 234 (by decide +kernel) rfl
  · exact gT_t2 236 (by decide +kernel) rfl
  · exact gT_t2 238 (by decide +kernel) rfl
  · exact gT_t3 0 (by decide +kernel) rfl
  · exact gT_t3 2 (by decide +kernel) rfl
  · exact gT_t3 4 (by decide +kernel) rfl
  · exact gT_t3 6 (by decide +kernel) rfl
  · exact gT_t3 8 (by decide +kernel) rfl
  · exact gT_t3 10 (by decide +kernel) rfl
  · exact gT_t3 12 (by decide +kernel) rfl
  · exact gT_t3 14 (by decide +kernel) rfl
  · exact gT_t3 16 (by decide +kernel) rfl
  · exact gT_t3 18 (by decide +kernel) rfl
  · exact gT_t3 20 (by decide +kernel) rfl
  · exact gT_t3 22 (by decide +kernel) rfl
  · exact gT_t3 24 (by decide +kernel) rfl
theorem kc_J6_265 : Cond.constant RJ6 265 1431655765 ∈ gT := gT_t2 38 (by decide +kernel) rfl
theorem kc_J6_266 : Cond.constant RJ6 266 858993459 ∈ gT := gT_t2 39 (by decide +kernel) rfl
theorem kc_J6_267 : Cond.constant RJ6 267 252645135 ∈ gT := gT_t2 40 (by decide +kernel) rfl
theorem fl_X0_15 : Cond.fieldLink RX0 15 RX0 "length" "I" ∈ gT := gT_t1 41 (by decide +kernel) rfl
theorem fd_X0_15 : gFd RX0 15 0 1 false .int := ⟨RX0, TX0, 2, tyX0, rfl, rfl, ws_inX0, by decide, fl_X0_15, rfl, rfl, by decide +kernel, tyX0_ok, nmX0⟩
theorem fl_X0_9 : Cond.fieldLink RX0 9 RX0 "groups" "[I" ∈ gT := gT_t1 40 (by decide +kernel) rfl
theorem fd_X0_9 : gFd RX0 9 0 0 true (.array .int) := ⟨RX0, TX0, 2, tyX0, rfl, rfl, ws_inX0, by decide, fl_X0_9, rfl, rfl, by decide +kernel, tyX0_ok, nmX0⟩
theorem in_X0 : Cond.initialized RX0 ∈ gT := gT_t1 4 (by decide +kernel) rfl
theorem cd_X0_groupAt : Cond.code yX0_groupAt cX0_groupAt 2 (some .int) ∈ gT := gT_t1 212 (by decide +kernel) rfl
theorem cn_X0_groupAt : gCN yX0_groupAt cX0_groupAt 2 (some .int) 1 := ⟨in_X0, cd_X0_groupAt, ⟨by decide +kernel, by decide +kernel, by decide +kernel⟩⟩
theorem im_X0_groupAt : Cond.instanceMethod yX0_groupAt ∈ gT := gT_t1 210 (by decide +kernel) rfl
theorem se_X0_groupAt : Cond.selects RX0 yX0_groupAt yX0_groupAt ∈ gT := gT_t1 211 (by decide +kernel) rfl
theorem vi_X0_groupAt : gVI yX0_groupAt := ⟨im_X0_groupAt, se_X0_groupAt⟩
theorem ml_X0_19 : Cond.methodLink RX0 19 yX0_groupAt ∈ gT := gT_t1 235 (by decide +kernel) rfl
theorem cb_X0_19 : gCB RX0 19 yX0_groupAt cX0_groupAt 2 (some .int) 1 := ⟨ml_X0_19, cn_X0_groupAt.1, cn_X0_groupAt.2.1, cn_X0_groupAt.2.2⟩
theorem ml_X0_23 : Cond.methodLink RX0 23 arraycopyName ∈ gT := gT_t1 152 (by decide +kernel) rfl
theorem na_ac : Cond.native arraycopyName ∈ gT := gT_t1 154 (by decide +kernel) rfl
theorem st_ac : Cond.static arraycopyName ∈ gT := gT_t1 153 (by decide +kernel) rfl
theorem in_sys : Cond.initialized "java/lang/System" ∈ gT := gT_t1 7 (by decide +kernel) rfl
theorem ml_X0_52 : Cond.methodLink RX0 52 Lib.Math.min.name ∈ gT := gT_t1 162 (by decide +kernel) rfl
theorem st_mmin : Cond.static Lib.Math.min.name ∈ gT := gT_t1 163 (by decide +kernel) rfl
theorem in_math : Cond.initialized "java/lang/Math" ∈ gT := gT_t1 8 (by decide +kernel) rfl
theorem cd_mmin : Cond.code Lib.Math.min.name Lib.Math.min.code 2 (some .int) ∈ gT := gT_t1 164 (by decide +kernel) rfl
theorem ml_X0_41 : Cond.methodLink RX0 41 Lib.Math.max.name ∈ gT := gT_t1 165 (by decide +kernel) rfl
theorem st_mmax : Cond.static Lib.Math.max.name ∈ gT := gT_t1 166 (by decide +kernel) rfl
theorem cd_mmax : Cond.code Lib.Math.max.name Lib.Math.max.code 2 (some .int) ∈ gT := gT_t1 167 (by decide +kernel) rfl
theorem cd_X0_maskBefore : Cond.code yX0_maskBefore cX0_maskBefore 3 (some .int) ∈ gT := gT_t1 161 (by decide +kernel) rfl
theorem cn_X0_maskBefore : gCN yX0_maskBefore cX0_maskBefore 3 (some .int) 2 := ⟨in_X0, cd_X0_maskBefore, ⟨by decide +kernel, by decide +kernel, by decide +kernel⟩⟩
theorem st_X0_maskBefore : Cond.static yX0_maskBefore ∈ gT := gT_t1 160 (by decide +kernel) rfl
theorem ml_X0_29 : Cond.methodLink RX0 29 yX0_maskBefore ∈ gT := gT_t1 159 (by decide +kernel) rfl
theorem cb_X0_29 : gCB RX0 29 yX0_maskBefore cX0_maskBefore 3 (some .int) 2 := ⟨ml_X0_29, cn_X0_maskBefore.1, cn_X0_maskBefore.2.1, cn_X0_maskBefore.2.2⟩
theorem cd_X0_putAt : Cond.code yX0_putAt cX0_putAt 5 none ∈ gT := gT_t1 198 (by decide +kernel) rfl
theorem cn_X0_putAt : gCN yX0_putAt cX0_putAt 5 none 2 := ⟨in_X0, cd_X0_putAt, ⟨by decide +kernel, by decide +kernel, by decide +kernel⟩⟩
theorem im_X0_putAt : Cond.instanceMethod yX0_putAt ∈ gT := gT_t1 196 (by decide +kernel) rfl
theorem se_X0_putAt : Cond.selects RX0 yX0_putAt yX0_putAt ∈ gT := gT_t1 197 (by decide +kernel) rfl
theorem vi_X0_putAt : gVI yX0_putAt := ⟨im_X0_putAt, se_X0_putAt⟩
theorem ml_X0_33 : Cond.methodLink RX0 33 yX0_putAt ∈ gT := gT_t1 195 (by decide +kernel) rfl
theorem cb_X0_33 : gCB RX0 33 yX0_putAt cX0_putAt 5 none 2 := ⟨ml_X0_33, cn_X0_putAt.1, cn_X0_putAt.2.1, cn_X0_putAt.2.2⟩
theorem cd_X0_combined : Cond.code yX0_combined cX0_combined 3 (some .int) ∈ gT := gT_t2 18 (by decide +kernel) rfl
theorem cn_X0_combined : gCN yX0_combined cX0_combined 3 (some .int) 3 := ⟨in_X0, cd_X0_combined, ⟨by decide +kernel, by decide +kernel, by decide +kernel⟩⟩
theorem st_X0_combined : Cond.static yX0_combined ∈ gT := gT_t2 17 (by decide +kernel) rfl
theorem ml_X0_37 : Cond.methodLink RX0 37 yX0_combined ∈ gT := gT_t2 16 (by decide +kernel) rfl
theorem cb_X0_37 : gCB RX0 37 yX0_combined cX0_combined 3 (some .int) 3 := ⟨ml_X0_37, cn_X0_combined.1, cn_X0_combined.2.1, cn_X0_combined.2.2⟩
theorem in_J9 : Cond.initialized RJ9 ∈ gT := gT_t1 8 (by decide +kernel) rfl
theorem cd_J9_floorDiv_7cf53 : Cond.code yJ9_floorDiv_7cf53 cJ9_floorDiv_7cf53 3 (some .int) ∈ gT := gT_t2 51 (by decide +kernel) rfl
theorem cn_J9_floorDiv_7cf53 : gCN yJ9_floorDiv_7cf53 cJ9_floorDiv_7cf53 3 (some .int) 2 := ⟨in_J9, cd_J9_floorDiv_7cf53, ⟨by decide +kernel, by decide +kernel, by decide +kernel⟩⟩
theorem st_J9_floorDiv_7cf53 : Cond.static yJ9_floorDiv_7cf53 ∈ gT := gT_t2 50 (by decide +kernel) rfl
theorem ml_X0_46 : Cond.methodLink RX0 46 yJ9_floorDiv_7cf53 ∈ gT := gT_t2 49 (by decide +kernel) rfl
theorem cb_X0_46 : gCB RX0 46 yJ9_floorDiv_7cf53 cJ9_floorDiv_7cf53 3 (some .int) 2 := ⟨ml_X0_46, cn_J9_floorDiv_7cf53.1, cn_J9_floorDiv_7cf53.2.1, cn_J9_floorDiv_7cf53.2.2⟩
theorem cd_J9_floorMod_7cf53 : Cond.code yJ9_floorMod_7cf53 cJ9_floorMod_7cf53 3 (some .int) ∈ gT := gT_t2 54 (by decide +kernel) rfl
theorem cn_J9_floorMod_7cf53 : gCN yJ9_floorMod_7cf53 cJ9_floorMod_7cf53 3 (some .int) 2 := ⟨in_J9, cd_J9_floorMod_7cf53, ⟨by decide +kernel, by decide +kernel, by decide +kernel⟩⟩
theorem st_J9_floorMod_7cf53 : Cond.static yJ9_floorMod_7cf53 ∈ gT := gT_t2 53 (by decide +kernel) rfl
theorem ml_X0_49 : Cond.methodLink RX0 49 yJ9_floorMod_7cf53 ∈ gT := gT_t2 52 (by decide +kernel) rfl
theorem cb_X0_49 : gCB RX0 49 yJ9_floorMod_7cf53 cJ9_floorMod_7cf53 3 (some .int) 2 := ⟨ml_X0_49, cn_J9_floorMod_7cf53.1, cn_J9_floorMod_7cf53.2.1, cn_J9_floorMod_7cf53.2.2⟩
theorem in_J6 : Cond.initialized RJ6 ∈ gT := gT_t1 10 (by decide +kernel) rfl
theorem cd_J6_bitCount_0f7a4 : Cond.code yJ6_bitCount_0f7a4 cJ6_bitCount_0f7a4 1 (some .int) ∈ gT := gT_t2 37 (by decide +kernel) rfl
theorem cn_J6_bitCount_0f7a4 : gCN yJ6_bitCount_0f7a4 cJ6_bitCount_0f7a4 1 (some .int) 1 := ⟨in_J6, cd_J6_bitCount_0f7a4, ⟨by decide +kernel, by decide +kernel, by decide +kernel⟩⟩
theorem st_J6_bitCount_0f7a4 : Cond.static yJ6_bitCount_0f7a4 ∈ gT := gT_t2 36 (by decide +kernel) rfl
theorem ml_X0_58 : Cond.methodLink RX0 58 yJ6_bitCount_0f7a4 ∈ gT := gT_t2 35 (by decide +kernel) rfl
theorem cb_X0_58 : gCB RX0 58 yJ6_bitCount_0f7a4 cJ6_bitCount_0f7a4 1 (some .int) 1 := ⟨ml_X0_58, cn_J6_bitCount_0f7a4.1, cn_J6_bitCount_0f7a4.2.1, cn_J6_bitCount_0f7a4.2.2⟩
theorem cd_X0_onesBefore : Cond.code yX0_onesBefore cX0_onesBefore 4 (some .int) ∈ gT := gT_t2 34 (by decide +kernel) rfl
theorem cn_X0_onesBefore : gCN yX0_onesBefore cX0_onesBefore 4 (some .int) 1 := ⟨in_X0, cd_X0_onesBefore, ⟨by decide +kernel, by decide +kernel, by decide +kernel⟩⟩
theorem im_X0_onesBefore : Cond.instanceMethod yX0_onesBefore ∈ gT := gT_t2 32 (by decide +kernel) rfl
theorem se_X0_onesBefore : Cond.selects RX0 yX0_onesBefore yX0_onesBefore ∈ gT := gT_t2 33 (by decide +kernel) rfl
theorem vi_X0_onesBefore : gVI yX0_onesBefore := ⟨im_X0_onesBefore, se_X0_onesBefore⟩
theorem ml_X0_55 : Cond.methodLink RX0 55 yX0_onesBefore ∈ gT := gT_t2 31 (by decide +kernel) rfl
theorem cb_X0_55 : gCB RX0 55 yX0_onesBefore cX0_onesBefore 4 (some .int) 1 := ⟨ml_X0_55, cn_X0_onesBefore.1, cn_X0_onesBefore.2.1, cn_X0_onesBefore.2.2⟩
theorem cd_X0_placeInGroup : Cond.code yX0_placeInGroup cX0_placeInGroup 4 (some .int) ∈ gT := gT_t2 162 (by decide +kernel) rfl
theorem cn_X0_placeInGroup : gCN yX0_placeInGroup cX0_placeInGroup 4 (some .int) 2 := ⟨in_X0, cd_X0_placeInGroup, ⟨by decide +kernel, by decide +kernel, by decide +kernel⟩⟩
theorem st_X0_placeInGroup : Cond.static yX0_placeInGroup ∈ gT := gT_t2 161 (by decide +kernel) rfl
theorem ml_X0_63 : Cond.methodLink RX0 63 yX0_placeInGroup ∈ gT := gT_t2 160 (by decide +kernel) rfl
theorem cb_X0_63 : gCB RX0 63 yX0_placeInGroup cX0_placeInGroup 4 (some .int) 2 := ⟨ml_X0_63, cn_X0_placeInGroup.1, cn_X0_placeInGroup.2.1, cn_X0_placeInGroup.2.2⟩
theorem cd_X0_groupCount : Cond.code yX0_groupCount cX0_groupCount 1 (some .int) ∈ gT := gT_t1 208 (by decide +kernel) rfl
theorem cn_X0_groupCount : gCN yX0_groupCount cX0_groupCount 1 (some .int) 0 := ⟨in_X0, cd_X0_groupCount, ⟨by decide +kernel, by decide +kernel, by decide +kernel⟩⟩
theorem im_X0_groupCount : Cond.instanceMethod yX0_groupCount ∈ gT := gT_t1 206 (by decide +kernel) rfl
theorem se_X0_groupCount : Cond.selects RX0 yX0_groupCount yX0_groupCount ∈ gT := gT_t1 207 (by decide +kernel) rfl
theorem vi_X0_groupCount : gVI yX0_groupCount := ⟨im_X0_groupCount, se_X0_groupCount⟩
theorem ml_X4_9 : Cond.methodLink RX4 9 yX0_groupCount ∈ gT := gT_t1 205 (by decide +kernel) rfl
theorem cb_X4_9 : gCB RX4 9 yX0_groupCount cX0_groupCount 1 (some .int) 0 := ⟨ml_X4_9, cn_X0_groupCount.1, cn_X0_groupCount.2.1, cn_X0_groupCount.2.2⟩
theorem ml_X4_15 : Cond.methodLink RX4 15 yX0_groupAt ∈ gT := gT_t1 209 (by decide +kernel) rfl
theorem cb_X4_15 : gCB RX4 15 yX0_groupAt cX0_groupAt 2 (some .int) 1 := ⟨ml_X4_15, cn_X0_groupAt.1, cn_X0_groupAt.2.1, cn_X0_groupAt.2.2⟩
theorem in_X4 : Cond.initialized RX4 ∈ gT := gT_t1 9 (by decide +kernel) rfl
theorem cd_X4_isLiteral : Cond.code yX4_isLiteral cX4_isLiteral 1 (some .boolean) ∈ gT := gT_t1 215 (by decide +kernel) rfl
theorem cn_X4_isLiteral : gCN yX4_isLiteral cX4_isLiteral 1 (some .boolean) 1 := ⟨in_X4, cd_X4_isLiteral, ⟨by decide +kernel, by decide +kernel, by decide +kernel⟩⟩
theorem st_X4_isLiteral : Cond.static yX4_isLiteral ∈ gT := gT_t1 214 (by decide +kernel) rfl
theorem ml_X4_19 : Cond.methodLink RX4 19 yX4_isLiteral ∈ gT := gT_t1 213 (by decide +kernel) rfl
theorem cb_X4_19 : gCB RX4 19 yX4_isLiteral cX4_isLiteral 1 (some .boolean) 1 := ⟨ml_X4_19, cn_X4_isLiteral.1, cn_X4_isLiteral.2.1, cn_X4_isLiteral.2.2⟩
theorem ml_X4_25 : Cond.methodLink RX4 25 Lib.Math.min.name ∈ gT := gT_t1 222 (by decide +kernel) rfl
theorem cd_X4_endOf : Cond.code yX4_endOf cX4_endOf 6 (some .int) ∈ gT := gT_t1 221 (by decide +kernel) rfl
theorem cn_X4_endOf : gCN yX4_endOf cX4_endOf 6 (some .int) 2 := ⟨in_X4, cd_X4_endOf, ⟨by decide +kernel, by decide +kernel, by decide +kernel⟩⟩
theorem st_X4_endOf : Cond.static yX4_endOf ∈ gT := gT_t1 220 (by decide +kernel) rfl
theorem ml_X4_39 : Cond.methodLink RX4 39 yX4_endOf ∈ gT := gT_t1 219 (by decide +kernel) rfl
theorem cb_X4_39 : gCB RX4 39 yX4_endOf cX4_endOf 6 (some .int) 2 := ⟨ml_X4_39, cn_X4_endOf.1, cn_X4_endOf.2.1, cn_X4_endOf.2.2⟩
theorem cd_X4_literals : Cond.code yX4_literals cX4_literals 4 (some .int) ∈ gT := gT_t1 204 (by decide +kernel) rfl
theorem cn_X4_literals : gCN yX4_literals cX4_literals 4 (some .int) 1 := ⟨in_X4, cd_X4_literals, ⟨by decide +kernel, by decide +kernel, by decide +kernel⟩⟩
theorem st_X4_literals : Cond.static yX4_literals ∈ gT := gT_t1 203 (by decide +kernel) rfl
theorem ml_X4_31 : Cond.methodLink RX4 31 yX4_literals ∈ gT := gT_t1 202 (by decide +kernel) rfl
theorem cb_X4_31 : gCB RX4 31 yX4_literals cX4_literals 4 (some .int) 1 := ⟨ml_X4_31, cn_X4_literals.1, cn_X4_literals.2.1, cn_X4_literals.2.2⟩
theorem cd_X4_fillsOf : Cond.code yX4_fillsOf cX4_fillsOf 6 (some .int) ∈ gT := gT_t1 218 (by decide +kernel) rfl
theorem cn_X4_fillsOf : gCN yX4_fillsOf cX4_fillsOf 6 (some .int) 2 := ⟨in_X4, cd_X4_fillsOf, ⟨by decide +kernel, by decide +kernel, by decide +kernel⟩⟩
theorem st_X4_fillsOf : Cond.static yX4_fillsOf ∈ gT := gT_t1 217 (by decide +kernel) rfl
theorem ml_X4_35 : Cond.methodLink RX4 35 yX4_fillsOf ∈ gT := gT_t1 216 (by decide +kernel) rfl
theorem cb_X4_35 : gCB RX4 35 yX4_fillsOf cX4_fillsOf 6 (some .int) 2 := ⟨ml_X4_35, cn_X4_fillsOf.1, cn_X4_fillsOf.2.1, cn_X4_fillsOf.2.2⟩
theorem kc_X4_46 : Cond.constant RX4 46 49152 ∈ gT := gT_t2 178 (by decide +kernel) rfl
theorem kc_X4_45 : Cond.constant RX4 45 32768 ∈ gT := gT_t2 177 (by decide +kernel) rfl
theorem cd_X4_code : Cond.code yX4_code cX4_code 2 (some .int) ∈ gT := gT_t2 176 (by decide +kernel) rfl
theorem cn_X4_code : gCN yX4_code cX4_code 2 (some .int) 2 := ⟨in_X4, cd_X4_code, ⟨by decide +kernel, by decide +kernel, by decide +kernel⟩⟩
theorem st_X4_code : Cond.static yX4_code ∈ gT := gT_t2 175 (by decide +kernel) rfl
theorem ml_X4_42 : Cond.methodLink RX4 42 yX4_code ∈ gT := gT_t2 174 (by decide +kernel) rfl
theorem cb_X4_42 : gCB RX4 42 yX4_code cX4_code 2 (some .int) 2 := ⟨ml_X4_42, cn_X4_code.1, cn_X4_code.2.1, cn_X4_code.2.2⟩
theorem ml_X4_47 : Cond.methodLink RX4 47 Lib.Math.max.name ∈ gT := gT_t2 11 (by decide +kernel) rfl
theorem fl_X3_11 : Cond.fieldLink RX3 11 RX3 "changes" "[LPackedBits$Change;" ∈ gT := gT_t1 63 (by decide +kernel) rfl
theorem fd_X3_11 : gFd RX3 11 3 0 true (.array (.object "PackedBits$Change")) := ⟨RX3, TX3, 2, tyX3, rfl, rfl, ws_inX3, by decide, fl_X3_11, rfl, rfl, by decide +kernel, tyX3_ok, nmX3⟩
theorem fl_X3_18 : Cond.fieldLink RX3 18 RX3 "kept" "I" ∈ gT := gT_t1 64 (by decide +kernel) rfl
theorem fd_X3_18 : gFd RX3 18 3 1 false .int := ⟨RX3, TX3, 2, tyX3, rfl, rfl, ws_inX3, by decide, fl_X3_18, rfl, rfl, by decide +kernel, tyX3_ok, nmX3⟩
theorem fl_X3_25 : Cond.fieldLink RX3 25 RX1 "made" "I" ∈ gT := gT_t1 52 (by decide +kernel) rfl
theorem fd_X3_25 : gFd RX3 25 1 1 false .int := ⟨RX1, TX1, 3, tyX1, rfl, rfl, ws_inX1, by decide, fl_X3_25, rfl, rfl, by decide +kernel, tyX1_ok, nmX1⟩
theorem fl_X3_28 : Cond.fieldLink RX3 28 RX1 "number" "I" ∈ gT := gT_t1 54 (by decide +kernel) rfl
theorem fd_X3_28 : gFd RX3 28 1 2 false .int := ⟨RX1, TX1, 3, tyX1, rfl, rfl, ws_inX1, by decide, fl_X3_28, rfl, rfl, by decide +kernel, tyX1_ok, nmX1⟩
theorem fl_X3_31 : Cond.fieldLink RX3 31 RX1 "before" "LPackedBits$Bits;" ∈ gT := gT_t1 50 (by decide +kernel) rfl
theorem fd_X3_31 : gFd RX3 31 1 0 true (.object "PackedBits$Bits") := ⟨RX1, TX1, 3, tyX1, rfl, rfl, ws_inX1, by decide, fl_X3_31, rfl, rfl, by decide +kernel, tyX1_ok, nmX1⟩
theorem cd_X0_copyFrom : Cond.code yX0_copyFrom cX0_copyFrom 2 none ∈ gT := gT_t1 151 (by decide +kernel) rfl
theorem cn_X0_copyFrom : gCN yX0_copyFrom cX0_copyFrom 2 none 1 := ⟨in_X0, cd_X0_copyFrom, ⟨by decide +kernel, by decide +kernel, by decide +kernel⟩⟩
theorem im_X0_copyFrom : Cond.instanceMethod yX0_copyFrom ∈ gT := gT_t1 149 (by decide +kernel) rfl
theorem se_X0_copyFrom : Cond.selects RX0 yX0_copyFrom yX0_copyFrom ∈ gT := gT_t1 150 (by decide +kernel) rfl
theorem vi_X0_copyFrom : gVI yX0_copyFrom := ⟨im_X0_copyFrom, se_X0_copyFrom⟩
theorem ml_X3_35 : Cond.methodLink RX3 35 yX0_copyFrom ∈ gT := gT_t1 148 (by decide +kernel) rfl
theorem cb_X3_35 : gCB RX3 35 yX0_copyFrom cX0_copyFrom 2 none 1 := ⟨ml_X3_35, cn_X0_copyFrom.1, cn_X0_copyFrom.2.1, cn_X0_copyFrom.2.2⟩
theorem in_X3 : Cond.initialized RX3 ∈ gT := gT_t1 2 (by decide +kernel) rfl
theorem cd_X3_dropOldest : Cond.code yX3_dropOldest cX3_dropOldest 3 none ∈ gT := gT_t1 147 (by decide +kernel) rfl
theorem cn_X3_dropOldest : gCN yX3_dropOldest cX3_dropOldest 3 none 0 := ⟨in_X3, cd_X3_dropOldest, ⟨by decide +kernel, by decide +kernel, by decide +kernel⟩⟩
theorem im_X3_dropOldest : Cond.instanceMethod yX3_dropOldest ∈ gT := gT_t1 146 (by decide +kernel) rfl
theorem se_X3_dropOldest : Cond.selects RX3 yX3_dropOldest yX3_dropOldest ∈ gT := gT_p 1 (by decide +kernel) rfl
theorem vi_X3_dropOldest : gVI yX3_dropOldest := ⟨im_X3_dropOldest, se_X3_dropOldest⟩
theorem ml_X3_22 : Cond.methodLink RX3 22 yX3_dropOldest ∈ gT := gT_t1 144 (by decide +kernel) rfl
theorem cb_X3_22 : gCB RX3 22 yX3_dropOldest cX3_dropOldest 3 none 0 := ⟨ml_X3_22, cn_X3_dropOldest.1, cn_X3_dropOldest.2.1, cn_X3_dropOldest.2.2⟩
theorem ml_X3_41 : Cond.methodLink RX3 41 Lib.Math.max.name ∈ gT := gT_t2 64 (by decide +kernel) rfl
theorem fl_X2_25 : Cond.fieldLink RX2 25 RX2 "length" "I" ∈ gT := gT_t1 80 (by decide +kernel) rfl
theorem fd_X2_25 : gFd RX2 25 2 1 false .int := ⟨RX2, TX2, 10, tyX2, rfl, rfl, ws_inX2, by decide, fl_X2_25, rfl, rfl, by decide +kernel, tyX2_ok, nmX2⟩
theorem fl_X2_9 : Cond.fieldLink RX2 9 RX2 "signs" "[C" ∈ gT := gT_t1 79 (by decide +kernel) rfl
theorem fd_X2_9 : gFd RX2 9 2 0 true (.array .char) := ⟨RX2, TX2, 10, tyX2, rfl, rfl, ws_inX2, by decide, fl_X2_9, rfl, rfl, by decide +kernel, tyX2_ok, nmX2⟩
theorem fl_X2_17 : Cond.fieldLink RX2 17 RX2 "values" "[LPackedBits$Bits;" ∈ gT := gT_t1 88 (by decide +kernel) rfl
theorem fd_X2_17 : gFd RX2 17 2 5 true (.array (.object "PackedBits$Bits")) := ⟨RX2, TX2, 10, tyX2, rfl, rfl, ws_inX2, by decide, fl_X2_17, rfl, rfl, by decide +kernel, tyX2_ok, nmX2⟩
theorem fl_X2_32 : Cond.fieldLink RX2 32 RX2 "at" "I" ∈ gT := gT_t1 91 (by decide +kernel) rfl
theorem fd_X2_32 : gFd RX2 32 2 8 false .int := ⟨RX2, TX2, 10, tyX2, rfl, rfl, ws_inX2, by decide, fl_X2_32, rfl, rfl, by decide +kernel, tyX2_ok, nmX2⟩
theorem in_X2 : Cond.initialized RX2 ∈ gT := gT_t1 5 (by decide +kernel) rfl
theorem cd_X2_signHere : Cond.code yX2_signHere cX2_signHere 1 (some .char) ∈ gT := gT_t2 104 (by decide +kernel) rfl
theorem cn_X2_signHere : gCN yX2_signHere cX2_signHere 1 (some .char) 0 := ⟨in_X2, cd_X2_signHere, ⟨by decide +kernel, by decide +kernel, by decide +kernel⟩⟩
theorem im_X2_signHere : Cond.instanceMethod yX2_signHere ∈ gT := gT_t2 103 (by decide +kernel) rfl
theorem se_X2_signHere : Cond.selects RX2 yX2_signHere yX2_signHere ∈ gT := gT_p 8 (by decide +kernel) rfl
theorem vi_X2_signHere : gVI yX2_signHere := ⟨im_X2_signHere, se_X2_signHere⟩
theorem ml_X2_86 : Cond.methodLink RX2 86 yX2_signHere ∈ gT := gT_t2 101 (by decide +kernel) rfl
theorem cb_X2_86 : gCB RX2 86 yX2_signHere cX2_signHere 1 (some .char) 0 := ⟨ml_X2_86, cn_X2_signHere.1, cn_X2_signHere.2.1, cn_X2_signHere.2.2⟩
theorem cd_X0_combine : Cond.code yX0_combine cX0_combine 5 none ∈ gT := gT_t2 15 (by decide +kernel) rfl
theorem cn_X0_combine : gCN yX0_combine cX0_combine 5 none 3 := ⟨in_X0, cd_X0_combine, ⟨by decide +kernel, by decide +kernel, by decide +kernel⟩⟩
theorem im_X0_combine : Cond.instanceMethod yX0_combine ∈ gT := gT_t2 13 (by decide +kernel) rfl
theorem se_X0_combine : Cond.selects RX0 yX0_combine yX0_combine ∈ gT := gT_t2 14 (by decide +kernel) rfl
theorem vi_X0_combine : gVI yX0_combine := ⟨im_X0_combine, se_X0_combine⟩
theorem ml_X2_61 : Cond.methodLink RX2 61 yX0_combine ∈ gT := gT_t2 134 (by decide +kernel) rfl
theorem cb_X2_61 : gCB RX2 61 yX0_combine cX0_combine 5 none 3 := ⟨ml_X2_61, cn_X0_combine.1, cn_X0_combine.2.1, cn_X0_combine.2.2⟩
theorem cd_X2_readProduct : Cond.code yX2_readProduct cX2_readProduct 5 (some .boolean) ∈ gT := gT_t2 92 (by decide +kernel) rfl
theorem cn_X2_readProduct : gCN yX2_readProduct cX2_readProduct 5 (some .boolean) 2 := ⟨in_X2, cd_X2_readProduct, ⟨by decide +kernel, by decide +kernel, by decide +kernel⟩⟩
theorem im_X2_readProduct : Cond.instanceMethod yX2_readProduct ∈ gT := gT_t2 91 (by decide +kernel) rfl
theorem se_X2_readProduct : Cond.selects RX2 yX2_readProduct yX2_readProduct ∈ gT := gT_p 5 (by decide +kernel) rfl
theorem vi_X2_readProduct : gVI yX2_readProduct := ⟨im_X2_readProduct, se_X2_readProduct⟩
theorem ml_X2_51 : Cond.methodLink RX2 51 yX2_readProduct ∈ gT := gT_t2 89 (by decide +kernel) rfl
theorem cb_X2_51 : gCB RX2 51 yX2_readProduct cX2_readProduct 5 (some .boolean) 2 := ⟨ml_X2_51, cn_X2_readProduct.1, cn_X2_readProduct.2.1, cn_X2_readProduct.2.2⟩
theorem cd_X2_nextSign : Cond.code yX2_nextSign cX2_nextSign 1 (some .char) ∈ gT := gT_t2 100 (by decide +kernel) rfl
theorem cn_X2_nextSign : gCN yX2_nextSign cX2_nextSign 1 (some .char) 0 := ⟨in_X2, cd_X2_nextSign, ⟨by decide +kernel, by decide +kernel, by decide +kernel⟩⟩
theorem im_X2_nextSign : Cond.instanceMethod yX2_nextSign ∈ gT := gT_t2 99 (by decide +kernel) rfl
theorem se_X2_nextSign : Cond.selects RX2 yX2_nextSign yX2_nextSign ∈ gT := gT_p 7 (by decide +kernel) rfl
theorem vi_X2_nextSign : gVI yX2_nextSign := ⟨im_X2_nextSign, se_X2_nextSign⟩
theorem ml_X2_43 : Cond.methodLink RX2 43 yX2_nextSign ∈ gT := gT_t2 97 (by decide +kernel) rfl
theorem cb_X2_43 : gCB RX2 43 yX2_nextSign cX2_nextSign 1 (some .char) 0 := ⟨ml_X2_43, cn_X2_nextSign.1, cn_X2_nextSign.2.1, cn_X2_nextSign.2.2⟩
theorem cd_X2_combineAt : Cond.code yX2_combineAt cX2_combineAt 3 none ∈ gT := gT_t2 133 (by decide +kernel) rfl
theorem cn_X2_combineAt : gCN yX2_combineAt cX2_combineAt 3 none 2 := ⟨in_X2, cd_X2_combineAt, ⟨by decide +kernel, by decide +kernel, by decide +kernel⟩⟩
theorem im_X2_combineAt : Cond.instanceMethod yX2_combineAt ∈ gT := gT_t2 132 (by decide +kernel) rfl
theorem se_X2_combineAt : Cond.selects RX2 yX2_combineAt yX2_combineAt ∈ gT := gT_p 14 (by decide +kernel) rfl
theorem vi_X2_combineAt : gVI yX2_combineAt := ⟨im_X2_combineAt, se_X2_combineAt⟩
theorem ml_X2_54 : Cond.methodLink RX2 54 yX2_combineAt ∈ gT := gT_t2 130 (by decide +kernel) rfl
theorem cb_X2_54 : gCB RX2 54 yX2_combineAt cX2_combineAt 3 none 2 := ⟨ml_X2_54, cn_X2_combineAt.1, cn_X2_combineAt.2.1, cn_X2_combineAt.2.2⟩
theorem fl_X2_35 : Cond.fieldLink RX2 35 RX2 "failed" "Z" ∈ gT := gT_t1 92 (by decide +kernel) rfl
theorem fd_X2_35 : gFd RX2 35 2 9 false .boolean := ⟨RX2, TX2, 10, tyX2, rfl, rfl, ws_inX2, by decide, fl_X2_35, rfl, rfl, by decide +kernel, tyX2_ok, nmX2⟩
theorem fl_X2_93 : Cond.fieldLink RX2 93 RX2 "kind" "I" ∈ gT := gT_t1 83 (by decide +kernel) rfl
theorem fd_X2_93 : gFd RX2 93 2 2 false .int := ⟨RX2, TX2, 10, tyX2, rfl, rfl, ws_inX2, by decide, fl_X2_93, rfl, rfl, by decide +kernel, tyX2_ok, nmX2⟩
theorem fl_X2_96 : Cond.fieldLink RX2 96 RX2 "place" "I" ∈ gT := gT_t1 85 (by decide +kernel) rfl
theorem fd_X2_96 : gFd RX2 96 2 3 false .int := ⟨RX2, TX2, 10, tyX2, rfl, rfl, ws_inX2, by decide, fl_X2_96, rfl, rfl, by decide +kernel, tyX2_ok, nmX2⟩
theorem fl_X2_99 : Cond.fieldLink RX2 99 RX2 "within" "I" ∈ gT := gT_t1 87 (by decide +kernel) rfl
theorem fd_X2_99 : gFd RX2 99 2 4 false .int := ⟨RX2, TX2, 10, tyX2, rfl, rfl, ws_inX2, by decide, fl_X2_99, rfl, rfl, by decide +kernel, tyX2_ok, nmX2⟩
theorem cd_X2_fail : Cond.code yX2_fail cX2_fail 4 none ∈ gT := gT_t2 123 (by decide +kernel) rfl
theorem cn_X2_fail : gCN yX2_fail cX2_fail 4 none 3 := ⟨in_X2, cd_X2_fail, ⟨by decide +kernel, by decide +kernel, by decide +kernel⟩⟩
theorem im_X2_fail : Cond.instanceMethod yX2_fail ∈ gT := gT_t2 122 (by decide +kernel) rfl
theorem se_X2_fail : Cond.selects RX2 yX2_fail yX2_fail ∈ gT := gT_p 12 (by decide +kernel) rfl
theorem vi_X2_fail : gVI yX2_fail := ⟨im_X2_fail, se_X2_fail⟩
theorem ml_X2_89 : Cond.methodLink RX2 89 yX2_fail ∈ gT := gT_t2 120 (by decide +kernel) rfl
theorem cb_X2_89 : gCB RX2 89 yX2_fail cX2_fail 4 none 3 := ⟨ml_X2_89, cn_X2_fail.1, cn_X2_fail.2.1, cn_X2_fail.2.2⟩
theorem fl_X2_21 : Cond.fieldLink RX2 21 RX2 "rows" "[LPackedBits$Bits;" ∈ gT := gT_t1 89 (by decide +kernel) rfl
theorem fd_X2_21 : gFd RX2 21 2 6 false (.array (.object "PackedBits$Bits")) := ⟨RX2, TX2, 10, tyX2, rfl, rfl, ws_inX2, by decide, fl_X2_21, rfl, rfl, by decide +kernel, tyX2_ok, nmX2⟩
theorem fl_X2_29 : Cond.fieldLink RX2 29 RX2 "made" "I" ∈ gT := gT_t1 90 (by decide +kernel) rfl
theorem fd_X2_29 : gFd RX2 29 2 7 false .int := ⟨RX2, TX2, 10, tyX2, rfl, rfl, ws_inX2, by decide, fl_X2_29, rfl, rfl, by decide +kernel, tyX2_ok, nmX2⟩
theorem cd_X2_readSum : Cond.code yX2_readSum cX2_readSum 5 (some .boolean) ∈ gT := gT_t2 88 (by decide +kernel) rfl
theorem cn_X2_readSum : gCN yX2_readSum cX2_readSum 5 (some .boolean) 2 := ⟨in_X2, cd_X2_readSum, ⟨by decide +kernel, by decide +kernel, by decide +kernel⟩⟩
theorem im_X2_readSum : Cond.instanceMethod yX2_readSum ∈ gT := gT_t2 87 (by decide +kernel) rfl
theorem se_X2_readSum : Cond.selects RX2 yX2_readSum yX2_readSum ∈ gT := gT_p 4 (by decide +kernel) rfl
theorem vi_X2_readSum : gVI yX2_readSum := ⟨im_X2_readSum, se_X2_readSum⟩
theorem ml_X2_39 : Cond.methodLink RX2 39 yX2_readSum ∈ gT := gT_t2 85 (by decide +kernel) rfl
theorem cb_X2_39 : gCB RX2 39 yX2_readSum cX2_readSum 5 (some .boolean) 2 := ⟨ml_X2_39, cn_X2_readSum.1, cn_X2_readSum.2.1, cn_X2_readSum.2.2⟩
theorem cd_X2_breakOff : Cond.code yX2_breakOff cX2_breakOff 2 (some .boolean) ∈ gT := gT_t2 119 (by decide +kernel) rfl
theorem cn_X2_breakOff : gCN yX2_breakOff cX2_breakOff 2 (some .boolean) 1 := ⟨in_X2, cd_X2_breakOff, ⟨by decide +kernel, by decide +kernel, by decide +kernel⟩⟩
theorem im_X2_breakOff : Cond.instanceMethod yX2_breakOff ∈ gT := gT_t2 118 (by decide +kernel) rfl
theorem se_X2_breakOff : Cond.selects RX2 yX2_breakOff yX2_breakOff ∈ gT := gT_p 11 (by decide +kernel) rfl
theorem vi_X2_breakOff : gVI yX2_breakOff := ⟨im_X2_breakOff, se_X2_breakOff⟩
theorem ml_X2_47 : Cond.methodLink RX2 47 yX2_breakOff ∈ gT := gT_t2 116 (by decide +kernel) rfl
theorem cb_X2_47 : gCB RX2 47 yX2_breakOff cX2_breakOff 2 (some .boolean) 1 := ⟨ml_X2_47, cn_X2_breakOff.1, cn_X2_breakOff.2.1, cn_X2_breakOff.2.2⟩
theorem cd_X2_readFactor : Cond.code yX2_readFactor cX2_readFactor 4 (some .boolean) ∈ gT := gT_t2 96 (by decide +kernel) rfl
theorem cn_X2_readFactor : gCN yX2_readFactor cX2_readFactor 4 (some .boolean) 2 := ⟨in_X2, cd_X2_readFactor, ⟨by decide +kernel, by decide +kernel, by decide +kernel⟩⟩
theorem im_X2_readFactor : Cond.instanceMethod yX2_readFactor ∈ gT := gT_t2 95 (by decide +kernel) rfl
theorem se_X2_readFactor : Cond.selects RX2 yX2_readFactor yX2_readFactor ∈ gT := gT_p 6 (by decide +kernel) rfl
theorem vi_X2_readFactor : gVI yX2_readFactor := ⟨im_X2_readFactor, se_X2_readFactor⟩
theorem ml_X2_58 : Cond.methodLink RX2 58 yX2_readFactor ∈ gT := gT_t2 93 (by decide +kernel) rfl
theorem cb_X2_58 : gCB RX2 58 yX2_readFactor cX2_readFactor 4 (some .boolean) 2 := ⟨ml_X2_58, cn_X2_readFactor.1, cn_X2_readFactor.2.1, cn_X2_readFactor.2.2⟩
theorem cd_X2_isDigit : Cond.code yX2_isDigit cX2_isDigit 1 (some .boolean) ∈ gT := gT_t2 115 (by decide +kernel) rfl
theorem cn_X2_isDigit : gCN yX2_isDigit cX2_isDigit 1 (some .boolean) 1 := ⟨in_X2, cd_X2_isDigit, ⟨by decide +kernel, by decide +kernel, by decide +kernel⟩⟩
theorem st_X2_isDigit : Cond.static yX2_isDigit ∈ gT := gT_t2 114 (by decide +kernel) rfl
theorem ml_X2_82 : Cond.methodLink RX2 82 yX2_isDigit ∈ gT := gT_t2 113 (by decide +kernel) rfl
theorem cb_X2_82 : gCB RX2 82 yX2_isDigit cX2_isDigit 1 (some .boolean) 1 := ⟨ml_X2_82, cn_X2_isDigit.1, cn_X2_isDigit.2.1, cn_X2_isDigit.2.2⟩
theorem cd_X2_readNumber : Cond.code yX2_readNumber cX2_readNumber 6 (some .int) ∈ gT := gT_t2 112 (by decide +kernel) rfl
theorem cn_X2_readNumber : gCN yX2_readNumber cX2_readNumber 6 (some .int) 2 := ⟨in_X2, cd_X2_readNumber, ⟨by decide +kernel, by decide +kernel, by decide +kernel⟩⟩
theorem im_X2_readNumber : Cond.instanceMethod yX2_readNumber ∈ gT := gT_t2 111 (by decide +kernel) rfl
theorem se_X2_readNumber : Cond.selects RX2 yX2_readNumber yX2_readNumber ∈ gT := gT_p 10 (by decide +kernel) rfl
theorem vi_X2_readNumber : gVI yX2_readNumber := ⟨im_X2_readNumber, se_X2_readNumber⟩
theorem ml_X2_74 : Cond.methodLink RX2 74 yX2_readNumber ∈ gT := gT_t2 109 (by decide +kernel) rfl
theorem cb_X2_74 : gCB RX2 74 yX2_readNumber cX2_readNumber 6 (some .int) 2 := ⟨ml_X2_74, cn_X2_readNumber.1, cn_X2_readNumber.2.1, cn_X2_readNumber.2.2⟩
theorem cd_X0_moveFrom : Cond.code yX0_moveFrom cX0_moveFrom 8 none ∈ gT := gT_t2 48 (by decide +kernel) rfl
theorem cn_X0_moveFrom : gCN yX0_moveFrom cX0_moveFrom 8 none 2 := ⟨in_X0, cd_X0_moveFrom, ⟨by decide +kernel, by decide +kernel, by decide +kernel⟩⟩
theorem im_X0_moveFrom : Cond.instanceMethod yX0_moveFrom ∈ gT := gT_t2 46 (by decide +kernel) rfl
theorem se_X0_moveFrom : Cond.selects RX0 yX0_moveFrom yX0_moveFrom ∈ gT := gT_t2 47 (by decide +kernel) rfl
theorem vi_X0_moveFrom : gVI yX0_moveFrom := ⟨im_X0_moveFrom, se_X0_moveFrom⟩
theorem ml_X2_78 : Cond.methodLink RX2 78 yX0_moveFrom ∈ gT := gT_t2 124 (by decide +kernel) rfl
theorem cb_X2_78 : gCB RX2 78 yX0_moveFrom cX0_moveFrom 8 none 2 := ⟨ml_X2_78, cn_X0_moveFrom.1, cn_X0_moveFrom.2.1, cn_X0_moveFrom.2.2⟩
theorem cd_X0_invert : Cond.code yX0_invert cX0_invert 2 none ∈ gT := gT_t2 26 (by decide +kernel) rfl
theorem cn_X0_invert : gCN yX0_invert cX0_invert 2 none 0 := ⟨in_X0, cd_X0_invert, ⟨by decide +kernel, by decide +kernel, by decide +kernel⟩⟩
theorem im_X0_invert : Cond.instanceMethod yX0_invert ∈ gT := gT_t2 24 (by decide +kernel) rfl
theorem se_X0_invert : Cond.selects RX0 yX0_invert yX0_invert ∈ gT := gT_t2 25 (by decide +kernel) rfl
theorem vi_X0_invert : gVI yX0_invert := ⟨im_X0_invert, se_X0_invert⟩
theorem ml_X2_71 : Cond.methodLink RX2 71 yX0_invert ∈ gT := gT_t2 129 (by decide +kernel) rfl
theorem cb_X2_71 : gCB RX2 71 yX0_invert cX0_invert 2 none 0 := ⟨ml_X2_71, cn_X0_invert.1, cn_X0_invert.2.1, cn_X0_invert.2.2⟩
theorem cd_X2_readBracket : Cond.code yX2_readBracket cX2_readBracket 3 (some .boolean) ∈ gT := gT_t2 128 (by decide +kernel) rfl
theorem cn_X2_readBracket : gCN yX2_readBracket cX2_readBracket 3 (some .boolean) 2 := ⟨in_X2, cd_X2_readBracket, ⟨by decide +kernel, by decide +kernel, by decide +kernel⟩⟩
theorem im_X2_readBracket : Cond.instanceMethod yX2_readBracket ∈ gT := gT_t2 127 (by decide +kernel) rfl
theorem se_X2_readBracket : Cond.selects RX2 yX2_readBracket yX2_readBracket ∈ gT := gT_p 13 (by decide +kernel) rfl
theorem vi_X2_readBracket : gVI yX2_readBracket := ⟨im_X2_readBracket, se_X2_readBracket⟩
theorem ml_X2_68 : Cond.methodLink RX2 68 yX2_readBracket ∈ gT := gT_t2 125 (by decide +kernel) rfl
theorem cb_X2_68 : gCB RX2 68 yX2_readBracket cX2_readBracket 3 (some .boolean) 2 := ⟨ml_X2_68, cn_X2_readBracket.1, cn_X2_readBracket.2.1, cn_X2_readBracket.2.2⟩
theorem cd_X2_readRow : Cond.code yX2_readRow cX2_readRow 6 (some .boolean) ∈ gT := gT_t2 108 (by decide +kernel) rfl
theorem cn_X2_readRow : gCN yX2_readRow cX2_readRow 6 (some .boolean) 2 := ⟨in_X2, cd_X2_readRow, ⟨by decide +kernel, by decide +kernel, by decide +kernel⟩⟩
theorem im_X2_readRow : Cond.instanceMethod yX2_readRow ∈ gT := gT_t2 107 (by decide +kernel) rfl
theorem se_X2_readRow : Cond.selects RX2 yX2_readRow yX2_readRow ∈ gT := gT_p 9 (by decide +kernel) rfl
theorem vi_X2_readRow : gVI yX2_readRow := ⟨im_X2_readRow, se_X2_readRow⟩
theorem ml_X2_65 : Cond.methodLink RX2 65 yX2_readRow ∈ gT := gT_t2 105 (by decide +kernel) rfl
theorem cb_X2_65 : gCB RX2 65 yX2_readRow cX2_readRow 6 (some .boolean) 2 := ⟨ml_X2_65, cn_X2_readRow.1, cn_X2_readRow.2.1, cn_X2_readRow.2.2⟩
theorem fl_X5_18 : Cond.fieldLink RX5 18 RX5 "history" "LPackedBits$History;" ∈ gT := gT_t1 118 (by decide +kernel) rfl
theorem fd_X5_18 : gFd RX5 18 4 2 true (.object "PackedBits$History") := ⟨RX5, TX5, 5, tyX5, rfl, rfl, ws_inX5, by decide, fl_X5_18, rfl, rfl, by decide +kernel, tyX5_ok, nmX5⟩
theorem fl_X5_34 : Cond.fieldLink RX5 34 RX5 "made" "I" ∈ gT := gT_t1 117 (by decide +kernel) rfl
theorem fd_X5_34 : gFd RX5 34 4 1 false .int := ⟨RX5, TX5, 5, tyX5, rfl, rfl, ws_inX5, by decide, fl_X5_34, rfl, rfl, by decide +kernel, tyX5_ok, nmX5⟩
theorem fl_X5_11 : Cond.fieldLink RX5 11 RX5 "rows" "[LPackedBits$Bits;" ∈ gT := gT_t1 116 (by decide +kernel) rfl
theorem fd_X5_11 : gFd RX5 11 4 0 true (.array (.object "PackedBits$Bits")) := ⟨RX5, TX5, 5, tyX5, rfl, rfl, ws_inX5, by decide, fl_X5_11, rfl, rfl, by decide +kernel, tyX5_ok, nmX5⟩
theorem cd_X3_add : Cond.code yX3_add cX3_add 5 none ∈ gT := gT_t1 143 (by decide +kernel) rfl
theorem cn_X3_add : gCN yX3_add cX3_add 5 none 3 := ⟨in_X3, cd_X3_add, ⟨by decide +kernel, by decide +kernel, by decide +kernel⟩⟩
theorem im_X3_add : Cond.instanceMethod yX3_add ∈ gT := gT_t1 141 (by decide +kernel) rfl
theorem se_X3_add : Cond.selects RX3 yX3_add yX3_add ∈ gT := gT_t1 142 (by decide +kernel) rfl
theorem vi_X3_add : gVI yX3_add := ⟨im_X3_add, se_X3_add⟩
theorem ml_X5_168 : Cond.methodLink RX5 168 yX3_add ∈ gT := gT_t1 140 (by decide +kernel) rfl
theorem cb_X5_168 : gCB RX5 168 yX3_add cX3_add 5 none 3 := ⟨ml_X5_168, cn_X3_add.1, cn_X3_add.2.1, cn_X3_add.2.2⟩
theorem in_X5 : Cond.initialized RX5 ∈ gT := gT_t1 1 (by decide +kernel) rfl
theorem cd_X5_record : Cond.code yX5_record cX5_record 2 none ∈ gT := gT_t1 139 (by decide +kernel) rfl
theorem cn_X5_record : gCN yX5_record cX5_record 2 none 1 := ⟨in_X5, cd_X5_record, ⟨by decide +kernel, by decide +kernel, by decide +kernel⟩⟩
theorem im_X5_record : Cond.instanceMethod yX5_record ∈ gT := gT_t1 138 (by decide +kernel) rfl
theorem se_X5_record : Cond.selects RX5 yX5_record yX5_record ∈ gT := gT_p 0 (by decide +kernel) rfl
theorem vi_X5_record : gVI yX5_record := ⟨im_X5_record, se_X5_record⟩
theorem ml_X5_38 : Cond.methodLink RX5 38 yX5_record ∈ gT := gT_t1 136 (by decide +kernel) rfl
theorem cb_X5_38 : gCB RX5 38 yX5_record cX5_record 2 none 1 := ⟨ml_X5_38, cn_X5_record.1, cn_X5_record.2.1, cn_X5_record.2.2⟩
theorem cd_X0_cutTo : Cond.code yX0_cutTo cX0_cutTo 3 none ∈ gT := gT_t1 158 (by decide +kernel) rfl
theorem cn_X0_cutTo : gCN yX0_cutTo cX0_cutTo 3 none 1 := ⟨in_X0, cd_X0_cutTo, ⟨by decide +kernel, by decide +kernel, by decide +kernel⟩⟩
theorem im_X0_cutTo : Cond.instanceMethod yX0_cutTo ∈ gT := gT_t1 156 (by decide +kernel) rfl
theorem se_X0_cutTo : Cond.selects RX0 yX0_cutTo yX0_cutTo ∈ gT := gT_t1 157 (by decide +kernel) rfl
theorem vi_X0_cutTo : gVI yX0_cutTo := ⟨im_X0_cutTo, se_X0_cutTo⟩
theorem ml_X5_42 : Cond.methodLink RX5 42 yX0_cutTo ∈ gT := gT_t1 155 (by decide +kernel) rfl
theorem cb_X5_42 : gCB RX5 42 yX0_cutTo cX0_cutTo 3 none 1 := ⟨ml_X5_42, cn_X0_cutTo.1, cn_X0_cutTo.2.1, cn_X0_cutTo.2.2⟩
theorem cd_X5_isWithin : Cond.code yX5_isWithin cX5_isWithin 3 (some .boolean) ∈ gT := gT_t1 178 (by decide +kernel) rfl
theorem cn_X5_isWithin : gCN yX5_isWithin cX5_isWithin 3 (some .boolean) 3 := ⟨in_X5, cd_X5_isWithin, ⟨by decide +kernel, by decide +kernel, by decide +kernel⟩⟩
theorem st_X5_isWithin : Cond.static yX5_isWithin ∈ gT := gT_t1 177 (by decide +kernel) rfl
theorem ml_X5_52 : Cond.methodLink RX5 52 yX5_isWithin ∈ gT := gT_t1 176 (by decide +kernel) rfl
theorem cb_X5_52 : gCB RX5 52 yX5_isWithin cX5_isWithin 3 (some .boolean) 3 := ⟨ml_X5_52, cn_X5_isWithin.1, cn_X5_isWithin.2.1, cn_X5_isWithin.2.2⟩
theorem cd_X5_isRow : Cond.code yX5_isRow cX5_isRow 2 (some .boolean) ∈ gT := gT_t1 175 (by decide +kernel) rfl
theorem cn_X5_isRow : gCN yX5_isRow cX5_isRow 2 (some .boolean) 1 := ⟨in_X5, cd_X5_isRow, ⟨by decide +kernel, by decide +kernel, by decide +kernel⟩⟩
theorem im_X5_isRow : Cond.instanceMethod yX5_isRow ∈ gT := gT_t1 174 (by decide +kernel) rfl
theorem se_X5_isRow : Cond.selects RX5 yX5_isRow yX5_isRow ∈ gT := gT_p 2 (by decide +kernel) rfl
theorem vi_X5_isRow : gVI yX5_isRow := ⟨im_X5_isRow, se_X5_isRow⟩
theorem ml_X5_45 : Cond.methodLink RX5 45 yX5_isRow ∈ gT := gT_t1 172 (by decide +kernel) rfl
theorem cb_X5_45 : gCB RX5 45 yX5_isRow cX5_isRow 2 (some .boolean) 1 := ⟨ml_X5_45, cn_X5_isRow.1, cn_X5_isRow.2.1, cn_X5_isRow.2.2⟩
theorem cd_X5_isBit : Cond.code yX5_isBit cX5_isBit 1 (some .boolean) ∈ gT := gT_t1 181 (by decide +kernel) rfl
theorem cn_X5_isBit : gCN yX5_isBit cX5_isBit 1 (some .boolean) 1 := ⟨in_X5, cd_X5_isBit, ⟨by decide +kernel, by decide +kernel, by decide +kernel⟩⟩
theorem st_X5_isBit : Cond.static yX5_isBit ∈ gT := gT_t1 180 (by decide +kernel) rfl
theorem ml_X5_49 : Cond.methodLink RX5 49 yX5_isBit ∈ gT := gT_t1 179 (by decide +kernel) rfl
theorem cb_X5_49 : gCB RX5 49 yX5_isBit cX5_isBit 1 (some .boolean) 1 := ⟨ml_X5_49, cn_X5_isBit.1, cn_X5_isBit.2.1, cn_X5_isBit.2.2⟩
theorem fl_X5_56 : Cond.fieldLink RX5 56 RX0 "length" "I" ∈ gT := gT_t1 42 (by decide +kernel) rfl
theorem fd_X5_56 : gFd RX5 56 0 1 false .int := ⟨RX0, TX0, 2, tyX0, rfl, rfl, ws_inX0, by decide, fl_X5_56, rfl, rfl, by decide +kernel, tyX0_ok, nmX0⟩
theorem cd_X0_addRun : Cond.code yX0_addRun cX0_addRun 5 none ∈ gT := gT_t1 185 (by decide +kernel) rfl
theorem cn_X0_addRun : gCN yX0_addRun cX0_addRun 5 none 2 := ⟨in_X0, cd_X0_addRun, ⟨by decide +kernel, by decide +kernel, by decide +kernel⟩⟩
theorem im_X0_addRun : Cond.instanceMethod yX0_addRun ∈ gT := gT_t1 183 (by decide +kernel) rfl
theorem se_X0_addRun : Cond.selects RX0 yX0_addRun yX0_addRun ∈ gT := gT_t1 184 (by decide +kernel) rfl
theorem vi_X0_addRun : gVI yX0_addRun := ⟨im_X0_addRun, se_X0_addRun⟩
theorem ml_X5_59 : Cond.methodLink RX5 59 yX0_addRun ∈ gT := gT_t1 182 (by decide +kernel) rfl
theorem cb_X5_59 : gCB RX5 59 yX0_addRun cX0_addRun 5 none 2 := ⟨ml_X5_59, cn_X0_addRun.1, cn_X0_addRun.2.1, cn_X0_addRun.2.2⟩
theorem kc_X5_63 : Cond.constant RX5 63 65535 ∈ gT := gT_t1 190 (by decide +kernel) rfl
theorem cd_X0_addNumber : Cond.code yX0_addNumber cX0_addNumber 4 none ∈ gT := gT_t1 194 (by decide +kernel) rfl
theorem cn_X0_addNumber : gCN yX0_addNumber cX0_addNumber 4 none 2 := ⟨in_X0, cd_X0_addNumber, ⟨by decide +kernel, by decide +kernel, by decide +kernel⟩⟩
theorem im_X0_addNumber : Cond.instanceMethod yX0_addNumber ∈ gT := gT_t1 192 (by decide +kernel) rfl
theorem se_X0_addNumber : Cond.selects RX0 yX0_addNumber yX0_addNumber ∈ gT := gT_t1 193 (by decide +kernel) rfl
theorem vi_X0_addNumber : gVI yX0_addNumber := ⟨im_X0_addNumber, se_X0_addNumber⟩
theorem ml_X5_64 : Cond.methodLink RX5 64 yX0_addNumber ∈ gT := gT_t1 191 (by decide +kernel) rfl
theorem cb_X5_64 : gCB RX5 64 yX0_addNumber cX0_addNumber 4 none 2 := ⟨ml_X5_64, cn_X0_addNumber.1, cn_X0_addNumber.2.1, cn_X0_addNumber.2.2⟩
theorem cd_X4_size : Cond.code yX4_size cX4_size 1 (some .int) ∈ gT := gT_t1 201 (by decide +kernel) rfl
theorem cn_X4_size : gCN yX4_size cX4_size 1 (some .int) 1 := ⟨in_X4, cd_X4_size, ⟨by decide +kernel, by decide +kernel, by decide +kernel⟩⟩
theorem st_X4_size : Cond.static yX4_size ∈ gT := gT_t1 200 (by decide +kernel) rfl
theorem ml_X5_67 : Cond.methodLink RX5 67 yX4_size ∈ gT := gT_t1 199 (by decide +kernel) rfl
theorem cb_X5_67 : gCB RX5 67 yX4_size cX4_size 1 (some .int) 1 := ⟨ml_X5_67, cn_X4_size.1, cn_X4_size.2.1, cn_X4_size.2.2⟩
theorem cd_X5_isPlace : Cond.code yX5_isPlace cX5_isPlace 3 (some .boolean) ∈ gT := gT_t1 230 (by decide +kernel) rfl
theorem cn_X5_isPlace : gCN yX5_isPlace cX5_isPlace 3 (some .boolean) 2 := ⟨in_X5, cd_X5_isPlace, ⟨by decide +kernel, by decide +kernel, by decide +kernel⟩⟩
theorem im_X5_isPlace : Cond.instanceMethod yX5_isPlace ∈ gT := gT_t1 229 (by decide +kernel) rfl
theorem se_X5_isPlace : Cond.selects RX5 yX5_isPlace yX5_isPlace ∈ gT := gT_p 3 (by decide +kernel) rfl
theorem vi_X5_isPlace : gVI yX5_isPlace := ⟨im_X5_isPlace, se_X5_isPlace⟩
theorem ml_X5_73 : Cond.methodLink RX5 73 yX5_isPlace ∈ gT := gT_t1 227 (by decide +kernel) rfl
theorem cb_X5_73 : gCB RX5 73 yX5_isPlace cX5_isPlace 3 (some .boolean) 2 := ⟨ml_X5_73, cn_X5_isPlace.1, cn_X5_isPlace.2.1, cn_X5_isPlace.2.2⟩
theorem cd_X0_valueAt : Cond.code yX0_valueAt cX0_valueAt 2 (some .int) ∈ gT := gT_t1 234 (by decide +kernel) rfl
theorem cn_X0_valueAt : gCN yX0_valueAt cX0_valueAt 2 (some .int) 1 := ⟨in_X0, cd_X0_valueAt, ⟨by decide +kernel, by decide +kernel, by decide +kernel⟩⟩
theorem im_X0_valueAt : Cond.instanceMethod yX0_valueAt ∈ gT := gT_t1 232 (by decide +kernel) rfl
theorem se_X0_valueAt : Cond.selects RX0 yX0_valueAt yX0_valueAt ∈ gT := gT_t1 233 (by decide +kernel) rfl
theorem vi_X0_valueAt : gVI yX0_valueAt := ⟨im_X0_valueAt, se_X0_valueAt⟩
theorem ml_X5_77 : Cond.methodLink RX5 77 yX0_valueAt ∈ gT := gT_t1 231 (by decide +kernel) rfl
theorem cb_X5_77 : gCB RX5 77 yX0_valueAt cX0_valueAt 2 (some .int) 1 := ⟨ml_X5_77, cn_X0_valueAt.1, cn_X0_valueAt.2.1, cn_X0_valueAt.2.2⟩
theorem ml_X5_81 : Cond.methodLink RX5 81 yX0_putAt ∈ gT := gT_t1 236 (by decide +kernel) rfl
theorem cb_X5_81 : gCB RX5 81 yX0_putAt cX0_putAt 5 none 2 := ⟨ml_X5_81, cn_X0_putAt.1, cn_X0_putAt.2.1, cn_X0_putAt.2.2⟩
theorem cd_X5_isOperation : Cond.code yX5_isOperation cX5_isOperation 1 (some .boolean) ∈ gT := gT_t2 7 (by decide +kernel) rfl
theorem cn_X5_isOperation : gCN yX5_isOperation cX5_isOperation 1 (some .boolean) 1 := ⟨in_X5, cd_X5_isOperation, ⟨by decide +kernel, by decide +kernel, by decide +kernel⟩⟩
theorem st_X5_isOperation : Cond.static yX5_isOperation ∈ gT := gT_t2 6 (by decide +kernel) rfl
theorem ml_X5_84 : Cond.methodLink RX5 84 yX5_isOperation ∈ gT := gT_t2 5 (by decide +kernel) rfl
theorem cb_X5_84 : gCB RX5 84 yX5_isOperation cX5_isOperation 1 (some .boolean) 1 := ⟨ml_X5_84, cn_X5_isOperation.1, cn_X5_isOperation.2.1, cn_X5_isOperation.2.2⟩
theorem cd_X4_work : Cond.code yX4_work cX4_work 7 (some .int) ∈ gT := gT_t2 10 (by decide +kernel) rfl
theorem cn_X4_work : gCN yX4_work cX4_work 7 (some .int) 2 := ⟨in_X4, cd_X4_work, ⟨by decide +kernel, by decide +kernel, by decide +kernel⟩⟩
theorem st_X4_work : Cond.static yX4_work ∈ gT := gT_t2 9 (by decide +kernel) rfl
theorem ml_X5_87 : Cond.methodLink RX5 87 yX4_work ∈ gT := gT_t2 8 (by decide +kernel) rfl
theorem cb_X5_87 : gCB RX5 87 yX4_work cX4_work 7 (some .int) 2 := ⟨ml_X5_87, cn_X4_work.1, cn_X4_work.2.1, cn_X4_work.2.2⟩
theorem ml_X5_91 : Cond.methodLink RX5 91 yX0_combine ∈ gT := gT_t2 12 (by decide +kernel) rfl
theorem cb_X5_91 : gCB RX5 91 yX0_combine cX0_combine 5 none 3 := ⟨ml_X5_91, cn_X0_combine.1, cn_X0_combine.2.1, cn_X0_combine.2.2⟩
theorem ml_X5_95 : Cond.methodLink RX5 95 yX0_invert ∈ gT := gT_t2 23 (by decide +kernel) rfl
theorem cb_X5_95 : gCB RX5 95 yX0_invert cX0_invert 2 none 0 := ⟨ml_X5_95, cn_X0_invert.1, cn_X0_invert.2.1, cn_X0_invert.2.2⟩
theorem cd_X0_ones : Cond.code yX0_ones cX0_ones 1 (some .int) ∈ gT := gT_t2 30 (by decide +kernel) rfl
theorem cn_X0_ones : gCN yX0_ones cX0_ones 1 (some .int) 0 := ⟨in_X0, cd_X0_ones, ⟨by decide +kernel, by decide +kernel, by decide +kernel⟩⟩
theorem im_X0_ones : Cond.instanceMethod yX0_ones ∈ gT := gT_t2 28 (by decide +kernel) rfl
theorem se_X0_ones : Cond.selects RX0 yX0_ones yX0_ones ∈ gT := gT_t2 29 (by decide +kernel) rfl
theorem vi_X0_ones : gVI yX0_ones := ⟨im_X0_ones, se_X0_ones⟩
theorem ml_X5_98 : Cond.methodLink RX5 98 yX0_ones ∈ gT := gT_t2 27 (by decide +kernel) rfl
theorem cb_X5_98 : gCB RX5 98 yX0_ones cX0_ones 1 (some .int) 0 := ⟨ml_X5_98, cn_X0_ones.1, cn_X0_ones.2.1, cn_X0_ones.2.2⟩
theorem fl_X5_30 : Cond.fieldLink RX5 30 RX5 "spare" "LPackedBits$Bits;" ∈ gT := gT_t1 120 (by decide +kernel) rfl
theorem fd_X5_30 : gFd RX5 30 4 4 true (.object "PackedBits$Bits") := ⟨RX5, TX5, 5, tyX5, rfl, rfl, ws_inX5, by decide, fl_X5_30, rfl, rfl, by decide +kernel, tyX5_ok, nmX5⟩
theorem ml_X5_102 : Cond.methodLink RX5 102 yX0_moveFrom ∈ gT := gT_t2 45 (by decide +kernel) rfl
theorem cb_X5_102 : gCB RX5 102 yX0_moveFrom cX0_moveFrom 8 none 2 := ⟨ml_X5_102, cn_X0_moveFrom.1, cn_X0_moveFrom.2.1, cn_X0_moveFrom.2.2⟩
theorem ml_X5_106 : Cond.methodLink RX5 106 yX0_copyFrom ∈ gT := gT_t2 55 (by decide +kernel) rfl
theorem cb_X5_106 : gCB RX5 106 yX0_copyFrom cX0_copyFrom 2 none 1 := ⟨ml_X5_106, cn_X0_copyFrom.1, cn_X0_copyFrom.2.1, cn_X0_copyFrom.2.2⟩
theorem fl_X5_110 : Cond.fieldLink RX5 110 RX3 "kept" "I" ∈ gT := gT_t1 65 (by decide +kernel) rfl
theorem fd_X5_110 : gFd RX5 110 3 1 false .int := ⟨RX3, TX3, 2, tyX3, rfl, rfl, ws_inX3, by decide, fl_X5_110, rfl, rfl, by decide +kernel, tyX3_ok, nmX3⟩
theorem cd_X3_removeLatest : Cond.code yX3_removeLatest cX3_removeLatest 1 (some (.object "PackedBits$Change")) ∈ gT := gT_t2 63 (by decide +kernel) rfl
theorem cn_X3_removeLatest : gCN yX3_removeLatest cX3_removeLatest 1 (some (.object "PackedBits$Change")) 0 := ⟨in_X3, cd_X3_removeLatest, ⟨by decide +kernel, by decide +kernel, by decide +kernel⟩⟩
theorem im_X3_removeLatest : Cond.instanceMethod yX3_removeLatest ∈ gT := gT_t2 61 (by decide +kernel) rfl
theorem se_X3_removeLatest : Cond.selects RX3 yX3_removeLatest yX3_removeLatest ∈ gT := gT_t2 62 (by decide +kernel) rfl
theorem vi_X3_removeLatest : gVI yX3_removeLatest := ⟨im_X3_removeLatest, se_X3_removeLatest⟩
theorem ml_X5_113 : Cond.methodLink RX5 113 yX3_removeLatest ∈ gT := gT_t2 60 (by decide +kernel) rfl
theorem cb_X5_113 : gCB RX5 113 yX3_removeLatest cX3_removeLatest 1 (some (.object "PackedBits$Change")) 0 := ⟨ml_X5_113, cn_X3_removeLatest.1, cn_X3_removeLatest.2.1, cn_X3_removeLatest.2.2⟩
theorem fl_X5_117 : Cond.fieldLink RX5 117 RX1 "made" "I" ∈ gT := gT_t1 53 (by decide +kernel) rfl
theorem fd_X5_117 : gFd RX5 117 1 1 false .int := ⟨RX1, TX1, 3, tyX1, rfl, rfl, ws_inX1, by decide, fl_X5_117, rfl, rfl, by decide +kernel, tyX1_ok, nmX1⟩
theorem fl_X5_120 : Cond.fieldLink RX5 120 RX1 "number" "I" ∈ gT := gT_t1 55 (by decide +kernel) rfl
theorem fd_X5_120 : gFd RX5 120 1 2 false .int := ⟨RX1, TX1, 3, tyX1, rfl, rfl, ws_inX1, by decide, fl_X5_120, rfl, rfl, by decide +kernel, tyX1_ok, nmX1⟩
theorem fl_X5_123 : Cond.fieldLink RX5 123 RX1 "before" "LPackedBits$Bits;" ∈ gT := gT_t1 51 (by decide +kernel) rfl
theorem fd_X5_123 : gFd RX5 123 1 0 true (.object "PackedBits$Bits") := ⟨RX1, TX1, 3, tyX1, rfl, rfl, ws_inX1, by decide, fl_X5_123, rfl, rfl, by decide +kernel, tyX1_ok, nmX1⟩
theorem fl_X5_25 : Cond.fieldLink RX5 25 RX5 "text" "LPackedBits$Expression;" ∈ gT := gT_t1 119 (by decide +kernel) rfl
theorem fd_X5_25 : gFd RX5 25 4 3 true (.object "PackedBits$Expression") := ⟨RX5, TX5, 5, tyX5, rfl, rfl, ws_inX5, by decide, fl_X5_25, rfl, rfl, by decide +kernel, tyX5_ok, nmX5⟩
theorem fl_X5_126 : Cond.fieldLink RX5 126 RX2 "length" "I" ∈ gT := gT_t1 81 (by decide +kernel) rfl
theorem fd_X5_126 : gFd RX5 126 2 1 false .int := ⟨RX2, TX2, 10, tyX2, rfl, rfl, ws_inX2, by decide, fl_X5_126, rfl, rfl, by decide +kernel, tyX2_ok, nmX2⟩
theorem cd_X2_addSign : Cond.code yX2_addSign cX2_addSign 2 none ∈ gT := gT_t2 72 (by decide +kernel) rfl
theorem cn_X2_addSign : gCN yX2_addSign cX2_addSign 2 none 1 := ⟨in_X2, cd_X2_addSign, ⟨by decide +kernel, by decide +kernel, by decide +kernel⟩⟩
theorem im_X2_addSign : Cond.instanceMethod yX2_addSign ∈ gT := gT_t2 70 (by decide +kernel) rfl
theorem se_X2_addSign : Cond.selects RX2 yX2_addSign yX2_addSign ∈ gT := gT_t2 71 (by decide +kernel) rfl
theorem vi_X2_addSign : gVI yX2_addSign := ⟨im_X2_addSign, se_X2_addSign⟩
theorem ml_X5_127 : Cond.methodLink RX5 127 yX2_addSign ∈ gT := gT_t2 69 (by decide +kernel) rfl
theorem cb_X5_127 : gCB RX5 127 yX2_addSign cX2_addSign 2 none 1 := ⟨ml_X5_127, cn_X2_addSign.1, cn_X2_addSign.2.1, cn_X2_addSign.2.2⟩
theorem cd_X2_read : Cond.code yX2_read cX2_read 3 (some .boolean) ∈ gT := gT_t2 84 (by decide +kernel) rfl
theorem cn_X2_read : gCN yX2_read cX2_read 3 (some .boolean) 2 := ⟨in_X2, cd_X2_read, ⟨by decide +kernel, by decide +kernel, by decide +kernel⟩⟩
theorem im_X2_read : Cond.instanceMethod yX2_read ∈ gT := gT_t2 82 (by decide +kernel) rfl
theorem se_X2_read : Cond.selects RX2 yX2_read yX2_read ∈ gT := gT_t2 83 (by decide +kernel) rfl
theorem vi_X2_read : gVI yX2_read := ⟨im_X2_read, se_X2_read⟩
theorem ml_X5_131 : Cond.methodLink RX5 131 yX2_read ∈ gT := gT_t2 81 (by decide +kernel) rfl
theorem cb_X5_131 : gCB RX5 131 yX2_read cX2_read 3 (some .boolean) 2 := ⟨ml_X5_131, cn_X2_read.1, cn_X2_read.2.1, cn_X2_read.2.2⟩
theorem cd_X2_result : Cond.code yX2_result cX2_result 1 (some (.object "PackedBits$Bits")) ∈ gT := gT_t2 138 (by decide +kernel) rfl
theorem cn_X2_result : gCN yX2_result cX2_result 1 (some (.object "PackedBits$Bits")) 0 := ⟨in_X2, cd_X2_result, ⟨by decide +kernel, by decide +kernel, by decide +kernel⟩⟩
theorem im_X2_result : Cond.instanceMethod yX2_result ∈ gT := gT_t2 136 (by decide +kernel) rfl
theorem se_X2_result : Cond.selects RX2 yX2_result yX2_result ∈ gT := gT_t2 137 (by decide +kernel) rfl
theorem vi_X2_result : gVI yX2_result := ⟨im_X2_result, se_X2_result⟩
theorem ml_X5_138 : Cond.methodLink RX5 138 yX2_result ∈ gT := gT_t2 135 (by decide +kernel) rfl
theorem cb_X5_138 : gCB RX5 138 yX2_result cX2_result 1 (some (.object "PackedBits$Bits")) 0 := ⟨ml_X5_138, cn_X2_result.1, cn_X2_result.2.1, cn_X2_result.2.2⟩
theorem fl_X5_135 : Cond.fieldLink RX5 135 RX2 "place" "I" ∈ gT := gT_t1 84 (by decide +kernel) rfl
theorem fd_X5_135 : gFd RX5 135 2 3 false .int := ⟨RX2, TX2, 10, tyX2, rfl, rfl, ws_inX2, by decide, fl_X5_135, rfl, rfl, by decide +kernel, tyX2_ok, nmX2⟩
theorem fl_X5_142 : Cond.fieldLink RX5 142 RX2 "kind" "I" ∈ gT := gT_t1 82 (by decide +kernel) rfl
theorem fd_X5_142 : gFd RX5 142 2 2 false .int := ⟨RX2, TX2, 10, tyX2, rfl, rfl, ws_inX2, by decide, fl_X5_142, rfl, rfl, by decide +kernel, tyX2_ok, nmX2⟩
theorem fl_X5_145 : Cond.fieldLink RX5 145 RX2 "within" "I" ∈ gT := gT_t1 86 (by decide +kernel) rfl
theorem fd_X5_145 : gFd RX5 145 2 4 false .int := ⟨RX2, TX2, 10, tyX2, rfl, rfl, ws_inX2, by decide, fl_X5_145, rfl, rfl, by decide +kernel, tyX2_ok, nmX2⟩
theorem ml_X5_172 : Cond.methodLink RX5 172 yX4_literals ∈ gT := gT_t2 154 (by decide +kernel) rfl
theorem cb_X5_172 : gCB RX5 172 yX4_literals cX4_literals 4 (some .int) 1 := ⟨ml_X5_172, cn_X4_literals.1, cn_X4_literals.2.1, cn_X4_literals.2.2⟩
theorem ml_X5_175 : Cond.methodLink RX5 175 yX4_fillsOf ∈ gT := gT_t2 155 (by decide +kernel) rfl
theorem cb_X5_175 : gCB RX5 175 yX4_fillsOf cX4_fillsOf 6 (some .int) 2 := ⟨ml_X5_175, cn_X4_fillsOf.1, cn_X4_fillsOf.2.1, cn_X4_fillsOf.2.2⟩
theorem cd_X0_placeOfOne : Cond.code yX0_placeOfOne cX0_placeOfOne 5 (some .int) ∈ gT := gT_t2 159 (by decide +kernel) rfl
theorem cn_X0_placeOfOne : gCN yX0_placeOfOne cX0_placeOfOne 5 (some .int) 1 := ⟨in_X0, cd_X0_placeOfOne, ⟨by decide +kernel, by decide +kernel, by decide +kernel⟩⟩
theorem im_X0_placeOfOne : Cond.instanceMethod yX0_placeOfOne ∈ gT := gT_t2 157 (by decide +kernel) rfl
theorem se_X0_placeOfOne : Cond.selects RX0 yX0_placeOfOne yX0_placeOfOne ∈ gT := gT_t2 158 (by decide +kernel) rfl
theorem vi_X0_placeOfOne : gVI yX0_placeOfOne := ⟨im_X0_placeOfOne, se_X0_placeOfOne⟩
theorem ml_X5_161 : Cond.methodLink RX5 161 yX0_placeOfOne ∈ gT := gT_t2 156 (by decide +kernel) rfl
theorem cb_X5_161 : gCB RX5 161 yX0_placeOfOne cX0_placeOfOne 5 (some .int) 1 := ⟨ml_X5_161, cn_X0_placeOfOne.1, cn_X0_placeOfOne.2.1, cn_X0_placeOfOne.2.2⟩
theorem cd_X5_property : Cond.code yX5_property cX5_property 2 (some .int) ∈ gT := gT_t2 153 (by decide +kernel) rfl
theorem cn_X5_property : gCN yX5_property cX5_property 2 (some .int) 2 := ⟨in_X5, cd_X5_property, ⟨by decide +kernel, by decide +kernel, by decide +kernel⟩⟩
theorem st_X5_property : Cond.static yX5_property ∈ gT := gT_t2 152 (by decide +kernel) rfl
theorem ml_X5_151 : Cond.methodLink RX5 151 yX5_property ∈ gT := gT_t2 151 (by decide +kernel) rfl
theorem cb_X5_151 : gCB RX5 151 yX5_property cX5_property 2 (some .int) 2 := ⟨ml_X5_151, cn_X5_property.1, cn_X5_property.2.1, cn_X5_property.2.2⟩
theorem cd_X5_sum : Cond.code yX5_sum cX5_sum 4 (some .int) ∈ gT := gT_t2 150 (by decide +kernel) rfl
theorem cn_X5_sum : gCN yX5_sum cX5_sum 4 (some .int) 1 := ⟨in_X5, cd_X5_sum, ⟨by decide +kernel, by decide +kernel, by decide +kernel⟩⟩
theorem im_X5_sum : Cond.instanceMethod yX5_sum ∈ gT := gT_t2 149 (by decide +kernel) rfl
theorem se_X5_sum : Cond.selects RX5 yX5_sum yX5_sum ∈ gT := gT_p 15 (by decide +kernel) rfl
theorem vi_X5_sum : gVI yX5_sum := ⟨im_X5_sum, se_X5_sum⟩
theorem ml_X5_148 : Cond.methodLink RX5 148 yX5_sum ∈ gT := gT_t2 147 (by decide +kernel) rfl
theorem cb_X5_148 : gCB RX5 148 yX5_sum cX5_sum 4 (some .int) 1 := ⟨ml_X5_148, cn_X5_sum.1, cn_X5_sum.2.1, cn_X5_sum.2.2⟩
theorem cd_X4_codeOf : Cond.code yX4_codeOf cX4_codeOf 6 (some .int) ∈ gT := gT_t2 173 (by decide +kernel) rfl
theorem cn_X4_codeOf : gCN yX4_codeOf cX4_codeOf 6 (some .int) 2 := ⟨in_X4, cd_X4_codeOf, ⟨by decide +kernel, by decide +kernel, by decide +kernel⟩⟩
theorem st_X4_codeOf : Cond.static yX4_codeOf ∈ gT := gT_t2 172 (by decide +kernel) rfl
theorem ml_X5_155 : Cond.methodLink RX5 155 yX4_codeOf ∈ gT := gT_t2 171 (by decide +kernel) rfl
theorem cb_X5_155 : gCB RX5 155 yX4_codeOf cX4_codeOf 6 (some .int) 2 := ⟨ml_X5_155, cn_X4_codeOf.1, cn_X4_codeOf.2.1, cn_X4_codeOf.2.2⟩
theorem ml_X5_158 : Cond.methodLink RX5 158 yX0_onesBefore ∈ gT := gT_t2 187 (by decide +kernel) rfl
theorem cb_X5_158 : gCB RX5 158 yX0_onesBefore cX0_onesBefore 4 (some .int) 1 := ⟨ml_X5_158, cn_X0_onesBefore.1, cn_X0_onesBefore.2.1, cn_X0_onesBefore.2.2⟩
theorem cd_X0_matches : Cond.code yX0_matches cX0_matches 3 (some .boolean) ∈ gT := gT_t2 203 (by decide +kernel) rfl
theorem cn_X0_matches : gCN yX0_matches cX0_matches 3 (some .boolean) 1 := ⟨in_X0, cd_X0_matches, ⟨by decide +kernel, by decide +kernel, by decide +kernel⟩⟩
theorem im_X0_matches : Cond.instanceMethod yX0_matches ∈ gT := gT_t2 201 (by decide +kernel) rfl
theorem se_X0_matches : Cond.selects RX0 yX0_matches yX0_matches ∈ gT := gT_t2 202 (by decide +kernel) rfl
theorem vi_X0_matches : gVI yX0_matches := ⟨im_X0_matches, se_X0_matches⟩
theorem ml_X5_164 : Cond.methodLink RX5 164 yX0_matches ∈ gT := gT_t2 200 (by decide +kernel) rfl
theorem cb_X5_164 : gCB RX5 164 yX0_matches cX0_matches 3 (some .boolean) 1 := ⟨ml_X5_164, cn_X0_matches.1, cn_X0_matches.2.1, cn_X0_matches.2.2⟩
theorem fl_X6_8 : Cond.fieldLink RX6 8 RX6 "all" "[I" ∈ gT := gT_t2 215 (by decide +kernel) rfl
theorem fd_X6_8 : gFd RX6 8 5 0 true (.array .int) := ⟨RX6, TX6, 17, tyX6, rfl, rfl, ws_inX6, by decide, fl_X6_8, rfl, rfl, by decide +kernel, tyX6_ok, nmX6⟩
theorem fl_X6_23 : Cond.fieldLink RX6 23 RX6 "states" "I" ∈ gT := gT_t2 216 (by decide +kernel) rfl
theorem fd_X6_23 : gFd RX6 23 5 1 false .int := ⟨RX6, TX6, 17, tyX6, rfl, rfl, ws_inX6, by decide, fl_X6_23, rfl, rfl, by decide +kernel, tyX6_ok, nmX6⟩
theorem in_X6 : Cond.initialized RX6 ∈ gT := gT_t1 6 (by decide +kernel) rfl
theorem cd_X6_copyState : Cond.code yX6_copyState cX6_copyState 4 none ∈ gT := gT_t3 34 (by decide +kernel) rfl
theorem cn_X6_copyState : gCN yX6_copyState cX6_copyState 4 none 2 := ⟨in_X6, cd_X6_copyState, ⟨by decide +kernel, by decide +kernel, by decide +kernel⟩⟩
theorem im_X6_copyState : Cond.instanceMethod yX6_copyState ∈ gT := gT_t3 33 (by decide +kernel) rfl
theorem se_X6_copyState : Cond.selects RX6 yX6_copyState yX6_copyState ∈ gT := gT_p 16 (by decide +kernel) rfl
theorem vi_X6_copyState : gVI yX6_copyState := ⟨im_X6_copyState, se_X6_copyState⟩
theorem ml_X6_27 : Cond.methodLink RX6 27 yX6_copyState ∈ gT := gT_t3 31 (by decide +kernel) rfl
theorem cb_X6_27 : gCB RX6 27 yX6_copyState cX6_copyState 4 none 2 := ⟨ml_X6_27, cn_X6_copyState.1, cn_X6_copyState.2.1, cn_X6_copyState.2.2⟩
theorem cd_X6_in : Cond.code yX6_in cX6_in 3 (some .boolean) ∈ gT := gT_t3 56 (by decide +kernel) rfl
theorem cn_X6_in : gCN yX6_in cX6_in 3 (some .boolean) 3 := ⟨in_X6, cd_X6_in, ⟨by decide +kernel, by decide +kernel, by decide +kernel⟩⟩
theorem st_X6_in : Cond.static yX6_in ∈ gT := gT_t3 55 (by decide +kernel) rfl
theorem ml_X6_31 : Cond.methodLink RX6 31 yX6_in ∈ gT := gT_t3 54 (by decide +kernel) rfl
theorem cb_X6_31 : gCB RX6 31 yX6_in cX6_in 3 (some .boolean) 3 := ⟨ml_X6_31, cn_X6_in.1, cn_X6_in.2.1, cn_X6_in.2.2⟩
theorem cd_X6_bitOf : Cond.code yX6_bitOf cX6_bitOf 3 (some .int) ∈ gT := gT_t3 89 (by decide +kernel) rfl
theorem cn_X6_bitOf : gCN yX6_bitOf cX6_bitOf 3 (some .int) 2 := ⟨in_X6, cd_X6_bitOf, ⟨by decide +kernel, by decide +kernel, by decide +kernel⟩⟩
theorem im_X6_bitOf : Cond.instanceMethod yX6_bitOf ∈ gT := gT_t3 88 (by decide +kernel) rfl
theorem se_X6_bitOf : Cond.selects RX6 yX6_bitOf yX6_bitOf ∈ gT := gT_p 25 (by decide +kernel) rfl
theorem vi_X6_bitOf : gVI yX6_bitOf := ⟨im_X6_bitOf, se_X6_bitOf⟩
theorem ml_X6_35 : Cond.methodLink RX6 35 yX6_bitOf ∈ gT := gT_t3 86 (by decide +kernel) rfl
theorem cb_X6_35 : gCB RX6 35 yX6_bitOf cX6_bitOf 3 (some .int) 2 := ⟨ml_X6_35, cn_X6_bitOf.1, cn_X6_bitOf.2.1, cn_X6_bitOf.2.2⟩
theorem cd_X6_group : Cond.code yX6_group cX6_group 5 (some .int) ∈ gT := gT_t3 85 (by decide +kernel) rfl
theorem cn_X6_group : gCN yX6_group cX6_group 5 (some .int) 2 := ⟨in_X6, cd_X6_group, ⟨by decide +kernel, by decide +kernel, by decide +kernel⟩⟩
theorem im_X6_group : Cond.instanceMethod yX6_group ∈ gT := gT_t3 84 (by decide +kernel) rfl
theorem se_X6_group : Cond.selects RX6 yX6_group yX6_group ∈ gT := gT_p 24 (by decide +kernel) rfl
theorem vi_X6_group : gVI yX6_group := ⟨im_X6_group, se_X6_group⟩
theorem ml_X6_39 : Cond.methodLink RX6 39 yX6_group ∈ gT := gT_t3 82 (by decide +kernel) rfl
theorem cb_X6_39 : gCB RX6 39 yX6_group cX6_group 5 (some .int) 2 := ⟨ml_X6_39, cn_X6_group.1, cn_X6_group.2.1, cn_X6_group.2.2⟩
theorem cd_X6_kind : Cond.code yX6_kind cX6_kind 4 (some .int) ∈ gT := gT_t3 81 (by decide +kernel) rfl
theorem cn_X6_kind : gCN yX6_kind cX6_kind 4 (some .int) 2 := ⟨in_X6, cd_X6_kind, ⟨by decide +kernel, by decide +kernel, by decide +kernel⟩⟩
theorem im_X6_kind : Cond.instanceMethod yX6_kind ∈ gT := gT_t3 80 (by decide +kernel) rfl
theorem se_X6_kind : Cond.selects RX6 yX6_kind yX6_kind ∈ gT := gT_p 23 (by decide +kernel) rfl
theorem vi_X6_kind : gVI yX6_kind := ⟨im_X6_kind, se_X6_kind⟩
theorem ml_X6_42 : Cond.methodLink RX6 42 yX6_kind ∈ gT := gT_t3 78 (by decide +kernel) rfl
theorem cb_X6_42 : gCB RX6 42 yX6_kind cX6_kind 4 (some .int) 2 := ⟨ml_X6_42, cn_X6_kind.1, cn_X6_kind.2.1, cn_X6_kind.2.2⟩
theorem cd_X6_groups : Cond.code yX6_groups cX6_groups 2 (some .int) ∈ gT := gT_t3 77 (by decide +kernel) rfl
theorem cn_X6_groups : gCN yX6_groups cX6_groups 2 (some .int) 1 := ⟨in_X6, cd_X6_groups, ⟨by decide +kernel, by decide +kernel, by decide +kernel⟩⟩
theorem im_X6_groups : Cond.instanceMethod yX6_groups ∈ gT := gT_t3 76 (by decide +kernel) rfl
theorem se_X6_groups : Cond.selects RX6 yX6_groups yX6_groups ∈ gT := gT_p 22 (by decide +kernel) rfl
theorem vi_X6_groups : gVI yX6_groups := ⟨im_X6_groups, se_X6_groups⟩
theorem ml_X6_45 : Cond.methodLink RX6 45 yX6_groups ∈ gT := gT_t3 74 (by decide +kernel) rfl
theorem cb_X6_45 : gCB RX6 45 yX6_groups cX6_groups 2 (some .int) 1 := ⟨ml_X6_45, cn_X6_groups.1, cn_X6_groups.2.1, cn_X6_groups.2.2⟩
theorem cd_X6_behind : Cond.code yX6_behind cX6_behind 5 (some .int) ∈ gT := gT_t3 93 (by decide +kernel) rfl
theorem cn_X6_behind : gCN yX6_behind cX6_behind 5 (some .int) 2 := ⟨in_X6, cd_X6_behind, ⟨by decide +kernel, by decide +kernel, by decide +kernel⟩⟩
theorem im_X6_behind : Cond.instanceMethod yX6_behind ∈ gT := gT_t3 92 (by decide +kernel) rfl
theorem se_X6_behind : Cond.selects RX6 yX6_behind yX6_behind ∈ gT := gT_p 26 (by decide +kernel) rfl
theorem vi_X6_behind : gVI yX6_behind := ⟨im_X6_behind, se_X6_behind⟩
theorem ml_X6_49 : Cond.methodLink RX6 49 yX6_behind ∈ gT := gT_t3 90 (by decide +kernel) rfl
theorem cb_X6_49 : gCB RX6 49 yX6_behind cX6_behind 5 (some .int) 2 := ⟨ml_X6_49, cn_X6_behind.1, cn_X6_behind.2.1, cn_X6_behind.2.2⟩
theorem kc_X6_53 : Cond.constant RX6 53 49152 ∈ gT := gT_t4 3 (by decide +kernel) rfl
theorem kc_X6_52 : Cond.constant RX6 52 32768 ∈ gT := gT_t4 2 (by decide +kernel) rfl
theorem cd_X6_asked : Cond.code yX6_asked cX6_asked 1 (some .int) ∈ gT := gT_t3 120 (by decide +kernel) rfl
theorem cn_X6_asked : gCN yX6_asked cX6_asked 1 (some .int) 1 := ⟨in_X6, cd_X6_asked, ⟨by decide +kernel, by decide +kernel, by decide +kernel⟩⟩
theorem st_X6_asked : Cond.static yX6_asked ∈ gT := gT_t3 119 (by decide +kernel) rfl
theorem ml_X6_54 : Cond.methodLink RX6 54 yX6_asked ∈ gT := gT_t3 118 (by decide +kernel) rfl
theorem cb_X6_54 : gCB RX6 54 yX6_asked cX6_asked 1 (some .int) 1 := ⟨ml_X6_54, cn_X6_asked.1, cn_X6_asked.2.1, cn_X6_asked.2.2⟩
theorem cd_X6_copy : Cond.code yX6_copy cX6_copy 4 none ∈ gT := gT_t3 127 (by decide +kernel) rfl
theorem cn_X6_copy : gCN yX6_copy cX6_copy 4 none 2 := ⟨in_X6, cd_X6_copy, ⟨by decide +kernel, by decide +kernel, by decide +kernel⟩⟩
theorem im_X6_copy : Cond.instanceMethod yX6_copy ∈ gT := gT_t3 126 (by decide +kernel) rfl
theorem se_X6_copy : Cond.selects RX6 yX6_copy yX6_copy ∈ gT := gT_p 30 (by decide +kernel) rfl
theorem vi_X6_copy : gVI yX6_copy := ⟨im_X6_copy, se_X6_copy⟩
theorem ml_X6_65 : Cond.methodLink RX6 65 yX6_copy ∈ gT := gT_t3 124 (by decide +kernel) rfl
theorem cb_X6_65 : gCB RX6 65 yX6_copy cX6_copy 4 none 2 := ⟨ml_X6_65, cn_X6_copy.1, cn_X6_copy.2.1, cn_X6_copy.2.2⟩
theorem cd_X6_result : Cond.code yX6_result cX6_result 3 (some .int) ∈ gT := gT_t3 123 (by decide +kernel) rfl
theorem cn_X6_result : gCN yX6_result cX6_result 3 (some .int) 3 := ⟨in_X6, cd_X6_result, ⟨by decide +kernel, by decide +kernel, by decide +kernel⟩⟩
theorem st_X6_result : Cond.static yX6_result ∈ gT := gT_t3 122 (by decide +kernel) rfl
theorem ml_X6_57 : Cond.methodLink RX6 57 yX6_result ∈ gT := gT_t3 121 (by decide +kernel) rfl
theorem cb_X6_57 : gCB RX6 57 yX6_result cX6_result 3 (some .int) 3 := ⟨ml_X6_57, cn_X6_result.1, cn_X6_result.2.1, cn_X6_result.2.2⟩
theorem cd_X6_put : Cond.code yX6_put cX6_put 4 none ∈ gT := gT_t3 64 (by decide +kernel) rfl
theorem cn_X6_put : gCN yX6_put cX6_put 4 none 3 := ⟨in_X6, cd_X6_put, ⟨by decide +kernel, by decide +kernel, by decide +kernel⟩⟩
theorem im_X6_put : Cond.instanceMethod yX6_put ∈ gT := gT_t3 63 (by decide +kernel) rfl
theorem se_X6_put : Cond.selects RX6 yX6_put yX6_put ∈ gT := gT_p 20 (by decide +kernel) rfl
theorem vi_X6_put : gVI yX6_put := ⟨im_X6_put, se_X6_put⟩
theorem ml_X6_61 : Cond.methodLink RX6 61 yX6_put ∈ gT := gT_t3 61 (by decide +kernel) rfl
theorem cb_X6_61 : gCB RX6 61 yX6_put cX6_put 4 none 3 := ⟨ml_X6_61, cn_X6_put.1, cn_X6_put.2.1, cn_X6_put.2.2⟩
theorem fl_X6_17 : Cond.fieldLink RX6 17 RX6 "ends" "[I" ∈ gT := gT_t2 219 (by decide +kernel) rfl
theorem fd_X6_17 : gFd RX6 17 5 4 true (.array .int) := ⟨RX6, TX6, 17, tyX6, rfl, rfl, ws_inX6, by decide, fl_X6_17, rfl, rfl, by decide +kernel, tyX6_ok, nmX6⟩
theorem cd_X6_isRow : Cond.code yX6_isRow cX6_isRow 2 (some .boolean) ∈ gT := gT_t3 53 (by decide +kernel) rfl
theorem cn_X6_isRow : gCN yX6_isRow cX6_isRow 2 (some .boolean) 1 := ⟨in_X6, cd_X6_isRow, ⟨by decide +kernel, by decide +kernel, by decide +kernel⟩⟩
theorem im_X6_isRow : Cond.instanceMethod yX6_isRow ∈ gT := gT_t3 52 (by decide +kernel) rfl
theorem se_X6_isRow : Cond.selects RX6 yX6_isRow yX6_isRow ∈ gT := gT_p 18 (by decide +kernel) rfl
theorem vi_X6_isRow : gVI yX6_isRow := ⟨im_X6_isRow, se_X6_isRow⟩
theorem ml_X6_74 : Cond.methodLink RX6 74 yX6_isRow ∈ gT := gT_t3 50 (by decide +kernel) rfl
theorem cb_X6_74 : gCB RX6 74 yX6_isRow cX6_isRow 2 (some .boolean) 1 := ⟨ml_X6_74, cn_X6_isRow.1, cn_X6_isRow.2.1, cn_X6_isRow.2.2⟩
theorem cd_X6_at : Cond.code yX6_at cX6_at 1 (some .int) ∈ gT := gT_t3 45 (by decide +kernel) rfl
theorem cn_X6_at : gCN yX6_at cX6_at 1 (some .int) 1 := ⟨in_X6, cd_X6_at, ⟨by decide +kernel, by decide +kernel, by decide +kernel⟩⟩
theorem st_X6_at : Cond.static yX6_at ∈ gT := gT_t3 44 (by decide +kernel) rfl
theorem ml_X6_71 : Cond.methodLink RX6 71 yX6_at ∈ gT := gT_t3 43 (by decide +kernel) rfl
theorem cb_X6_71 : gCB RX6 71 yX6_at cX6_at 1 (some .int) 1 := ⟨ml_X6_71, cn_X6_at.1, cn_X6_at.2.1, cn_X6_at.2.2⟩
theorem fl_X6_108 : Cond.fieldLink RX6 108 RX6 "pos" "I" ∈ gT := gT_t2 223 (by decide +kernel) rfl
theorem fd_X6_108 : gFd RX6 108 5 8 false .int := ⟨RX6, TX6, 17, tyX6, rfl, rfl, ws_inX6, by decide, fl_X6_108, rfl, rfl, by decide +kernel, tyX6_ok, nmX6⟩
theorem fl_X6_105 : Cond.fieldLink RX6 105 RX6 "length" "I" ∈ gT := gT_t2 218 (by decide +kernel) rfl
theorem fd_X6_105 : gFd RX6 105 5 3 false .int := ⟨RX6, TX6, 17, tyX6, rfl, rfl, ws_inX6, by decide, fl_X6_105, rfl, rfl, by decide +kernel, tyX6_ok, nmX6⟩
theorem fl_X6_14 : Cond.fieldLink RX6 14 RX6 "text" "[I" ∈ gT := gT_t2 217 (by decide +kernel) rfl
theorem fd_X6_14 : gFd RX6 14 5 2 true (.array .int) := ⟨RX6, TX6, 17, tyX6, rfl, rfl, ws_inX6, by decide, fl_X6_14, rfl, rfl, by decide +kernel, tyX6_ok, nmX6⟩
theorem fl_X6_111 : Cond.fieldLink RX6 111 RX6 "wrongAt" "I" ∈ gT := gT_t2 229 (by decide +kernel) rfl
theorem fd_X6_111 : gFd RX6 111 5 14 false .int := ⟨RX6, TX6, 17, tyX6, rfl, rfl, ws_inX6, by decide, fl_X6_111, rfl, rfl, by decide +kernel, tyX6_ok, nmX6⟩
theorem fl_X6_114 : Cond.fieldLink RX6 114 RX6 "within" "I" ∈ gT := gT_t2 226 (by decide +kernel) rfl
theorem fd_X6_114 : gFd RX6 114 5 11 false .int := ⟨RX6, TX6, 17, tyX6, rfl, rfl, ws_inX6, by decide, fl_X6_114, rfl, rfl, by decide +kernel, tyX6_ok, nmX6⟩
theorem fl_X6_117 : Cond.fieldLink RX6 117 RX6 "wrongWithin" "I" ∈ gT := gT_t2 230 (by decide +kernel) rfl
theorem fd_X6_117 : gFd RX6 117 5 15 false .int := ⟨RX6, TX6, 17, tyX6, rfl, rfl, ws_inX6, by decide, fl_X6_117, rfl, rfl, by decide +kernel, tyX6_ok, nmX6⟩
theorem cd_X6_code : Cond.code yX6_code cX6_code 1 (some .int) ∈ gT := gT_t3 171 (by decide +kernel) rfl
theorem cn_X6_code : gCN yX6_code cX6_code 1 (some .int) 0 := ⟨in_X6, cd_X6_code, ⟨by decide +kernel, by decide +kernel, by decide +kernel⟩⟩
theorem im_X6_code : Cond.instanceMethod yX6_code ∈ gT := gT_t3 170 (by decide +kernel) rfl
theorem se_X6_code : Cond.selects RX6 yX6_code yX6_code ∈ gT := gT_p 36 (by decide +kernel) rfl
theorem vi_X6_code : gVI yX6_code := ⟨im_X6_code, se_X6_code⟩
theorem ml_X6_120 : Cond.methodLink RX6 120 yX6_code ∈ gT := gT_t3 168 (by decide +kernel) rfl
theorem cb_X6_120 : gCB RX6 120 yX6_code cX6_code 1 (some .int) 0 := ⟨ml_X6_120, cn_X6_code.1, cn_X6_code.2.1, cn_X6_code.2.2⟩
theorem fl_X6_124 : Cond.fieldLink RX6 124 RX6 "number" "I" ∈ gT := gT_t2 231 (by decide +kernel) rfl
theorem fd_X6_124 : gFd RX6 124 5 16 false .int := ⟨RX6, TX6, 17, tyX6, rfl, rfl, ws_inX6, by decide, fl_X6_124, rfl, rfl, by decide +kernel, tyX6_ok, nmX6⟩
theorem fl_X6_20 : Cond.fieldLink RX6 20 RX6 "signs" "[I" ∈ gT := gT_t2 224 (by decide +kernel) rfl
theorem fd_X6_20 : gFd RX6 20 5 9 true (.array .int) := ⟨RX6, TX6, 17, tyX6, rfl, rfl, ws_inX6, by decide, fl_X6_20, rfl, rfl, by decide +kernel, tyX6_ok, nmX6⟩
theorem fl_X6_127 : Cond.fieldLink RX6 127 RX6 "signMany" "I" ∈ gT := gT_t2 225 (by decide +kernel) rfl
theorem fd_X6_127 : gFd RX6 127 5 10 false .int := ⟨RX6, TX6, 17, tyX6, rfl, rfl, ws_inX6, by decide, fl_X6_127, rfl, rfl, by decide +kernel, tyX6_ok, nmX6⟩
theorem cd_X6_top : Cond.code yX6_top cX6_top 1 (some .int) ∈ gT := gT_t3 195 (by decide +kernel) rfl
theorem cn_X6_top : gCN yX6_top cX6_top 1 (some .int) 0 := ⟨in_X6, cd_X6_top, ⟨by decide +kernel, by decide +kernel, by decide +kernel⟩⟩
theorem im_X6_top : Cond.instanceMethod yX6_top ∈ gT := gT_t3 194 (by decide +kernel) rfl
theorem se_X6_top : Cond.selects RX6 yX6_top yX6_top ∈ gT := gT_p 42 (by decide +kernel) rfl
theorem vi_X6_top : gVI yX6_top := ⟨im_X6_top, se_X6_top⟩
theorem ml_X6_130 : Cond.methodLink RX6 130 yX6_top ∈ gT := gT_t3 192 (by decide +kernel) rfl
theorem cb_X6_130 : gCB RX6 130 yX6_top cX6_top 1 (some .int) 0 := ⟨ml_X6_130, cn_X6_top.1, cn_X6_top.2.1, cn_X6_top.2.2⟩
theorem cd_X6_rank : Cond.code yX6_rank cX6_rank 1 (some .int) ∈ gT := gT_t3 210 (by decide +kernel) rfl
theorem cn_X6_rank : gCN yX6_rank cX6_rank 1 (some .int) 1 := ⟨in_X6, cd_X6_rank, ⟨by decide +kernel, by decide +kernel, by decide +kernel⟩⟩
theorem st_X6_rank : Cond.static yX6_rank ∈ gT := gT_t3 209 (by decide +kernel) rfl
theorem ml_X6_133 : Cond.methodLink RX6 133 yX6_rank ∈ gT := gT_t3 208 (by decide +kernel) rfl
theorem cb_X6_133 : gCB RX6 133 yX6_rank cX6_rank 1 (some .int) 1 := ⟨ml_X6_133, cn_X6_rank.1, cn_X6_rank.2.1, cn_X6_rank.2.2⟩
theorem cd_X6_pop : Cond.code yX6_pop cX6_pop 1 (some .int) ∈ gT := gT_t3 199 (by decide +kernel) rfl
theorem cn_X6_pop : gCN yX6_pop cX6_pop 1 (some .int) 0 := ⟨in_X6, cd_X6_pop, ⟨by decide +kernel, by decide +kernel, by decide +kernel⟩⟩
theorem im_X6_pop : Cond.instanceMethod yX6_pop ∈ gT := gT_t3 198 (by decide +kernel) rfl
theorem se_X6_pop : Cond.selects RX6 yX6_pop yX6_pop ∈ gT := gT_p 43 (by decide +kernel) rfl
theorem vi_X6_pop : gVI yX6_pop := ⟨im_X6_pop, se_X6_pop⟩
theorem ml_X6_136 : Cond.methodLink RX6 136 yX6_pop ∈ gT := gT_t3 196 (by decide +kernel) rfl
theorem cb_X6_136 : gCB RX6 136 yX6_pop cX6_pop 1 (some .int) 0 := ⟨ml_X6_136, cn_X6_pop.1, cn_X6_pop.2.1, cn_X6_pop.2.2⟩
theorem fl_X6_139 : Cond.fieldLink RX6 139 RX6 "made" "I" ∈ gT := gT_t2 227 (by decide +kernel) rfl
theorem fd_X6_139 : gFd RX6 139 5 12 false .int := ⟨RX6, TX6, 17, tyX6, rfl, rfl, ws_inX6, by decide, fl_X6_139, rfl, rfl, by decide +kernel, tyX6_ok, nmX6⟩
theorem fl_X6_142 : Cond.fieldLink RX6 142 RX6 "does" "Z" ∈ gT := gT_t2 228 (by decide +kernel) rfl
theorem fd_X6_142 : gFd RX6 142 5 13 false .boolean := ⟨RX6, TX6, 17, tyX6, rfl, rfl, ws_inX6, by decide, fl_X6_142, rfl, rfl, by decide +kernel, tyX6_ok, nmX6⟩
theorem cd_X6_operationOf : Cond.code yX6_operationOf cX6_operationOf 1 (some .int) ∈ gT := gT_t3 213 (by decide +kernel) rfl
theorem cn_X6_operationOf : gCN yX6_operationOf cX6_operationOf 1 (some .int) 1 := ⟨in_X6, cd_X6_operationOf, ⟨by decide +kernel, by decide +kernel, by decide +kernel⟩⟩
theorem st_X6_operationOf : Cond.static yX6_operationOf ∈ gT := gT_t3 212 (by decide +kernel) rfl
theorem ml_X6_146 : Cond.methodLink RX6 146 yX6_operationOf ∈ gT := gT_t3 211 (by decide +kernel) rfl
theorem cb_X6_146 : gCB RX6 146 yX6_operationOf cX6_operationOf 1 (some .int) 1 := ⟨ml_X6_146, cn_X6_operationOf.1, cn_X6_operationOf.2.1, cn_X6_operationOf.2.2⟩
theorem cd_X6_operateOn : Cond.code yX6_operateOn cX6_operateOn 9 none ∈ gT := gT_t3 117 (by decide +kernel) rfl
theorem cn_X6_operateOn : gCN yX6_operateOn cX6_operateOn 9 none 4 := ⟨in_X6, cd_X6_operateOn, ⟨by decide +kernel, by decide +kernel, by decide +kernel⟩⟩
theorem im_X6_operateOn : Cond.instanceMethod yX6_operateOn ∈ gT := gT_t3 116 (by decide +kernel) rfl
theorem se_X6_operateOn : Cond.selects RX6 yX6_operateOn yX6_operateOn ∈ gT := gT_p 29 (by decide +kernel) rfl
theorem vi_X6_operateOn : gVI yX6_operateOn := ⟨im_X6_operateOn, se_X6_operateOn⟩
theorem ml_X6_91 : Cond.methodLink RX6 91 yX6_operateOn ∈ gT := gT_t3 114 (by decide +kernel) rfl
theorem cb_X6_91 : gCB RX6 91 yX6_operateOn cX6_operateOn 9 none 4 := ⟨ml_X6_91, cn_X6_operateOn.1, cn_X6_operateOn.2.1, cn_X6_operateOn.2.2⟩
theorem cd_X6_turn : Cond.code yX6_turn cX6_turn 3 none ∈ gT := gT_t3 135 (by decide +kernel) rfl
theorem cn_X6_turn : gCN yX6_turn cX6_turn 3 none 1 := ⟨in_X6, cd_X6_turn, ⟨by decide +kernel, by decide +kernel, by decide +kernel⟩⟩
theorem im_X6_turn : Cond.instanceMethod yX6_turn ∈ gT := gT_t3 134 (by decide +kernel) rfl
theorem se_X6_turn : Cond.selects RX6 yX6_turn yX6_turn ∈ gT := gT_p 31 (by decide +kernel) rfl
theorem vi_X6_turn : gVI yX6_turn := ⟨im_X6_turn, se_X6_turn⟩
theorem ml_X6_95 : Cond.methodLink RX6 95 yX6_turn ∈ gT := gT_t3 132 (by decide +kernel) rfl
theorem cb_X6_95 : gCB RX6 95 yX6_turn cX6_turn 3 none 1 := ⟨ml_X6_95, cn_X6_turn.1, cn_X6_turn.2.1, cn_X6_turn.2.2⟩
theorem cd_X6_readsNumber : Cond.code yX6_readsNumber cX6_readsNumber 2 (some .boolean) ∈ gT := gT_t3 183 (by decide +kernel) rfl
theorem cn_X6_readsNumber : gCN yX6_readsNumber cX6_readsNumber 2 (some .boolean) 0 := ⟨in_X6, cd_X6_readsNumber, ⟨by decide +kernel, by decide +kernel, by decide +kernel⟩⟩
theorem im_X6_readsNumber : Cond.instanceMethod yX6_readsNumber ∈ gT := gT_t3 182 (by decide +kernel) rfl
theorem se_X6_readsNumber : Cond.selects RX6 yX6_readsNumber yX6_readsNumber ∈ gT := gT_p 39 (by decide +kernel) rfl
theorem vi_X6_readsNumber : gVI yX6_readsNumber := ⟨im_X6_readsNumber, se_X6_readsNumber⟩
theorem ml_X6_149 : Cond.methodLink RX6 149 yX6_readsNumber ∈ gT := gT_t3 180 (by decide +kernel) rfl
theorem cb_X6_149 : gCB RX6 149 yX6_readsNumber cX6_readsNumber 2 (some .boolean) 0 := ⟨ml_X6_149, cn_X6_readsNumber.1, cn_X6_readsNumber.2.1, cn_X6_readsNumber.2.2⟩
theorem cd_X6_wrong : Cond.code yX6_wrong cX6_wrong 3 none ∈ gT := gT_t3 187 (by decide +kernel) rfl
theorem cn_X6_wrong : gCN yX6_wrong cX6_wrong 3 none 2 := ⟨in_X6, cd_X6_wrong, ⟨by decide +kernel, by decide +kernel, by decide +kernel⟩⟩
theorem im_X6_wrong : Cond.instanceMethod yX6_wrong ∈ gT := gT_t3 186 (by decide +kernel) rfl
theorem se_X6_wrong : Cond.selects RX6 yX6_wrong yX6_wrong ∈ gT := gT_p 40 (by decide +kernel) rfl
theorem vi_X6_wrong : gVI yX6_wrong := ⟨im_X6_wrong, se_X6_wrong⟩
theorem ml_X6_153 : Cond.methodLink RX6 153 yX6_wrong ∈ gT := gT_t3 184 (by decide +kernel) rfl
theorem cb_X6_153 : gCB RX6 153 yX6_wrong cX6_wrong 3 none 2 := ⟨ml_X6_153, cn_X6_wrong.1, cn_X6_wrong.2.1, cn_X6_wrong.2.2⟩
theorem cd_X6_closeFactor : Cond.code yX6_closeFactor cX6_closeFactor 1 none ∈ gT := gT_t3 191 (by decide +kernel) rfl
theorem cn_X6_closeFactor : gCN yX6_closeFactor cX6_closeFactor 1 none 0 := ⟨in_X6, cd_X6_closeFactor, ⟨by decide +kernel, by decide +kernel, by decide +kernel⟩⟩
theorem im_X6_closeFactor : Cond.instanceMethod yX6_closeFactor ∈ gT := gT_t3 190 (by decide +kernel) rfl
theorem se_X6_closeFactor : Cond.selects RX6 yX6_closeFactor yX6_closeFactor ∈ gT := gT_p 41 (by decide +kernel) rfl
theorem vi_X6_closeFactor : gVI yX6_closeFactor := ⟨im_X6_closeFactor, se_X6_closeFactor⟩
theorem ml_X6_157 : Cond.methodLink RX6 157 yX6_closeFactor ∈ gT := gT_t3 188 (by decide +kernel) rfl
theorem cb_X6_157 : gCB RX6 157 yX6_closeFactor cX6_closeFactor 1 none 0 := ⟨ml_X6_157, cn_X6_closeFactor.1, cn_X6_closeFactor.2.1, cn_X6_closeFactor.2.2⟩
theorem cd_X6_shiftOn : Cond.code yX6_shiftOn cX6_shiftOn 5 none ∈ gT := gT_t3 147 (by decide +kernel) rfl
theorem cn_X6_shiftOn : gCN yX6_shiftOn cX6_shiftOn 5 none 2 := ⟨in_X6, cd_X6_shiftOn, ⟨by decide +kernel, by decide +kernel, by decide +kernel⟩⟩
theorem im_X6_shiftOn : Cond.instanceMethod yX6_shiftOn ∈ gT := gT_t3 146 (by decide +kernel) rfl
theorem se_X6_shiftOn : Cond.selects RX6 yX6_shiftOn yX6_shiftOn ∈ gT := gT_p 33 (by decide +kernel) rfl
theorem vi_X6_shiftOn : gVI yX6_shiftOn := ⟨im_X6_shiftOn, se_X6_shiftOn⟩
theorem ml_X6_102 : Cond.methodLink RX6 102 yX6_shiftOn ∈ gT := gT_t3 144 (by decide +kernel) rfl
theorem cb_X6_102 : gCB RX6 102 yX6_shiftOn cX6_shiftOn 5 none 2 := ⟨ml_X6_102, cn_X6_shiftOn.1, cn_X6_shiftOn.2.1, cn_X6_shiftOn.2.2⟩
theorem cd_X6_readsRow : Cond.code yX6_readsRow cX6_readsRow 3 (some .boolean) ∈ gT := gT_t3 179 (by decide +kernel) rfl
theorem cn_X6_readsRow : gCN yX6_readsRow cX6_readsRow 3 (some .boolean) 0 := ⟨in_X6, cd_X6_readsRow, ⟨by decide +kernel, by decide +kernel, by decide +kernel⟩⟩
theorem im_X6_readsRow : Cond.instanceMethod yX6_readsRow ∈ gT := gT_t3 178 (by decide +kernel) rfl
theorem se_X6_readsRow : Cond.selects RX6 yX6_readsRow yX6_readsRow ∈ gT := gT_p 38 (by decide +kernel) rfl
theorem vi_X6_readsRow : gVI yX6_readsRow := ⟨im_X6_readsRow, se_X6_readsRow⟩
theorem ml_X6_162 : Cond.methodLink RX6 162 yX6_readsRow ∈ gT := gT_t3 176 (by decide +kernel) rfl
theorem cb_X6_162 : gCB RX6 162 yX6_readsRow cX6_readsRow 3 (some .boolean) 0 := ⟨ml_X6_162, cn_X6_readsRow.1, cn_X6_readsRow.2.1, cn_X6_readsRow.2.2⟩
theorem cd_X6_push_ : Cond.code yX6_push_ cX6_push_ 2 none ∈ gT := gT_t3 175 (by decide +kernel) rfl
theorem cn_X6_push_ : gCN yX6_push_ cX6_push_ 2 none 1 := ⟨in_X6, cd_X6_push_, ⟨by decide +kernel, by decide +kernel, by decide +kernel⟩⟩
theorem im_X6_push_ : Cond.instanceMethod yX6_push_ ∈ gT := gT_t3 174 (by decide +kernel) rfl
theorem se_X6_push_ : Cond.selects RX6 yX6_push_ yX6_push_ ∈ gT := gT_p 37 (by decide +kernel) rfl
theorem vi_X6_push_ : gVI yX6_push_ := ⟨im_X6_push_, se_X6_push_⟩
theorem ml_X6_160 : Cond.methodLink RX6 160 yX6_push_ ∈ gT := gT_t3 172 (by decide +kernel) rfl
theorem cb_X6_160 : gCB RX6 160 yX6_push_ cX6_push_ 2 none 1 := ⟨ml_X6_160, cn_X6_push_.1, cn_X6_push_.2.1, cn_X6_push_.2.2⟩
theorem cd_X6_doTo : Cond.code yX6_doTo cX6_doTo 3 none ∈ gT := gT_t3 207 (by decide +kernel) rfl
theorem cn_X6_doTo : gCN yX6_doTo cX6_doTo 3 none 1 := ⟨in_X6, cd_X6_doTo, ⟨by decide +kernel, by decide +kernel, by decide +kernel⟩⟩
theorem im_X6_doTo : Cond.instanceMethod yX6_doTo ∈ gT := gT_t3 206 (by decide +kernel) rfl
theorem se_X6_doTo : Cond.selects RX6 yX6_doTo yX6_doTo ∈ gT := gT_p 45 (by decide +kernel) rfl
theorem vi_X6_doTo : gVI yX6_doTo := ⟨im_X6_doTo, se_X6_doTo⟩
theorem ml_X6_165 : Cond.methodLink RX6 165 yX6_doTo ∈ gT := gT_t3 204 (by decide +kernel) rfl
theorem cb_X6_165 : gCB RX6 165 yX6_doTo cX6_doTo 3 none 1 := ⟨ml_X6_165, cn_X6_doTo.1, cn_X6_doTo.2.1, cn_X6_doTo.2.2⟩
theorem cd_X6_readsFactor : Cond.code yX6_readsFactor cX6_readsFactor 2 (some .boolean) ∈ gT := gT_t3 167 (by decide +kernel) rfl
theorem cn_X6_readsFactor : gCN yX6_readsFactor cX6_readsFactor 2 (some .boolean) 0 := ⟨in_X6, cd_X6_readsFactor, ⟨by decide +kernel, by decide +kernel, by decide +kernel⟩⟩
theorem im_X6_readsFactor : Cond.instanceMethod yX6_readsFactor ∈ gT := gT_t3 166 (by decide +kernel) rfl
theorem se_X6_readsFactor : Cond.selects RX6 yX6_readsFactor yX6_readsFactor ∈ gT := gT_p 35 (by decide +kernel) rfl
theorem vi_X6_readsFactor : gVI yX6_readsFactor := ⟨im_X6_readsFactor, se_X6_readsFactor⟩
theorem ml_X6_168 : Cond.methodLink RX6 168 yX6_readsFactor ∈ gT := gT_t3 164 (by decide +kernel) rfl
theorem cb_X6_168 : gCB RX6 168 yX6_readsFactor cX6_readsFactor 2 (some .boolean) 0 := ⟨ml_X6_168, cn_X6_readsFactor.1, cn_X6_readsFactor.2.1, cn_X6_readsFactor.2.2⟩
theorem cd_X6_readsOn : Cond.code yX6_readsOn cX6_readsOn 2 (some .boolean) ∈ gT := gT_t3 203 (by decide +kernel) rfl
theorem cn_X6_readsOn : gCN yX6_readsOn cX6_readsOn 2 (some .boolean) 0 := ⟨in_X6, cd_X6_readsOn, ⟨by decide +kernel, by decide +kernel, by decide +kernel⟩⟩
theorem im_X6_readsOn : Cond.instanceMethod yX6_readsOn ∈ gT := gT_t3 202 (by decide +kernel) rfl
theorem se_X6_readsOn : Cond.selects RX6 yX6_readsOn yX6_readsOn ∈ gT := gT_p 44 (by decide +kernel) rfl
theorem vi_X6_readsOn : gVI yX6_readsOn := ⟨im_X6_readsOn, se_X6_readsOn⟩
theorem ml_X6_171 : Cond.methodLink RX6 171 yX6_readsOn ∈ gT := gT_t3 200 (by decide +kernel) rfl
theorem cb_X6_171 : gCB RX6 171 yX6_readsOn cX6_readsOn 2 (some .boolean) 0 := ⟨ml_X6_171, cn_X6_readsOn.1, cn_X6_readsOn.2.1, cn_X6_readsOn.2.2⟩
theorem fl_X6_174 : Cond.fieldLink RX6 174 RX6 "failed" "I" ∈ gT := gT_t2 220 (by decide +kernel) rfl
theorem fd_X6_174 : gFd RX6 174 5 5 false .int := ⟨RX6, TX6, 17, tyX6, rfl, rfl, ws_inX6, by decide, fl_X6_174, rfl, rfl, by decide +kernel, tyX6_ok, nmX6⟩
theorem fl_X6_177 : Cond.fieldLink RX6 177 RX6 "failedAt" "I" ∈ gT := gT_t2 221 (by decide +kernel) rfl
theorem fd_X6_177 : gFd RX6 177 5 6 false .int := ⟨RX6, TX6, 17, tyX6, rfl, rfl, ws_inX6, by decide, fl_X6_177, rfl, rfl, by decide +kernel, tyX6_ok, nmX6⟩
theorem fl_X6_180 : Cond.fieldLink RX6 180 RX6 "failedWithin" "I" ∈ gT := gT_t2 222 (by decide +kernel) rfl
theorem fd_X6_180 : gFd RX6 180 5 7 false .int := ⟨RX6, TX6, 17, tyX6, rfl, rfl, ws_inX6, by decide, fl_X6_180, rfl, rfl, by decide +kernel, tyX6_ok, nmX6⟩
theorem cd_X6_record : Cond.code yX6_record cX6_record 2 none ∈ gT := gT_t3 42 (by decide +kernel) rfl
theorem cn_X6_record : gCN yX6_record cX6_record 2 none 0 := ⟨in_X6, cd_X6_record, ⟨by decide +kernel, by decide +kernel, by decide +kernel⟩⟩
theorem im_X6_record : Cond.instanceMethod yX6_record ∈ gT := gT_t3 41 (by decide +kernel) rfl
theorem se_X6_record : Cond.selects RX6 yX6_record yX6_record ∈ gT := gT_p 17 (by decide +kernel) rfl
theorem vi_X6_record : gVI yX6_record := ⟨im_X6_record, se_X6_record⟩
theorem ml_X6_68 : Cond.methodLink RX6 68 yX6_record ∈ gT := gT_t3 39 (by decide +kernel) rfl
theorem cb_X6_68 : gCB RX6 68 yX6_record cX6_record 2 none 0 := ⟨ml_X6_68, cn_X6_record.1, cn_X6_record.2.1, cn_X6_record.2.2⟩
theorem cd_X6_push : Cond.code yX6_push cX6_push 3 none ∈ gT := gT_t3 60 (by decide +kernel) rfl
theorem cn_X6_push : gCN yX6_push cX6_push 3 none 2 := ⟨in_X6, cd_X6_push, ⟨by decide +kernel, by decide +kernel, by decide +kernel⟩⟩
theorem im_X6_push : Cond.instanceMethod yX6_push ∈ gT := gT_t3 59 (by decide +kernel) rfl
theorem se_X6_push : Cond.selects RX6 yX6_push yX6_push ∈ gT := gT_p 19 (by decide +kernel) rfl
theorem vi_X6_push : gVI yX6_push := ⟨im_X6_push, se_X6_push⟩
theorem ml_X6_78 : Cond.methodLink RX6 78 yX6_push ∈ gT := gT_t3 57 (by decide +kernel) rfl
theorem cb_X6_78 : gCB RX6 78 yX6_push cX6_push 3 none 2 := ⟨ml_X6_78, cn_X6_push.1, cn_X6_push.2.1, cn_X6_push.2.2⟩
theorem kc_X6_81 : Cond.constant RX6 81 65535 ∈ gT := gT_t3 69 (by decide +kernel) rfl
theorem cd_X6_words : Cond.code yX6_words cX6_words 5 (some .int) ∈ gT := gT_t3 73 (by decide +kernel) rfl
theorem cn_X6_words : gCN yX6_words cX6_words 5 (some .int) 2 := ⟨in_X6, cd_X6_words, ⟨by decide +kernel, by decide +kernel, by decide +kernel⟩⟩
theorem im_X6_words : Cond.instanceMethod yX6_words ∈ gT := gT_t3 72 (by decide +kernel) rfl
theorem se_X6_words : Cond.selects RX6 yX6_words yX6_words ∈ gT := gT_p 21 (by decide +kernel) rfl
theorem vi_X6_words : gVI yX6_words := ⟨im_X6_words, se_X6_words⟩
theorem ml_X6_82 : Cond.methodLink RX6 82 yX6_words ∈ gT := gT_t3 70 (by decide +kernel) rfl
theorem cb_X6_82 : gCB RX6 82 yX6_words cX6_words 5 (some .int) 2 := ⟨ml_X6_82, cn_X6_words.1, cn_X6_words.2.1, cn_X6_words.2.2⟩
theorem cd_X6_isPlace : Cond.code yX6_isPlace cX6_isPlace 4 (some .boolean) ∈ gT := gT_t3 101 (by decide +kernel) rfl
theorem cn_X6_isPlace : gCN yX6_isPlace cX6_isPlace 4 (some .boolean) 3 := ⟨in_X6, cd_X6_isPlace, ⟨by decide +kernel, by decide +kernel, by decide +kernel⟩⟩
theorem im_X6_isPlace : Cond.instanceMethod yX6_isPlace ∈ gT := gT_t3 100 (by decide +kernel) rfl
theorem se_X6_isPlace : Cond.selects RX6 yX6_isPlace yX6_isPlace ∈ gT := gT_p 27 (by decide +kernel) rfl
theorem vi_X6_isPlace : gVI yX6_isPlace := ⟨im_X6_isPlace, se_X6_isPlace⟩
theorem ml_X6_85 : Cond.methodLink RX6 85 yX6_isPlace ∈ gT := gT_t3 98 (by decide +kernel) rfl
theorem cb_X6_85 : gCB RX6 85 yX6_isPlace cX6_isPlace 4 (some .boolean) 3 := ⟨ml_X6_85, cn_X6_isPlace.1, cn_X6_isPlace.2.1, cn_X6_isPlace.2.2⟩
theorem cd_X6_workOf : Cond.code yX6_workOf cX6_workOf 5 (some .int) ∈ gT := gT_t3 113 (by decide +kernel) rfl
theorem cn_X6_workOf : gCN yX6_workOf cX6_workOf 5 (some .int) 2 := ⟨in_X6, cd_X6_workOf, ⟨by decide +kernel, by decide +kernel, by decide +kernel⟩⟩
theorem im_X6_workOf : Cond.instanceMethod yX6_workOf ∈ gT := gT_t3 112 (by decide +kernel) rfl
theorem se_X6_workOf : Cond.selects RX6 yX6_workOf yX6_workOf ∈ gT := gT_p 28 (by decide +kernel) rfl
theorem vi_X6_workOf : gVI yX6_workOf := ⟨im_X6_workOf, se_X6_workOf⟩
theorem ml_X6_88 : Cond.methodLink RX6 88 yX6_workOf ∈ gT := gT_t3 110 (by decide +kernel) rfl
theorem cb_X6_88 : gCB RX6 88 yX6_workOf cX6_workOf 5 (some .int) 2 := ⟨ml_X6_88, cn_X6_workOf.1, cn_X6_workOf.2.1, cn_X6_workOf.2.2⟩
theorem cd_X6_ones : Cond.code yX6_ones cX6_ones 4 (some .int) ∈ gT := gT_t3 139 (by decide +kernel) rfl
theorem cn_X6_ones : gCN yX6_ones cX6_ones 4 (some .int) 1 := ⟨in_X6, cd_X6_ones, ⟨by decide +kernel, by decide +kernel, by decide +kernel⟩⟩
theorem im_X6_ones : Cond.instanceMethod yX6_ones ∈ gT := gT_t3 138 (by decide +kernel) rfl
theorem se_X6_ones : Cond.selects RX6 yX6_ones yX6_ones ∈ gT := gT_p 32 (by decide +kernel) rfl
theorem vi_X6_ones : gVI yX6_ones := ⟨im_X6_ones, se_X6_ones⟩
theorem ml_X6_99 : Cond.methodLink RX6 99 yX6_ones ∈ gT := gT_t3 136 (by decide +kernel) rfl
theorem cb_X6_99 : gCB RX6 99 yX6_ones cX6_ones 4 (some .int) 1 := ⟨ml_X6_99, cn_X6_ones.1, cn_X6_ones.2.1, cn_X6_ones.2.2⟩
theorem cd_X6_reads : Cond.code yX6_reads cX6_reads 3 (some .boolean) ∈ gT := gT_t3 163 (by decide +kernel) rfl
theorem cn_X6_reads : gCN yX6_reads cX6_reads 3 (some .boolean) 1 := ⟨in_X6, cd_X6_reads, ⟨by decide +kernel, by decide +kernel, by decide +kernel⟩⟩
theorem im_X6_reads : Cond.instanceMethod yX6_reads ∈ gT := gT_t3 162 (by decide +kernel) rfl
theorem se_X6_reads : Cond.selects RX6 yX6_reads yX6_reads ∈ gT := gT_p 34 (by decide +kernel) rfl
theorem vi_X6_reads : gVI yX6_reads := ⟨im_X6_reads, se_X6_reads⟩
theorem ml_X6_183 : Cond.methodLink RX6 183 yX6_reads ∈ gT := gT_t3 160 (by decide +kernel) rfl
theorem cb_X6_183 : gCB RX6 183 yX6_reads cX6_reads 3 (some .boolean) 1 := ⟨ml_X6_183, cn_X6_reads.1, cn_X6_reads.2.1, cn_X6_reads.2.2⟩
theorem cd_X6_fail : Cond.code yX6_fail cX6_fail 4 (some .int) ∈ gT := gT_t3 217 (by decide +kernel) rfl
theorem cn_X6_fail : gCN yX6_fail cX6_fail 4 (some .int) 3 := ⟨in_X6, cd_X6_fail, ⟨by decide +kernel, by decide +kernel, by decide +kernel⟩⟩
theorem im_X6_fail : Cond.instanceMethod yX6_fail ∈ gT := gT_t3 216 (by decide +kernel) rfl
theorem se_X6_fail : Cond.selects RX6 yX6_fail yX6_fail ∈ gT := gT_p 46 (by decide +kernel) rfl
theorem vi_X6_fail : gVI yX6_fail := ⟨im_X6_fail, se_X6_fail⟩
theorem ml_X6_187 : Cond.methodLink RX6 187 yX6_fail ∈ gT := gT_t3 214 (by decide +kernel) rfl
theorem cb_X6_187 : gCB RX6 187 yX6_fail cX6_fail 4 (some .int) 3 := ⟨ml_X6_187, cn_X6_fail.1, cn_X6_fail.2.1, cn_X6_fail.2.2⟩
theorem cd_X6_placeOf : Cond.code yX6_placeOf cX6_placeOf 5 (some .int) ∈ gT := gT_t3 233 (by decide +kernel) rfl
theorem cn_X6_placeOf : gCN yX6_placeOf cX6_placeOf 5 (some .int) 2 := ⟨in_X6, cd_X6_placeOf, ⟨by decide +kernel, by decide +kernel, by decide +kernel⟩⟩
theorem im_X6_placeOf : Cond.instanceMethod yX6_placeOf ∈ gT := gT_t3 232 (by decide +kernel) rfl
theorem se_X6_placeOf : Cond.selects RX6 yX6_placeOf yX6_placeOf ∈ gT := gT_p 47 (by decide +kernel) rfl
theorem vi_X6_placeOf : gVI yX6_placeOf := ⟨im_X6_placeOf, se_X6_placeOf⟩
theorem ml_X6_190 : Cond.methodLink RX6 190 yX6_placeOf ∈ gT := gT_t3 230 (by decide +kernel) rfl
theorem cb_X6_190 : gCB RX6 190 yX6_placeOf cX6_placeOf 5 (some .int) 2 := ⟨ml_X6_190, cn_X6_placeOf.1, cn_X6_placeOf.2.1, cn_X6_placeOf.2.2⟩
theorem cd_X6_codeAt : Cond.code yX6_codeAt cX6_codeAt 4 (some .int) ∈ gT := gT_t4 1 (by decide +kernel) rfl
theorem cn_X6_codeAt : gCN yX6_codeAt cX6_codeAt 4 (some .int) 2 := ⟨in_X6, cd_X6_codeAt, ⟨by decide +kernel, by decide +kernel, by decide +kernel⟩⟩
theorem im_X6_codeAt : Cond.instanceMethod yX6_codeAt ∈ gT := gT_t4 0 (by decide +kernel) rfl
theorem se_X6_codeAt : Cond.selects RX6 yX6_codeAt yX6_codeAt ∈ gT := gT_p 48 (by decide +kernel) rfl
theorem vi_X6_codeAt : gVI yX6_codeAt := ⟨im_X6_codeAt, se_X6_codeAt⟩
theorem ml_X6_193 : Cond.methodLink RX6 193 yX6_codeAt ∈ gT := gT_t3 238 (by decide +kernel) rfl
theorem cb_X6_193 : gCB RX6 193 yX6_codeAt cX6_codeAt 4 (some .int) 2 := ⟨ml_X6_193, cn_X6_codeAt.1, cn_X6_codeAt.2.1, cn_X6_codeAt.2.2⟩
theorem cd_X6_areSame : Cond.code yX6_areSame cX6_areSame 5 (some .boolean) ∈ gT := gT_t4 27 (by decide +kernel) rfl
theorem cn_X6_areSame : gCN yX6_areSame cX6_areSame 5 (some .boolean) 2 := ⟨in_X6, cd_X6_areSame, ⟨by decide +kernel, by decide +kernel, by decide +kernel⟩⟩
theorem im_X6_areSame : Cond.instanceMethod yX6_areSame ∈ gT := gT_t4 26 (by decide +kernel) rfl
theorem se_X6_areSame : Cond.selects RX6 yX6_areSame yX6_areSame ∈ gT := gT_p 49 (by decide +kernel) rfl
theorem vi_X6_areSame : gVI yX6_areSame := ⟨im_X6_areSame, se_X6_areSame⟩
theorem ml_X6_196 : Cond.methodLink RX6 196 yX6_areSame ∈ gT := gT_t4 24 (by decide +kernel) rfl
theorem cb_X6_196 : gCB RX6 196 yX6_areSame cX6_areSame 5 (some .boolean) 2 := ⟨ml_X6_196, cn_X6_areSame.1, cn_X6_areSame.2.1, cn_X6_areSame.2.2⟩
end
section
def fJ9_floorDiv (a0 : Int32) (a1 : Int32) : Option Int32 := if ¬ a1 = 0 then (if 0 ≤ (a0 ^^^ a1) then some (a0 / a1) else (if ((a0 / a1) * a1) = a0 then some (a0 / a1) else some ((a0 / a1) - 1))) else none
set_option maxRecDepth 100000 in
set_option maxHeartbeats 4000000 in
theorem fJ9_floorDiv_ok (E : gEnv) (I : gI) (a0 : Int32) (a1 : Int32) (r : Int32) (hf : fJ9_floorDiv  a0 a1 = some r) : Ctr E yJ9_floorDiv_7cf53 cJ9_floorDiv_7cf53 3 (some .int) 0 0 0 [vi a0, vi a1] (mm I) (some (vi r)) (mm I) := by
  refine Ctr.mk (by decide +kernel) (Nat.le_of_ble_eq_true rfl) fun κ X hR _ => ?_
  have X : Cx E κ cJ9_floorDiv_7cf53 3 RJ9 (some .int) 0 0 0 := X
  show G E κ 0 0 0 [some (vi a0), some (vi a1), none] [] (mm I)
  unfold fJ9_floorDiv at hf
  refine G_iload_n (x := a0) X dJ9_floorDiv_7cf53_0 rfl rfl ?_
  refine G_iload_n (x := a1) X dJ9_floorDiv_7cf53_1 rfl rfl ?_
  obtain ⟨hc1, hf⟩ := ock hf
  refine G_idiv X dJ9_floorDiv_7cf53_2 hc1 ?_
  refine G_istore_n X dJ9_floorDiv_7cf53_3 rfl (Nat.le_of_ble_eq_true rfl) (ls' := [some (vi a0), some (vi a1), some (vi (a0 / a1))]) rfl ?_
  refine G_iload_n (x := a0) X dJ9_floorDiv_7cf53_4 rfl rfl ?_
  refine G_iload_n (x := a1) X dJ9_floorDiv_7cf53_5 rfl rfl ?_
  refine G_ixor X dJ9_floorDiv_7cf53_6 ?_
  refine G_if_ge (tgt := 21) X dJ9_floorDiv_7cf53_7 (by decide) (fun hc2 => ?_) (fun hc2 => ?_)
  · have hf := (if_pos hc2).symm.trans hf
    refine G_iload_n (x := a0 / a1) X dJ9_floorDiv_7cf53_21 rfl rfl ?_
    obtain rfl := Option.some.inj hf
    exact G_iret X hR rfl rfl dJ9_floorDiv_7cf53_22
  · have hf := (if_neg hc2).symm.trans hf
    refine G_iload_n (x := a0 / a1) X dJ9_floorDiv_7cf53_10 rfl rfl ?_
    refine G_iload_n (x := a1) X dJ9_floorDiv_7cf53_11 rfl rfl ?_
    refine G_imul X dJ9_floorDiv_7cf53_12 ?_
    refine G_iload_n (x := a0) X dJ9_floorDiv_7cf53_13 rfl rfl ?_
    refine G_icmp_eq (tgt := 21) X dJ9_floorDiv_7cf53_14 (by decide) (fun hc3 => ?_) (fun hc3 => ?_)
    · have hf := (if_pos hc3).symm.trans hf
      refine G_iload_n (x := a0 / a1) X dJ9_floorDiv_7cf53_21 rfl rfl ?_
      obtain rfl := Option.some.inj hf
      exact G_iret X hR rfl rfl dJ9_floorDiv_7cf53_22
    · have hf := (if_neg hc3).symm.trans hf
      refine G_iload_n (x := a0 / a1) X dJ9_floorDiv_7cf53_17 rfl rfl ?_
      refine G_iconst (v := 1) X dJ9_floorDiv_7cf53_18 rfl ?_
      refine G_isub X dJ9_floorDiv_7cf53_19 ?_
      obtain rfl := Option.some.inj hf
      exact G_iret X hR rfl rfl dJ9_floorDiv_7cf53_20

def fJ9_floorMod (a0 : Int32) (a1 : Int32) : Option Int32 := if ¬ a1 = 0 then (if 0 ≤ (a0 ^^^ a1) then some (a0 - a0 / a1 * a1) else (if (a0 - a0 / a1 * a1) = 0 then some (a0 - a0 / a1 * a1) else some ((a0 - a0 / a1 * a1) + a1))) else none
set_option maxRecDepth 100000 in
set_option maxHeartbeats 4000000 in
theorem fJ9_floorMod_ok (E : gEnv) (I : gI) (a0 : Int32) (a1 : Int32) (r : Int32) (hf : fJ9_floorMod  a0 a1 = some r) : Ctr E yJ9_floorMod_7cf53 cJ9_floorMod_7cf53 3 (some .int) 0 0 0 [vi a0, vi a1] (mm I) (some (vi r)) (mm I) := by
  refine Ctr.mk (by decide +kernel) (Nat.le_of_ble_eq_true rfl) fun κ X hR _ => ?_
  have X : Cx E κ cJ9_floorMod_7cf53 3 RJ9 (some .int) 0 0 0 := X
  show G E κ 0 0 0 [some (vi a0), some (vi a1), none] [] (mm I)
  unfold fJ9_floorMod at hf
  refine G_iload_n (x := a0) X dJ9_floorMod_7cf53_0 rfl rfl ?_
  refine G_iload_n (x := a1) X dJ9_floorMod_7cf53_1 rfl rfl ?_
  obtain ⟨hc1, hf⟩ := ock hf
  refine G_irem X dJ9_floorMod_7cf53_2 hc1 ?_
  refine G_istore_n X dJ9_floorMod_7cf53_3 rfl (Nat.le_of_ble_eq_true rfl) (ls' := [some (vi a0), some (vi a1), some (vi (a0 - a0 / a1 * a1))]) rfl ?_
  refine G_iload_n (x := a0) X dJ9_floorMod_7cf53_4 rfl rfl ?_
  refine G_iload_n (x := a1) X dJ9_floorMod_7cf53_5 rfl rfl ?_
  refine G_ixor X dJ9_floorMod_7cf53_6 ?_
  refine G_if_ge (tgt := 18) X dJ9_floorMod_7cf53_7 (by decide) (fun hc2 => ?_) (fun hc2 => ?_)
  · have hf := (if_pos hc2).symm.trans hf
    refine G_iload_n (x := a0 - a0 / a1 * a1) X dJ9_floorMod_7cf53_18 rfl rfl ?_
    obtain rfl := Option.some.inj hf
    exact G_iret X hR rfl rfl dJ9_floorMod_7cf53_19
  · have hf := (if_neg hc2).symm.trans hf
    refine G_iload_n (x := a0 - a0 / a1 * a1) X dJ9_floorMod_7cf53_10 rfl rfl ?_
    refine G_if_eq (tgt := 18) X dJ9_floorMod_7cf53_11 (by decide) (fun hc3 => ?_) (fun hc3 => ?_)
    · have hf := (if_pos hc3).symm.trans hf
      refine G_iload_n (x := a0 - a0 / a1 * a1) X dJ9_floorMod_7cf53_18 rfl rfl ?_
      obtain rfl := Option.some.inj hf
      exact G_iret X hR rfl rfl dJ9_floorMod_7cf53_19
    · have hf := (if_neg hc3).symm.trans hf
      refine G_iload_n (x := a0 - a0 / a1 * a1) X dJ9_floorMod_7cf53_14 rfl rfl ?_
      refine G_iload_n (x := a1) X dJ9_floorMod_7cf53_15 rfl rfl ?_
      refine G_iadd X dJ9_floorMod_7cf53_16 ?_
      obtain rfl := Option.some.inj hf
      exact G_iret X hR rfl rfl dJ9_floorMod_7cf53_17

def fJ6_bitCount (a0 : Int32) : Int32 := (((((((a0 - (((a0.toUInt32 >>> ((1 : Int32).toUInt32 &&& Int32.toUInt32 31)).toInt32) &&& 1431655765)) &&& 858993459) + ((((a0 - (((a0.toUInt32 >>> ((1 : Int32).toUInt32 &&& Int32.toUInt32 31)).toInt32) &&& 1431655765)).toUInt32 >>> ((2 : Int32).toUInt32 &&& Int32.toUInt32 31)).toInt32) &&& 858993459)) + (((((a0 - (((a0.toUInt32 >>> ((1 : Int32).toUInt32 &&& Int32.toUInt32 31)).toInt32) &&& 1431655765)) &&& 858993459) + ((((a0 - (((a0.toUInt32 >>> ((1 : Int32).toUInt32 &&& Int32.toUInt32 31)).toInt32) &&& 1431655765)).toUInt32 >>> ((2 : Int32).toUInt32 &&& Int32.toUInt32 31)).toInt32) &&& 858993459)).toUInt32 >>> ((4 : Int32).toUInt32 &&& Int32.toUInt32 31)).toInt32)) &&& 252645135) + (((((((a0 - (((a0.toUInt32 >>> ((1 : Int32).toUInt32 &&& Int32.toUInt32 31)).toInt32) &&& 1431655765)) &&& 858993459) + ((((a0 - (((a0.toUInt32 >>> ((1 : Int32).toUInt32 &&& Int32.toUInt32 31)).toInt32) &&& 1431655765)).toUInt32 >>> ((2 : Int32).toUInt32 &&& Int32.toUInt32 31)).toInt32) &&& 858993459)) + (((((a0 - (((a0.toUInt32 >>> ((1 : Int32).toUInt32 &&& Int32.toUInt32 31)).toInt32) &&& 1431655765)) &&& 858993459) + ((((a0 - (((a0.toUInt32 >>> ((1 : Int32).toUInt32 &&& Int32.toUInt32 31)).toInt32) &&& 1431655765)).toUInt32 >>> ((2 : Int32).toUInt32 &&& Int32.toUInt32 31)).toInt32) &&& 858993459)).toUInt32 >>> ((4 : Int32).toUInt32 &&& Int32.toUInt32 31)).toInt32)) &&& 252645135).toUInt32 >>> ((8 : Int32).toUInt32 &&& Int32.toUInt32 31)).toInt32)) + ((((((((a0 - (((a0.toUInt32 >>> ((1 : Int32).toUInt32 &&& Int32.toUInt32 31)).toInt32) &&& 1431655765)) &&& 858993459) + ((((a0 - (((a0.toUInt32 >>> ((1 : Int32).toUInt32 &&& Int32.toUInt32 31)).toInt32) &&& 1431655765)).toUInt32 >>> ((2 : Int32).toUInt32 &&& Int32.toUInt32 31)).toInt32) &&& 858993459)) + (((((a0 - (((a0.toUInt32 >>> ((1 : Int32).toUInt32 &&& Int32.toUInt32 31)).toInt32) &&& 1431655765)) &&& 858993459) + ((((a0 - (((a0.toUInt32 >>> ((1 : Int32).toUInt32 &&& Int32.toUInt32 31)).toInt32) &&& 1431655765)).toUInt32 >>> ((2 : Int32).toUInt32 &&& Int32.toUInt32 31)).toInt32) &&& 858993459)).toUInt32 >>> ((4 : Int32).toUInt32 &&& Int32.toUInt32 31)).toInt32)) &&& 252645135) + (((((((a0 - (((a0.toUInt32 >>> ((1 : Int32).toUInt32 &&& Int32.toUInt32 31)).toInt32) &&& 1431655765)) &&& 858993459) + ((((a0 - (((a0.toUInt32 >>> ((1 : Int32).toUInt32 &&& Int32.toUInt32 31)).toInt32) &&& 1431655765)).toUInt32 >>> ((2 : Int32).toUInt32 &&& Int32.toUInt32 31)).toInt32) &&& 858993459)) + (((((a0 - (((a0.toUInt32 >>> ((1 : Int32).toUInt32 &&& Int32.toUInt32 31)).toInt32) &&& 1431655765)) &&& 858993459) + ((((a0 - (((a0.toUInt32 >>> ((1 : Int32).toUInt32 &&& Int32.toUInt32 31)).toInt32) &&& 1431655765)).toUInt32 >>> ((2 : Int32).toUInt32 &&& Int32.toUInt32 31)).toInt32) &&& 858993459)).toUInt32 >>> ((4 : Int32).toUInt32 &&& Int32.toUInt32 31)).toInt32)) &&& 252645135).toUInt32 >>> ((8 : Int32).toUInt32 &&& Int32.toUInt32 31)).toInt32)).toUInt32 >>> ((16 : Int32).toUInt32 &&& Int32.toUInt32 31)).toInt32)) &&& 63
set_option maxRecDepth 100000 in
set_option maxHeartbeats 4000000 in
theorem fJ6_bitCount_ok (E : gEnv) (I : gI) (a0 : Int32) (r : Int32) (hf : fJ6_bitCount  a0 = r) : Ctr E yJ6_bitCount_0f7a4 cJ6_bitCount_0f7a4 1 (some .int) 0 0 0 [vi a0] (mm I) (some (vi r)) (mm I) := by
  refine Ctr.mk (by decide +kernel) (Nat.le_of_ble_eq_true rfl) fun κ X hR _ => ?_
  have X : Cx E κ cJ6_bitCount_0f7a4 1 RJ6 (some .int) 0 0 0 := X
  show G E κ 0 0 0 [some (vi a0)] [] (mm I)
  unfold fJ6_bitCount at hf
  refine G_iload_n (x := a0) X dJ6_bitCount_0f7a4_0 rfl rfl ?_
  refine G_iload_n (x := a0) X dJ6_bitCount_0f7a4_1 rfl rfl ?_
  refine G_iconst (v := 1) X dJ6_bitCount_0f7a4_2 rfl ?_
  refine G_iushr X dJ6_bitCount_0f7a4_3 ?_
  refine G_ldc_w (v := 1431655765) X kc_J6_265 dJ6_bitCount_0f7a4_4 ?_
  refine G_iand X dJ6_bitCount_0f7a4_7 ?_
  refine G_isub X dJ6_bitCount_0f7a4_8 ?_
  refine G_istore_n X dJ6_bitCount_0f7a4_9 rfl (Nat.le_of_ble_eq_true rfl) (ls' := [some (vi (a0 - (((a0.toUInt32 >>> ((1 : Int32).toUInt32 &&& Int32.toUInt32 31)).toInt32) &&& 1431655765)))]) rfl ?_
  refine G_iload_n (x := a0 - (((a0.toUInt32 >>> ((1 : Int32).toUInt32 &&& Int32.toUInt32 31)).toInt32) &&& 1431655765)) X dJ6_bitCount_0f7a4_10 rfl rfl ?_
  refine G_ldc_w (v := 858993459) X kc_J6_266 dJ6_bitCount_0f7a4_11 ?_
  refine G_iand X dJ6_bitCount_0f7a4_14 ?_
  refine G_iload_n (x := a0 - (((a0.toUInt32 >>> ((1 : Int32).toUInt32 &&& Int32.toUInt32 31)).toInt32) &&& 1431655765)) X dJ6_bitCount_0f7a4_15 rfl rfl ?_
  refine G_iconst (v := 2) X dJ6_bitCount_0f7a4_16 rfl ?_
  refine G_iushr X dJ6_bitCount_0f7a4_17 ?_
  refine G_ldc_w (v := 858993459) X kc_J6_266 dJ6_bitCount_0f7a4_18 ?_
  refine G_iand X dJ6_bitCount_0f7a4_21 ?_
  refine G_iadd X dJ6_bitCount_0f7a4_22 ?_
  refine G_istore_n X dJ6_bitCount_0f7a4_23 rfl (Nat.le_of_ble_eq_true rfl) (ls' := [some (vi (((a0 - (((a0.toUInt32 >>> ((1 : Int32).toUInt32 &&& Int32.toUInt32 31)).toInt32) &&& 1431655765)) &&& 858993459) + ((((a0 - (((a0.toUInt32 >>> ((1 : Int32).toUInt32 &&& Int32.toUInt32 31)).toInt32) &&& 1431655765)).toUInt32 >>> ((2 : Int32).toUInt32 &&& Int32.toUInt32 31)).toInt32) &&& 858993459)))]) rfl ?_
  refine G_iload_n (x := ((a0 - (((a0.toUInt32 >>> ((1 : Int32).toUInt32 &&& Int32.toUInt32 31)).toInt32) &&& 1431655765)) &&& 858993459) + ((((a0 - (((a0.toUInt32 >>> ((1 : Int32).toUInt32 &&& Int32.toUInt32 31)).toInt32) &&& 1431655765)).toUInt32 >>> ((2 : Int32).toUInt32 &&& Int32.toUInt32 31)).toInt32) &&& 858993459)) X dJ6_bitCount_0f7a4_24 rfl rfl ?_
  refine G_iload_n (x := ((a0 - (((a0.toUInt32 >>> ((1 : Int32).toUInt32 &&& Int32.toUInt32 31)).toInt32) &&& 1431655765)) &&& 858993459) + ((((a0 - (((a0.toUInt32 >>> ((1 : Int32).toUInt32 &&& Int32.toUInt32 31)).toInt32) &&& 1431655765)).toUInt32 >>> ((2 : Int32).toUInt32 &&& Int32.toUInt32 31)).toInt32) &&& 858993459)) X dJ6_bitCount_0f7a4_25 rfl rfl ?_
  refine G_iconst (v := 4) X dJ6_bitCount_0f7a4_26 rfl ?_
  refine G_iushr X dJ6_bitCount_0f7a4_27 ?_
  refine G_iadd X dJ6_bitCount_0f7a4_28 ?_
  refine G_ldc_w (v := 252645135) X kc_J6_267 dJ6_bitCount_0f7a4_29 ?_
  refine G_iand X dJ6_bitCount_0f7a4_32 ?_
  refine G_istore_n X dJ6_bitCount_0f7a4_33 rfl (Nat.le_of_ble_eq_true rfl) (ls' := [some (vi (((((a0 - (((a0.toUInt32 >>> ((1 : Int32).toUInt32 &&& Int32.toUInt32 31)).toInt32) &&& 1431655765)) &&& 858993459) + ((((a0 - (((a0.toUInt32 >>> ((1 : Int32).toUInt32 &&& Int32.toUInt32 31)).toInt32) &&& 1431655765)).toUInt32 >>> ((2 : Int32).toUInt32 &&& Int32.toUInt32 31)).toInt32) &&& 858993459)) + (((((a0 - (((a0.toUInt32 >>> ((1 : Int32).toUInt32 &&& Int32.toUInt32 31)).toInt32) &&& 1431655765)) &&& 858993459) + ((((a0 - (((a0.toUInt32 >>> ((1 : Int32).toUInt32 &&& Int32.toUInt32 31)).toInt32) &&& 1431655765)).toUInt32 >>> ((2 : Int32).toUInt32 &&& Int32.toUInt32 31)).toInt32) &&& 858993459)).toUInt32 >>> ((4 : Int32).toUInt32 &&& Int32.toUInt32 31)).toInt32)) &&& 252645135))]) rfl ?_
  refine G_iload_n (x := ((((a0 - (((a0.toUInt32 >>> ((1 : Int32).toUInt32 &&& Int32.toUInt32 31)).toInt32) &&& 1431655765)) &&& 858993459) + ((((a0 - (((a0.toUInt32 >>> ((1 : Int32).toUInt32 &&& Int32.toUInt32 31)).toInt32) &&& 1431655765)).toUInt32 >>> ((2 : Int32).toUInt32 &&& Int32.toUInt32 31)).toInt32) &&& 858993459)) + (((((a0 - (((a0.toUInt32 >>> ((1 : Int32).toUInt32 &&& Int32.toUInt32 31)).toInt32) &&& 1431655765)) &&& 858993459) + ((((a0 - (((a0.toUInt32 >>> ((1 : Int32).toUInt32 &&& Int32.toUInt32 31)).toInt32) &&& 1431655765)).toUInt32 >>> ((2 : Int32).toUInt32 &&& Int32.toUInt32 31)).toInt32) &&& 858993459)).toUInt32 >>> ((4 : Int32).toUInt32 &&& Int32.toUInt32 31)).toInt32)) &&& 252645135) X dJ6_bitCount_0f7a4_34 rfl rfl ?_
  refine G_iload_n (x := ((((a0 - (((a0.toUInt32 >>> ((1 : Int32).toUInt32 &&& Int32.toUInt32 31)).toInt32) &&& 1431655765)) &&& 858993459) + ((((a0 - (((a0.toUInt32 >>> ((1 : Int32).toUInt32 &&& Int32.toUInt32 31)).toInt32) &&& 1431655765)).toUInt32 >>> ((2 : Int32).toUInt32 &&& Int32.toUInt32 31)).toInt32) &&& 858993459)) + (((((a0 - (((a0.toUInt32 >>> ((1 : Int32).toUInt32 &&& Int32.toUInt32 31)).toInt32) &&& 1431655765)) &&& 858993459) + ((((a0 - (((a0.toUInt32 >>> ((1 : Int32).toUInt32 &&& Int32.toUInt32 31)).toInt32) &&& 1431655765)).toUInt32 >>> ((2 : Int32).toUInt32 &&& Int32.toUInt32 31)).toInt32) &&& 858993459)).toUInt32 >>> ((4 : Int32).toUInt32 &&& Int32.toUInt32 31)).toInt32)) &&& 252645135) X dJ6_bitCount_0f7a4_35 rfl rfl ?_
  refine G_bipush (v := 8) X dJ6_bitCount_0f7a4_36 rfl ?_
  refine G_iushr X dJ6_bitCount_0f7a4_38 ?_
  refine G_iadd X dJ6_bitCount_0f7a4_39 ?_
  refine G_istore_n X dJ6_bitCount_0f7a4_40 rfl (Nat.le_of_ble_eq_true rfl) (ls' := [some (vi ((((((a0 - (((a0.toUInt32 >>> ((1 : Int32).toUInt32 &&& Int32.toUInt32 31)).toInt32) &&& 1431655765)) &&& 858993459) + ((((a0 - (((a0.toUInt32 >>> ((1 : Int32).toUInt32 &&& Int32.toUInt32 31)).toInt32) &&& 1431655765)).toUInt32 >>> ((2 : Int32).toUInt32 &&& Int32.toUInt32 31)).toInt32) &&& 858993459)) + (((((a0 - (((a0.toUInt32 >>> ((1 : Int32).toUInt32 &&& Int32.toUInt32 31)).toInt32) &&& 1431655765)) &&& 858993459) + ((((a0 - (((a0.toUInt32 >>> ((1 : Int32).toUInt32 &&& Int32.toUInt32 31)).toInt32) &&& 1431655765)).toUInt32 >>> ((2 : Int32).toUInt32 &&& Int32.toUInt32 31)).toInt32) &&& 858993459)).toUInt32 >>> ((4 : Int32).toUInt32 &&& Int32.toUInt32 31)).toInt32)) &&& 252645135) + (((((((a0 - (((a0.toUInt32 >>> ((1 : Int32).toUInt32 &&& Int32.toUInt32 31)).toInt32) &&& 1431655765)) &&& 858993459) + ((((a0 - (((a0.toUInt32 >>> ((1 : Int32).toUInt32 &&& Int32.toUInt32 31)).toInt32) &&& 1431655765)).toUInt32 >>> ((2 : Int32).toUInt32 &&& Int32.toUInt32 31)).toInt32) &&& 858993459)) + (((((a0 - (((a0.toUInt32 >>> ((1 : Int32).toUInt32 &&& Int32.toUInt32 31)).toInt32) &&& 1431655765)) &&& 858993459) + ((((a0 - (((a0.toUInt32 >>> ((1 : Int32).toUInt32 &&& Int32.toUInt32 31)).toInt32) &&& 1431655765)).toUInt32 >>> ((2 : Int32).toUInt32 &&& Int32.toUInt32 31)).toInt32) &&& 858993459)).toUInt32 >>> ((4 : Int32).toUInt32 &&& Int32.toUInt32 31)).toInt32)) &&& 252645135).toUInt32 >>> ((8 : Int32).toUInt32 &&& Int32.toUInt32 31)).toInt32)))]) rfl ?_
  refine G_iload_n (x := (((((a0 - (((a0.toUInt32 >>> ((1 : Int32).toUInt32 &&& Int32.toUInt32 31)).toInt32) &&& 1431655765)) &&& 858993459) + ((((a0 - (((a0.toUInt32 >>> ((1 : Int32).toUInt32 &&& Int32.toUInt32 31)).toInt32) &&& 1431655765)).toUInt32 >>> ((2 : Int32).toUInt32 &&& Int32.toUInt32 31)).toInt32) &&& 858993459)) + (((((a0 - (((a0.toUInt32 >>> ((1 : Int32).toUInt32 &&& Int32.toUInt32 31)).toInt32) &&& 1431655765)) &&& 858993459) + ((((a0 - (((a0.toUInt32 >>> ((1 : Int32).toUInt32 &&& Int32.toUInt32 31)).toInt32) &&& 1431655765)).toUInt32 >>> ((2 : Int32).toUInt32 &&& Int32.toUInt32 31)).toInt32) &&& 858993459)).toUInt32 >>> ((4 : Int32).toUInt32 &&& Int32.toUInt32 31)).toInt32)) &&& 252645135) + (((((((a0 - (((a0.toUInt32 >>> ((1 : Int32).toUInt32 &&& Int32.toUInt32 31)).toInt32) &&& 1431655765)) &&& 858993459) + ((((a0 - (((a0.toUInt32 >>> ((1 : Int32).toUInt32 &&& Int32.toUInt32 31)).toInt32) &&& 1431655765)).toUInt32 >>> ((2 : Int32).toUInt32 &&& Int32.toUInt32 31)).toInt32) &&& 858993459)) + (((((a0 - (((a0.toUInt32 >>> ((1 : Int32).toUInt32 &&& Int32.toUInt32 31)).toInt32) &&& 1431655765)) &&& 858993459) + ((((a0 - (((a0.toUInt32 >>> ((1 : Int32).toUInt32 &&& Int32.toUInt32 31)).toInt32) &&& 1431655765)).toUInt32 >>> ((2 : Int32).toUInt32 &&& Int32.toUInt32 31)).toInt32) &&& 858993459)).toUInt32 >>> ((4 : Int32).toUInt32 &&& Int32.toUInt32 31)).toInt32)) &&& 252645135).toUInt32 >>> ((8 : Int32).toUInt32 &&& Int32.toUInt32 31)).toInt32)) X dJ6_bitCount_0f7a4_41 rfl rfl ?_
  refine G_iload_n (x := (((((a0 - (((a0.toUInt32 >>> ((1 : Int32).toUInt32 &&& Int32.toUInt32 31)).toInt32) &&& 1431655765)) &&& 858993459) + ((((a0 - (((a0.toUInt32 >>> ((1 : Int32).toUInt32 &&& Int32.toUInt32 31)).toInt32) &&& 1431655765)).toUInt32 >>> ((2 : Int32).toUInt32 &&& Int32.toUInt32 31)).toInt32) &&& 858993459)) + (((((a0 - (((a0.toUInt32 >>> ((1 : Int32).toUInt32 &&& Int32.toUInt32 31)).toInt32) &&& 1431655765)) &&& 858993459) + ((((a0 - (((a0.toUInt32 >>> ((1 : Int32).toUInt32 &&& Int32.toUInt32 31)).toInt32) &&& 1431655765)).toUInt32 >>> ((2 : Int32).toUInt32 &&& Int32.toUInt32 31)).toInt32) &&& 858993459)).toUInt32 >>> ((4 : Int32).toUInt32 &&& Int32.toUInt32 31)).toInt32)) &&& 252645135) + (((((((a0 - (((a0.toUInt32 >>> ((1 : Int32).toUInt32 &&& Int32.toUInt32 31)).toInt32) &&& 1431655765)) &&& 858993459) + ((((a0 - (((a0.toUInt32 >>> ((1 : Int32).toUInt32 &&& Int32.toUInt32 31)).toInt32) &&& 1431655765)).toUInt32 >>> ((2 : Int32).toUInt32 &&& Int32.toUInt32 31)).toInt32) &&& 858993459)) + (((((a0 - (((a0.toUInt32 >>> ((1 : Int32).toUInt32 &&& Int32.toUInt32 31)).toInt32) &&& 1431655765)) &&& 858993459) + ((((a0 - (((a0.toUInt32 >>> ((1 : Int32).toUInt32 &&& Int32.toUInt32 31)).toInt32) &&& 1431655765)).toUInt32 >>> ((2 : Int32).toUInt32 &&& Int32.toUInt32 31)).toInt32) &&& 858993459)).toUInt32 >>> ((4 : Int32).toUInt32 &&& Int32.toUInt32 31)).toInt32)) &&& 252645135).toUInt32 >>> ((8 : Int32).toUInt32 &&& Int32.toUInt32 31)).toInt32)) X dJ6_bitCount_0f7a4_42 rfl rfl ?_
  refine G_bipush (v := 16) X dJ6_bitCount_0f7a4_43 rfl ?_
  refine G_iushr X dJ6_bitCount_0f7a4_45 ?_
  refine G_iadd X dJ6_bitCount_0f7a4_46 ?_
  refine G_istore_n X dJ6_bitCount_0f7a4_47 rfl (Nat.le_of_ble_eq_true rfl) (ls' := [some (vi (((((((a0 - (((a0.toUInt32 >>> ((1 : Int32).toUInt32 &&& Int32.toUInt32 31)).toInt32) &&& 1431655765)) &&& 858993459) + ((((a0 - (((a0.toUInt32 >>> ((1 : Int32).toUInt32 &&& Int32.toUInt32 31)).toInt32) &&& 1431655765)).toUInt32 >>> ((2 : Int32).toUInt32 &&& Int32.toUInt32 31)).toInt32) &&& 858993459)) + (((((a0 - (((a0.toUInt32 >>> ((1 : Int32).toUInt32 &&& Int32.toUInt32 31)).toInt32) &&& 1431655765)) &&& 858993459) + ((((a0 - (((a0.toUInt32 >>> ((1 : Int32).toUInt32 &&& Int32.toUInt32 31)).toInt32) &&& 1431655765)).toUInt32 >>> ((2 : Int32).toUInt32 &&& Int32.toUInt32 31)).toInt32) &&& 858993459)).toUInt32 >>> ((4 : Int32).toUInt32 &&& Int32.toUInt32 31)).toInt32)) &&& 252645135) + (((((((a0 - (((a0.toUInt32 >>> ((1 : Int32).toUInt32 &&& Int32.toUInt32 31)).toInt32) &&& 1431655765)) &&& 858993459) + ((((a0 - (((a0.toUInt32 >>> ((1 : Int32).toUInt32 &&& Int32.toUInt32 31)).toInt32) &&& 1431655765)).toUInt32 >>> ((2 : Int32).toUInt32 &&& Int32.toUInt32 31)).toInt32) &&& 858993459)) + (((((a0 - (((a0.toUInt32 >>> ((1 : Int32).toUInt32 &&& Int32.toUInt32 31)).toInt32) &&& 1431655765)) &&& 858993459) + ((((a0 - (((a0.toUInt32 >>> ((1 : Int32).toUInt32 &&& Int32.toUInt32 31)).toInt32) &&& 1431655765)).toUInt32 >>> ((2 : Int32).toUInt32 &&& Int32.toUInt32 31)).toInt32) &&& 858993459)).toUInt32 >>> ((4 : Int32).toUInt32 &&& Int32.toUInt32 31)).toInt32)) &&& 252645135).toUInt32 >>> ((8 : Int32).toUInt32 &&& Int32.toUInt32 31)).toInt32)) + ((((((((a0 - (((a0.toUInt32 >>> ((1 : Int32).toUInt32 &&& Int32.toUInt32 31)).toInt32) &&& 1431655765)) &&& 858993459) + ((((a0 - (((a0.toUInt32 >>> ((1 : Int32).toUInt32 &&& Int32.toUInt32 31)).toInt32) &&& 1431655765)).toUInt32 >>> ((2 : Int32).toUInt32 &&& Int32.toUInt32 31)).toInt32) &&& 858993459)) + (((((a0 - (((a0.toUInt32 >>> ((1 : Int32).toUInt32 &&& Int32.toUInt32 31)).toInt32) &&& 1431655765)) &&& 858993459) + ((((a0 - (((a0.toUInt32 >>> ((1 : Int32).toUInt32 &&& Int32.toUInt32 31)).toInt32) &&& 1431655765)).toUInt32 >>> ((2 : Int32).toUInt32 &&& Int32.toUInt32 31)).toInt32) &&& 858993459)).toUInt32 >>> ((4 : Int32).toUInt32 &&& Int32.toUInt32 31)).toInt32)) &&& 252645135) + (((((((a0 - (((a0.toUInt32 >>> ((1 : Int32).toUInt32 &&& Int32.toUInt32 31)).toInt32) &&& 1431655765)) &&& 858993459) + ((((a0 - (((a0.toUInt32 >>> ((1 : Int32).toUInt32 &&& Int32.toUInt32 31)).toInt32) &&& 1431655765)).toUInt32 >>> ((2 : Int32).toUInt32 &&& Int32.toUInt32 31)).toInt32) &&& 858993459)) + (((((a0 - (((a0.toUInt32 >>> ((1 : Int32).toUInt32 &&& Int32.toUInt32 31)).toInt32) &&& 1431655765)) &&& 858993459) + ((((a0 - (((a0.toUInt32 >>> ((1 : Int32).toUInt32 &&& Int32.toUInt32 31)).toInt32) &&& 1431655765)).toUInt32 >>> ((2 : Int32).toUInt32 &&& Int32.toUInt32 31)).toInt32) &&& 858993459)).toUInt32 >>> ((4 : Int32).toUInt32 &&& Int32.toUInt32 31)).toInt32)) &&& 252645135).toUInt32 >>> ((8 : Int32).toUInt32 &&& Int32.toUInt32 31)).toInt32)).toUInt32 >>> ((16 : Int32).toUInt32 &&& Int32.toUInt32 31)).toInt32)))]) rfl ?_
  refine G_iload_n (x := ((((((a0 - (((a0.toUInt32 >>> ((1 : Int32).toUInt32 &&& Int32.toUInt32 31)).toInt32) &&& 1431655765)) &&& 858993459) + ((((a0 - (((a0.toUInt32 >>> ((1 : Int32).toUInt32 &&& Int32.toUInt32 31)).toInt32) &&& 1431655765)).toUInt32 >>> ((2 : Int32).toUInt32 &&& Int32.toUInt32 31)).toInt32) &&& 858993459)) + (((((a0 - (((a0.toUInt32 >>> ((1 : Int32).toUInt32 &&& Int32.toUInt32 31)).toInt32) &&& 1431655765)) &&& 858993459) + ((((a0 - (((a0.toUInt32 >>> ((1 : Int32).toUInt32 &&& Int32.toUInt32 31)).toInt32) &&& 1431655765)).toUInt32 >>> ((2 : Int32).toUInt32 &&& Int32.toUInt32 31)).toInt32) &&& 858993459)).toUInt32 >>> ((4 : Int32).toUInt32 &&& Int32.toUInt32 31)).toInt32)) &&& 252645135) + (((((((a0 - (((a0.toUInt32 >>> ((1 : Int32).toUInt32 &&& Int32.toUInt32 31)).toInt32) &&& 1431655765)) &&& 858993459) + ((((a0 - (((a0.toUInt32 >>> ((1 : Int32).toUInt32 &&& Int32.toUInt32 31)).toInt32) &&& 1431655765)).toUInt32 >>> ((2 : Int32).toUInt32 &&& Int32.toUInt32 31)).toInt32) &&& 858993459)) + (((((a0 - (((a0.toUInt32 >>> ((1 : Int32).toUInt32 &&& Int32.toUInt32 31)).toInt32) &&& 1431655765)) &&& 858993459) + ((((a0 - (((a0.toUInt32 >>> ((1 : Int32).toUInt32 &&& Int32.toUInt32 31)).toInt32) &&& 1431655765)).toUInt32 >>> ((2 : Int32).toUInt32 &&& Int32.toUInt32 31)).toInt32) &&& 858993459)).toUInt32 >>> ((4 : Int32).toUInt32 &&& Int32.toUInt32 31)).toInt32)) &&& 252645135).toUInt32 >>> ((8 : Int32).toUInt32 &&& Int32.toUInt32 31)).toInt32)) + ((((((((a0 - (((a0.toUInt32 >>> ((1 : Int32).toUInt32 &&& Int32.toUInt32 31)).toInt32) &&& 1431655765)) &&& 858993459) + ((((a0 - (((a0.toUInt32 >>> ((1 : Int32).toUInt32 &&& Int32.toUInt32 31)).toInt32) &&& 1431655765)).toUInt32 >>> ((2 : Int32).toUInt32 &&& Int32.toUInt32 31)).toInt32) &&& 858993459)) + (((((a0 - (((a0.toUInt32 >>> ((1 : Int32).toUInt32 &&& Int32.toUInt32 31)).toInt32) &&& 1431655765)) &&& 858993459) + ((((a0 - (((a0.toUInt32 >>> ((1 : Int32).toUInt32 &&& Int32.toUInt32 31)).toInt32) &&& 1431655765)).toUInt32 >>> ((2 : Int32).toUInt32 &&& Int32.toUInt32 31)).toInt32) &&& 858993459)).toUInt32 >>> ((4 : Int32).toUInt32 &&& Int32.toUInt32 31)).toInt32)) &&& 252645135) + (((((((a0 - (((a0.toUInt32 >>> ((1 : Int32).toUInt32 &&& Int32.toUInt32 31)).toInt32) &&& 1431655765)) &&& 858993459) + ((((a0 - (((a0.toUInt32 >>> ((1 : Int32).toUInt32 &&& Int32.toUInt32 31)).toInt32) &&& 1431655765)).toUInt32 >>> ((2 : Int32).toUInt32 &&& Int32.toUInt32 31)).toInt32) &&& 858993459)) + (((((a0 - (((a0.toUInt32 >>> ((1 : Int32).toUInt32 &&& Int32.toUInt32 31)).toInt32) &&& 1431655765)) &&& 858993459) + ((((a0 - (((a0.toUInt32 >>> ((1 : Int32).toUInt32 &&& Int32.toUInt32 31)).toInt32) &&& 1431655765)).toUInt32 >>> ((2 : Int32).toUInt32 &&& Int32.toUInt32 31)).toInt32) &&& 858993459)).toUInt32 >>> ((4 : Int32).toUInt32 &&& Int32.toUInt32 31)).toInt32)) &&& 252645135).toUInt32 >>> ((8 : Int32).toUInt32 &&& Int32.toUInt32 31)).toInt32)).toUInt32 >>> ((16 : Int32).toUInt32 &&& Int32.toUInt32 31)).toInt32)) X dJ6_bitCount_0f7a4_48 rfl rfl ?_
  refine G_bipush (v := 63) X dJ6_bitCount_0f7a4_49 rfl ?_
  refine G_iand X dJ6_bitCount_0f7a4_51 ?_
  subst hf
  exact G_iret X hR rfl rfl dJ6_bitCount_0f7a4_52
end
section
def f0_groupCount (I : gI) (b : Nat) : Int32 := (((I b 1) + 15) - 1) / 15
set_option maxRecDepth 100000 in
set_option maxHeartbeats 4000000 in
theorem f0_groupCount_ok (E : gEnv) (I : gI) (b : Nat) (hb : isB b) (r : Int32) (hf : f0_groupCount I b = r) : Ctr E yX0_groupCount cX0_groupCount 1 (some .int) 0 0 0 [vr b] (mm I) (some (vi r)) (mm I) := by
  refine Ctr.mk (by decide +kernel) (Nat.le_of_ble_eq_true rfl) fun κ X hR _ => ?_
  have X : Cx E κ cX0_groupCount 1 RX0 (some .int) 0 0 0 := X
  show G E κ 0 0 0 [some (vr b)] [] (mm I)
  unfold f0_groupCount at hf
  refine G_aload_n (x := some (b)) X dX0_groupCount_0 rfl rfl ?_
  refine M_getI X fd_X0_15 rfl (show SH[b]? = some (_, 0) from hb.1) dX0_groupCount_1 ?_
  refine G_bipush (v := 15) X dX0_groupCount_4 rfl ?_
  refine G_iadd X dX0_groupCount_6 ?_
  refine G_iconst (v := 1) X dX0_groupCount_7 rfl ?_
  refine G_isub X dX0_groupCount_8 ?_
  refine G_bipush (v := 15) X dX0_groupCount_9 rfl ?_
  refine G_idiv X dX0_groupCount_11 (by decide) ?_
  subst hf
  exact G_iret X hR rfl rfl dX0_groupCount_12

def f0_groupAt (I : gI) (b : Nat) (a0 : Int32) : Option Int32 := (if a0 < 0 then some 0 else (if 40 ≤ a0 then some 0 else if ib a0 40 = true then some (I (b + 1) (a0.toNatClampNeg)) else none))
set_option maxRecDepth 100000 in
set_option maxHeartbeats 4000000 in
theorem f0_groupAt_ok (E : gEnv) (I : gI) (b : Nat) (hb : isB b) (a0 : Int32) (r : Int32) (hf : f0_groupAt I b a0 = some r) : Ctr E yX0_groupAt cX0_groupAt 2 (some .int) 0 0 0 [vr b, vi a0] (mm I) (some (vi r)) (mm I) := by
  refine Ctr.mk (by decide +kernel) (Nat.le_of_ble_eq_true rfl) fun κ X hR _ => ?_
  have X : Cx E κ cX0_groupAt 2 RX0 (some .int) 0 0 0 := X
  show G E κ 0 0 0 [some (vr b), some (vi a0)] [] (mm I)
  unfold f0_groupAt at hf
  refine G_iload_n (x := a0) X dX0_groupAt_0 rfl rfl ?_
  refine G_if_lt (tgt := 22) X dX0_groupAt_1 (by decide) (fun hc1 => ?_) (fun hc1 => ?_)
  · have hf := (if_pos hc1).symm.trans hf
    refine G_iconst (v := 0) X dX0_groupAt_22 rfl ?_
    obtain rfl := Option.some.inj hf
    exact G_iret X hR rfl rfl dX0_groupAt_23
  · have hf := (if_neg hc1).symm.trans hf
    refine G_iload_n (x := a0) X dX0_groupAt_4 rfl rfl ?_
    refine G_aload_n (x := some (b)) X dX0_groupAt_5 rfl rfl ?_
    refine M_getR X fd_X0_9 rfl (show SH[b]? = some (_, 0) from hb.1) (isB_p hb) dX0_groupAt_6 ?_
    refine M_alen (v := 40) X (show SH[b + 1]? = some (_, 40) from hb.2) (by decide) dX0_groupAt_9 rfl ?_
    refine G_icmp_ge (tgt := 22) X dX0_groupAt_10 (by decide) (fun hc2 => ?_) (fun hc2 => ?_)
    · have hf := (if_pos hc2).symm.trans hf
      refine G_iconst (v := 0) X dX0_groupAt_22 rfl ?_
      obtain rfl := Option.some.inj hf
      exact G_iret X hR rfl rfl dX0_groupAt_23
    · have hf := (if_neg hc2).symm.trans hf
      refine G_aload_n (x := some (b)) X dX0_groupAt_13 rfl rfl ?_
      refine M_getR X fd_X0_9 rfl (show SH[b]? = some (_, 0) from hb.1) (isB_p hb) dX0_groupAt_14 ?_
      refine G_iload_n (x := a0) X dX0_groupAt_17 rfl rfl ?_
      obtain ⟨hc3, hf⟩ := ock hf
      refine M_iald X (show SH[b + 1]? = some (_, 40) from hb.2) hc3 dX0_groupAt_18 ?_
      refine G_goto (tgt := 23) X dX0_groupAt_19 (by decide) ?_
      obtain rfl := Option.some.inj hf
      exact G_iret X hR rfl rfl dX0_groupAt_23

def f0_valueAt (I : gI) (b : Nat) (a0 : Int32) : Option Int32 := (f0_groupAt I b (a0 / 15)).bind fun v1 => some ((v1 >>> ((a0 - a0 / 15 * 15) &&& 31)) &&& 1)
set_option maxRecDepth 100000 in
set_option maxHeartbeats 4000000 in
theorem f0_valueAt_ok (E : gEnv) (I : gI) (b : Nat) (hb : isB b) (a0 : Int32) (r : Int32) (hf : f0_valueAt I b a0 = some r) : Ctr E yX0_valueAt cX0_valueAt 2 (some .int) 1 0 0 [vr b, vi a0] (mm I) (some (vi r)) (mm I) := by
  refine Ctr.mk (by decide +kernel) (Nat.le_of_ble_eq_true rfl) fun κ X hR _ => ?_
  have X : Cx E κ cX0_valueAt 2 RX0 (some .int) 1 0 0 := X
  show G E κ 0 0 0 [some (vr b), some (vi a0)] [] (mm I)
  unfold f0_valueAt at hf
  refine G_aload_n (x := some (b)) X dX0_valueAt_0 rfl rfl ?_
  refine G_iload_n (x := a0) X dX0_valueAt_1 rfl rfl ?_
  refine G_bipush (v := 15) X dX0_valueAt_2 rfl ?_
  refine G_idiv X dX0_valueAt_4 (by decide) ?_
  obtain ⟨v1, hk1, hf⟩ := obd hf
  refine G_callV (As := [vi (a0 / 15)]) X (f0_groupAt_ok E I b hb (a0 / 15) v1 hk1) cb_X0_19 vi_X0_groupAt (ci := 0) rfl rfl (show SH[b]? = some (_, 0) from hb.1) rfl rfl (Nat.le_of_ble_eq_true rfl) (by decide) (by decide) rfl (Nat.le_refl _) (Nat.le_refl _) dX0_valueAt_5 ?_
  show G E κ _ _ _ [some (vr b), some (vi a0)] [vi v1] (mm I)
  refine G_iload_n (x := a0) X dX0_valueAt_8 rfl rfl ?_
  refine G_bipush (v := 15) X dX0_valueAt_9 rfl ?_
  refine G_irem X dX0_valueAt_11 (by decide) ?_
  refine G_ishr X dX0_valueAt_12 ?_
  refine G_iconst (v := 1) X dX0_valueAt_13 rfl ?_
  refine G_iand X dX0_valueAt_14 ?_
  obtain rfl := Option.some.inj hf
  exact G_iret X hR rfl rfl dX0_valueAt_15

def f0_putAt (I : gI) (b : Nat) (a0 : Int32) (a1 : Int32) : Option gI := (if a0 < 0 then some I else (if (a0 / 15) < 40 then (if a1 = 1 then if ib (a0 / 15) 40 = true then if ib (a0 / 15) 40 = true then some (uI I (b + 1) (a0 / 15).toNatClampNeg ((I (b + 1) ((a0 / 15).toNatClampNeg)) ||| (1 <<< ((a0 - a0 / 15 * 15) &&& 31)))) else none else none else if ib (a0 / 15) 40 = true then if ib (a0 / 15) 40 = true then some (uI I (b + 1) (a0 / 15).toNatClampNeg ((I (b + 1) ((a0 / 15).toNatClampNeg)) &&& ((1 <<< ((a0 - a0 / 15 * 15) &&& 31)) ^^^ ((-1))))) else none else none) else some I))
set_option maxRecDepth 100000 in
set_option maxHeartbeats 4000000 in
theorem f0_putAt_ok (E : gEnv) (I : gI) (b : Nat) (hb : isB b) (a0 : Int32) (a1 : Int32) (I' : gI) (hf : f0_putAt I b a0 a1 = some I') : Ctr E yX0_putAt cX0_putAt 5 none 0 0 0 [vr b, vi a0, vi a1] (mm I) (none) (mm I') := by
  refine Ctr.mk (by decide +kernel) (Nat.le_of_ble_eq_true rfl) fun κ X hR _ => ?_
  have X : Cx E κ cX0_putAt 5 RX0 none 0 0 0 := X
  show G E κ 0 0 0 [some (vr b), some (vi a0), some (vi a1), none, none] [] (mm I)
  unfold f0_putAt at hf
  refine G_iload_n (x := a0) X dX0_putAt_0 rfl rfl ?_
  refine G_bipush (v := 15) X dX0_putAt_1 rfl ?_
  refine G_idiv X dX0_putAt_3 (by decide) ?_
  refine G_istore_n X dX0_putAt_4 rfl (Nat.le_of_ble_eq_true rfl) (ls' := [some (vr b), some (vi a0), some (vi a1), some (vi (a0 / 15)), none]) rfl ?_
  refine G_iload_n (x := a0) X dX0_putAt_5 rfl rfl ?_
  refine G_if_lt (tgt := 18) X dX0_putAt_6 (by decide) (fun hc1 => ?_) (fun hc1 => ?_)
  · have hf := (if_pos hc1).symm.trans hf
    obtain rfl := Option.some.inj hf
    exact G_vret X hR rfl dX0_putAt_18
  · have hf := (if_neg hc1).symm.trans hf
    refine G_iload_n (x := a0 / 15) X dX0_putAt_9 rfl rfl ?_
    refine G_aload_n (x := some (b)) X dX0_putAt_10 rfl rfl ?_
    refine M_getR X fd_X0_9 rfl (show SH[b]? = some (_, 0) from hb.1) (isB_p hb) dX0_putAt_11 ?_
    refine M_alen (v := 40) X (show SH[b + 1]? = some (_, 40) from hb.2) (by decide) dX0_putAt_14 rfl ?_
    refine G_icmp_lt (tgt := 19) X dX0_putAt_15 (by decide) (fun hc2 => ?_) (fun hc2 => ?_)
    · have hf := (if_pos hc2).symm.trans hf
      refine G_iconst (v := 1) X dX0_putAt_19 rfl ?_
      refine G_iload_n (x := a0) X dX0_putAt_20 rfl rfl ?_
      refine G_bipush (v := 15) X dX0_putAt_21 rfl ?_
      refine G_irem X dX0_putAt_23 (by decide) ?_
      refine G_ishl X dX0_putAt_24 ?_
      refine G_istore X dX0_putAt_25 (Nat.le_of_ble_eq_true rfl) (ls' := [some (vr b), some (vi a0), some (vi a1), some (vi (a0 / 15)), some (vi (1 <<< ((a0 - a0 / 15 * 15) &&& 31)))]) rfl ?_
      refine G_aload_n (x := some (b)) X dX0_putAt_27 rfl rfl ?_
      refine M_getR X fd_X0_9 rfl (show SH[b]? = some (_, 0) from hb.1) (isB_p hb) dX0_putAt_28 ?_
      refine G_iload_n (x := a0 / 15) X dX0_putAt_31 rfl rfl ?_
      refine G_iload_n (x := a1) X dX0_putAt_32 rfl rfl ?_
      refine G_iconst (v := 1) X dX0_putAt_33 rfl ?_
      refine G_icmp_ne (tgt := 49) X dX0_putAt_34 (by decide) (fun hc3 => ?_) (fun hc3 => ?_)
      · have hf := (if_neg hc3).symm.trans hf
        refine G_aload_n (x := some (b)) X dX0_putAt_49 rfl rfl ?_
        refine M_getR X fd_X0_9 rfl (show SH[b]? = some (_, 0) from hb.1) (isB_p hb) dX0_putAt_50 ?_
        refine G_iload_n (x := a0 / 15) X dX0_putAt_53 rfl rfl ?_
        obtain ⟨hc4, hf⟩ := ock hf
        refine M_iald X (show SH[b + 1]? = some (_, 40) from hb.2) hc4 dX0_putAt_54 ?_
        refine G_iload (x := 1 <<< ((a0 - a0 / 15 * 15) &&& 31)) X dX0_putAt_55 rfl ?_
        refine G_iconst (v := (-1)) X dX0_putAt_57 rfl ?_
        refine G_ixor X dX0_putAt_58 ?_
        refine G_iand X dX0_putAt_59 ?_
        obtain ⟨hc5, hf⟩ := ock hf
        refine M_iast X (show SH[b + 1]? = some (_, 40) from hb.2) hc5 dX0_putAt_60 ?_
        obtain rfl := Option.some.inj hf
        exact G_vret X hR rfl dX0_putAt_61
      · have hf := (if_pos hc3).symm.trans hf
        refine G_aload_n (x := some (b)) X dX0_putAt_37 rfl rfl ?_
        refine M_getR X fd_X0_9 rfl (show SH[b]? = some (_, 0) from hb.1) (isB_p hb) dX0_putAt_38 ?_
        refine G_iload_n (x := a0 / 15) X dX0_putAt_41 rfl rfl ?_
        obtain ⟨hc6, hf⟩ := ock hf
        refine M_iald X (show SH[b + 1]? = some (_, 40) from hb.2) hc6 dX0_putAt_42 ?_
        refine G_iload (x := 1 <<< ((a0 - a0 / 15 * 15) &&& 31)) X dX0_putAt_43 rfl ?_
        refine G_ior X dX0_putAt_45 ?_
        refine G_goto (tgt := 60) X dX0_putAt_46 (by decide) ?_
        obtain ⟨hc7, hf⟩ := ock hf
        refine M_iast X (show SH[b + 1]? = some (_, 40) from hb.2) hc7 dX0_putAt_60 ?_
        obtain rfl := Option.some.inj hf
        exact G_vret X hR rfl dX0_putAt_61
    · have hf := (if_neg hc2).symm.trans hf
      obtain rfl := Option.some.inj hf
      exact G_vret X hR rfl dX0_putAt_18

def f0_copyFrom (I : gI) (b : Nat) (b0 : Nat) : Option gI := some (uI (uC I (b + 1) (va_cpy (I (b0 + 1)) (I (b + 1)) 0 0 40)) b 1 ((uC I (b + 1) (va_cpy (I (b0 + 1)) (I (b + 1)) 0 0 40)) b0 1))
set_option maxRecDepth 100000 in
set_option maxHeartbeats 4000000 in
theorem f0_copyFrom_ok (E : gEnv) (I : gI) (b : Nat) (hb : isB b) (b0 : Nat) (hb0 : isB b0) (I' : gI) (hf : f0_copyFrom I b b0 = some I') : Ctr E yX0_copyFrom cX0_copyFrom 2 none 1 0 0 [vr b, vr b0] (mm I) (none) (mm I') := by
  refine Ctr.mk (by decide +kernel) (Nat.le_of_ble_eq_true rfl) fun κ X hR _ => ?_
  have X : Cx E κ cX0_copyFrom 2 RX0 none 1 0 0 := X
  show G E κ 0 0 0 [some (vr b), some (vr b0)] [] (mm I)
  unfold f0_copyFrom at hf
  refine G_aload_n (x := some (b0)) X dX0_copyFrom_0 rfl rfl ?_
  refine M_getR X fd_X0_9 rfl (show SH[b0]? = some (_, 0) from hb0.1) (isB_p hb0) dX0_copyFrom_1 ?_
  refine G_iconst (v := 0) X dX0_copyFrom_4 rfl ?_
  refine G_aload_n (x := some (b)) X dX0_copyFrom_5 rfl rfl ?_
  refine M_getR X fd_X0_9 rfl (show SH[b]? = some (_, 0) from hb.1) (isB_p hb) dX0_copyFrom_6 ?_
  refine G_iconst (v := 0) X dX0_copyFrom_9 rfl ?_
  refine G_bipush (v := 40) X dX0_copyFrom_10 rfl ?_
  refine M_copyi X ml_X0_23 na_ac st_ac in_sys hb0 hb (Nat.le_of_ble_eq_true rfl) (by decide) rfl dX0_copyFrom_12 ?_
  refine G_aload_n (x := some (b)) X dX0_copyFrom_15 rfl rfl ?_
  refine G_aload_n (x := some (b0)) X dX0_copyFrom_16 rfl rfl ?_
  refine M_getI X fd_X0_15 rfl (show SH[b0]? = some (_, 0) from hb0.1) dX0_copyFrom_17 ?_
  refine M_putI X fd_X0_15 rfl (show SH[b]? = some (_, 0) from hb.1) rfl rfl dX0_copyFrom_20 ?_
  obtain rfl := Option.some.inj hf
  exact G_vret X hR rfl dX0_copyFrom_23

def f0_maskBefore (a0 : Int32) (a1 : Int32) : Int32 := (1 <<< ((if 0 < (if (a0 - (a1 * 15)) < 15 then (a0 - (a1 * 15)) else 15) then (if (a0 - (a1 * 15)) < 15 then (a0 - (a1 * 15)) else 15) else 0) &&& 31)) - 1
set_option maxRecDepth 100000 in
set_option maxHeartbeats 4000000 in
theorem f0_maskBefore_ok (E : gEnv) (I : gI) (a0 : Int32) (a1 : Int32) (r : Int32) (hf : f0_maskBefore  a0 a1 = r) : Ctr E yX0_maskBefore cX0_maskBefore 3 (some .int) 1 0 0 [vi a0, vi a1] (mm I) (some (vi r)) (mm I) := by
  refine Ctr.mk (by decide +kernel) (Nat.le_of_ble_eq_true rfl) fun κ X hR _ => ?_
  have X : Cx E κ cX0_maskBefore 3 RX0 (some .int) 1 0 0 := X
  show G E κ 0 0 0 [some (vi a0), some (vi a1), none] [] (mm I)
  unfold f0_maskBefore at hf
  refine G_iconst (v := 0) X dX0_maskBefore_0 rfl ?_
  refine G_bipush (v := 15) X dX0_maskBefore_1 rfl ?_
  refine G_iload_n (x := a0) X dX0_maskBefore_3 rfl rfl ?_
  refine G_iload_n (x := a1) X dX0_maskBefore_4 rfl rfl ?_
  refine G_bipush (v := 15) X dX0_maskBefore_5 rfl ?_
  refine G_imul X dX0_maskBefore_7 ?_
  refine G_isub X dX0_maskBefore_8 ?_
  refine G_min X ml_X0_52 st_mmin in_math cd_mmin (Nat.le_of_ble_eq_true rfl) (by decide) rfl (Nat.le_refl _) (Nat.le_refl _) dX0_maskBefore_9 ?_
  refine G_max X ml_X0_41 st_mmax in_math cd_mmax (Nat.le_of_ble_eq_true rfl) (by decide) rfl (Nat.le_refl _) (Nat.le_refl _) dX0_maskBefore_12 ?_
  refine G_istore_n X dX0_maskBefore_15 rfl (Nat.le_of_ble_eq_true rfl) (ls' := [some (vi a0), some (vi a1), some (vi (if 0 < (if (a0 - (a1 * 15)) < 15 then (a0 - (a1 * 15)) else 15) then (if (a0 - (a1 * 15)) < 15 then (a0 - (a1 * 15)) else 15) else 0))]) rfl ?_
  refine G_iconst (v := 1) X dX0_maskBefore_16 rfl ?_
  refine G_iload_n (x := if 0 < (if (a0 - (a1 * 15)) < 15 then (a0 - (a1 * 15)) else 15) then (if (a0 - (a1 * 15)) < 15 then (a0 - (a1 * 15)) else 15) else 0) X dX0_maskBefore_17 rfl rfl ?_
  refine G_ishl X dX0_maskBefore_18 ?_
  refine G_iconst (v := 1) X dX0_maskBefore_19 rfl ?_
  refine G_isub X dX0_maskBefore_20 ?_
  subst hf
  exact G_iret X hR rfl rfl dX0_maskBefore_21

def f0_cutTo_L2 : Nat → gI → Nat → Int32 → Int32 → Option gI
  | 0, _, _, _, _ => none
  | k + 1, I, b0, x1, x2 => (if 40 ≤ x2 then some (uI I b0 1 x1) else if ib x2 40 = true then if ib x2 40 = true then f0_cutTo_L2 k (uI I (b0 + 1) x2.toNatClampNeg ((I (b0 + 1) (x2.toNatClampNeg)) &&& (f0_maskBefore x1 x2))) b0 x1 (x2 + 1) else none else none)
set_option maxRecDepth 100000 in
set_option maxHeartbeats 4000000 in
theorem f0_cutTo_L2_ok {E : gEnv} {κ : gCtx} (X : Cx E κ cX0_cutTo 3 RX0 none 2 0 0) : ∀ (k : Nat) (I : gI) (b0 : Nat) (hb0 : isB b0) (x1 : Int32) (x2 : Int32) (I' : gI) (hR : gRt E κ 0 0 (none) (mm I')) (hf : f0_cutTo_L2 k I b0 x1 x2 = some I'), G E κ 0 0 2 [some (vr b0), some (vi x1), some (vi x2)] [] (mm I) := by
  intro k
  induction k with
  | zero =>
    intros
    rename_i hf
    cases hf
  | succ k ih =>
    intro I b0 hb0 x1 x2 I' hR hf
    refine G_iload_n (x := x2) X dX0_cutTo_2 rfl rfl ?_
    refine G_aload_n (x := some (b0)) X dX0_cutTo_3 rfl rfl ?_
    refine M_getR X fd_X0_9 rfl (show SH[b0]? = some (_, 0) from hb0.1) (isB_p hb0) dX0_cutTo_4 ?_
    refine M_alen (v := 40) X (show SH[b0 + 1]? = some (_, 40) from hb0.2) (by decide) dX0_cutTo_7 rfl ?_
    refine G_icmp_ge (tgt := 31) X dX0_cutTo_8 (by decide) (fun hc1 => ?_) (fun hc1 => ?_)
    · have hf := (if_pos hc1).symm.trans hf
      refine G_aload_n (x := some (b0)) X dX0_cutTo_31 rfl rfl ?_
      refine G_iload_n (x := x1) X dX0_cutTo_32 rfl rfl ?_
      refine M_putI X fd_X0_15 rfl (show SH[b0]? = some (_, 0) from hb0.1) rfl rfl dX0_cutTo_33 ?_
      obtain rfl := Option.some.inj hf
      exact G_vret X hR rfl dX0_cutTo_36
    · have hf := (if_neg hc1).symm.trans hf
      refine G_aload_n (x := some (b0)) X dX0_cutTo_11 rfl rfl ?_
      refine M_getR X fd_X0_9 rfl (show SH[b0]? = some (_, 0) from hb0.1) (isB_p hb0) dX0_cutTo_12 ?_
      refine G_iload_n (x := x2) X dX0_cutTo_15 rfl rfl ?_
      refine G_dup2 X dX0_cutTo_16 ?_
      obtain ⟨hc2, hf⟩ := ock hf
      refine M_iald X (show SH[b0 + 1]? = some (_, 40) from hb0.2) hc2 dX0_cutTo_17 ?_
      refine G_iload_n (x := x1) X dX0_cutTo_18 rfl rfl ?_
      refine G_iload_n (x := x2) X dX0_cutTo_19 rfl rfl ?_
      refine G_callS (As := [vi x1, vi x2]) X (f0_maskBefore_ok E I x1 x2 _ rfl) cb_X0_29 st_X0_maskBefore rfl rfl (Nat.le_of_ble_eq_true rfl) (by decide) (by decide) rfl (Nat.le_refl _) (Nat.le_refl _) dX0_cutTo_20 ?_
      show G E κ _ _ _ [some (vr b0), some (vi x1), some (vi x2)] [vi (f0_maskBefore x1 x2), vi (I (b0 + 1) (x2.toNatClampNeg)), vi x2, vr (b0 + 1)] (mm I)
      refine G_iand X dX0_cutTo_23 ?_
      obtain ⟨hc3, hf⟩ := ock hf
      refine M_iast X (show SH[b0 + 1]? = some (_, 40) from hb0.2) hc3 dX0_cutTo_24 ?_
      refine G_iinc (x := x2) (v := 1) X dX0_cutTo_25 rfl rfl (ls' := [some (vr b0), some (vi x1), some (vi (x2 + 1))]) rfl ?_
      refine G_goto (tgt := 2) X dX0_cutTo_28 (by decide) ?_
      exact ih (uI I (b0 + 1) x2.toNatClampNeg ((I (b0 + 1) (x2.toNatClampNeg)) &&& (f0_maskBefore x1 x2))) b0 hb0 x1 (x2 + 1) _ hR hf

def f0_cutTo (I : gI) (b : Nat) (a0 : Int32) : Option gI := f0_cutTo_L2 FU I b a0 0
set_option maxRecDepth 100000 in
set_option maxHeartbeats 4000000 in
theorem f0_cutTo_ok (E : gEnv) (I : gI) (b : Nat) (hb : isB b) (a0 : Int32) (I' : gI) (hf : f0_cutTo I b a0 = some I') : Ctr E yX0_cutTo cX0_cutTo 3 none 2 0 0 [vr b, vi a0] (mm I) (none) (mm I') := by
  refine Ctr.mk (by decide +kernel) (Nat.le_of_ble_eq_true rfl) fun κ X hR _ => ?_
  have X : Cx E κ cX0_cutTo 3 RX0 none 2 0 0 := X
  show G E κ 0 0 0 [some (vr b), some (vi a0), none] [] (mm I)
  unfold f0_cutTo at hf
  refine G_iconst (v := 0) X dX0_cutTo_0 rfl ?_
  refine G_istore_n X dX0_cutTo_1 rfl (Nat.le_of_ble_eq_true rfl) (ls' := [some (vr b), some (vi a0), some (vi 0)]) rfl ?_
  exact f0_cutTo_L2_ok X FU I b hb a0 0 _ hR hf

def f0_addRun_L15 : Nat → gI → Nat → Int32 → Int32 → Option gI
  | 0, _, _, _, _ => none
  | k + 1, I, b0, x3, x4 => (if 40 ≤ x4 then some (uI I b0 1 x3) else if ib x4 40 = true then if ib x4 40 = true then f0_addRun_L15 k (uI I (b0 + 1) x4.toNatClampNeg ((I (b0 + 1) (x4.toNatClampNeg)) ||| ((f0_maskBefore x3 x4) &&& ((f0_maskBefore (I b0 1) x4) ^^^ ((-1)))))) b0 x3 (x4 + 1) else none else none)
set_option maxRecDepth 100000 in
set_option maxHeartbeats 4000000 in
theorem f0_addRun_L15_ok {E : gEnv} {κ : gCtx} (X : Cx E κ cX0_addRun 5 RX0 none 2 0 0) : ∀ (k : Nat) (I : gI) (b0 : Nat) (hb0 : isB b0) (x3 : Int32) (x4 : Int32) (I' : gI) (hR : gRt E κ 0 0 (none) (mm I')) (hf : f0_addRun_L15 k I b0 x3 x4 = some I'), G E κ 0 0 15 [some (vr b0), none, none, some (vi x3), some (vi x4)] [] (mm I) := by
  intro k
  induction k with
  | zero =>
    intros
    rename_i hf
    cases hf
  | succ k ih =>
    intro I b0 hb0 x3 x4 I' hR hf
    refine G_iload (x := x4) X dX0_addRun_15 rfl ?_
    refine G_aload_n (x := some (b0)) X dX0_addRun_17 rfl rfl ?_
    refine M_getR X fd_X0_9 rfl (show SH[b0]? = some (_, 0) from hb0.1) (isB_p hb0) dX0_addRun_18 ?_
    refine M_alen (v := 40) X (show SH[b0 + 1]? = some (_, 40) from hb0.2) (by decide) dX0_addRun_21 rfl ?_
    refine G_icmp_ge (tgt := 59) X dX0_addRun_22 (by decide) (fun hc2 => ?_) (fun hc2 => ?_)
    · have hf := (if_pos hc2).symm.trans hf
      refine G_aload_n (x := some (b0)) X dX0_addRun_59 rfl rfl ?_
      refine G_iload_n (x := x3) X dX0_addRun_60 rfl rfl ?_
      refine M_putI X fd_X0_15 rfl (show SH[b0]? = some (_, 0) from hb0.1) rfl rfl dX0_addRun_61 ?_
      obtain rfl := Option.some.inj hf
      exact G_vret X hR rfl dX0_addRun_64
    · have hf := (if_neg hc2).symm.trans hf
      refine G_aload_n (x := some (b0)) X dX0_addRun_25 rfl rfl ?_
      refine M_getR X fd_X0_9 rfl (show SH[b0]? = some (_, 0) from hb0.1) (isB_p hb0) dX0_addRun_26 ?_
      refine G_iload (x := x4) X dX0_addRun_29 rfl ?_
      refine G_dup2 X dX0_addRun_31 ?_
      obtain ⟨hc3, hf⟩ := ock hf
      refine M_iald X (show SH[b0 + 1]? = some (_, 40) from hb0.2) hc3 dX0_addRun_32 ?_
      refine G_iload_n (x := x3) X dX0_addRun_33 rfl rfl ?_
      refine G_iload (x := x4) X dX0_addRun_34 rfl ?_
      refine G_callS (As := [vi x3, vi x4]) X (f0_maskBefore_ok E I x3 x4 _ rfl) cb_X0_29 st_X0_maskBefore rfl rfl (Nat.le_of_ble_eq_true rfl) (by decide) (by decide) rfl (Nat.le_refl _) (Nat.le_refl _) dX0_addRun_36 ?_
      show G E κ _ _ _ [some (vr b0), none, none, some (vi x3), some (vi x4)] [vi (f0_maskBefore x3 x4), vi (I (b0 + 1) (x4.toNatClampNeg)), vi x4, vr (b0 + 1)] (mm I)
      refine G_aload_n (x := some (b0)) X dX0_addRun_39 rfl rfl ?_
      refine M_getI X fd_X0_15 rfl (show SH[b0]? = some (_, 0) from hb0.1) dX0_addRun_40 ?_
      refine G_iload (x := x4) X dX0_addRun_43 rfl ?_
      refine G_callS (As := [vi (I b0 1), vi x4]) X (f0_maskBefore_ok E I (I b0 1) x4 _ rfl) cb_X0_29 st_X0_maskBefore rfl rfl (Nat.le_of_ble_eq_true rfl) (by decide) (by decide) rfl (Nat.le_refl _) (Nat.le_refl _) dX0_addRun_45 ?_
      show G E κ _ _ _ [some (vr b0), none, none, some (vi x3), some (vi x4)] [vi (f0_maskBefore (I b0 1) x4), vi (f0_maskBefore x3 x4), vi (I (b0 + 1) (x4.toNatClampNeg)), vi x4, vr (b0 + 1)] (mm I)
      refine G_iconst (v := (-1)) X dX0_addRun_48 rfl ?_
      refine G_ixor X dX0_addRun_49 ?_
      refine G_iand X dX0_addRun_50 ?_
      refine G_ior X dX0_addRun_51 ?_
      obtain ⟨hc4, hf⟩ := ock hf
      refine M_iast X (show SH[b0 + 1]? = some (_, 40) from hb0.2) hc4 dX0_addRun_52 ?_
      refine G_iinc (x := x4) (v := 1) X dX0_addRun_53 rfl rfl (ls' := [some (vr b0), none, none, some (vi x3), some (vi (x4 + 1))]) rfl ?_
      refine G_goto (tgt := 15) X dX0_addRun_56 (by decide) ?_
      exact ih (uI I (b0 + 1) x4.toNatClampNeg ((I (b0 + 1) (x4.toNatClampNeg)) ||| ((f0_maskBefore x3 x4) &&& ((f0_maskBefore (I b0 1) x4) ^^^ ((-1)))))) b0 hb0 x3 (x4 + 1) _ hR hf

def f0_addRun (I : gI) (b : Nat) (a0 : Int32) (a1 : Int32) : Option gI := (if a0 = 1 then f0_addRun_L15 FU I b ((I b 1) + a1) 0 else some (uI I b 1 ((I b 1) + a1)))
set_option maxRecDepth 100000 in
set_option maxHeartbeats 4000000 in
theorem f0_addRun_ok (E : gEnv) (I : gI) (b : Nat) (hb : isB b) (a0 : Int32) (a1 : Int32) (I' : gI) (hf : f0_addRun I b a0 a1 = some I') : Ctr E yX0_addRun cX0_addRun 5 none 2 0 0 [vr b, vi a0, vi a1] (mm I) (none) (mm I') := by
  refine Ctr.mk (by decide +kernel) (Nat.le_of_ble_eq_true rfl) fun κ X hR _ => ?_
  have X : Cx E κ cX0_addRun 5 RX0 none 2 0 0 := X
  show G E κ 0 0 0 [some (vr b), some (vi a0), some (vi a1), none, none] [] (mm I)
  unfold f0_addRun at hf
  refine G_aload_n (x := some (b)) X dX0_addRun_0 rfl rfl ?_
  refine M_getI X fd_X0_15 rfl (show SH[b]? = some (_, 0) from hb.1) dX0_addRun_1 ?_
  refine G_iload_n (x := a1) X dX0_addRun_4 rfl rfl ?_
  refine G_iadd X dX0_addRun_5 ?_
  refine G_istore_n X dX0_addRun_6 rfl (Nat.le_of_ble_eq_true rfl) (ls' := [some (vr b), some (vi a0), some (vi a1), some (vi ((I b 1) + a1)), none]) rfl ?_
  refine G_iload_n (x := a0) X dX0_addRun_7 rfl rfl ?_
  refine G_iconst (v := 1) X dX0_addRun_8 rfl ?_
  refine G_icmp_ne (tgt := 59) X dX0_addRun_9 (by decide) (fun hc1 => ?_) (fun hc1 => ?_)
  · have hf := (if_neg hc1).symm.trans hf
    refine G_aload_n (x := some (b)) X dX0_addRun_59 rfl rfl ?_
    refine G_iload_n (x := (I b 1) + a1) X dX0_addRun_60 rfl rfl ?_
    refine M_putI X fd_X0_15 rfl (show SH[b]? = some (_, 0) from hb.1) rfl rfl dX0_addRun_61 ?_
    obtain rfl := Option.some.inj hf
    exact G_vret X hR rfl dX0_addRun_64
  · have hf := (if_pos hc1).symm.trans hf
    refine G_iconst (v := 0) X dX0_addRun_12 rfl ?_
    refine G_istore X dX0_addRun_13 (Nat.le_of_ble_eq_true rfl) (ls' := [some (vr b), some (vi a0), some (vi a1), some (vi ((I b 1) + a1)), some (vi 0)]) rfl ?_
    refine G_weakL (ls' := [some (vr b), none, none, some (vi ((I b 1) + a1)), some (vi 0)]) ⟨Or.inr rfl, ⟨Or.inl rfl, ⟨Or.inl rfl, ⟨Or.inr rfl, ⟨Or.inr rfl, trivial⟩⟩⟩⟩⟩ ?_
    exact f0_addRun_L15_ok X FU I b hb ((I b 1) + a1) 0 _ hR hf

def f0_addNumber_L2 : Nat → gI → Nat → Int32 → Int32 → Int32 → Option gI
  | 0, _, _, _, _, _ => none
  | k + 1, I, b0, x1, x2, x3 => (if x2 ≤ x3 then some (uI I b0 1 ((I b0 1) + x2)) else (f0_putAt I b0 ((I b0 1) + x3) ((x1 >>> (x3 &&& 31)) &&& 1)).bind fun I2 => f0_addNumber_L2 k I2 b0 x1 x2 (x3 + 1))
set_option maxRecDepth 100000 in
set_option maxHeartbeats 4000000 in
theorem f0_addNumber_L2_ok {E : gEnv} {κ : gCtx} (X : Cx E κ cX0_addNumber 4 RX0 none 1 0 0) : ∀ (k : Nat) (I : gI) (b0 : Nat) (hb0 : isB b0) (x1 : Int32) (x2 : Int32) (x3 : Int32) (I' : gI) (hR : gRt E κ 0 0 (none) (mm I')) (hf : f0_addNumber_L2 k I b0 x1 x2 x3 = some I'), G E κ 0 0 2 [some (vr b0), some (vi x1), some (vi x2), some (vi x3)] [] (mm I) := by
  intro k
  induction k with
  | zero =>
    intros
    rename_i hf
    cases hf
  | succ k ih =>
    intro I b0 hb0 x1 x2 x3 I' hR hf
    refine G_iload_n (x := x3) X dX0_addNumber_2 rfl rfl ?_
    refine G_iload_n (x := x2) X dX0_addNumber_3 rfl rfl ?_
    refine G_icmp_ge (tgt := 28) X dX0_addNumber_4 (by decide) (fun hc1 => ?_) (fun hc1 => ?_)
    · have hf := (if_pos hc1).symm.trans hf
      refine G_aload_n (x := some (b0)) X dX0_addNumber_28 rfl rfl ?_
      refine G_dup X dX0_addNumber_29 ?_
      refine M_getI X fd_X0_15 rfl (show SH[b0]? = some (_, 0) from hb0.1) dX0_addNumber_30 ?_
      refine G_iload_n (x := x2) X dX0_addNumber_33 rfl rfl ?_
      refine G_iadd X dX0_addNumber_34 ?_
      refine M_putI X fd_X0_15 rfl (show SH[b0]? = some (_, 0) from hb0.1) rfl rfl dX0_addNumber_35 ?_
      obtain rfl := Option.some.inj hf
      exact G_vret X hR rfl dX0_addNumber_38
    · have hf := (if_neg hc1).symm.trans hf
      refine G_aload_n (x := some (b0)) X dX0_addNumber_7 rfl rfl ?_
      refine G_aload_n (x := some (b0)) X dX0_addNumber_8 rfl rfl ?_
      refine M_getI X fd_X0_15 rfl (show SH[b0]? = some (_, 0) from hb0.1) dX0_addNumber_9 ?_
      refine G_iload_n (x := x3) X dX0_addNumber_12 rfl rfl ?_
      refine G_iadd X dX0_addNumber_13 ?_
      refine G_iload_n (x := x1) X dX0_addNumber_14 rfl rfl ?_
      refine G_iload_n (x := x3) X dX0_addNumber_15 rfl rfl ?_
      refine G_ishr X dX0_addNumber_16 ?_
      refine G_iconst (v := 1) X dX0_addNumber_17 rfl ?_
      refine G_iand X dX0_addNumber_18 ?_
      obtain ⟨I2, hk2, hf⟩ := obd hf
      refine G_callV (As := [vi ((I b0 1) + x3), vi ((x1 >>> (x3 &&& 31)) &&& 1)]) X (f0_putAt_ok E I b0 hb0 ((I b0 1) + x3) ((x1 >>> (x3 &&& 31)) &&& 1) I2 hk2) cb_X0_33 vi_X0_putAt (ci := 0) rfl rfl (show SH[b0]? = some (_, 0) from hb0.1) rfl rfl (Nat.le_of_ble_eq_true rfl) (by decide) (by decide) rfl (Nat.le_refl _) (Nat.le_refl _) dX0_addNumber_19 ?_
      show G E κ _ _ _ [some (vr b0), some (vi x1), some (vi x2), some (vi x3)] [] (mm I2)
      refine G_iinc (x := x3) (v := 1) X dX0_addNumber_22 rfl rfl (ls' := [some (vr b0), some (vi x1), some (vi x2), some (vi (x3 + 1))]) rfl ?_
      refine G_goto (tgt := 2) X dX0_addNumber_25 (by decide) ?_
      exact ih I2 b0 hb0 x1 x2 (x3 + 1) _ hR hf

def f0_addNumber (I : gI) (b : Nat) (a0 : Int32) (a1 : Int32) : Option gI := f0_addNumber_L2 FU I b a0 a1 0
set_option maxRecDepth 100000 in
set_option maxHeartbeats 4000000 in
theorem f0_addNumber_ok (E : gEnv) (I : gI) (b : Nat) (hb : isB b) (a0 : Int32) (a1 : Int32) (I' : gI) (hf : f0_addNumber I b a0 a1 = some I') : Ctr E yX0_addNumber cX0_addNumber 4 none 1 0 0 [vr b, vi a0, vi a1] (mm I) (none) (mm I') := by
  refine Ctr.mk (by decide +kernel) (Nat.le_of_ble_eq_true rfl) fun κ X hR _ => ?_
  have X : Cx E κ cX0_addNumber 4 RX0 none 1 0 0 := X
  show G E κ 0 0 0 [some (vr b), some (vi a0), some (vi a1), none] [] (mm I)
  unfold f0_addNumber at hf
  refine G_iconst (v := 0) X dX0_addNumber_0 rfl ?_
  refine G_istore_n X dX0_addNumber_1 rfl (Nat.le_of_ble_eq_true rfl) (ls' := [some (vr b), some (vi a0), some (vi a1), some (vi 0)]) rfl ?_
  exact f0_addNumber_L2_ok X FU I b hb a0 a1 0 _ hR hf

def f0_invert_L2 : Nat → gI → Nat → Int32 → Option gI
  | 0, _, _, _ => none
  | k + 1, I, b0, x1 => (if 40 ≤ x1 then some I else if ib x1 40 = true then if ib x1 40 = true then f0_invert_L2 k (uI I (b0 + 1) x1.toNatClampNeg ((I (b0 + 1) (x1.toNatClampNeg)) ^^^ (f0_maskBefore (I b0 1) x1))) b0 (x1 + 1) else none else none)
set_option maxRecDepth 100000 in
set_option maxHeartbeats 4000000 in
theorem f0_invert_L2_ok {E : gEnv} {κ : gCtx} (X : Cx E κ cX0_invert 2 RX0 none 2 0 0) : ∀ (k : Nat) (I : gI) (b0 : Nat) (hb0 : isB b0) (x1 : Int32) (I' : gI) (hR : gRt E κ 0 0 (none) (mm I')) (hf : f0_invert_L2 k I b0 x1 = some I'), G E κ 0 0 2 [some (vr b0), some (vi x1)] [] (mm I) := by
  intro k
  induction k with
  | zero =>
    intros
    rename_i hf
    cases hf
  | succ k ih =>
    intro I b0 hb0 x1 I' hR hf
    refine G_iload_n (x := x1) X dX0_invert_2 rfl rfl ?_
    refine G_aload_n (x := some (b0)) X dX0_invert_3 rfl rfl ?_
    refine M_getR X fd_X0_9 rfl (show SH[b0]? = some (_, 0) from hb0.1) (isB_p hb0) dX0_invert_4 ?_
    refine M_alen (v := 40) X (show SH[b0 + 1]? = some (_, 40) from hb0.2) (by decide) dX0_invert_7 rfl ?_
    refine G_icmp_ge (tgt := 34) X dX0_invert_8 (by decide) (fun hc1 => ?_) (fun hc1 => ?_)
    · have hf := (if_pos hc1).symm.trans hf
      obtain rfl := Option.some.inj hf
      exact G_vret X hR rfl dX0_invert_34
    · have hf := (if_neg hc1).symm.trans hf
      refine G_aload_n (x := some (b0)) X dX0_invert_11 rfl rfl ?_
      refine M_getR X fd_X0_9 rfl (show SH[b0]? = some (_, 0) from hb0.1) (isB_p hb0) dX0_invert_12 ?_
      refine G_iload_n (x := x1) X dX0_invert_15 rfl rfl ?_
      refine G_dup2 X dX0_invert_16 ?_
      obtain ⟨hc2, hf⟩ := ock hf
      refine M_iald X (show SH[b0 + 1]? = some (_, 40) from hb0.2) hc2 dX0_invert_17 ?_
      refine G_aload_n (x := some (b0)) X dX0_invert_18 rfl rfl ?_
      refine M_getI X fd_X0_15 rfl (show SH[b0]? = some (_, 0) from hb0.1) dX0_invert_19 ?_
      refine G_iload_n (x := x1) X dX0_invert_22 rfl rfl ?_
      refine G_callS (As := [vi (I b0 1), vi x1]) X (f0_maskBefore_ok E I (I b0 1) x1 _ rfl) cb_X0_29 st_X0_maskBefore rfl rfl (Nat.le_of_ble_eq_true rfl) (by decide) (by decide) rfl (Nat.le_refl _) (Nat.le_refl _) dX0_invert_23 ?_
      show G E κ _ _ _ [some (vr b0), some (vi x1)] [vi (f0_maskBefore (I b0 1) x1), vi (I (b0 + 1) (x1.toNatClampNeg)), vi x1, vr (b0 + 1)] (mm I)
      refine G_ixor X dX0_invert_26 ?_
      obtain ⟨hc3, hf⟩ := ock hf
      refine M_iast X (show SH[b0 + 1]? = some (_, 40) from hb0.2) hc3 dX0_invert_27 ?_
      refine G_iinc (x := x1) (v := 1) X dX0_invert_28 rfl rfl (ls' := [some (vr b0), some (vi (x1 + 1))]) rfl ?_
      refine G_goto (tgt := 2) X dX0_invert_31 (by decide) ?_
      exact ih (uI I (b0 + 1) x1.toNatClampNeg ((I (b0 + 1) (x1.toNatClampNeg)) ^^^ (f0_maskBefore (I b0 1) x1))) b0 hb0 (x1 + 1) _ hR hf

def f0_invert (I : gI) (b : Nat) : Option gI := f0_invert_L2 FU I b 0
set_option maxRecDepth 100000 in
set_option maxHeartbeats 4000000 in
theorem f0_invert_ok (E : gEnv) (I : gI) (b : Nat) (hb : isB b) (I' : gI) (hf : f0_invert I b = some I') : Ctr E yX0_invert cX0_invert 2 none 2 0 0 [vr b] (mm I) (none) (mm I') := by
  refine Ctr.mk (by decide +kernel) (Nat.le_of_ble_eq_true rfl) fun κ X hR _ => ?_
  have X : Cx E κ cX0_invert 2 RX0 none 2 0 0 := X
  show G E κ 0 0 0 [some (vr b), none] [] (mm I)
  unfold f0_invert at hf
  refine G_iconst (v := 0) X dX0_invert_0 rfl ?_
  refine G_istore_n X dX0_invert_1 rfl (Nat.le_of_ble_eq_true rfl) (ls' := [some (vr b), some (vi 0)]) rfl ?_
  exact f0_invert_L2_ok X FU I b hb 0 _ hR hf

def f0_combined (a0 : Int32) (a1 : Int32) (a2 : Int32) : Int32 := (if a0 = 0 then a1 &&& a2 else (if a0 = 1 then a1 ||| a2 else (if a0 = 2 then a1 &&& (a2 ^^^ ((-1))) else a1 ^^^ a2)))
set_option maxRecDepth 100000 in
set_option maxHeartbeats 4000000 in
theorem f0_combined_ok (E : gEnv) (I : gI) (a0 : Int32) (a1 : Int32) (a2 : Int32) (r : Int32) (hf : f0_combined  a0 a1 a2 = r) : Ctr E yX0_combined cX0_combined 3 (some .int) 0 0 0 [vi a0, vi a1, vi a2] (mm I) (some (vi r)) (mm I) := by
  refine Ctr.mk (by decide +kernel) (Nat.le_of_ble_eq_true rfl) fun κ X hR _ => ?_
  have X : Cx E κ cX0_combined 3 RX0 (some .int) 0 0 0 := X
  show G E κ 0 0 0 [some (vi a0), some (vi a1), some (vi a2)] [] (mm I)
  unfold f0_combined at hf
  refine G_iload_n (x := a0) X dX0_combined_0 rfl rfl ?_
  by_cases hc1 : a0 = 0
  · have hf := (if_pos hc1).symm.trans hf
    refine G_tableJ (tgt := 28) X 0 dX0_combined_1 hc1 (by decide) (by decide) rfl (by decide) ?_
    refine G_iload_n (x := a1) X dX0_combined_28 rfl rfl ?_
    refine G_iload_n (x := a2) X dX0_combined_29 rfl rfl ?_
    refine G_iand X dX0_combined_30 ?_
    subst hf
    exact G_iret X hR rfl rfl dX0_combined_31
  have hf := (if_neg hc1).symm.trans hf
  by_cases hc2 : a0 = 1
  · have hf := (if_pos hc2).symm.trans hf
    refine G_tableJ (tgt := 32) X 1 dX0_combined_1 hc2 (by decide) (by decide) rfl (by decide) ?_
    refine G_iload_n (x := a1) X dX0_combined_32 rfl rfl ?_
    refine G_iload_n (x := a2) X dX0_combined_33 rfl rfl ?_
    refine G_ior X dX0_combined_34 ?_
    subst hf
    exact G_iret X hR rfl rfl dX0_combined_35
  have hf := (if_neg hc2).symm.trans hf
  by_cases hc3 : a0 = 2
  · have hf := (if_pos hc3).symm.trans hf
    refine G_tableJ (tgt := 36) X 2 dX0_combined_1 hc3 (by decide) (by decide) rfl (by decide) ?_
    refine G_iload_n (x := a1) X dX0_combined_36 rfl rfl ?_
    refine G_iload_n (x := a2) X dX0_combined_37 rfl rfl ?_
    refine G_iconst (v := (-1)) X dX0_combined_38 rfl ?_
    refine G_ixor X dX0_combined_39 ?_
    refine G_iand X dX0_combined_40 ?_
    subst hf
    exact G_iret X hR rfl rfl dX0_combined_41
  have hf := (if_neg hc3).symm.trans hf
  refine G_tableD (tgt := 42) X 3 dX0_combined_1 (by decide) (lt_s (lt_s (lt_s lt_0 hc1) hc2) hc3) (by decide) ?_
  refine G_iload_n (x := a1) X dX0_combined_42 rfl rfl ?_
  refine G_iload_n (x := a2) X dX0_combined_43 rfl rfl ?_
  refine G_ixor X dX0_combined_44 ?_
  subst hf
  exact G_iret X hR rfl rfl dX0_combined_45

def f0_combine_L3 : Nat → gI → Nat → Int32 → Nat → Nat → Int32 → Option gI
  | 0, _, _, _, _, _, _ => none
  | k + 1, I, b0, x1, b2, b3, x4 => (if 40 ≤ x4 then some (uI I b0 1 (if (I b2 1) < (I b3 1) then (I b3 1) else (I b2 1))) else (f0_groupAt I b2 x4).bind fun v2 => (f0_groupAt I b3 x4).bind fun v3 => if ib x4 40 = true then f0_combine_L3 k (uI I (b0 + 1) x4.toNatClampNeg (f0_combined x1 v2 v3)) b0 x1 b2 b3 (x4 + 1) else none)
set_option maxRecDepth 100000 in
set_option maxHeartbeats 4000000 in
theorem f0_combine_L3_ok {E : gEnv} {κ : gCtx} (X : Cx E κ cX0_combine 5 RX0 none 1 0 0) : ∀ (k : Nat) (I : gI) (b0 : Nat) (hb0 : isB b0) (x1 : Int32) (b2 : Nat) (hb2 : isB b2) (b3 : Nat) (hb3 : isB b3) (x4 : Int32) (I' : gI) (hR : gRt E κ 0 0 (none) (mm I')) (hf : f0_combine_L3 k I b0 x1 b2 b3 x4 = some I'), G E κ 0 0 3 [some (vr b0), some (vi x1), some (vr b2), some (vr b3), some (vi x4)] [] (mm I) := by
  intro k
  induction k with
  | zero =>
    intros
    rename_i hf
    cases hf
  | succ k ih =>
    intro I b0 hb0 x1 b2 hb2 b3 hb3 x4 I' hR hf
    refine G_iload (x := x4) X dX0_combine_3 rfl ?_
    refine G_aload_n (x := some (b0)) X dX0_combine_5 rfl rfl ?_
    refine M_getR X fd_X0_9 rfl (show SH[b0]? = some (_, 0) from hb0.1) (isB_p hb0) dX0_combine_6 ?_
    refine M_alen (v := 40) X (show SH[b0 + 1]? = some (_, 40) from hb0.2) (by decide) dX0_combine_9 rfl ?_
    refine G_icmp_ge (tgt := 42) X dX0_combine_10 (by decide) (fun hc1 => ?_) (fun hc1 => ?_)
    · have hf := (if_pos hc1).symm.trans hf
      refine G_aload_n (x := some (b0)) X dX0_combine_42 rfl rfl ?_
      refine G_aload_n (x := some (b2)) X dX0_combine_43 rfl rfl ?_
      refine M_getI X fd_X0_15 rfl (show SH[b2]? = some (_, 0) from hb2.1) dX0_combine_44 ?_
      refine G_aload_n (x := some (b3)) X dX0_combine_47 rfl rfl ?_
      refine M_getI X fd_X0_15 rfl (show SH[b3]? = some (_, 0) from hb3.1) dX0_combine_48 ?_
      refine G_max X ml_X0_41 st_mmax in_math cd_mmax (Nat.le_of_ble_eq_true rfl) (by decide) rfl (Nat.le_refl _) (Nat.le_refl _) dX0_combine_51 ?_
      refine M_putI X fd_X0_15 rfl (show SH[b0]? = some (_, 0) from hb0.1) rfl rfl dX0_combine_54 ?_
      obtain rfl := Option.some.inj hf
      exact G_vret X hR rfl dX0_combine_57
    · have hf := (if_neg hc1).symm.trans hf
      refine G_aload_n (x := some (b0)) X dX0_combine_13 rfl rfl ?_
      refine M_getR X fd_X0_9 rfl (show SH[b0]? = some (_, 0) from hb0.1) (isB_p hb0) dX0_combine_14 ?_
      refine G_iload (x := x4) X dX0_combine_17 rfl ?_
      refine G_iload_n (x := x1) X dX0_combine_19 rfl rfl ?_
      refine G_aload_n (x := some (b2)) X dX0_combine_20 rfl rfl ?_
      refine G_iload (x := x4) X dX0_combine_21 rfl ?_
      obtain ⟨v2, hk2, hf⟩ := obd hf
      refine G_callV (As := [vi x4]) X (f0_groupAt_ok E I b2 hb2 x4 v2 hk2) cb_X0_19 vi_X0_groupAt (ci := 0) rfl rfl (show SH[b2]? = some (_, 0) from hb2.1) rfl rfl (Nat.le_of_ble_eq_true rfl) (by decide) (by decide) rfl (Nat.le_refl _) (Nat.le_refl _) dX0_combine_23 ?_
      show G E κ _ _ _ [some (vr b0), some (vi x1), some (vr b2), some (vr b3), some (vi x4)] [vi v2, vi x1, vi x4, vr (b0 + 1)] (mm I)
      refine G_aload_n (x := some (b3)) X dX0_combine_26 rfl rfl ?_
      refine G_iload (x := x4) X dX0_combine_27 rfl ?_
      obtain ⟨v3, hk3, hf⟩ := obd hf
      refine G_callV (As := [vi x4]) X (f0_groupAt_ok E I b3 hb3 x4 v3 hk3) cb_X0_19 vi_X0_groupAt (ci := 0) rfl rfl (show SH[b3]? = some (_, 0) from hb3.1) rfl rfl (Nat.le_of_ble_eq_true rfl) (by decide) (by decide) rfl (Nat.le_refl _) (Nat.le_refl _) dX0_combine_29 ?_
      show G E κ _ _ _ [some (vr b0), some (vi x1), some (vr b2), some (vr b3), some (vi x4)] [vi v3, vi v2, vi x1, vi x4, vr (b0 + 1)] (mm I)
      refine G_callS (As := [vi x1, vi v2, vi v3]) X (f0_combined_ok E I x1 v2 v3 _ rfl) cb_X0_37 st_X0_combined rfl rfl (Nat.le_of_ble_eq_true rfl) (by decide) (by decide) rfl (Nat.le_refl _) (Nat.le_refl _) dX0_combine_32 ?_
      show G E κ _ _ _ [some (vr b0), some (vi x1), some (vr b2), some (vr b3), some (vi x4)] [vi (f0_combined x1 v2 v3), vi x4, vr (b0 + 1)] (mm I)
      obtain ⟨hc4, hf⟩ := ock hf
      refine M_iast X (show SH[b0 + 1]? = some (_, 40) from hb0.2) hc4 dX0_combine_35 ?_
      refine G_iinc (x := x4) (v := 1) X dX0_combine_36 rfl rfl (ls' := [some (vr b0), some (vi x1), some (vr b2), some (vr b3), some (vi (x4 + 1))]) rfl ?_
      refine G_goto (tgt := 3) X dX0_combine_39 (by decide) ?_
      exact ih (uI I (b0 + 1) x4.toNatClampNeg (f0_combined x1 v2 v3)) b0 hb0 x1 b2 hb2 b3 hb3 (x4 + 1) _ hR hf

def f0_combine (I : gI) (b : Nat) (a0 : Int32) (b1 : Nat) (b2 : Nat) : Option gI := f0_combine_L3 FU I b a0 b1 b2 0
set_option maxRecDepth 100000 in
set_option maxHeartbeats 4000000 in
theorem f0_combine_ok (E : gEnv) (I : gI) (b : Nat) (hb : isB b) (a0 : Int32) (b1 : Nat) (hb1 : isB b1) (b2 : Nat) (hb2 : isB b2) (I' : gI) (hf : f0_combine I b a0 b1 b2 = some I') : Ctr E yX0_combine cX0_combine 5 none 1 0 0 [vr b, vi a0, vr b1, vr b2] (mm I) (none) (mm I') := by
  refine Ctr.mk (by decide +kernel) (Nat.le_of_ble_eq_true rfl) fun κ X hR _ => ?_
  have X : Cx E κ cX0_combine 5 RX0 none 1 0 0 := X
  show G E κ 0 0 0 [some (vr b), some (vi a0), some (vr b1), some (vr b2), none] [] (mm I)
  unfold f0_combine at hf
  refine G_iconst (v := 0) X dX0_combine_0 rfl ?_
  refine G_istore X dX0_combine_1 (Nat.le_of_ble_eq_true rfl) (ls' := [some (vr b), some (vi a0), some (vr b1), some (vr b2), some (vi 0)]) rfl ?_
  exact f0_combine_L3_ok X FU I b hb a0 b1 hb1 b2 hb2 0 _ hR hf

def f0_moveFrom_L18 : Nat → gI → Nat → Nat → Int32 → Int32 → Int32 → Int32 → Option gI
  | 0, _, _, _, _, _, _, _ => none
  | k + 1, I, b0, b1, x2, x3, x4, x5 => (if 40 ≤ x5 then some (uI I b0 1 (if 0 < (if ((I b1 1) + x2) < 600 then ((I b1 1) + x2) else 600) then (if ((I b1 1) + x2) < 600 then ((I b1 1) + x2) else 600) else 0)) else (f0_groupAt I b1 (x5 - x3)).bind fun v4 => (f0_groupAt I b1 ((x5 - x3) - 1)).bind fun v5 => if ib x5 40 = true then f0_moveFrom_L18 k (uI I (b0 + 1) x5.toNatClampNeg (((v4 <<< (x4 &&& 31)) ||| (v5 >>> ((15 - x4) &&& 31))) &&& 32767)) b0 b1 x2 x3 x4 (x5 + 1) else none)
set_option maxRecDepth 100000 in
set_option maxHeartbeats 4000000 in
theorem f0_moveFrom_L18_ok {E : gEnv} {κ : gCtx} (X : Cx E κ cX0_moveFrom 8 RX0 none 1 0 0) : ∀ (k : Nat) (I : gI) (b0 : Nat) (hb0 : isB b0) (b1 : Nat) (hb1 : isB b1) (x2 : Int32) (x3 : Int32) (x4 : Int32) (x5 : Int32) (I' : gI) (hR : gRt E κ 0 0 (none) (mm I')) (hf : f0_moveFrom_L18 k I b0 b1 x2 x3 x4 x5 = some I'), G E κ 0 0 18 [some (vr b0), some (vr b1), some (vi x2), some (vi x3), some (vi x4), some (vi x5), none, none] [] (mm I) := by
  intro k
  induction k with
  | zero =>
    intros
    rename_i hf
    cases hf
  | succ k ih =>
    intro I b0 hb0 b1 hb1 x2 x3 x4 x5 I' hR hf
    refine G_iload (x := x5) X dX0_moveFrom_18 rfl ?_
    refine G_aload_n (x := some (b0)) X dX0_moveFrom_20 rfl rfl ?_
    refine M_getR X fd_X0_9 rfl (show SH[b0]? = some (_, 0) from hb0.1) (isB_p hb0) dX0_moveFrom_21 ?_
    refine M_alen (v := 40) X (show SH[b0 + 1]? = some (_, 40) from hb0.2) (by decide) dX0_moveFrom_24 rfl ?_
    refine G_icmp_ge (tgt := 81) X dX0_moveFrom_25 (by decide) (fun hc3 => ?_) (fun hc3 => ?_)
    · have hf := (if_pos hc3).symm.trans hf
      refine G_aload_n (x := some (b0)) X dX0_moveFrom_81 rfl rfl ?_
      refine G_iconst (v := 0) X dX0_moveFrom_82 rfl ?_
      refine G_sipush (v := 600) X dX0_moveFrom_83 rfl ?_
      refine G_aload_n (x := some (b1)) X dX0_moveFrom_86 rfl rfl ?_
      refine M_getI X fd_X0_15 rfl (show SH[b1]? = some (_, 0) from hb1.1) dX0_moveFrom_87 ?_
      refine G_iload_n (x := x2) X dX0_moveFrom_90 rfl rfl ?_
      refine G_iadd X dX0_moveFrom_91 ?_
      refine G_min X ml_X0_52 st_mmin in_math cd_mmin (Nat.le_of_ble_eq_true rfl) (by decide) rfl (Nat.le_refl _) (Nat.le_refl _) dX0_moveFrom_92 ?_
      refine G_max X ml_X0_41 st_mmax in_math cd_mmax (Nat.le_of_ble_eq_true rfl) (by decide) rfl (Nat.le_refl _) (Nat.le_refl _) dX0_moveFrom_95 ?_
      refine M_putI X fd_X0_15 rfl (show SH[b0]? = some (_, 0) from hb0.1) rfl rfl dX0_moveFrom_98 ?_
      obtain rfl := Option.some.inj hf
      exact G_vret X hR rfl dX0_moveFrom_101
    · have hf := (if_neg hc3).symm.trans hf
      refine G_aload_n (x := some (b1)) X dX0_moveFrom_28 rfl rfl ?_
      refine G_iload (x := x5) X dX0_moveFrom_29 rfl ?_
      refine G_iload_n (x := x3) X dX0_moveFrom_31 rfl rfl ?_
      refine G_isub X dX0_moveFrom_32 ?_
      obtain ⟨v4, hk4, hf⟩ := obd hf
      refine G_callV (As := [vi (x5 - x3)]) X (f0_groupAt_ok E I b1 hb1 (x5 - x3) v4 hk4) cb_X0_19 vi_X0_groupAt (ci := 0) rfl rfl (show SH[b1]? = some (_, 0) from hb1.1) rfl rfl (Nat.le_of_ble_eq_true rfl) (by decide) (by decide) rfl (Nat.le_refl _) (Nat.le_refl _) dX0_moveFrom_33 ?_
      show G E κ _ _ _ [some (vr b0), some (vr b1), some (vi x2), some (vi x3), some (vi x4), some (vi x5), none, none] [vi v4] (mm I)
      refine G_iload (x := x4) X dX0_moveFrom_36 rfl ?_
      refine G_ishl X dX0_moveFrom_38 ?_
      refine G_istore X dX0_moveFrom_39 (Nat.le_of_ble_eq_true rfl) (ls' := [some (vr b0), some (vr b1), some (vi x2), some (vi x3), some (vi x4), some (vi x5), some (vi (v4 <<< (x4 &&& 31))), none]) rfl ?_
      refine G_aload_n (x := some (b1)) X dX0_moveFrom_41 rfl rfl ?_
      refine G_iload (x := x5) X dX0_moveFrom_42 rfl ?_
      refine G_iload_n (x := x3) X dX0_moveFrom_44 rfl rfl ?_
      refine G_isub X dX0_moveFrom_45 ?_
      refine G_iconst (v := 1) X dX0_moveFrom_46 rfl ?_
      refine G_isub X dX0_moveFrom_47 ?_
      obtain ⟨v5, hk5, hf⟩ := obd hf
      refine G_callV (As := [vi ((x5 - x3) - 1)]) X (f0_groupAt_ok E I b1 hb1 ((x5 - x3) - 1) v5 hk5) cb_X0_19 vi_X0_groupAt (ci := 0) rfl rfl (show SH[b1]? = some (_, 0) from hb1.1) rfl rfl (Nat.le_of_ble_eq_true rfl) (by decide) (by decide) rfl (Nat.le_refl _) (Nat.le_refl _) dX0_moveFrom_48 ?_
      show G E κ _ _ _ [some (vr b0), some (vr b1), some (vi x2), some (vi x3), some (vi x4), some (vi x5), some (vi (v4 <<< (x4 &&& 31))), none] [vi v5] (mm I)
      refine G_bipush (v := 15) X dX0_moveFrom_51 rfl ?_
      refine G_iload (x := x4) X dX0_moveFrom_53 rfl ?_
      refine G_isub X dX0_moveFrom_55 ?_
      refine G_ishr X dX0_moveFrom_56 ?_
      refine G_istore X dX0_moveFrom_57 (Nat.le_of_ble_eq_true rfl) (ls' := [some (vr b0), some (vr b1), some (vi x2), some (vi x3), some (vi x4), some (vi x5), some (vi (v4 <<< (x4 &&& 31))), some (vi (v5 >>> ((15 - x4) &&& 31)))]) rfl ?_
      refine G_aload_n (x := some (b0)) X dX0_moveFrom_59 rfl rfl ?_
      refine M_getR X fd_X0_9 rfl (show SH[b0]? = some (_, 0) from hb0.1) (isB_p hb0) dX0_moveFrom_60 ?_
      refine G_iload (x := x5) X dX0_moveFrom_63 rfl ?_
      refine G_iload (x := v4 <<< (x4 &&& 31)) X dX0_moveFrom_65 rfl ?_
      refine G_iload (x := v5 >>> ((15 - x4) &&& 31)) X dX0_moveFrom_67 rfl ?_
      refine G_ior X dX0_moveFrom_69 ?_
      refine G_sipush (v := 32767) X dX0_moveFrom_70 rfl ?_
      refine G_iand X dX0_moveFrom_73 ?_
      obtain ⟨hc6, hf⟩ := ock hf
      refine M_iast X (show SH[b0 + 1]? = some (_, 40) from hb0.2) hc6 dX0_moveFrom_74 ?_
      refine G_iinc (x := x5) (v := 1) X dX0_moveFrom_75 rfl rfl (ls' := [some (vr b0), some (vr b1), some (vi x2), some (vi x3), some (vi x4), some (vi (x5 + 1)), some (vi (v4 <<< (x4 &&& 31))), some (vi (v5 >>> ((15 - x4) &&& 31)))]) rfl ?_
      refine G_goto (tgt := 18) X dX0_moveFrom_78 (by decide) ?_
      refine G_weakL (ls' := [some (vr b0), some (vr b1), some (vi x2), some (vi x3), some (vi x4), some (vi (x5 + 1)), none, none]) ⟨Or.inr rfl, ⟨Or.inr rfl, ⟨Or.inr rfl, ⟨Or.inr rfl, ⟨Or.inr rfl, ⟨Or.inr rfl, ⟨Or.inl rfl, ⟨Or.inl rfl, trivial⟩⟩⟩⟩⟩⟩⟩⟩ ?_
      exact ih (uI I (b0 + 1) x5.toNatClampNeg (((v4 <<< (x4 &&& 31)) ||| (v5 >>> ((15 - x4) &&& 31))) &&& 32767)) b0 hb0 b1 hb1 x2 x3 x4 (x5 + 1) _ hR hf

def f0_moveFrom (I : gI) (b : Nat) (b0 : Nat) (a1 : Int32) : Option gI := (fJ9_floorDiv a1 15).bind fun v1 => (fJ9_floorMod a1 15).bind fun v2 => f0_moveFrom_L18 FU I b b0 a1 v1 v2 0
set_option maxRecDepth 100000 in
set_option maxHeartbeats 4000000 in
theorem f0_moveFrom_ok (E : gEnv) (I : gI) (b : Nat) (hb : isB b) (b0 : Nat) (hb0 : isB b0) (a1 : Int32) (I' : gI) (hf : f0_moveFrom I b b0 a1 = some I') : Ctr E yX0_moveFrom cX0_moveFrom 8 none 1 0 0 [vr b, vr b0, vi a1] (mm I) (none) (mm I') := by
  refine Ctr.mk (by decide +kernel) (Nat.le_of_ble_eq_true rfl) fun κ X hR _ => ?_
  have X : Cx E κ cX0_moveFrom 8 RX0 none 1 0 0 := X
  show G E κ 0 0 0 [some (vr b), some (vr b0), some (vi a1), none, none, none, none, none] [] (mm I)
  unfold f0_moveFrom at hf
  refine G_iload_n (x := a1) X dX0_moveFrom_0 rfl rfl ?_
  refine G_bipush (v := 15) X dX0_moveFrom_1 rfl ?_
  obtain ⟨v1, hk1, hf⟩ := obd hf
  refine G_callS (As := [vi a1, vi 15]) X (fJ9_floorDiv_ok E I a1 15 v1 hk1) cb_X0_46 st_J9_floorDiv_7cf53 rfl rfl (Nat.le_of_ble_eq_true rfl) (by decide) (by decide) rfl (Nat.le_refl _) (Nat.le_refl _) dX0_moveFrom_3 ?_
  show G E κ _ _ _ [some (vr b), some (vr b0), some (vi a1), none, none, none, none, none] [vi v1] (mm I)
  refine G_istore_n X dX0_moveFrom_6 rfl (Nat.le_of_ble_eq_true rfl) (ls' := [some (vr b), some (vr b0), some (vi a1), some (vi v1), none, none, none, none]) rfl ?_
  refine G_iload_n (x := a1) X dX0_moveFrom_7 rfl rfl ?_
  refine G_bipush (v := 15) X dX0_moveFrom_8 rfl ?_
  obtain ⟨v2, hk2, hf⟩ := obd hf
  refine G_callS (As := [vi a1, vi 15]) X (fJ9_floorMod_ok E I a1 15 v2 hk2) cb_X0_49 st_J9_floorMod_7cf53 rfl rfl (Nat.le_of_ble_eq_true rfl) (by decide) (by decide) rfl (Nat.le_refl _) (Nat.le_refl _) dX0_moveFrom_10 ?_
  show G E κ _ _ _ [some (vr b), some (vr b0), some (vi a1), some (vi v1), none, none, none, none] [vi v2] (mm I)
  refine G_istore X dX0_moveFrom_13 (Nat.le_of_ble_eq_true rfl) (ls' := [some (vr b), some (vr b0), some (vi a1), some (vi v1), some (vi v2), none, none, none]) rfl ?_
  refine G_iconst (v := 0) X dX0_moveFrom_15 rfl ?_
  refine G_istore X dX0_moveFrom_16 (Nat.le_of_ble_eq_true rfl) (ls' := [some (vr b), some (vr b0), some (vi a1), some (vi v1), some (vi v2), some (vi 0), none, none]) rfl ?_
  exact f0_moveFrom_L18_ok X FU I b hb b0 hb0 a1 v1 v2 0 _ hR hf

def f0_onesBefore_L4 : Nat → gI → Nat → Int32 → Int32 → Int32 → Option Int32
  | 0, _, _, _, _, _ => none
  | k + 1, I, b0, x1, x2, x3 => (if 40 ≤ x3 then some x2 else if ib x3 40 = true then f0_onesBefore_L4 k I b0 x1 (x2 + (fJ6_bitCount ((I (b0 + 1) (x3.toNatClampNeg)) &&& (f0_maskBefore x1 x3)))) (x3 + 1) else none)
set_option maxRecDepth 100000 in
set_option maxHeartbeats 4000000 in
theorem f0_onesBefore_L4_ok {E : gEnv} {κ : gCtx} (X : Cx E κ cX0_onesBefore 4 RX0 (some .int) 2 0 0) : ∀ (k : Nat) (I : gI) (b0 : Nat) (hb0 : isB b0) (x1 : Int32) (x2 : Int32) (x3 : Int32) (r : Int32) (hR : gRt E κ 0 0 (some (vi r)) (mm I)) (hf : f0_onesBefore_L4 k I b0 x1 x2 x3 = some r), G E κ 0 0 4 [some (vr b0), some (vi x1), some (vi x2), some (vi x3)] [] (mm I) := by
  intro k
  induction k with
  | zero =>
    intros
    rename_i hf
    cases hf
  | succ k ih =>
    intro I b0 hb0 x1 x2 x3 r hR hf
    refine G_iload_n (x := x3) X dX0_onesBefore_4 rfl rfl ?_
    refine G_aload_n (x := some (b0)) X dX0_onesBefore_5 rfl rfl ?_
    refine M_getR X fd_X0_9 rfl (show SH[b0]? = some (_, 0) from hb0.1) (isB_p hb0) dX0_onesBefore_6 ?_
    refine M_alen (v := 40) X (show SH[b0 + 1]? = some (_, 40) from hb0.2) (by decide) dX0_onesBefore_9 rfl ?_
    refine G_icmp_ge (tgt := 37) X dX0_onesBefore_10 (by decide) (fun hc1 => ?_) (fun hc1 => ?_)
    · have hf := (if_pos hc1).symm.trans hf
      refine G_iload_n (x := x2) X dX0_onesBefore_37 rfl rfl ?_
      obtain rfl := Option.some.inj hf
      exact G_iret X hR rfl rfl dX0_onesBefore_38
    · have hf := (if_neg hc1).symm.trans hf
      refine G_iload_n (x := x2) X dX0_onesBefore_13 rfl rfl ?_
      refine G_aload_n (x := some (b0)) X dX0_onesBefore_14 rfl rfl ?_
      refine M_getR X fd_X0_9 rfl (show SH[b0]? = some (_, 0) from hb0.1) (isB_p hb0) dX0_onesBefore_15 ?_
      refine G_iload_n (x := x3) X dX0_onesBefore_18 rfl rfl ?_
      obtain ⟨hc2, hf⟩ := ock hf
      refine M_iald X (show SH[b0 + 1]? = some (_, 40) from hb0.2) hc2 dX0_onesBefore_19 ?_
      refine G_iload_n (x := x1) X dX0_onesBefore_20 rfl rfl ?_
      refine G_iload_n (x := x3) X dX0_onesBefore_21 rfl rfl ?_
      refine G_callS (As := [vi x1, vi x3]) X (f0_maskBefore_ok E I x1 x3 _ rfl) cb_X0_29 st_X0_maskBefore rfl rfl (Nat.le_of_ble_eq_true rfl) (by decide) (by decide) rfl (Nat.le_refl _) (Nat.le_refl _) dX0_onesBefore_22 ?_
      show G E κ _ _ _ [some (vr b0), some (vi x1), some (vi x2), some (vi x3)] [vi (f0_maskBefore x1 x3), vi (I (b0 + 1) (x3.toNatClampNeg)), vi x2] (mm I)
      refine G_iand X dX0_onesBefore_25 ?_
      refine G_callS (As := [vi ((I (b0 + 1) (x3.toNatClampNeg)) &&& (f0_maskBefore x1 x3))]) X (fJ6_bitCount_ok E I ((I (b0 + 1) (x3.toNatClampNeg)) &&& (f0_maskBefore x1 x3)) _ rfl) cb_X0_58 st_J6_bitCount_0f7a4 rfl rfl (Nat.le_of_ble_eq_true rfl) (by decide) (by decide) rfl (Nat.le_refl _) (Nat.le_refl _) dX0_onesBefore_26 ?_
      show G E κ _ _ _ [some (vr b0), some (vi x1), some (vi x2), some (vi x3)] [vi (fJ6_bitCount ((I (b0 + 1) (x3.toNatClampNeg)) &&& (f0_maskBefore x1 x3))), vi x2] (mm I)
      refine G_iadd X dX0_onesBefore_29 ?_
      refine G_istore_n X dX0_onesBefore_30 rfl (Nat.le_of_ble_eq_true rfl) (ls' := [some (vr b0), some (vi x1), some (vi (x2 + (fJ6_bitCount ((I (b0 + 1) (x3.toNatClampNeg)) &&& (f0_maskBefore x1 x3))))), some (vi x3)]) rfl ?_
      refine G_iinc (x := x3) (v := 1) X dX0_onesBefore_31 rfl rfl (ls' := [some (vr b0), some (vi x1), some (vi (x2 + (fJ6_bitCount ((I (b0 + 1) (x3.toNatClampNeg)) &&& (f0_maskBefore x1 x3))))), some (vi (x3 + 1))]) rfl ?_
      refine G_goto (tgt := 4) X dX0_onesBefore_34 (by decide) ?_
      exact ih I b0 hb0 x1 (x2 + (fJ6_bitCount ((I (b0 + 1) (x3.toNatClampNeg)) &&& (f0_maskBefore x1 x3)))) (x3 + 1) _ hR hf

def f0_onesBefore (I : gI) (b : Nat) (a0 : Int32) : Option Int32 := f0_onesBefore_L4 FU I b a0 0 0
set_option maxRecDepth 100000 in
set_option maxHeartbeats 4000000 in
theorem f0_onesBefore_ok (E : gEnv) (I : gI) (b : Nat) (hb : isB b) (a0 : Int32) (r : Int32) (hf : f0_onesBefore I b a0 = some r) : Ctr E yX0_onesBefore cX0_onesBefore 4 (some .int) 2 0 0 [vr b, vi a0] (mm I) (some (vi r)) (mm I) := by
  refine Ctr.mk (by decide +kernel) (Nat.le_of_ble_eq_true rfl) fun κ X hR _ => ?_
  have X : Cx E κ cX0_onesBefore 4 RX0 (some .int) 2 0 0 := X
  show G E κ 0 0 0 [some (vr b), some (vi a0), none, none] [] (mm I)
  unfold f0_onesBefore at hf
  refine G_iconst (v := 0) X dX0_onesBefore_0 rfl ?_
  refine G_istore_n X dX0_onesBefore_1 rfl (Nat.le_of_ble_eq_true rfl) (ls' := [some (vr b), some (vi a0), some (vi 0), none]) rfl ?_
  refine G_iconst (v := 0) X dX0_onesBefore_2 rfl ?_
  refine G_istore_n X dX0_onesBefore_3 rfl (Nat.le_of_ble_eq_true rfl) (ls' := [some (vr b), some (vi a0), some (vi 0), some (vi 0)]) rfl ?_
  exact f0_onesBefore_L4_ok X FU I b hb a0 0 0 _ hR hf

def f0_ones (I : gI) (b : Nat) : Option Int32 := (f0_onesBefore I b (I b 1)).bind fun v1 => some v1
set_option maxRecDepth 100000 in
set_option maxHeartbeats 4000000 in
theorem f0_ones_ok (E : gEnv) (I : gI) (b : Nat) (hb : isB b) (r : Int32) (hf : f0_ones I b = some r) : Ctr E yX0_ones cX0_ones 1 (some .int) 3 0 0 [vr b] (mm I) (some (vi r)) (mm I) := by
  refine Ctr.mk (by decide +kernel) (Nat.le_of_ble_eq_true rfl) fun κ X hR _ => ?_
  have X : Cx E κ cX0_ones 1 RX0 (some .int) 3 0 0 := X
  show G E κ 0 0 0 [some (vr b)] [] (mm I)
  unfold f0_ones at hf
  refine G_aload_n (x := some (b)) X dX0_ones_0 rfl rfl ?_
  refine G_aload_n (x := some (b)) X dX0_ones_1 rfl rfl ?_
  refine M_getI X fd_X0_15 rfl (show SH[b]? = some (_, 0) from hb.1) dX0_ones_2 ?_
  obtain ⟨v1, hk1, hf⟩ := obd hf
  refine G_callV (As := [vi (I b 1)]) X (f0_onesBefore_ok E I b hb (I b 1) v1 hk1) cb_X0_55 vi_X0_onesBefore (ci := 0) rfl rfl (show SH[b]? = some (_, 0) from hb.1) rfl rfl (Nat.le_of_ble_eq_true rfl) (by decide) (by decide) rfl (Nat.le_refl _) (Nat.le_refl _) dX0_ones_5 ?_
  show G E κ _ _ _ [some (vr b)] [vi v1] (mm I)
  obtain rfl := Option.some.inj hf
  exact G_iret X hR rfl rfl dX0_ones_8

def f0_placeInGroup_L4 : Nat → Int32 → Int32 → Int32 → Option Int32
  | 0, _, _, _ => none
  | k + 1, x0, x2, x3 => (if 15 ≤ x3 then some ((-9)) else (if ((x0 >>> (x3 &&& 31)) &&& 1) = 1 then (if x2 = 0 then some x3 else f0_placeInGroup_L4 k x0 (x2 + (-1)) (x3 + 1)) else f0_placeInGroup_L4 k x0 x2 (x3 + 1)))
set_option maxRecDepth 100000 in
set_option maxHeartbeats 4000000 in
theorem f0_placeInGroup_L4_ok {E : gEnv} {κ : gCtx} (X : Cx E κ cX0_placeInGroup 4 RX0 (some .int) 0 0 0) : ∀ (k : Nat) (I : gI) (x0 : Int32) (x2 : Int32) (x3 : Int32) (r : Int32) (hR : gRt E κ 0 0 (some (vi r)) (mm I)) (hf : f0_placeInGroup_L4 k  x0 x2 x3 = some r), G E κ 0 0 4 [some (vi x0), none, some (vi x2), some (vi x3)] [] (mm I) := by
  intro k
  induction k with
  | zero =>
    intros
    rename_i hf
    cases hf
  | succ k ih =>
    intro I x0 x2 x3 r hR hf
    refine G_iload_n (x := x3) X dX0_placeInGroup_4 rfl rfl ?_
    refine G_bipush (v := 15) X dX0_placeInGroup_5 rfl ?_
    refine G_icmp_ge (tgt := 34) X dX0_placeInGroup_7 (by decide) (fun hc1 => ?_) (fun hc1 => ?_)
    · have hf := (if_pos hc1).symm.trans hf
      refine G_bipush (v := (-9)) X dX0_placeInGroup_34 rfl ?_
      obtain rfl := Option.some.inj hf
      exact G_iret X hR rfl rfl dX0_placeInGroup_36
    · have hf := (if_neg hc1).symm.trans hf
      refine G_iload_n (x := x0) X dX0_placeInGroup_10 rfl rfl ?_
      refine G_iload_n (x := x3) X dX0_placeInGroup_11 rfl rfl ?_
      refine G_ishr X dX0_placeInGroup_12 ?_
      refine G_iconst (v := 1) X dX0_placeInGroup_13 rfl ?_
      refine G_iand X dX0_placeInGroup_14 ?_
      refine G_iconst (v := 1) X dX0_placeInGroup_15 rfl ?_
      refine G_icmp_ne (tgt := 28) X dX0_placeInGroup_16 (by decide) (fun hc2 => ?_) (fun hc2 => ?_)
      · have hf := (if_neg hc2).symm.trans hf
        refine G_iinc (x := x3) (v := 1) X dX0_placeInGroup_28 rfl rfl (ls' := [some (vi x0), none, some (vi x2), some (vi (x3 + 1))]) rfl ?_
        refine G_goto (tgt := 4) X dX0_placeInGroup_31 (by decide) ?_
        exact ih I x0 x2 (x3 + 1) _ hR hf
      · have hf := (if_pos hc2).symm.trans hf
        refine G_iload_n (x := x2) X dX0_placeInGroup_19 rfl rfl ?_
        refine G_if_ne (tgt := 25) X dX0_placeInGroup_20 (by decide) (fun hc3 => ?_) (fun hc3 => ?_)
        · have hf := (if_neg hc3).symm.trans hf
          refine G_iinc (x := x2) (v := (-1)) X dX0_placeInGroup_25 rfl rfl (ls' := [some (vi x0), none, some (vi (x2 + (-1))), some (vi x3)]) rfl ?_
          refine G_iinc (x := x3) (v := 1) X dX0_placeInGroup_28 rfl rfl (ls' := [some (vi x0), none, some (vi (x2 + (-1))), some (vi (x3 + 1))]) rfl ?_
          refine G_goto (tgt := 4) X dX0_placeInGroup_31 (by decide) ?_
          exact ih I x0 (x2 + (-1)) (x3 + 1) _ hR hf
        · have hf := (if_pos hc3).symm.trans hf
          refine G_iload_n (x := x3) X dX0_placeInGroup_23 rfl rfl ?_
          obtain rfl := Option.some.inj hf
          exact G_iret X hR rfl rfl dX0_placeInGroup_24

def f0_placeInGroup (a0 : Int32) (a1 : Int32) : Option Int32 := f0_placeInGroup_L4 FU a0 a1 0
set_option maxRecDepth 100000 in
set_option maxHeartbeats 4000000 in
theorem f0_placeInGroup_ok (E : gEnv) (I : gI) (a0 : Int32) (a1 : Int32) (r : Int32) (hf : f0_placeInGroup  a0 a1 = some r) : Ctr E yX0_placeInGroup cX0_placeInGroup 4 (some .int) 0 0 0 [vi a0, vi a1] (mm I) (some (vi r)) (mm I) := by
  refine Ctr.mk (by decide +kernel) (Nat.le_of_ble_eq_true rfl) fun κ X hR _ => ?_
  have X : Cx E κ cX0_placeInGroup 4 RX0 (some .int) 0 0 0 := X
  show G E κ 0 0 0 [some (vi a0), some (vi a1), none, none] [] (mm I)
  unfold f0_placeInGroup at hf
  refine G_iload_n (x := a1) X dX0_placeInGroup_0 rfl rfl ?_
  refine G_istore_n X dX0_placeInGroup_1 rfl (Nat.le_of_ble_eq_true rfl) (ls' := [some (vi a0), some (vi a1), some (vi a1), none]) rfl ?_
  refine G_iconst (v := 0) X dX0_placeInGroup_2 rfl ?_
  refine G_istore_n X dX0_placeInGroup_3 rfl (Nat.le_of_ble_eq_true rfl) (ls' := [some (vi a0), some (vi a1), some (vi a1), some (vi 0)]) rfl ?_
  refine G_weakL (ls' := [some (vi a0), none, some (vi a1), some (vi 0)]) ⟨Or.inr rfl, ⟨Or.inl rfl, ⟨Or.inr rfl, ⟨Or.inr rfl, trivial⟩⟩⟩⟩ ?_
  exact f0_placeInGroup_L4_ok X FU I a0 a1 0 _ hR hf

def f0_placeOfOne_L11 : Nat → gI → Nat → Int32 → Int32 → Option Int32
  | 0, _, _, _, _ => none
  | k + 1, I, b0, x2, x3 => (if 40 ≤ x3 then some ((-9)) else if ib x3 40 = true then (if (fJ6_bitCount (I (b0 + 1) (x3.toNatClampNeg))) ≤ x2 then f0_placeOfOne_L11 k I b0 (x2 - (fJ6_bitCount (I (b0 + 1) (x3.toNatClampNeg)))) (x3 + 1) else if ib x3 40 = true then (f0_placeInGroup (I (b0 + 1) (x3.toNatClampNeg)) x2).bind fun v6 => some ((x3 * 15) + v6) else none) else none)
set_option maxRecDepth 100000 in
set_option maxHeartbeats 4000000 in
theorem f0_placeOfOne_L11_ok {E : gEnv} {κ : gCtx} (X : Cx E κ cX0_placeOfOne 5 RX0 (some .int) 1 0 0) : ∀ (k : Nat) (I : gI) (b0 : Nat) (hb0 : isB b0) (x2 : Int32) (x3 : Int32) (r : Int32) (hR : gRt E κ 0 0 (some (vi r)) (mm I)) (hf : f0_placeOfOne_L11 k I b0 x2 x3 = some r), G E κ 0 0 11 [some (vr b0), none, some (vi x2), some (vi x3), none] [] (mm I) := by
  intro k
  induction k with
  | zero =>
    intros
    rename_i hf
    cases hf
  | succ k ih =>
    intro I b0 hb0 x2 x3 r hR hf
    refine G_iload_n (x := x3) X dX0_placeOfOne_11 rfl rfl ?_
    refine G_aload_n (x := some (b0)) X dX0_placeOfOne_12 rfl rfl ?_
    refine M_getR X fd_X0_9 rfl (show SH[b0]? = some (_, 0) from hb0.1) (isB_p hb0) dX0_placeOfOne_13 ?_
    refine M_alen (v := 40) X (show SH[b0 + 1]? = some (_, 40) from hb0.2) (by decide) dX0_placeOfOne_16 rfl ?_
    refine G_icmp_ge (tgt := 64) X dX0_placeOfOne_17 (by decide) (fun hc2 => ?_) (fun hc2 => ?_)
    · have hf := (if_pos hc2).symm.trans hf
      refine G_bipush (v := (-9)) X dX0_placeOfOne_64 rfl ?_
      obtain rfl := Option.some.inj hf
      exact G_iret X hR rfl rfl dX0_placeOfOne_66
    · have hf := (if_neg hc2).symm.trans hf
      refine G_aload_n (x := some (b0)) X dX0_placeOfOne_20 rfl rfl ?_
      refine M_getR X fd_X0_9 rfl (show SH[b0]? = some (_, 0) from hb0.1) (isB_p hb0) dX0_placeOfOne_21 ?_
      refine G_iload_n (x := x3) X dX0_placeOfOne_24 rfl rfl ?_
      obtain ⟨hc3, hf⟩ := ock hf
      refine M_iald X (show SH[b0 + 1]? = some (_, 40) from hb0.2) hc3 dX0_placeOfOne_25 ?_
      refine G_callS (As := [vi (I (b0 + 1) (x3.toNatClampNeg))]) X (fJ6_bitCount_ok E I (I (b0 + 1) (x3.toNatClampNeg)) _ rfl) cb_X0_58 st_J6_bitCount_0f7a4 rfl rfl (Nat.le_of_ble_eq_true rfl) (by decide) (by decide) rfl (Nat.le_refl _) (Nat.le_refl _) dX0_placeOfOne_26 ?_
      show G E κ _ _ _ [some (vr b0), none, some (vi x2), some (vi x3), none] [vi (fJ6_bitCount (I (b0 + 1) (x3.toNatClampNeg)))] (mm I)
      refine G_istore X dX0_placeOfOne_29 (Nat.le_of_ble_eq_true rfl) (ls' := [some (vr b0), none, some (vi x2), some (vi x3), some (vi (fJ6_bitCount (I (b0 + 1) (x3.toNatClampNeg))))]) rfl ?_
      refine G_iload_n (x := x2) X dX0_placeOfOne_31 rfl rfl ?_
      refine G_iload (x := fJ6_bitCount (I (b0 + 1) (x3.toNatClampNeg))) X dX0_placeOfOne_32 rfl ?_
      refine G_icmp_ge (tgt := 53) X dX0_placeOfOne_34 (by decide) (fun hc4 => ?_) (fun hc4 => ?_)
      · have hf := (if_pos hc4).symm.trans hf
        refine G_iload_n (x := x2) X dX0_placeOfOne_53 rfl rfl ?_
        refine G_iload (x := fJ6_bitCount (I (b0 + 1) (x3.toNatClampNeg))) X dX0_placeOfOne_54 rfl ?_
        refine G_isub X dX0_placeOfOne_56 ?_
        refine G_istore_n X dX0_placeOfOne_57 rfl (Nat.le_of_ble_eq_true rfl) (ls' := [some (vr b0), none, some (vi (x2 - (fJ6_bitCount (I (b0 + 1) (x3.toNatClampNeg))))), some (vi x3), some (vi (fJ6_bitCount (I (b0 + 1) (x3.toNatClampNeg))))]) rfl ?_
        refine G_iinc (x := x3) (v := 1) X dX0_placeOfOne_58 rfl rfl (ls' := [some (vr b0), none, some (vi (x2 - (fJ6_bitCount (I (b0 + 1) (x3.toNatClampNeg))))), some (vi (x3 + 1)), some (vi (fJ6_bitCount (I (b0 + 1) (x3.toNatClampNeg))))]) rfl ?_
        refine G_goto (tgt := 11) X dX0_placeOfOne_61 (by decide) ?_
        refine G_weakL (ls' := [some (vr b0), none, some (vi (x2 - (fJ6_bitCount (I (b0 + 1) (x3.toNatClampNeg))))), some (vi (x3 + 1)), none]) ⟨Or.inr rfl, ⟨Or.inl rfl, ⟨Or.inr rfl, ⟨Or.inr rfl, ⟨Or.inl rfl, trivial⟩⟩⟩⟩⟩ ?_
        exact ih I b0 hb0 (x2 - (fJ6_bitCount (I (b0 + 1) (x3.toNatClampNeg)))) (x3 + 1) _ hR hf
      · have hf := (if_neg hc4).symm.trans hf
        refine G_iload_n (x := x3) X dX0_placeOfOne_37 rfl rfl ?_
        refine G_bipush (v := 15) X dX0_placeOfOne_38 rfl ?_
        refine G_imul X dX0_placeOfOne_40 ?_
        refine G_aload_n (x := some (b0)) X dX0_placeOfOne_41 rfl rfl ?_
        refine M_getR X fd_X0_9 rfl (show SH[b0]? = some (_, 0) from hb0.1) (isB_p hb0) dX0_placeOfOne_42 ?_
        refine G_iload_n (x := x3) X dX0_placeOfOne_45 rfl rfl ?_
        obtain ⟨hc5, hf⟩ := ock hf
        refine M_iald X (show SH[b0 + 1]? = some (_, 40) from hb0.2) hc5 dX0_placeOfOne_46 ?_
        refine G_iload_n (x := x2) X dX0_placeOfOne_47 rfl rfl ?_
        obtain ⟨v6, hk6, hf⟩ := obd hf
        refine G_callS (As := [vi (I (b0 + 1) (x3.toNatClampNeg)), vi x2]) X (f0_placeInGroup_ok E I (I (b0 + 1) (x3.toNatClampNeg)) x2 v6 hk6) cb_X0_63 st_X0_placeInGroup rfl rfl (Nat.le_of_ble_eq_true rfl) (by decide) (by decide) rfl (Nat.le_refl _) (Nat.le_refl _) dX0_placeOfOne_48 ?_
        show G E κ _ _ _ [some (vr b0), none, some (vi x2), some (vi x3), some (vi (fJ6_bitCount (I (b0 + 1) (x3.toNatClampNeg))))] [vi v6, vi (x3 * 15)] (mm I)
        refine G_iadd X dX0_placeOfOne_51 ?_
        obtain rfl := Option.some.inj hf
        exact G_iret X hR rfl rfl dX0_placeOfOne_52

def f0_placeOfOne (I : gI) (b : Nat) (a0 : Int32) : Option Int32 := (if 0 ≤ a0 then f0_placeOfOne_L11 FU I b a0 0 else some ((-9)))
set_option maxRecDepth 100000 in
set_option maxHeartbeats 4000000 in
theorem f0_placeOfOne_ok (E : gEnv) (I : gI) (b : Nat) (hb : isB b) (a0 : Int32) (r : Int32) (hf : f0_placeOfOne I b a0 = some r) : Ctr E yX0_placeOfOne cX0_placeOfOne 5 (some .int) 1 0 0 [vr b, vi a0] (mm I) (some (vi r)) (mm I) := by
  refine Ctr.mk (by decide +kernel) (Nat.le_of_ble_eq_true rfl) fun κ X hR _ => ?_
  have X : Cx E κ cX0_placeOfOne 5 RX0 (some .int) 1 0 0 := X
  show G E κ 0 0 0 [some (vr b), some (vi a0), none, none, none] [] (mm I)
  unfold f0_placeOfOne at hf
  refine G_iload_n (x := a0) X dX0_placeOfOne_0 rfl rfl ?_
  refine G_if_ge (tgt := 7) X dX0_placeOfOne_1 (by decide) (fun hc1 => ?_) (fun hc1 => ?_)
  · have hf := (if_pos hc1).symm.trans hf
    refine G_iload_n (x := a0) X dX0_placeOfOne_7 rfl rfl ?_
    refine G_istore_n X dX0_placeOfOne_8 rfl (Nat.le_of_ble_eq_true rfl) (ls' := [some (vr b), some (vi a0), some (vi a0), none, none]) rfl ?_
    refine G_iconst (v := 0) X dX0_placeOfOne_9 rfl ?_
    refine G_istore_n X dX0_placeOfOne_10 rfl (Nat.le_of_ble_eq_true rfl) (ls' := [some (vr b), some (vi a0), some (vi a0), some (vi 0), none]) rfl ?_
    refine G_weakL (ls' := [some (vr b), none, some (vi a0), some (vi 0), none]) ⟨Or.inr rfl, ⟨Or.inl rfl, ⟨Or.inr rfl, ⟨Or.inr rfl, ⟨Or.inl rfl, trivial⟩⟩⟩⟩⟩ ?_
    exact f0_placeOfOne_L11_ok X FU I b hb a0 0 _ hR hf
  · have hf := (if_neg hc1).symm.trans hf
    refine G_bipush (v := (-9)) X dX0_placeOfOne_4 rfl ?_
    obtain rfl := Option.some.inj hf
    exact G_iret X hR rfl rfl dX0_placeOfOne_6

def f0_matches_L15 : Nat → gI → Nat → Nat → Int32 → Option Bool
  | 0, _, _, _, _ => none
  | k + 1, I, b0, b1, x2 => (if 40 ≤ x2 then some true else if ib x2 40 = true then (f0_groupAt I b1 x2).bind fun v4 => (if (I (b0 + 1) (x2.toNatClampNeg)) = v4 then f0_matches_L15 k I b0 b1 (x2 + 1) else some false) else none)
set_option maxRecDepth 100000 in
set_option maxHeartbeats 4000000 in
theorem f0_matches_L15_ok {E : gEnv} {κ : gCtx} (X : Cx E κ cX0_matches 3 RX0 (some .boolean) 1 0 0) : ∀ (k : Nat) (I : gI) (b0 : Nat) (hb0 : isB b0) (b1 : Nat) (hb1 : isB b1) (x2 : Int32) (r : Bool) (hR : gRt E κ 0 0 (some (vi (b2i r))) (mm I)) (hf : f0_matches_L15 k I b0 b1 x2 = some r), G E κ 0 0 15 [some (vr b0), some (vr b1), some (vi x2)] [] (mm I) := by
  intro k
  induction k with
  | zero =>
    intros
    rename_i hf
    cases hf
  | succ k ih =>
    intro I b0 hb0 b1 hb1 x2 r hR hf
    refine G_iload_n (x := x2) X dX0_matches_15 rfl rfl ?_
    refine G_aload_n (x := some (b0)) X dX0_matches_16 rfl rfl ?_
    refine M_getR X fd_X0_9 rfl (show SH[b0]? = some (_, 0) from hb0.1) (isB_p hb0) dX0_matches_17 ?_
    refine M_alen (v := 40) X (show SH[b0 + 1]? = some (_, 40) from hb0.2) (by decide) dX0_matches_20 rfl ?_
    refine G_icmp_ge (tgt := 46) X dX0_matches_21 (by decide) (fun hc2 => ?_) (fun hc2 => ?_)
    · have hf := (if_pos hc2).symm.trans hf
      refine G_iconst (v := 1) X dX0_matches_46 rfl ?_
      obtain rfl := Option.some.inj hf
      exact G_iret X hR rfl (nar_b2i true) dX0_matches_47
    · have hf := (if_neg hc2).symm.trans hf
      refine G_aload_n (x := some (b0)) X dX0_matches_24 rfl rfl ?_
      refine M_getR X fd_X0_9 rfl (show SH[b0]? = some (_, 0) from hb0.1) (isB_p hb0) dX0_matches_25 ?_
      refine G_iload_n (x := x2) X dX0_matches_28 rfl rfl ?_
      obtain ⟨hc3, hf⟩ := ock hf
      refine M_iald X (show SH[b0 + 1]? = some (_, 40) from hb0.2) hc3 dX0_matches_29 ?_
      refine G_aload_n (x := some (b1)) X dX0_matches_30 rfl rfl ?_
      refine G_iload_n (x := x2) X dX0_matches_31 rfl rfl ?_
      obtain ⟨v4, hk4, hf⟩ := obd hf
      refine G_callV (As := [vi x2]) X (f0_groupAt_ok E I b1 hb1 x2 v4 hk4) cb_X0_19 vi_X0_groupAt (ci := 0) rfl rfl (show SH[b1]? = some (_, 0) from hb1.1) rfl rfl (Nat.le_of_ble_eq_true rfl) (by decide) (by decide) rfl (Nat.le_refl _) (Nat.le_refl _) dX0_matches_32 ?_
      show G E κ _ _ _ [some (vr b0), some (vr b1), some (vi x2)] [vi v4, vi (I (b0 + 1) (x2.toNatClampNeg))] (mm I)
      refine G_icmp_eq (tgt := 40) X dX0_matches_35 (by decide) (fun hc5 => ?_) (fun hc5 => ?_)
      · have hf := (if_pos hc5).symm.trans hf
        refine G_iinc (x := x2) (v := 1) X dX0_matches_40 rfl rfl (ls' := [some (vr b0), some (vr b1), some (vi (x2 + 1))]) rfl ?_
        refine G_goto (tgt := 15) X dX0_matches_43 (by decide) ?_
        exact ih I b0 hb0 b1 hb1 (x2 + 1) _ hR hf
      · have hf := (if_neg hc5).symm.trans hf
        refine G_iconst (v := 0) X dX0_matches_38 rfl ?_
        obtain rfl := Option.some.inj hf
        exact G_iret X hR rfl (nar_b2i false) dX0_matches_39

def f0_matches (I : gI) (b : Nat) (b0 : Nat) : Option Bool := (if (I b 1) = (I b0 1) then f0_matches_L15 FU I b b0 0 else some false)
set_option maxRecDepth 100000 in
set_option maxHeartbeats 4000000 in
theorem f0_matches_ok (E : gEnv) (I : gI) (b : Nat) (hb : isB b) (b0 : Nat) (hb0 : isB b0) (r : Bool) (hf : f0_matches I b b0 = some r) : Ctr E yX0_matches cX0_matches 3 (some .boolean) 1 0 0 [vr b, vr b0] (mm I) (some (vi (b2i r))) (mm I) := by
  refine Ctr.mk (by decide +kernel) (Nat.le_of_ble_eq_true rfl) fun κ X hR _ => ?_
  have X : Cx E κ cX0_matches 3 RX0 (some .boolean) 1 0 0 := X
  show G E κ 0 0 0 [some (vr b), some (vr b0), none] [] (mm I)
  unfold f0_matches at hf
  refine G_aload_n (x := some (b)) X dX0_matches_0 rfl rfl ?_
  refine M_getI X fd_X0_15 rfl (show SH[b]? = some (_, 0) from hb.1) dX0_matches_1 ?_
  refine G_aload_n (x := some (b0)) X dX0_matches_4 rfl rfl ?_
  refine M_getI X fd_X0_15 rfl (show SH[b0]? = some (_, 0) from hb0.1) dX0_matches_5 ?_
  refine G_icmp_eq (tgt := 13) X dX0_matches_8 (by decide) (fun hc1 => ?_) (fun hc1 => ?_)
  · have hf := (if_pos hc1).symm.trans hf
    refine G_iconst (v := 0) X dX0_matches_13 rfl ?_
    refine G_istore_n X dX0_matches_14 rfl (Nat.le_of_ble_eq_true rfl) (ls' := [some (vr b), some (vr b0), some (vi 0)]) rfl ?_
    exact f0_matches_L15_ok X FU I b hb b0 hb0 0 _ hR hf
  · have hf := (if_neg hc1).symm.trans hf
    refine G_iconst (v := 0) X dX0_matches_11 rfl ?_
    obtain rfl := Option.some.inj hf
    exact G_iret X hR rfl (nar_b2i false) dX0_matches_12
end
