-- ===== PART A: goes FIRST, ahead of the names: the tables' words, and 'selects' of the private methods out of them =====
/-- a private method of a class that the tables say can be made, by its rows of tables_1 -/
def lw_okq (q : MethodName × Nat) : Prop := (q.1.cls ≠ "java/lang/invoke/MethodHandle" ∧ q.1.cls ≠ "java/lang/invoke/VarHandle") ∧ Cond.instantiable q.1.cls q.2 ∈ tables_1 ∧ Cond.privateMethod q.1 ∈ tables_1 ∧ Cond.instanceMethod q.1 ∈ tables_1
theorem lw_p0 : lw_okq (⟨"PackedBits", "record", "(I)V"⟩, 5) := ⟨⟨by decide +kernel, by decide +kernel⟩, List.mem_of_getElem? (i := 12) (by decide +kernel), List.mem_of_getElem? (i := 137) (by decide +kernel), List.mem_of_getElem? (i := 138) (by decide +kernel)⟩
theorem lw_p1 : lw_okq (⟨"PackedBits$History", "dropOldest", "()V"⟩, 2) := ⟨⟨by decide +kernel, by decide +kernel⟩, List.mem_of_getElem? (i := 22) (by decide +kernel), List.mem_of_getElem? (i := 145) (by decide +kernel), List.mem_of_getElem? (i := 146) (by decide +kernel)⟩
theorem lw_p2 : lw_okq (⟨"PackedBits", "isRow", "(I)Z"⟩, 5) := ⟨⟨by decide +kernel, by decide +kernel⟩, List.mem_of_getElem? (i := 12) (by decide +kernel), List.mem_of_getElem? (i := 173) (by decide +kernel), List.mem_of_getElem? (i := 174) (by decide +kernel)⟩
theorem lw_p3 : lw_okq (⟨"PackedBits", "isPlace", "(II)Z"⟩, 5) := ⟨⟨by decide +kernel, by decide +kernel⟩, List.mem_of_getElem? (i := 12) (by decide +kernel), List.mem_of_getElem? (i := 228) (by decide +kernel), List.mem_of_getElem? (i := 229) (by decide +kernel)⟩
theorem lw_p4 : lw_okq (⟨"PackedBits$Expression", "readSum", "(II)Z"⟩, 10) := ⟨⟨by decide +kernel, by decide +kernel⟩, List.mem_of_getElem? (i := 72) (by decide +kernel), List.mem_of_getElem? (i := 326) (by decide +kernel), List.mem_of_getElem? (i := 327) (by decide +kernel)⟩
theorem lw_p5 : lw_okq (⟨"PackedBits$Expression", "readProduct", "(II)Z"⟩, 10) := ⟨⟨by decide +kernel, by decide +kernel⟩, List.mem_of_getElem? (i := 72) (by decide +kernel), List.mem_of_getElem? (i := 330) (by decide +kernel), List.mem_of_getElem? (i := 331) (by decide +kernel)⟩
theorem lw_p6 : lw_okq (⟨"PackedBits$Expression", "readFactor", "(II)Z"⟩, 10) := ⟨⟨by decide +kernel, by decide +kernel⟩, List.mem_of_getElem? (i := 72) (by decide +kernel), List.mem_of_getElem? (i := 334) (by decide +kernel), List.mem_of_getElem? (i := 335) (by decide +kernel)⟩
theorem lw_p7 : lw_okq (⟨"PackedBits$Expression", "nextSign", "()C"⟩, 10) := ⟨⟨by decide +kernel, by decide +kernel⟩, List.mem_of_getElem? (i := 72) (by decide +kernel), List.mem_of_getElem? (i := 338) (by decide +kernel), List.mem_of_getElem? (i := 339) (by decide +kernel)⟩
theorem lw_p8 : lw_okq (⟨"PackedBits$Expression", "signHere", "()C"⟩, 10) := ⟨⟨by decide +kernel, by decide +kernel⟩, List.mem_of_getElem? (i := 72) (by decide +kernel), List.mem_of_getElem? (i := 342) (by decide +kernel), List.mem_of_getElem? (i := 343) (by decide +kernel)⟩
theorem lw_p9 : lw_okq (⟨"PackedBits$Expression", "readRow", "(II)Z"⟩, 10) := ⟨⟨by decide +kernel, by decide +kernel⟩, List.mem_of_getElem? (i := 72) (by decide +kernel), List.mem_of_getElem? (i := 346) (by decide +kernel), List.mem_of_getElem? (i := 347) (by decide +kernel)⟩
theorem lw_p10 : lw_okq (⟨"PackedBits$Expression", "readNumber", "(II)I"⟩, 10) := ⟨⟨by decide +kernel, by decide +kernel⟩, List.mem_of_getElem? (i := 72) (by decide +kernel), List.mem_of_getElem? (i := 350) (by decide +kernel), List.mem_of_getElem? (i := 351) (by decide +kernel)⟩
theorem lw_p11 : lw_okq (⟨"PackedBits$Expression", "breakOff", "(I)Z"⟩, 10) := ⟨⟨by decide +kernel, by decide +kernel⟩, List.mem_of_getElem? (i := 72) (by decide +kernel), List.mem_of_getElem? (i := 357) (by decide +kernel), List.mem_of_getElem? (i := 358) (by decide +kernel)⟩
theorem lw_p12 : lw_okq (⟨"PackedBits$Expression", "fail", "(III)V"⟩, 10) := ⟨⟨by decide +kernel, by decide +kernel⟩, List.mem_of_getElem? (i := 72) (by decide +kernel), List.mem_of_getElem? (i := 361) (by decide +kernel), List.mem_of_getElem? (i := 362) (by decide +kernel)⟩
theorem lw_p13 : lw_okq (⟨"PackedBits$Expression", "readBracket", "(II)Z"⟩, 10) := ⟨⟨by decide +kernel, by decide +kernel⟩, List.mem_of_getElem? (i := 72) (by decide +kernel), List.mem_of_getElem? (i := 366) (by decide +kernel), List.mem_of_getElem? (i := 367) (by decide +kernel)⟩
theorem lw_p14 : lw_okq (⟨"PackedBits$Expression", "combineAt", "(II)V"⟩, 10) := ⟨⟨by decide +kernel, by decide +kernel⟩, List.mem_of_getElem? (i := 72) (by decide +kernel), List.mem_of_getElem? (i := 371) (by decide +kernel), List.mem_of_getElem? (i := 372) (by decide +kernel)⟩
theorem lw_p15 : lw_okq (⟨"PackedBits", "sum", "(I)I"⟩, 5) := ⟨⟨by decide +kernel, by decide +kernel⟩, List.mem_of_getElem? (i := 12) (by decide +kernel), List.mem_of_getElem? (i := 388) (by decide +kernel), List.mem_of_getElem? (i := 389) (by decide +kernel)⟩
def lw_privs_1 : List (MethodName × Nat) := [(⟨"PackedBits", "record", "(I)V"⟩, 5), (⟨"PackedBits$History", "dropOldest", "()V"⟩, 2), (⟨"PackedBits", "isRow", "(I)Z"⟩, 5), (⟨"PackedBits", "isPlace", "(II)Z"⟩, 5), (⟨"PackedBits$Expression", "readSum", "(II)Z"⟩, 10), (⟨"PackedBits$Expression", "readProduct", "(II)Z"⟩, 10), (⟨"PackedBits$Expression", "readFactor", "(II)Z"⟩, 10), (⟨"PackedBits$Expression", "nextSign", "()C"⟩, 10), (⟨"PackedBits$Expression", "signHere", "()C"⟩, 10), (⟨"PackedBits$Expression", "readRow", "(II)Z"⟩, 10), (⟨"PackedBits$Expression", "readNumber", "(II)I"⟩, 10), (⟨"PackedBits$Expression", "breakOff", "(I)Z"⟩, 10), (⟨"PackedBits$Expression", "fail", "(III)V"⟩, 10), (⟨"PackedBits$Expression", "readBracket", "(II)Z"⟩, 10), (⟨"PackedBits$Expression", "combineAt", "(II)V"⟩, 10), (⟨"PackedBits", "sum", "(I)I"⟩, 5)]
theorem lw_r1 : ∀ q ∈ lw_privs_1, lw_okq q := List.forall_mem_cons.mpr ⟨lw_p0, List.forall_mem_cons.mpr ⟨lw_p1, List.forall_mem_cons.mpr ⟨lw_p2, List.forall_mem_cons.mpr ⟨lw_p3, List.forall_mem_cons.mpr ⟨lw_p4, List.forall_mem_cons.mpr ⟨lw_p5, List.forall_mem_cons.mpr ⟨lw_p6, List.forall_mem_cons.mpr ⟨lw_p7, List.forall_mem_cons.mpr ⟨lw_p8, List.forall_mem_cons.mpr ⟨lw_p9, List.forall_mem_cons.mpr ⟨lw_p10, List.forall_mem_cons.mpr ⟨lw_p11, List.forall_mem_cons.mpr ⟨lw_p12, List.forall_mem_cons.mpr ⟨lw_p13, List.forall_mem_cons.mpr ⟨lw_p14, List.forall_mem_cons.mpr ⟨lw_p15, fun _ h => absurd h List.not_mem_nil⟩⟩⟩⟩⟩⟩⟩⟩⟩⟩⟩⟩⟩⟩⟩⟩
theorem lw_p16 : lw_okq (⟨"PackedBitsModel", "copyState", "(II)V"⟩, 17) := ⟨⟨by decide +kernel, by decide +kernel⟩, List.mem_of_getElem? (i := 449) (by decide +kernel), List.mem_of_getElem? (i := 512) (by decide +kernel), List.mem_of_getElem? (i := 513) (by decide +kernel)⟩
theorem lw_p17 : lw_okq (⟨"PackedBitsModel", "record", "()V"⟩, 17) := ⟨⟨by decide +kernel, by decide +kernel⟩, List.mem_of_getElem? (i := 449) (by decide +kernel), List.mem_of_getElem? (i := 520) (by decide +kernel), List.mem_of_getElem? (i := 521) (by decide +kernel)⟩
theorem lw_p18 : lw_okq (⟨"PackedBitsModel", "isRow", "(I)Z"⟩, 17) := ⟨⟨by decide +kernel, by decide +kernel⟩, List.mem_of_getElem? (i := 449) (by decide +kernel), List.mem_of_getElem? (i := 531) (by decide +kernel), List.mem_of_getElem? (i := 532) (by decide +kernel)⟩
theorem lw_p19 : lw_okq (⟨"PackedBitsModel", "push", "(II)V"⟩, 17) := ⟨⟨by decide +kernel, by decide +kernel⟩, List.mem_of_getElem? (i := 449) (by decide +kernel), List.mem_of_getElem? (i := 538) (by decide +kernel), List.mem_of_getElem? (i := 539) (by decide +kernel)⟩
theorem lw_p20 : lw_okq (⟨"PackedBitsModel", "put", "(III)V"⟩, 17) := ⟨⟨by decide +kernel, by decide +kernel⟩, List.mem_of_getElem? (i := 449) (by decide +kernel), List.mem_of_getElem? (i := 542) (by decide +kernel), List.mem_of_getElem? (i := 543) (by decide +kernel)⟩
theorem lw_p21 : lw_okq (⟨"PackedBitsModel", "words", "(II)I"⟩, 17) := ⟨⟨by decide +kernel, by decide +kernel⟩, List.mem_of_getElem? (i := 449) (by decide +kernel), List.mem_of_getElem? (i := 551) (by decide +kernel), List.mem_of_getElem? (i := 552) (by decide +kernel)⟩
theorem lw_p22 : lw_okq (⟨"PackedBitsModel", "groups", "(I)I"⟩, 17) := ⟨⟨by decide +kernel, by decide +kernel⟩, List.mem_of_getElem? (i := 449) (by decide +kernel), List.mem_of_getElem? (i := 555) (by decide +kernel), List.mem_of_getElem? (i := 556) (by decide +kernel)⟩
theorem lw_p23 : lw_okq (⟨"PackedBitsModel", "kind", "(II)I"⟩, 17) := ⟨⟨by decide +kernel, by decide +kernel⟩, List.mem_of_getElem? (i := 449) (by decide +kernel), List.mem_of_getElem? (i := 559) (by decide +kernel), List.mem_of_getElem? (i := 560) (by decide +kernel)⟩
theorem lw_p24 : lw_okq (⟨"PackedBitsModel", "group", "(II)I"⟩, 17) := ⟨⟨by decide +kernel, by decide +kernel⟩, List.mem_of_getElem? (i := 449) (by decide +kernel), List.mem_of_getElem? (i := 563) (by decide +kernel), List.mem_of_getElem? (i := 564) (by decide +kernel)⟩
theorem lw_p25 : lw_okq (⟨"PackedBitsModel", "bitOf", "(II)I"⟩, 17) := ⟨⟨by decide +kernel, by decide +kernel⟩, List.mem_of_getElem? (i := 449) (by decide +kernel), List.mem_of_getElem? (i := 567) (by decide +kernel), List.mem_of_getElem? (i := 568) (by decide +kernel)⟩
theorem lw_p26 : lw_okq (⟨"PackedBitsModel", "behind", "(II)I"⟩, 17) := ⟨⟨by decide +kernel, by decide +kernel⟩, List.mem_of_getElem? (i := 449) (by decide +kernel), List.mem_of_getElem? (i := 571) (by decide +kernel), List.mem_of_getElem? (i := 572) (by decide +kernel)⟩
theorem lw_p27 : lw_okq (⟨"PackedBitsModel", "isPlace", "(III)Z"⟩, 17) := ⟨⟨by decide +kernel, by decide +kernel⟩, List.mem_of_getElem? (i := 449) (by decide +kernel), List.mem_of_getElem? (i := 579) (by decide +kernel), List.mem_of_getElem? (i := 580) (by decide +kernel)⟩
theorem lw_p28 : lw_okq (⟨"PackedBitsModel", "workOf", "(II)I"⟩, 17) := ⟨⟨by decide +kernel, by decide +kernel⟩, List.mem_of_getElem? (i := 449) (by decide +kernel), List.mem_of_getElem? (i := 591) (by decide +kernel), List.mem_of_getElem? (i := 592) (by decide +kernel)⟩
theorem lw_p29 : lw_okq (⟨"PackedBitsModel", "operateOn", "(IIII)V"⟩, 17) := ⟨⟨by decide +kernel, by decide +kernel⟩, List.mem_of_getElem? (i := 449) (by decide +kernel), List.mem_of_getElem? (i := 595) (by decide +kernel), List.mem_of_getElem? (i := 596) (by decide +kernel)⟩
theorem lw_p30 : lw_okq (⟨"PackedBitsModel", "copy", "(II)V"⟩, 17) := ⟨⟨by decide +kernel, by decide +kernel⟩, List.mem_of_getElem? (i := 449) (by decide +kernel), List.mem_of_getElem? (i := 605) (by decide +kernel), List.mem_of_getElem? (i := 606) (by decide +kernel)⟩
theorem lw_p31 : lw_okq (⟨"PackedBitsModel", "turn", "(I)V"⟩, 17) := ⟨⟨by decide +kernel, by decide +kernel⟩, List.mem_of_getElem? (i := 449) (by decide +kernel), List.mem_of_getElem? (i := 613) (by decide +kernel), List.mem_of_getElem? (i := 614) (by decide +kernel)⟩
def lw_privs_2 : List (MethodName × Nat) := [(⟨"PackedBitsModel", "copyState", "(II)V"⟩, 17), (⟨"PackedBitsModel", "record", "()V"⟩, 17), (⟨"PackedBitsModel", "isRow", "(I)Z"⟩, 17), (⟨"PackedBitsModel", "push", "(II)V"⟩, 17), (⟨"PackedBitsModel", "put", "(III)V"⟩, 17), (⟨"PackedBitsModel", "words", "(II)I"⟩, 17), (⟨"PackedBitsModel", "groups", "(I)I"⟩, 17), (⟨"PackedBitsModel", "kind", "(II)I"⟩, 17), (⟨"PackedBitsModel", "group", "(II)I"⟩, 17), (⟨"PackedBitsModel", "bitOf", "(II)I"⟩, 17), (⟨"PackedBitsModel", "behind", "(II)I"⟩, 17), (⟨"PackedBitsModel", "isPlace", "(III)Z"⟩, 17), (⟨"PackedBitsModel", "workOf", "(II)I"⟩, 17), (⟨"PackedBitsModel", "operateOn", "(IIII)V"⟩, 17), (⟨"PackedBitsModel", "copy", "(II)V"⟩, 17), (⟨"PackedBitsModel", "turn", "(I)V"⟩, 17)]
theorem lw_r2 : ∀ q ∈ lw_privs_2, lw_okq q := List.forall_mem_cons.mpr ⟨lw_p16, List.forall_mem_cons.mpr ⟨lw_p17, List.forall_mem_cons.mpr ⟨lw_p18, List.forall_mem_cons.mpr ⟨lw_p19, List.forall_mem_cons.mpr ⟨lw_p20, List.forall_mem_cons.mpr ⟨lw_p21, List.forall_mem_cons.mpr ⟨lw_p22, List.forall_mem_cons.mpr ⟨lw_p23, List.forall_mem_cons.mpr ⟨lw_p24, List.forall_mem_cons.mpr ⟨lw_p25, List.forall_mem_cons.mpr ⟨lw_p26, List.forall_mem_cons.mpr ⟨lw_p27, List.forall_mem_cons.mpr ⟨lw_p28, List.forall_mem_cons.mpr ⟨lw_p29, List.forall_mem_cons.mpr ⟨lw_p30, List.forall_mem_cons.mpr ⟨lw_p31, fun _ h => absurd h List.not_mem_nil⟩⟩⟩⟩⟩⟩⟩⟩⟩⟩⟩⟩⟩⟩⟩⟩
theorem lw_p32 : lw_okq (⟨"PackedBitsModel", "ones", "(I)I"⟩, 17) := ⟨⟨by decide +kernel, by decide +kernel⟩, List.mem_of_getElem? (i := 449) (by decide +kernel), List.mem_of_getElem? (i := 617) (by decide +kernel), List.mem_of_getElem? (i := 618) (by decide +kernel)⟩
theorem lw_p33 : lw_okq (⟨"PackedBitsModel", "shiftOn", "(II)V"⟩, 17) := ⟨⟨by decide +kernel, by decide +kernel⟩, List.mem_of_getElem? (i := 449) (by decide +kernel), List.mem_of_getElem? (i := 625) (by decide +kernel), List.mem_of_getElem? (i := 626) (by decide +kernel)⟩
theorem lw_p34 : lw_okq (⟨"PackedBitsModel", "reads", "(Z)Z"⟩, 17) := ⟨⟨by decide +kernel, by decide +kernel⟩, List.mem_of_getElem? (i := 449) (by decide +kernel), List.mem_of_getElem? (i := 641) (by decide +kernel), List.mem_of_getElem? (i := 642) (by decide +kernel)⟩
theorem lw_p35 : lw_okq (⟨"PackedBitsModel", "readsFactor", "()Z"⟩, 17) := ⟨⟨by decide +kernel, by decide +kernel⟩, List.mem_of_getElem? (i := 449) (by decide +kernel), List.mem_of_getElem? (i := 645) (by decide +kernel), List.mem_of_getElem? (i := 646) (by decide +kernel)⟩
theorem lw_p36 : lw_okq (⟨"PackedBitsModel", "code", "()I"⟩, 17) := ⟨⟨by decide +kernel, by decide +kernel⟩, List.mem_of_getElem? (i := 449) (by decide +kernel), List.mem_of_getElem? (i := 649) (by decide +kernel), List.mem_of_getElem? (i := 650) (by decide +kernel)⟩
theorem lw_p37 : lw_okq (⟨"PackedBitsModel", "push", "(I)V"⟩, 17) := ⟨⟨by decide +kernel, by decide +kernel⟩, List.mem_of_getElem? (i := 449) (by decide +kernel), List.mem_of_getElem? (i := 653) (by decide +kernel), List.mem_of_getElem? (i := 654) (by decide +kernel)⟩
theorem lw_p38 : lw_okq (⟨"PackedBitsModel", "readsRow", "()Z"⟩, 17) := ⟨⟨by decide +kernel, by decide +kernel⟩, List.mem_of_getElem? (i := 449) (by decide +kernel), List.mem_of_getElem? (i := 657) (by decide +kernel), List.mem_of_getElem? (i := 658) (by decide +kernel)⟩
theorem lw_p39 : lw_okq (⟨"PackedBitsModel", "readsNumber", "()Z"⟩, 17) := ⟨⟨by decide +kernel, by decide +kernel⟩, List.mem_of_getElem? (i := 449) (by decide +kernel), List.mem_of_getElem? (i := 661) (by decide +kernel), List.mem_of_getElem? (i := 662) (by decide +kernel)⟩
theorem lw_p40 : lw_okq (⟨"PackedBitsModel", "wrong", "(ZI)V"⟩, 17) := ⟨⟨by decide +kernel, by decide +kernel⟩, List.mem_of_getElem? (i := 449) (by decide +kernel), List.mem_of_getElem? (i := 665) (by decide +kernel), List.mem_of_getElem? (i := 666) (by decide +kernel)⟩
theorem lw_p41 : lw_okq (⟨"PackedBitsModel", "closeFactor", "()V"⟩, 17) := ⟨⟨by decide +kernel, by decide +kernel⟩, List.mem_of_getElem? (i := 449) (by decide +kernel), List.mem_of_getElem? (i := 669) (by decide +kernel), List.mem_of_getElem? (i := 670) (by decide +kernel)⟩
theorem lw_p42 : lw_okq (⟨"PackedBitsModel", "top", "()I"⟩, 17) := ⟨⟨by decide +kernel, by decide +kernel⟩, List.mem_of_getElem? (i := 449) (by decide +kernel), List.mem_of_getElem? (i := 673) (by decide +kernel), List.mem_of_getElem? (i := 674) (by decide +kernel)⟩
theorem lw_p43 : lw_okq (⟨"PackedBitsModel", "pop", "()I"⟩, 17) := ⟨⟨by decide +kernel, by decide +kernel⟩, List.mem_of_getElem? (i := 449) (by decide +kernel), List.mem_of_getElem? (i := 677) (by decide +kernel), List.mem_of_getElem? (i := 678) (by decide +kernel)⟩
theorem lw_p44 : lw_okq (⟨"PackedBitsModel", "readsOn", "()Z"⟩, 17) := ⟨⟨by decide +kernel, by decide +kernel⟩, List.mem_of_getElem? (i := 449) (by decide +kernel), List.mem_of_getElem? (i := 681) (by decide +kernel), List.mem_of_getElem? (i := 682) (by decide +kernel)⟩
theorem lw_p45 : lw_okq (⟨"PackedBitsModel", "doTo", "(I)V"⟩, 17) := ⟨⟨by decide +kernel, by decide +kernel⟩, List.mem_of_getElem? (i := 449) (by decide +kernel), List.mem_of_getElem? (i := 685) (by decide +kernel), List.mem_of_getElem? (i := 686) (by decide +kernel)⟩
theorem lw_p46 : lw_okq (⟨"PackedBitsModel", "fail", "(III)I"⟩, 17) := ⟨⟨by decide +kernel, by decide +kernel⟩, List.mem_of_getElem? (i := 449) (by decide +kernel), List.mem_of_getElem? (i := 695) (by decide +kernel), List.mem_of_getElem? (i := 696) (by decide +kernel)⟩
theorem lw_p47 : lw_okq (⟨"PackedBitsModel", "placeOf", "(II)I"⟩, 17) := ⟨⟨by decide +kernel, by decide +kernel⟩, List.mem_of_getElem? (i := 449) (by decide +kernel), List.mem_of_getElem? (i := 711) (by decide +kernel), List.mem_of_getElem? (i := 712) (by decide +kernel)⟩
def lw_privs_3 : List (MethodName × Nat) := [(⟨"PackedBitsModel", "ones", "(I)I"⟩, 17), (⟨"PackedBitsModel", "shiftOn", "(II)V"⟩, 17), (⟨"PackedBitsModel", "reads", "(Z)Z"⟩, 17), (⟨"PackedBitsModel", "readsFactor", "()Z"⟩, 17), (⟨"PackedBitsModel", "code", "()I"⟩, 17), (⟨"PackedBitsModel", "push", "(I)V"⟩, 17), (⟨"PackedBitsModel", "readsRow", "()Z"⟩, 17), (⟨"PackedBitsModel", "readsNumber", "()Z"⟩, 17), (⟨"PackedBitsModel", "wrong", "(ZI)V"⟩, 17), (⟨"PackedBitsModel", "closeFactor", "()V"⟩, 17), (⟨"PackedBitsModel", "top", "()I"⟩, 17), (⟨"PackedBitsModel", "pop", "()I"⟩, 17), (⟨"PackedBitsModel", "readsOn", "()Z"⟩, 17), (⟨"PackedBitsModel", "doTo", "(I)V"⟩, 17), (⟨"PackedBitsModel", "fail", "(III)I"⟩, 17), (⟨"PackedBitsModel", "placeOf", "(II)I"⟩, 17)]
theorem lw_r3 : ∀ q ∈ lw_privs_3, lw_okq q := List.forall_mem_cons.mpr ⟨lw_p32, List.forall_mem_cons.mpr ⟨lw_p33, List.forall_mem_cons.mpr ⟨lw_p34, List.forall_mem_cons.mpr ⟨lw_p35, List.forall_mem_cons.mpr ⟨lw_p36, List.forall_mem_cons.mpr ⟨lw_p37, List.forall_mem_cons.mpr ⟨lw_p38, List.forall_mem_cons.mpr ⟨lw_p39, List.forall_mem_cons.mpr ⟨lw_p40, List.forall_mem_cons.mpr ⟨lw_p41, List.forall_mem_cons.mpr ⟨lw_p42, List.forall_mem_cons.mpr ⟨lw_p43, List.forall_mem_cons.mpr ⟨lw_p44, List.forall_mem_cons.mpr ⟨lw_p45, List.forall_mem_cons.mpr ⟨lw_p46, List.forall_mem_cons.mpr ⟨lw_p47, fun _ h => absurd h List.not_mem_nil⟩⟩⟩⟩⟩⟩⟩⟩⟩⟩⟩⟩⟩⟩⟩⟩
theorem lw_p48 : lw_okq (⟨"PackedBitsModel", "codeAt", "(II)I"⟩, 17) := ⟨⟨by decide +kernel, by decide +kernel⟩, List.mem_of_getElem? (i := 449) (by decide +kernel), List.mem_of_getElem? (i := 719) (by decide +kernel), List.mem_of_getElem? (i := 720) (by decide +kernel)⟩
theorem lw_p49 : lw_okq (⟨"PackedBitsModel", "areSame", "(II)Z"⟩, 17) := ⟨⟨by decide +kernel, by decide +kernel⟩, List.mem_of_getElem? (i := 449) (by decide +kernel), List.mem_of_getElem? (i := 745) (by decide +kernel), List.mem_of_getElem? (i := 746) (by decide +kernel)⟩
def lw_privs_4 : List (MethodName × Nat) := [(⟨"PackedBitsModel", "codeAt", "(II)I"⟩, 17), (⟨"PackedBitsModel", "areSame", "(II)Z"⟩, 17)]
theorem lw_r4 : ∀ q ∈ lw_privs_4, lw_okq q := List.forall_mem_cons.mpr ⟨lw_p48, List.forall_mem_cons.mpr ⟨lw_p49, fun _ h => absurd h List.not_mem_nil⟩⟩
def lw_privs : List (MethodName × Nat) := lw_privs_1 ++ (lw_privs_2 ++ (lw_privs_3 ++ (lw_privs_4)))
def lw_tbl : List Cond := k2_sels lw_privs ++ tables_1
theorem lw_privs_ok : ∀ q ∈ lw_privs, lw_okq q := by
  show ∀ q ∈ lw_privs_1 ++ (lw_privs_2 ++ (lw_privs_3 ++ (lw_privs_4))), lw_okq q
  exact List.forall_mem_append.mpr ⟨lw_r1, List.forall_mem_append.mpr ⟨lw_r2, List.forall_mem_append.mpr ⟨lw_r3, lw_r4⟩⟩⟩
def RX0 : String := "PackedBits$Bits"
def TX0 : u_T := fun k => match k with
  | 0 => ("PackedBits$Bits", "groups", "[I", true)
  | _ => ("PackedBits$Bits", "length", "I", false)
def tyX0 : Nat → FieldType := fun k => match k with
  | 0 => .array .int
  | _ => .int
abbrev wsX00 : List Cond := u_ws RX0 TX0 2
theorem nmX0 : ∀ a, a < 2 → ∀ b, b < 2 → a ≠ b → (TX0 a).2.1 ≠ (TX0 b).2.1 := by decide +kernel
theorem tyX0_ok : ∀ k, k < 2 → parseFieldDescriptor (TX0 k).2.2.1 = some (tyX0 k) := by decide +kernel
abbrev cX0_init : ByteArray := prog_2_method_1_code
def yX0_init : MethodName := ⟨RX0, "<init>", "()V"⟩
abbrev cX0_groupCount : ByteArray := prog_2_method_2_code
def yX0_groupCount : MethodName := ⟨RX0, "groupCount", "()I"⟩
abbrev cX0_groupAt : ByteArray := prog_2_method_3_code
def yX0_groupAt : MethodName := ⟨RX0, "groupAt", "(I)I"⟩
abbrev cX0_valueAt : ByteArray := prog_2_method_4_code
def yX0_valueAt : MethodName := ⟨RX0, "valueAt", "(I)I"⟩
abbrev cX0_putAt : ByteArray := prog_2_method_5_code
def yX0_putAt : MethodName := ⟨RX0, "putAt", "(II)V"⟩
abbrev cX0_copyFrom : ByteArray := prog_2_method_6_code
def yX0_copyFrom : MethodName := ⟨RX0, "copyFrom", "(LPackedBits$Bits;)V"⟩
abbrev cX0_cutTo : ByteArray := prog_2_method_7_code
def yX0_cutTo : MethodName := ⟨RX0, "cutTo", "(I)V"⟩
abbrev cX0_addRun : ByteArray := prog_2_method_8_code
def yX0_addRun : MethodName := ⟨RX0, "addRun", "(II)V"⟩
abbrev cX0_addNumber : ByteArray := prog_2_method_9_code
def yX0_addNumber : MethodName := ⟨RX0, "addNumber", "(II)V"⟩
abbrev cX0_invert : ByteArray := prog_2_method_10_code
def yX0_invert : MethodName := ⟨RX0, "invert", "()V"⟩
abbrev cX0_combine : ByteArray := prog_2_method_11_code
def yX0_combine : MethodName := ⟨RX0, "combine", "(ILPackedBits$Bits;LPackedBits$Bits;)V"⟩
abbrev cX0_combined : ByteArray := prog_2_method_12_code
def yX0_combined : MethodName := ⟨RX0, "combined", "(III)I"⟩
abbrev cX0_moveFrom : ByteArray := prog_2_method_13_code
def yX0_moveFrom : MethodName := ⟨RX0, "moveFrom", "(LPackedBits$Bits;I)V"⟩
abbrev cX0_ones : ByteArray := prog_2_method_14_code
def yX0_ones : MethodName := ⟨RX0, "ones", "()I"⟩
abbrev cX0_onesBefore : ByteArray := prog_2_method_15_code
def yX0_onesBefore : MethodName := ⟨RX0, "onesBefore", "(I)I"⟩
abbrev cX0_placeOfOne : ByteArray := prog_2_method_16_code
def yX0_placeOfOne : MethodName := ⟨RX0, "placeOfOne", "(I)I"⟩
abbrev cX0_placeInGroup : ByteArray := prog_2_method_17_code
def yX0_placeInGroup : MethodName := ⟨RX0, "placeInGroup", "(II)I"⟩
abbrev cX0_matches : ByteArray := prog_2_method_18_code
def yX0_matches : MethodName := ⟨RX0, "matches", "(LPackedBits$Bits;)Z"⟩
abbrev cX0_maskBefore : ByteArray := prog_2_method_19_code
def yX0_maskBefore : MethodName := ⟨RX0, "maskBefore", "(II)I"⟩
def RX1 : String := "PackedBits$Change"
def TX1 : u_T := fun k => match k with
  | 0 => ("PackedBits$Change", "before", "LPackedBits$Bits;", true)
  | 1 => ("PackedBits$Change", "made", "I", false)
  | _ => ("PackedBits$Change", "number", "I", false)
def tyX1 : Nat → FieldType := fun k => match k with
  | 0 => .object "PackedBits$Bits"
  | 1 => .int
  | _ => .int
abbrev wsX10 : List Cond := u_ws RX1 TX1 3
theorem nmX1 : ∀ a, a < 3 → ∀ b, b < 3 → a ≠ b → (TX1 a).2.1 ≠ (TX1 b).2.1 := by decide +kernel
theorem tyX1_ok : ∀ k, k < 3 → parseFieldDescriptor (TX1 k).2.2.1 = some (tyX1 k) := by decide +kernel
abbrev cX1_init : ByteArray := prog_3_method_1_code
def yX1_init : MethodName := ⟨RX1, "<init>", "()V"⟩
def RX2 : String := "PackedBits$Expression"
def TX2 : u_T := fun k => match k with
  | 0 => ("PackedBits$Expression", "signs", "[C", true)
  | 1 => ("PackedBits$Expression", "length", "I", false)
  | 2 => ("PackedBits$Expression", "kind", "I", false)
  | 3 => ("PackedBits$Expression", "place", "I", false)
  | 4 => ("PackedBits$Expression", "within", "I", false)
  | 5 => ("PackedBits$Expression", "values", "[LPackedBits$Bits;", true)
  | 6 => ("PackedBits$Expression", "rows", "[LPackedBits$Bits;", false)
  | 7 => ("PackedBits$Expression", "made", "I", false)
  | 8 => ("PackedBits$Expression", "at", "I", false)
  | _ => ("PackedBits$Expression", "failed", "Z", false)
def tyX2 : Nat → FieldType := fun k => match k with
  | 0 => .array .char
  | 1 => .int
  | 2 => .int
  | 3 => .int
  | 4 => .int
  | 5 => .array (.object "PackedBits$Bits")
  | 6 => .array (.object "PackedBits$Bits")
  | 7 => .int
  | 8 => .int
  | _ => .boolean
abbrev wsX20 : List Cond := u_ws RX2 TX2 10
theorem nmX2 : ∀ a, a < 10 → ∀ b, b < 10 → a ≠ b → (TX2 a).2.1 ≠ (TX2 b).2.1 := by decide +kernel
theorem tyX2_ok : ∀ k, k < 10 → parseFieldDescriptor (TX2 k).2.2.1 = some (tyX2 k) := by decide +kernel
abbrev cX2_init : ByteArray := prog_4_method_1_code
def yX2_init : MethodName := ⟨RX2, "<init>", "()V"⟩
abbrev cX2_addSign : ByteArray := prog_4_method_2_code
def yX2_addSign : MethodName := ⟨RX2, "addSign", "(C)V"⟩
abbrev cX2_result : ByteArray := prog_4_method_3_code
def yX2_result : MethodName := ⟨RX2, "result", "()LPackedBits$Bits;"⟩
abbrev cX2_read : ByteArray := prog_4_method_4_code
def yX2_read : MethodName := ⟨RX2, "read", "([LPackedBits$Bits;I)Z"⟩
abbrev cX2_readSum : ByteArray := prog_4_method_5_code
def yX2_readSum : MethodName := ⟨RX2, "readSum", "(II)Z"⟩
abbrev cX2_readProduct : ByteArray := prog_4_method_6_code
def yX2_readProduct : MethodName := ⟨RX2, "readProduct", "(II)Z"⟩
abbrev cX2_combineAt : ByteArray := prog_4_method_7_code
def yX2_combineAt : MethodName := ⟨RX2, "combineAt", "(II)V"⟩
abbrev cX2_readFactor : ByteArray := prog_4_method_8_code
def yX2_readFactor : MethodName := ⟨RX2, "readFactor", "(II)Z"⟩
abbrev cX2_readBracket : ByteArray := prog_4_method_9_code
def yX2_readBracket : MethodName := ⟨RX2, "readBracket", "(II)Z"⟩
abbrev cX2_readRow : ByteArray := prog_4_method_10_code
def yX2_readRow : MethodName := ⟨RX2, "readRow", "(II)Z"⟩
abbrev cX2_readNumber : ByteArray := prog_4_method_11_code
def yX2_readNumber : MethodName := ⟨RX2, "readNumber", "(II)I"⟩
abbrev cX2_nextSign : ByteArray := prog_4_method_12_code
def yX2_nextSign : MethodName := ⟨RX2, "nextSign", "()C"⟩
abbrev cX2_signHere : ByteArray := prog_4_method_13_code
def yX2_signHere : MethodName := ⟨RX2, "signHere", "()C"⟩
abbrev cX2_isDigit : ByteArray := prog_4_method_14_code
def yX2_isDigit : MethodName := ⟨RX2, "isDigit", "(C)Z"⟩
abbrev cX2_breakOff : ByteArray := prog_4_method_15_code
def yX2_breakOff : MethodName := ⟨RX2, "breakOff", "(I)Z"⟩
abbrev cX2_fail : ByteArray := prog_4_method_16_code
def yX2_fail : MethodName := ⟨RX2, "fail", "(III)V"⟩
def RX3 : String := "PackedBits$History"
def TX3 : u_T := fun k => match k with
  | 0 => ("PackedBits$History", "changes", "[LPackedBits$Change;", true)
  | _ => ("PackedBits$History", "kept", "I", false)
def tyX3 : Nat → FieldType := fun k => match k with
  | 0 => .array (.object "PackedBits$Change")
  | _ => .int
abbrev wsX30 : List Cond := u_ws RX3 TX3 2
theorem nmX3 : ∀ a, a < 2 → ∀ b, b < 2 → a ≠ b → (TX3 a).2.1 ≠ (TX3 b).2.1 := by decide +kernel
theorem tyX3_ok : ∀ k, k < 2 → parseFieldDescriptor (TX3 k).2.2.1 = some (tyX3 k) := by decide +kernel
abbrev cX3_init : ByteArray := prog_5_method_1_code
def yX3_init : MethodName := ⟨RX3, "<init>", "()V"⟩
abbrev cX3_add : ByteArray := prog_5_method_2_code
def yX3_add : MethodName := ⟨RX3, "add", "(IILPackedBits$Bits;)V"⟩
abbrev cX3_dropOldest : ByteArray := prog_5_method_3_code
def yX3_dropOldest : MethodName := ⟨RX3, "dropOldest", "()V"⟩
abbrev cX3_removeLatest : ByteArray := prog_5_method_4_code
def yX3_removeLatest : MethodName := ⟨RX3, "removeLatest", "()LPackedBits$Change;"⟩
def RX4 : String := "PackedBits$Words"
def TX4 : u_T := fun k => match k with
  | _ => ("", "", "", false)
def tyX4 : Nat → FieldType := fun k => match k with
  | _ => .int
abbrev wsX40 : List Cond := u_ws RX4 TX4 0
theorem nmX4 : ∀ a, a < 0 → ∀ b, b < 0 → a ≠ b → (TX4 a).2.1 ≠ (TX4 b).2.1 := by decide +kernel
theorem tyX4_ok : ∀ k, k < 0 → parseFieldDescriptor (TX4 k).2.2.1 = some (tyX4 k) := by decide +kernel
abbrev cX4_isLiteral : ByteArray := prog_6_method_2_code
def yX4_isLiteral : MethodName := ⟨RX4, "isLiteral", "(I)Z"⟩
abbrev cX4_endOf : ByteArray := prog_6_method_3_code
def yX4_endOf : MethodName := ⟨RX4, "endOf", "(LPackedBits$Bits;I)I"⟩
abbrev cX4_size : ByteArray := prog_6_method_4_code
def yX4_size : MethodName := ⟨RX4, "size", "(LPackedBits$Bits;)I"⟩
abbrev cX4_literals : ByteArray := prog_6_method_5_code
def yX4_literals : MethodName := ⟨RX4, "literals", "(LPackedBits$Bits;)I"⟩
abbrev cX4_fillsOf : ByteArray := prog_6_method_6_code
def yX4_fillsOf : MethodName := ⟨RX4, "fillsOf", "(LPackedBits$Bits;I)I"⟩
abbrev cX4_codeOf : ByteArray := prog_6_method_7_code
def yX4_codeOf : MethodName := ⟨RX4, "codeOf", "(LPackedBits$Bits;I)I"⟩
abbrev cX4_code : ByteArray := prog_6_method_8_code
def yX4_code : MethodName := ⟨RX4, "code", "(II)I"⟩
abbrev cX4_work : ByteArray := prog_6_method_9_code
def yX4_work : MethodName := ⟨RX4, "work", "(LPackedBits$Bits;LPackedBits$Bits;)I"⟩
def RX5 : String := "PackedBits"
def TX5 : u_T := fun k => match k with
  | 0 => ("PackedBits", "rows", "[LPackedBits$Bits;", true)
  | 1 => ("PackedBits", "made", "I", false)
  | 2 => ("PackedBits", "history", "LPackedBits$History;", true)
  | 3 => ("PackedBits", "text", "LPackedBits$Expression;", true)
  | _ => ("PackedBits", "spare", "LPackedBits$Bits;", true)
def tyX5 : Nat → FieldType := fun k => match k with
  | 0 => .array (.object "PackedBits$Bits")
  | 1 => .int
  | 2 => .object "PackedBits$History"
  | 3 => .object "PackedBits$Expression"
  | _ => .object "PackedBits$Bits"
abbrev wsX50 : List Cond := u_ws RX5 TX5 5
theorem nmX5 : ∀ a, a < 5 → ∀ b, b < 5 → a ≠ b → (TX5 a).2.1 ≠ (TX5 b).2.1 := by decide +kernel
theorem tyX5_ok : ∀ k, k < 5 → parseFieldDescriptor (TX5 k).2.2.1 = some (tyX5 k) := by decide +kernel
abbrev cX5_init : ByteArray := prog_1_method_1_code
def yX5_init : MethodName := ⟨RX5, "<init>", "()V"⟩
abbrev cX5_make : ByteArray := prog_1_method_2_code
def yX5_make : MethodName := ⟨RX5, "make", "()I"⟩
abbrev cX5_append : ByteArray := prog_1_method_3_code
def yX5_append : MethodName := ⟨RX5, "append", "(III)I"⟩
abbrev cX5_write : ByteArray := prog_1_method_4_code
def yX5_write : MethodName := ⟨RX5, "write", "(III)I"⟩
abbrev cX5_set : ByteArray := prog_1_method_5_code
def yX5_set : MethodName := ⟨RX5, "set", "(III)I"⟩
abbrev cX5_resize : ByteArray := prog_1_method_6_code
def yX5_resize : MethodName := ⟨RX5, "resize", "(II)I"⟩
abbrev cX5_operate : ByteArray := prog_1_method_7_code
def yX5_operate : MethodName := ⟨RX5, "operate", "(IIII)I"⟩
abbrev cX5_not : ByteArray := prog_1_method_8_code
def yX5_not : MethodName := ⟨RX5, "not", "(I)I"⟩
abbrev cX5_shift : ByteArray := prog_1_method_9_code
def yX5_shift : MethodName := ⟨RX5, "shift", "(II)I"⟩
abbrev cX5_undo : ByteArray := prog_1_method_10_code
def yX5_undo : MethodName := ⟨RX5, "undo", "()I"⟩
abbrev cX5_type : ByteArray := prog_1_method_11_code
def yX5_type : MethodName := ⟨RX5, "type", "(I)I"⟩
abbrev cX5_clearText : ByteArray := prog_1_method_12_code
def yX5_clearText : MethodName := ⟨RX5, "clearText", "()I"⟩
abbrev cX5_evaluate : ByteArray := prog_1_method_13_code
def yX5_evaluate : MethodName := ⟨RX5, "evaluate", "(I)I"⟩
abbrev cX5_failure : ByteArray := prog_1_method_14_code
def yX5_failure : MethodName := ⟨RX5, "failure", "(I)I"⟩
abbrev cX5_count : ByteArray := prog_1_method_15_code
def yX5_count : MethodName := ⟨RX5, "count", "(I)I"⟩
abbrev cX5_row : ByteArray := prog_1_method_16_code
def yX5_row : MethodName := ⟨RX5, "row", "(II)I"⟩
abbrev cX5_word : ByteArray := prog_1_method_17_code
def yX5_word : MethodName := ⟨RX5, "word", "(II)I"⟩
abbrev cX5_bit : ByteArray := prog_1_method_18_code
def yX5_bit : MethodName := ⟨RX5, "bit", "(II)I"⟩
abbrev cX5_rank : ByteArray := prog_1_method_19_code
def yX5_rank : MethodName := ⟨RX5, "rank", "(II)I"⟩
abbrev cX5_select : ByteArray := prog_1_method_20_code
def yX5_select : MethodName := ⟨RX5, "select", "(II)I"⟩
abbrev cX5_would : ByteArray := prog_1_method_21_code
def yX5_would : MethodName := ⟨RX5, "would", "(IIII)I"⟩
abbrev cX5_same : ByteArray := prog_1_method_22_code
def yX5_same : MethodName := ⟨RX5, "same", "(I)I"⟩
abbrev cX5_bestShift : ByteArray := prog_1_method_23_code
def yX5_bestShift : MethodName := ⟨RX5, "bestShift", "(I)I"⟩
abbrev cX5_record : ByteArray := prog_1_method_24_code
def yX5_record : MethodName := ⟨RX5, "record", "(I)V"⟩
abbrev cX5_sum : ByteArray := prog_1_method_25_code
def yX5_sum : MethodName := ⟨RX5, "sum", "(I)I"⟩
abbrev cX5_property : ByteArray := prog_1_method_26_code
def yX5_property : MethodName := ⟨RX5, "property", "(LPackedBits$Bits;I)I"⟩
abbrev cX5_isRow : ByteArray := prog_1_method_27_code
def yX5_isRow : MethodName := ⟨RX5, "isRow", "(I)Z"⟩
abbrev cX5_isPlace : ByteArray := prog_1_method_28_code
def yX5_isPlace : MethodName := ⟨RX5, "isPlace", "(II)Z"⟩
abbrev cX5_isBit : ByteArray := prog_1_method_29_code
def yX5_isBit : MethodName := ⟨RX5, "isBit", "(I)Z"⟩
abbrev cX5_isOperation : ByteArray := prog_1_method_30_code
def yX5_isOperation : MethodName := ⟨RX5, "isOperation", "(I)Z"⟩
abbrev cX5_isWithin : ByteArray := prog_1_method_31_code
def yX5_isWithin : MethodName := ⟨RX5, "isWithin", "(III)Z"⟩
def RX6 : String := "PackedBitsModel"
def TX6 : u_T := fun k => match k with
  | 0 => ("PackedBitsModel", "all", "[I", true)
  | 1 => ("PackedBitsModel", "states", "I", false)
  | 2 => ("PackedBitsModel", "text", "[I", true)
  | 3 => ("PackedBitsModel", "length", "I", false)
  | 4 => ("PackedBitsModel", "ends", "[I", true)
  | 5 => ("PackedBitsModel", "failed", "I", false)
  | 6 => ("PackedBitsModel", "failedAt", "I", false)
  | 7 => ("PackedBitsModel", "failedWithin", "I", false)
  | 8 => ("PackedBitsModel", "pos", "I", false)
  | 9 => ("PackedBitsModel", "signs", "[I", true)
  | 10 => ("PackedBitsModel", "signMany", "I", false)
  | 11 => ("PackedBitsModel", "within", "I", false)
  | 12 => ("PackedBitsModel", "made", "I", false)
  | 13 => ("PackedBitsModel", "does", "Z", false)
  | 14 => ("PackedBitsModel", "wrongAt", "I", false)
  | 15 => ("PackedBitsModel", "wrongWithin", "I", false)
  | _ => ("PackedBitsModel", "number", "I", false)
def tyX6 : Nat → FieldType := fun k => match k with
  | 0 => .array .int
  | 1 => .int
  | 2 => .array .int
  | 3 => .int
  | 4 => .array .int
  | 5 => .int
  | 6 => .int
  | 7 => .int
  | 8 => .int
  | 9 => .array .int
  | 10 => .int
  | 11 => .int
  | 12 => .int
  | 13 => .boolean
  | 14 => .int
  | 15 => .int
  | _ => .int
abbrev wsX60 : List Cond := u_ws RX6 TX6 17
theorem nmX6 : ∀ a, a < 17 → ∀ b, b < 17 → a ≠ b → (TX6 a).2.1 ≠ (TX6 b).2.1 := by decide +kernel
theorem tyX6_ok : ∀ k, k < 17 → parseFieldDescriptor (TX6 k).2.2.1 = some (tyX6 k) := by decide +kernel
abbrev cX6_init : ByteArray := prog_8_method_1_code
def yX6_init : MethodName := ⟨RX6, "<init>", "()V"⟩
abbrev cX6_in : ByteArray := prog_8_method_2_code
def yX6_in : MethodName := ⟨RX6, "in", "(III)Z"⟩
abbrev cX6_copyState : ByteArray := prog_8_method_3_code
def yX6_copyState : MethodName := ⟨RX6, "copyState", "(II)V"⟩
abbrev cX6_record : ByteArray := prog_8_method_4_code
def yX6_record : MethodName := ⟨RX6, "record", "()V"⟩
abbrev cX6_undo : ByteArray := prog_8_method_5_code
def yX6_undo : MethodName := ⟨RX6, "undo", "()I"⟩
abbrev cX6_isRow : ByteArray := prog_8_method_6_code
def yX6_isRow : MethodName := ⟨RX6, "isRow", "(I)Z"⟩
abbrev cX6_at : ByteArray := prog_8_method_7_code
def yX6_at : MethodName := ⟨RX6, "at", "(I)I"⟩
abbrev cX6_asked : ByteArray := prog_8_method_8_code
def yX6_asked : MethodName := ⟨RX6, "asked", "(I)I"⟩
abbrev cX6_bitOf : ByteArray := prog_8_method_9_code
def yX6_bitOf : MethodName := ⟨RX6, "bitOf", "(II)I"⟩
abbrev cX6_put : ByteArray := prog_8_method_10_code
def yX6_put : MethodName := ⟨RX6, "put", "(III)V"⟩
abbrev cX6_copy : ByteArray := prog_8_method_11_code
def yX6_copy : MethodName := ⟨RX6, "copy", "(II)V"⟩
abbrev cX6_ones : ByteArray := prog_8_method_12_code
def yX6_ones : MethodName := ⟨RX6, "ones", "(I)I"⟩
abbrev cX6_groups : ByteArray := prog_8_method_13_code
def yX6_groups : MethodName := ⟨RX6, "groups", "(I)I"⟩
abbrev cX6_group : ByteArray := prog_8_method_14_code
def yX6_group : MethodName := ⟨RX6, "group", "(II)I"⟩
abbrev cX6_kind : ByteArray := prog_8_method_15_code
def yX6_kind : MethodName := ⟨RX6, "kind", "(II)I"⟩
abbrev cX6_behind : ByteArray := prog_8_method_16_code
def yX6_behind : MethodName := ⟨RX6, "behind", "(II)I"⟩
abbrev cX6_words : ByteArray := prog_8_method_17_code
def yX6_words : MethodName := ⟨RX6, "words", "(II)I"⟩
abbrev cX6_codeAt : ByteArray := prog_8_method_18_code
def yX6_codeAt : MethodName := ⟨RX6, "codeAt", "(II)I"⟩
abbrev cX6_result : ByteArray := prog_8_method_19_code
def yX6_result : MethodName := ⟨RX6, "result", "(III)I"⟩
abbrev cX6_operateOn : ByteArray := prog_8_method_20_code
def yX6_operateOn : MethodName := ⟨RX6, "operateOn", "(IIII)V"⟩
abbrev cX6_turn : ByteArray := prog_8_method_21_code
def yX6_turn : MethodName := ⟨RX6, "turn", "(I)V"⟩
abbrev cX6_shiftOn : ByteArray := prog_8_method_22_code
def yX6_shiftOn : MethodName := ⟨RX6, "shiftOn", "(II)V"⟩
abbrev cX6_workOf : ByteArray := prog_8_method_23_code
def yX6_workOf : MethodName := ⟨RX6, "workOf", "(II)I"⟩
abbrev cX6_make : ByteArray := prog_8_method_24_code
def yX6_make : MethodName := ⟨RX6, "make", "()I"⟩
abbrev cX6_push : ByteArray := prog_8_method_25_code
def yX6_push : MethodName := ⟨RX6, "push", "(II)V"⟩
abbrev cX6_append : ByteArray := prog_8_method_26_code
def yX6_append : MethodName := ⟨RX6, "append", "(III)I"⟩
abbrev cX6_write : ByteArray := prog_8_method_27_code
def yX6_write : MethodName := ⟨RX6, "write", "(III)I"⟩
abbrev cX6_isPlace : ByteArray := prog_8_method_28_code
def yX6_isPlace : MethodName := ⟨RX6, "isPlace", "(III)Z"⟩
abbrev cX6_set : ByteArray := prog_8_method_29_code
def yX6_set : MethodName := ⟨RX6, "set", "(III)I"⟩
abbrev cX6_resize : ByteArray := prog_8_method_30_code
def yX6_resize : MethodName := ⟨RX6, "resize", "(II)I"⟩
abbrev cX6_operate : ByteArray := prog_8_method_31_code
def yX6_operate : MethodName := ⟨RX6, "operate", "(IIII)I"⟩
abbrev cX6_not : ByteArray := prog_8_method_32_code
def yX6_not : MethodName := ⟨RX6, "not", "(I)I"⟩
abbrev cX6_shift : ByteArray := prog_8_method_33_code
def yX6_shift : MethodName := ⟨RX6, "shift", "(II)I"⟩
abbrev cX6_type : ByteArray := prog_8_method_34_code
def yX6_type : MethodName := ⟨RX6, "type", "(I)I"⟩
abbrev cX6_clearText : ByteArray := prog_8_method_35_code
def yX6_clearText : MethodName := ⟨RX6, "clearText", "()I"⟩
abbrev cX6_code : ByteArray := prog_8_method_36_code
def yX6_code : MethodName := ⟨RX6, "code", "()I"⟩
abbrev cX6_wrong : ByteArray := prog_8_method_37_code
def yX6_wrong : MethodName := ⟨RX6, "wrong", "(ZI)V"⟩
abbrev cX6_readsNumber : ByteArray := prog_8_method_38_code
def yX6_readsNumber : MethodName := ⟨RX6, "readsNumber", "()Z"⟩
abbrev cX6_push_ : ByteArray := prog_8_method_39_code
def yX6_push_ : MethodName := ⟨RX6, "push", "(I)V"⟩
abbrev cX6_pop : ByteArray := prog_8_method_40_code
def yX6_pop : MethodName := ⟨RX6, "pop", "()I"⟩
abbrev cX6_top : ByteArray := prog_8_method_41_code
def yX6_top : MethodName := ⟨RX6, "top", "()I"⟩
abbrev cX6_rank : ByteArray := prog_8_method_42_code
def yX6_rank : MethodName := ⟨RX6, "rank", "(I)I"⟩
abbrev cX6_operationOf : ByteArray := prog_8_method_43_code
def yX6_operationOf : MethodName := ⟨RX6, "operationOf", "(I)I"⟩
abbrev cX6_doTo : ByteArray := prog_8_method_44_code
def yX6_doTo : MethodName := ⟨RX6, "doTo", "(I)V"⟩
abbrev cX6_closeFactor : ByteArray := prog_8_method_45_code
def yX6_closeFactor : MethodName := ⟨RX6, "closeFactor", "()V"⟩
abbrev cX6_readsRow : ByteArray := prog_8_method_46_code
def yX6_readsRow : MethodName := ⟨RX6, "readsRow", "()Z"⟩
abbrev cX6_readsFactor : ByteArray := prog_8_method_47_code
def yX6_readsFactor : MethodName := ⟨RX6, "readsFactor", "()Z"⟩
abbrev cX6_readsOn : ByteArray := prog_8_method_48_code
def yX6_readsOn : MethodName := ⟨RX6, "readsOn", "()Z"⟩
abbrev cX6_reads : ByteArray := prog_8_method_49_code
def yX6_reads : MethodName := ⟨RX6, "reads", "(Z)Z"⟩
abbrev cX6_fail : ByteArray := prog_8_method_50_code
def yX6_fail : MethodName := ⟨RX6, "fail", "(III)I"⟩
abbrev cX6_evaluate : ByteArray := prog_8_method_51_code
def yX6_evaluate : MethodName := ⟨RX6, "evaluate", "(I)I"⟩
abbrev cX6_failure : ByteArray := prog_8_method_52_code
def yX6_failure : MethodName := ⟨RX6, "failure", "(I)I"⟩
abbrev cX6_count : ByteArray := prog_8_method_53_code
def yX6_count : MethodName := ⟨RX6, "count", "(I)I"⟩
abbrev cX6_placeOf : ByteArray := prog_8_method_54_code
def yX6_placeOf : MethodName := ⟨RX6, "placeOf", "(II)I"⟩
abbrev cX6_row : ByteArray := prog_8_method_55_code
def yX6_row : MethodName := ⟨RX6, "row", "(II)I"⟩
abbrev cX6_word : ByteArray := prog_8_method_56_code
def yX6_word : MethodName := ⟨RX6, "word", "(II)I"⟩
abbrev cX6_bit : ByteArray := prog_8_method_57_code
def yX6_bit : MethodName := ⟨RX6, "bit", "(II)I"⟩
abbrev cX6_rank_ : ByteArray := prog_8_method_58_code
def yX6_rank_ : MethodName := ⟨RX6, "rank", "(II)I"⟩
abbrev cX6_select : ByteArray := prog_8_method_59_code
def yX6_select : MethodName := ⟨RX6, "select", "(II)I"⟩
abbrev cX6_would : ByteArray := prog_8_method_60_code
def yX6_would : MethodName := ⟨RX6, "would", "(IIII)I"⟩
abbrev cX6_areSame : ByteArray := prog_8_method_61_code
def yX6_areSame : MethodName := ⟨RX6, "areSame", "(II)Z"⟩
abbrev cX6_same : ByteArray := prog_8_method_62_code
def yX6_same : MethodName := ⟨RX6, "same", "(I)I"⟩
abbrev cX6_bestShift : ByteArray := prog_8_method_63_code
def yX6_bestShift : MethodName := ⟨RX6, "bestShift", "(I)I"⟩
def RJ6 : String := "java/lang/Integer"
abbrev cJ6_bitCount_0f7a4 : ByteArray := prog_9_method_49_code
def yJ6_bitCount_0f7a4 : MethodName := ⟨RJ6, "bitCount", "(I)I"⟩
def RJ9 : String := "java/lang/Math"
abbrev cJ9_floorDiv_7cf53 : ByteArray := prog_10_method_47_code
def yJ9_floorDiv_7cf53 : MethodName := ⟨RJ9, "floorDiv", "(II)I"⟩
abbrev cJ9_floorMod_7cf53 : ByteArray := prog_10_method_50_code
def yJ9_floorMod_7cf53 : MethodName := ⟨RJ9, "floorMod", "(II)I"⟩
abbrev cJ9_max_7cf53 : ByteArray := prog_10_method_65_code
def yJ9_max_7cf53 : MethodName := ⟨RJ9, "max", "(II)I"⟩
abbrev cJ9_min_7cf53 : ByteArray := prog_10_method_69_code
def yJ9_min_7cf53 : MethodName := ⟨RJ9, "min", "(II)I"⟩
def RJ10 : String := "java/lang/System"
def RL : String := "PackedBitsLaw"
abbrev cL_law : ByteArray := code
def yL_law : MethodName := ⟨RL, "law", "([I)Z"⟩
abbrev vwCl : List vw_C := [(RX0, TX0, 2), (RX1, TX1, 3), (RX2, TX2, 10), (RX3, TX3, 2), (RX5, TX5, 5), (RX6, TX6, 17)]
