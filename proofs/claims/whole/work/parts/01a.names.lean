-- ===== PART A: goes FIRST, ahead of the names: the tables' words, and 'selects' of the private methods out of them =====
/-- a private method of a class that the tables say can be made, by its rows of tables_1 -/
def lw_okq (q : MethodName × Nat) : Prop := (q.1.cls ≠ "java/lang/invoke/MethodHandle" ∧ q.1.cls ≠ "java/lang/invoke/VarHandle") ∧ Cond.instantiable q.1.cls q.2 ∈ tables_1 ∧ Cond.privateMethod q.1 ∈ tables_1 ∧ Cond.instanceMethod q.1 ∈ tables_1
theorem lw_p0 : lw_okq (⟨"TwinThreads$Path", "stepOver", "(LTwinThreads$Program;I)I"⟩, 4) := ⟨⟨by decide +kernel, by decide +kernel⟩, List.mem_of_getElem? (i := 70) (by decide +kernel), List.mem_of_getElem? (i := 263) (by decide +kernel), List.mem_of_getElem? (i := 264) (by decide +kernel)⟩
theorem lw_p1 : lw_okq (⟨"TwinThreads$Path", "valueOf", "(I)I"⟩, 4) := ⟨⟨by decide +kernel, by decide +kernel⟩, List.mem_of_getElem? (i := 70) (by decide +kernel), List.mem_of_getElem? (i := 271) (by decide +kernel), List.mem_of_getElem? (i := 272) (by decide +kernel)⟩
theorem lw_p2 : lw_okq (⟨"TwinThreads$Path", "give", "(II)V"⟩, 4) := ⟨⟨by decide +kernel, by decide +kernel⟩, List.mem_of_getElem? (i := 70) (by decide +kernel), List.mem_of_getElem? (i := 275) (by decide +kernel), List.mem_of_getElem? (i := 276) (by decide +kernel)⟩
theorem lw_p3 : lw_okq (⟨"TwinThreads$Run", "clear", "()V"⟩, 12) := ⟨⟨by decide +kernel, by decide +kernel⟩, List.mem_of_getElem? (i := 63) (by decide +kernel), List.mem_of_getElem? (i := 289) (by decide +kernel), List.mem_of_getElem? (i := 290) (by decide +kernel)⟩
theorem lw_p4 : lw_okq (⟨"TwinThreads$Run", "hasStep", "(I)Z"⟩, 12) := ⟨⟨by decide +kernel, by decide +kernel⟩, List.mem_of_getElem? (i := 63) (by decide +kernel), List.mem_of_getElem? (i := 293) (by decide +kernel), List.mem_of_getElem? (i := 294) (by decide +kernel)⟩
theorem lw_p5 : lw_okq (⟨"TwinThreads$Run", "playTick", "(I)V"⟩, 12) := ⟨⟨by decide +kernel, by decide +kernel⟩, List.mem_of_getElem? (i := 63) (by decide +kernel), List.mem_of_getElem? (i := 297) (by decide +kernel), List.mem_of_getElem? (i := 298) (by decide +kernel)⟩
theorem lw_p6 : lw_okq (⟨"TwinThreads$Run", "hindranceOf", "(II)I"⟩, 12) := ⟨⟨by decide +kernel, by decide +kernel⟩, List.mem_of_getElem? (i := 63) (by decide +kernel), List.mem_of_getElem? (i := 301) (by decide +kernel), List.mem_of_getElem? (i := 302) (by decide +kernel)⟩
theorem lw_p7 : lw_okq (⟨"TwinThreads$Run", "isReady", "(III)Z"⟩, 12) := ⟨⟨by decide +kernel, by decide +kernel⟩, List.mem_of_getElem? (i := 63) (by decide +kernel), List.mem_of_getElem? (i := 306) (by decide +kernel), List.mem_of_getElem? (i := 307) (by decide +kernel)⟩
theorem lw_p8 : lw_okq (⟨"TwinThreads$Run", "starterNow", "(I)I"⟩, 12) := ⟨⟨by decide +kernel, by decide +kernel⟩, List.mem_of_getElem? (i := 63) (by decide +kernel), List.mem_of_getElem? (i := 315) (by decide +kernel), List.mem_of_getElem? (i := 316) (by decide +kernel)⟩
theorem lw_p9 : lw_okq (⟨"TwinThreads$Run", "start", "(II)V"⟩, 12) := ⟨⟨by decide +kernel, by decide +kernel⟩, List.mem_of_getElem? (i := 63) (by decide +kernel), List.mem_of_getElem? (i := 324) (by decide +kernel), List.mem_of_getElem? (i := 325) (by decide +kernel)⟩
theorem lw_p10 : lw_okq (⟨"TwinThreads$Reader", "readOrder", "()Z"⟩, 4) := ⟨⟨by decide +kernel, by decide +kernel⟩, List.mem_of_getElem? (i := 154) (by decide +kernel), List.mem_of_getElem? (i := 365) (by decide +kernel), List.mem_of_getElem? (i := 366) (by decide +kernel)⟩
theorem lw_p11 : lw_okq (⟨"TwinThreads$Reader", "take", "(C)Z"⟩, 4) := ⟨⟨by decide +kernel, by decide +kernel⟩, List.mem_of_getElem? (i := 154) (by decide +kernel), List.mem_of_getElem? (i := 369) (by decide +kernel), List.mem_of_getElem? (i := 370) (by decide +kernel)⟩
theorem lw_p12 : lw_okq (⟨"TwinThreads$Reader", "readStore", "()Z"⟩, 4) := ⟨⟨by decide +kernel, by decide +kernel⟩, List.mem_of_getElem? (i := 154) (by decide +kernel), List.mem_of_getElem? (i := 377) (by decide +kernel), List.mem_of_getElem? (i := 378) (by decide +kernel)⟩
theorem lw_p13 : lw_okq (⟨"TwinThreads$Reader", "takeRegister", "()I"⟩, 4) := ⟨⟨by decide +kernel, by decide +kernel⟩, List.mem_of_getElem? (i := 154) (by decide +kernel), List.mem_of_getElem? (i := 381) (by decide +kernel), List.mem_of_getElem? (i := 382) (by decide +kernel)⟩
theorem lw_p14 : lw_okq (⟨"TwinThreads$Reader", "takeFrom", "(CI)I"⟩, 4) := ⟨⟨by decide +kernel, by decide +kernel⟩, List.mem_of_getElem? (i := 154) (by decide +kernel), List.mem_of_getElem? (i := 385) (by decide +kernel), List.mem_of_getElem? (i := 386) (by decide +kernel)⟩
theorem lw_p15 : lw_okq (⟨"TwinThreads$Reader", "readNumber", "(II)Z"⟩, 4) := ⟨⟨by decide +kernel, by decide +kernel⟩, List.mem_of_getElem? (i := 154) (by decide +kernel), List.mem_of_getElem? (i := 393) (by decide +kernel), List.mem_of_getElem? (i := 394) (by decide +kernel)⟩
def lw_privs_1 : List (MethodName × Nat) := [(⟨"TwinThreads$Path", "stepOver", "(LTwinThreads$Program;I)I"⟩, 4), (⟨"TwinThreads$Path", "valueOf", "(I)I"⟩, 4), (⟨"TwinThreads$Path", "give", "(II)V"⟩, 4), (⟨"TwinThreads$Run", "clear", "()V"⟩, 12), (⟨"TwinThreads$Run", "hasStep", "(I)Z"⟩, 12), (⟨"TwinThreads$Run", "playTick", "(I)V"⟩, 12), (⟨"TwinThreads$Run", "hindranceOf", "(II)I"⟩, 12), (⟨"TwinThreads$Run", "isReady", "(III)Z"⟩, 12), (⟨"TwinThreads$Run", "starterNow", "(I)I"⟩, 12), (⟨"TwinThreads$Run", "start", "(II)V"⟩, 12), (⟨"TwinThreads$Reader", "readOrder", "()Z"⟩, 4), (⟨"TwinThreads$Reader", "take", "(C)Z"⟩, 4), (⟨"TwinThreads$Reader", "readStore", "()Z"⟩, 4), (⟨"TwinThreads$Reader", "takeRegister", "()I"⟩, 4), (⟨"TwinThreads$Reader", "takeFrom", "(CI)I"⟩, 4), (⟨"TwinThreads$Reader", "readNumber", "(II)Z"⟩, 4)]
theorem lw_r1 : ∀ q ∈ lw_privs_1, lw_okq q := List.forall_mem_cons.mpr ⟨lw_p0, List.forall_mem_cons.mpr ⟨lw_p1, List.forall_mem_cons.mpr ⟨lw_p2, List.forall_mem_cons.mpr ⟨lw_p3, List.forall_mem_cons.mpr ⟨lw_p4, List.forall_mem_cons.mpr ⟨lw_p5, List.forall_mem_cons.mpr ⟨lw_p6, List.forall_mem_cons.mpr ⟨lw_p7, List.forall_mem_cons.mpr ⟨lw_p8, List.forall_mem_cons.mpr ⟨lw_p9, List.forall_mem_cons.mpr ⟨lw_p10, List.forall_mem_cons.mpr ⟨lw_p11, List.forall_mem_cons.mpr ⟨lw_p12, List.forall_mem_cons.mpr ⟨lw_p13, List.forall_mem_cons.mpr ⟨lw_p14, List.forall_mem_cons.mpr ⟨lw_p15, fun _ h => absurd h List.not_mem_nil⟩⟩⟩⟩⟩⟩⟩⟩⟩⟩⟩⟩⟩⟩⟩⟩
theorem lw_p16 : lw_okq (⟨"TwinThreads$Reader", "readGiven", "(I)Z"⟩, 4) := ⟨⟨by decide +kernel, by decide +kernel⟩, List.mem_of_getElem? (i := 154) (by decide +kernel), List.mem_of_getElem? (i := 397) (by decide +kernel), List.mem_of_getElem? (i := 398) (by decide +kernel)⟩
theorem lw_p17 : lw_okq (⟨"TwinThreads$Reader", "readLoad", "(I)Z"⟩, 4) := ⟨⟨by decide +kernel, by decide +kernel⟩, List.mem_of_getElem? (i := 154) (by decide +kernel), List.mem_of_getElem? (i := 401) (by decide +kernel), List.mem_of_getElem? (i := 402) (by decide +kernel)⟩
theorem lw_p18 : lw_okq (⟨"TwinThreads$Reader", "takeSign", "()I"⟩, 4) := ⟨⟨by decide +kernel, by decide +kernel⟩, List.mem_of_getElem? (i := 154) (by decide +kernel), List.mem_of_getElem? (i := 405) (by decide +kernel), List.mem_of_getElem? (i := 406) (by decide +kernel)⟩
theorem lw_p19 : lw_okq (⟨"TwinThreads", "lengthByTurns", "(I)I"⟩, 9) := ⟨⟨by decide +kernel, by decide +kernel⟩, List.mem_of_getElem? (i := 13) (by decide +kernel), List.mem_of_getElem? (i := 493) (by decide +kernel), List.mem_of_getElem? (i := 494) (by decide +kernel)⟩
theorem lw_p20 : lw_okq (⟨"TwinThreads", "lengthExchanged", "(II)I"⟩, 9) := ⟨⟨by decide +kernel, by decide +kernel⟩, List.mem_of_getElem? (i := 13) (by decide +kernel), List.mem_of_getElem? (i := 513) (by decide +kernel), List.mem_of_getElem? (i := 514) (by decide +kernel)⟩
theorem lw_p21 : lw_okq (⟨"TwinThreadsModel", "record", "()V"⟩, 24) := ⟨⟨by decide +kernel, by decide +kernel⟩, List.mem_of_getElem? (i := 543) (by decide +kernel), List.mem_of_getElem? (i := 629) (by decide +kernel), List.mem_of_getElem? (i := 630) (by decide +kernel)⟩
theorem lw_p22 : lw_okq (⟨"TwinThreadsModel", "faultOf", "()I"⟩, 24) := ⟨⟨by decide +kernel, by decide +kernel⟩, List.mem_of_getElem? (i := 543) (by decide +kernel), List.mem_of_getElem? (i := 653) (by decide +kernel), List.mem_of_getElem? (i := 654) (by decide +kernel)⟩
theorem lw_p23 : lw_okq (⟨"TwinThreadsModel", "readOne", "()V"⟩, 24) := ⟨⟨by decide +kernel, by decide +kernel⟩, List.mem_of_getElem? (i := 543) (by decide +kernel), List.mem_of_getElem? (i := 657) (by decide +kernel), List.mem_of_getElem? (i := 658) (by decide +kernel)⟩
theorem lw_p24 : lw_okq (⟨"TwinThreadsModel", "sign", "()I"⟩, 24) := ⟨⟨by decide +kernel, by decide +kernel⟩, List.mem_of_getElem? (i := 543) (by decide +kernel), List.mem_of_getElem? (i := 661) (by decide +kernel), List.mem_of_getElem? (i := 662) (by decide +kernel)⟩
theorem lw_p25 : lw_okq (⟨"TwinThreadsModel", "register", "()I"⟩, 24) := ⟨⟨by decide +kernel, by decide +kernel⟩, List.mem_of_getElem? (i := 543) (by decide +kernel), List.mem_of_getElem? (i := 665) (by decide +kernel), List.mem_of_getElem? (i := 666) (by decide +kernel)⟩
theorem lw_p26 : lw_okq (⟨"TwinThreadsModel", "between", "(I)V"⟩, 24) := ⟨⟨by decide +kernel, by decide +kernel⟩, List.mem_of_getElem? (i := 543) (by decide +kernel), List.mem_of_getElem? (i := 669) (by decide +kernel), List.mem_of_getElem? (i := 670) (by decide +kernel)⟩
theorem lw_p27 : lw_okq (⟨"TwinThreadsModel", "lay", "(IIIII)V"⟩, 24) := ⟨⟨by decide +kernel, by decide +kernel⟩, List.mem_of_getElem? (i := 543) (by decide +kernel), List.mem_of_getElem? (i := 673) (by decide +kernel), List.mem_of_getElem? (i := 674) (by decide +kernel)⟩
theorem lw_p28 : lw_okq (⟨"TwinThreadsModel", "number", "()I"⟩, 24) := ⟨⟨by decide +kernel, by decide +kernel⟩, List.mem_of_getElem? (i := 543) (by decide +kernel), List.mem_of_getElem? (i := 677) (by decide +kernel), List.mem_of_getElem? (i := 678) (by decide +kernel)⟩
theorem lw_p29 : lw_okq (⟨"TwinThreadsModel", "readValue", "(I)V"⟩, 24) := ⟨⟨by decide +kernel, by decide +kernel⟩, List.mem_of_getElem? (i := 543) (by decide +kernel), List.mem_of_getElem? (i := 681) (by decide +kernel), List.mem_of_getElem? (i := 682) (by decide +kernel)⟩
theorem lw_p30 : lw_okq (⟨"TwinThreadsModel", "many", "(I)I"⟩, 24) := ⟨⟨by decide +kernel, by decide +kernel⟩, List.mem_of_getElem? (i := 543) (by decide +kernel), List.mem_of_getElem? (i := 693) (by decide +kernel), List.mem_of_getElem? (i := 694) (by decide +kernel)⟩
theorem lw_p31 : lw_okq (⟨"TwinThreadsModel", "run", "()I"⟩, 24) := ⟨⟨by decide +kernel, by decide +kernel⟩, List.mem_of_getElem? (i := 543) (by decide +kernel), List.mem_of_getElem? (i := 701) (by decide +kernel), List.mem_of_getElem? (i := 702) (by decide +kernel)⟩
def lw_privs_2 : List (MethodName × Nat) := [(⟨"TwinThreads$Reader", "readGiven", "(I)Z"⟩, 4), (⟨"TwinThreads$Reader", "readLoad", "(I)Z"⟩, 4), (⟨"TwinThreads$Reader", "takeSign", "()I"⟩, 4), (⟨"TwinThreads", "lengthByTurns", "(I)I"⟩, 9), (⟨"TwinThreads", "lengthExchanged", "(II)I"⟩, 9), (⟨"TwinThreadsModel", "record", "()V"⟩, 24), (⟨"TwinThreadsModel", "faultOf", "()I"⟩, 24), (⟨"TwinThreadsModel", "readOne", "()V"⟩, 24), (⟨"TwinThreadsModel", "sign", "()I"⟩, 24), (⟨"TwinThreadsModel", "register", "()I"⟩, 24), (⟨"TwinThreadsModel", "between", "(I)V"⟩, 24), (⟨"TwinThreadsModel", "lay", "(IIIII)V"⟩, 24), (⟨"TwinThreadsModel", "number", "()I"⟩, 24), (⟨"TwinThreadsModel", "readValue", "(I)V"⟩, 24), (⟨"TwinThreadsModel", "many", "(I)I"⟩, 24), (⟨"TwinThreadsModel", "run", "()I"⟩, 24)]
theorem lw_r2 : ∀ q ∈ lw_privs_2, lw_okq q := List.forall_mem_cons.mpr ⟨lw_p16, List.forall_mem_cons.mpr ⟨lw_p17, List.forall_mem_cons.mpr ⟨lw_p18, List.forall_mem_cons.mpr ⟨lw_p19, List.forall_mem_cons.mpr ⟨lw_p20, List.forall_mem_cons.mpr ⟨lw_p21, List.forall_mem_cons.mpr ⟨lw_p22, List.forall_mem_cons.mpr ⟨lw_p23, List.forall_mem_cons.mpr ⟨lw_p24, List.forall_mem_cons.mpr ⟨lw_p25, List.forall_mem_cons.mpr ⟨lw_p26, List.forall_mem_cons.mpr ⟨lw_p27, List.forall_mem_cons.mpr ⟨lw_p28, List.forall_mem_cons.mpr ⟨lw_p29, List.forall_mem_cons.mpr ⟨lw_p30, List.forall_mem_cons.mpr ⟨lw_p31, fun _ h => absurd h List.not_mem_nil⟩⟩⟩⟩⟩⟩⟩⟩⟩⟩⟩⟩⟩⟩⟩⟩
theorem lw_p32 : lw_okq (⟨"TwinThreadsModel", "goThrough", "(III)I"⟩, 24) := ⟨⟨by decide +kernel, by decide +kernel⟩, List.mem_of_getElem? (i := 543) (by decide +kernel), List.mem_of_getElem? (i := 705) (by decide +kernel), List.mem_of_getElem? (i := 706) (by decide +kernel)⟩
theorem lw_p33 : lw_okq (⟨"TwinThreadsModel", "isOpen", "(I)Z"⟩, 24) := ⟨⟨by decide +kernel, by decide +kernel⟩, List.mem_of_getElem? (i := 543) (by decide +kernel), List.mem_of_getElem? (i := 709) (by decide +kernel), List.mem_of_getElem? (i := 710) (by decide +kernel)⟩
theorem lw_p34 : lw_okq (⟨"TwinThreadsModel", "starter", "(III)I"⟩, 24) := ⟨⟨by decide +kernel, by decide +kernel⟩, List.mem_of_getElem? (i := 543) (by decide +kernel), List.mem_of_getElem? (i := 713) (by decide +kernel), List.mem_of_getElem? (i := 714) (by decide +kernel)⟩
theorem lw_p35 : lw_okq (⟨"TwinThreadsModel", "whyNot", "(III)I"⟩, 24) := ⟨⟨by decide +kernel, by decide +kernel⟩, List.mem_of_getElem? (i := 543) (by decide +kernel), List.mem_of_getElem? (i := 717) (by decide +kernel), List.mem_of_getElem? (i := 718) (by decide +kernel)⟩
theorem lw_p36 : lw_okq (⟨"TwinThreadsModel", "of", "(III)I"⟩, 24) := ⟨⟨by decide +kernel, by decide +kernel⟩, List.mem_of_getElem? (i := 543) (by decide +kernel), List.mem_of_getElem? (i := 721) (by decide +kernel), List.mem_of_getElem? (i := 722) (by decide +kernel)⟩
theorem lw_p37 : lw_okq (⟨"TwinThreadsModel", "isReady", "(II)Z"⟩, 24) := ⟨⟨by decide +kernel, by decide +kernel⟩, List.mem_of_getElem? (i := 543) (by decide +kernel), List.mem_of_getElem? (i := 728) (by decide +kernel), List.mem_of_getElem? (i := 729) (by decide +kernel)⟩
theorem lw_p38 : lw_okq (⟨"TwinThreadsModel", "latest", "(I)I"⟩, 24) := ⟨⟨by decide +kernel, by decide +kernel⟩, List.mem_of_getElem? (i := 543) (by decide +kernel), List.mem_of_getElem? (i := 732) (by decide +kernel), List.mem_of_getElem? (i := 733) (by decide +kernel)⟩
theorem lw_p39 : lw_okq (⟨"TwinThreadsModel", "begin", "(II)V"⟩, 24) := ⟨⟨by decide +kernel, by decide +kernel⟩, List.mem_of_getElem? (i := 543) (by decide +kernel), List.mem_of_getElem? (i := 736) (by decide +kernel), List.mem_of_getElem? (i := 737) (by decide +kernel)⟩
theorem lw_p40 : lw_okq (⟨"TwinThreadsModel", "does", "(II)I"⟩, 24) := ⟨⟨by decide +kernel, by decide +kernel⟩, List.mem_of_getElem? (i := 543) (by decide +kernel), List.mem_of_getElem? (i := 740) (by decide +kernel), List.mem_of_getElem? (i := 741) (by decide +kernel)⟩
theorem lw_p41 : lw_okq (⟨"TwinThreadsModel", "value", "(II)I"⟩, 24) := ⟨⟨by decide +kernel, by decide +kernel⟩, List.mem_of_getElem? (i := 543) (by decide +kernel), List.mem_of_getElem? (i := 744) (by decide +kernel), List.mem_of_getElem? (i := 745) (by decide +kernel)⟩
theorem lw_p42 : lw_okq (⟨"TwinThreadsModel", "lengthOf", "(I)I"⟩, 24) := ⟨⟨by decide +kernel, by decide +kernel⟩, List.mem_of_getElem? (i := 543) (by decide +kernel), List.mem_of_getElem? (i := 748) (by decide +kernel), List.mem_of_getElem? (i := 749) (by decide +kernel)⟩
theorem lw_p43 : lw_okq (⟨"TwinThreadsModel", "stepsOf", "(II)I"⟩, 24) := ⟨⟨by decide +kernel, by decide +kernel⟩, List.mem_of_getElem? (i := 543) (by decide +kernel), List.mem_of_getElem? (i := 760) (by decide +kernel), List.mem_of_getElem? (i := 761) (by decide +kernel)⟩
theorem lw_p44 : lw_okq (⟨"TwinThreadsModel", "isFixed", "(II)Z"⟩, 24) := ⟨⟨by decide +kernel, by decide +kernel⟩, List.mem_of_getElem? (i := 543) (by decide +kernel), List.mem_of_getElem? (i := 800) (by decide +kernel), List.mem_of_getElem? (i := 801) (by decide +kernel)⟩
theorem lw_p45 : lw_okq (⟨"TwinThreadsModel", "swap", "(II)V"⟩, 24) := ⟨⟨by decide +kernel, by decide +kernel⟩, List.mem_of_getElem? (i := 543) (by decide +kernel), List.mem_of_getElem? (i := 804) (by decide +kernel), List.mem_of_getElem? (i := 805) (by decide +kernel)⟩
theorem lw_p46 : lw_okq (⟨"TwinThreadsModel", "areValuesSame", "()Z"⟩, 24) := ⟨⟨by decide +kernel, by decide +kernel⟩, List.mem_of_getElem? (i := 543) (by decide +kernel), List.mem_of_getElem? (i := 808) (by decide +kernel), List.mem_of_getElem? (i := 809) (by decide +kernel)⟩
def lw_privs_3 : List (MethodName × Nat) := [(⟨"TwinThreadsModel", "goThrough", "(III)I"⟩, 24), (⟨"TwinThreadsModel", "isOpen", "(I)Z"⟩, 24), (⟨"TwinThreadsModel", "starter", "(III)I"⟩, 24), (⟨"TwinThreadsModel", "whyNot", "(III)I"⟩, 24), (⟨"TwinThreadsModel", "of", "(III)I"⟩, 24), (⟨"TwinThreadsModel", "isReady", "(II)Z"⟩, 24), (⟨"TwinThreadsModel", "latest", "(I)I"⟩, 24), (⟨"TwinThreadsModel", "begin", "(II)V"⟩, 24), (⟨"TwinThreadsModel", "does", "(II)I"⟩, 24), (⟨"TwinThreadsModel", "value", "(II)I"⟩, 24), (⟨"TwinThreadsModel", "lengthOf", "(I)I"⟩, 24), (⟨"TwinThreadsModel", "stepsOf", "(II)I"⟩, 24), (⟨"TwinThreadsModel", "isFixed", "(II)Z"⟩, 24), (⟨"TwinThreadsModel", "swap", "(II)V"⟩, 24), (⟨"TwinThreadsModel", "areValuesSame", "()Z"⟩, 24)]
theorem lw_r3 : ∀ q ∈ lw_privs_3, lw_okq q := List.forall_mem_cons.mpr ⟨lw_p32, List.forall_mem_cons.mpr ⟨lw_p33, List.forall_mem_cons.mpr ⟨lw_p34, List.forall_mem_cons.mpr ⟨lw_p35, List.forall_mem_cons.mpr ⟨lw_p36, List.forall_mem_cons.mpr ⟨lw_p37, List.forall_mem_cons.mpr ⟨lw_p38, List.forall_mem_cons.mpr ⟨lw_p39, List.forall_mem_cons.mpr ⟨lw_p40, List.forall_mem_cons.mpr ⟨lw_p41, List.forall_mem_cons.mpr ⟨lw_p42, List.forall_mem_cons.mpr ⟨lw_p43, List.forall_mem_cons.mpr ⟨lw_p44, List.forall_mem_cons.mpr ⟨lw_p45, List.forall_mem_cons.mpr ⟨lw_p46, fun _ h => absurd h List.not_mem_nil⟩⟩⟩⟩⟩⟩⟩⟩⟩⟩⟩⟩⟩⟩⟩
def lw_privs : List (MethodName × Nat) := lw_privs_1 ++ (lw_privs_2 ++ (lw_privs_3))
def lw_tbl : List Cond := k2_sels lw_privs ++ tables_1
theorem lw_privs_ok : ∀ q ∈ lw_privs, lw_okq q := by
  show ∀ q ∈ lw_privs_1 ++ (lw_privs_2 ++ (lw_privs_3)), lw_okq q
  exact List.forall_mem_append.mpr ⟨lw_r1, List.forall_mem_append.mpr ⟨lw_r2, lw_r3⟩⟩
-- ===== end of PART A; then your names; then what follows =====
/-! ===== BEGIN printed: names, fields, word lists, decode rows ===== -/
def RX0 : String := "TwinThreads$History"
def TX0 : u_T := fun k => match k with
  | 0 => ("TwinThreads$History", "size", "I", false)
  | 1 => ("TwinThreads$History", "oldest", "I", false)
  | _ => ("TwinThreads$History", "states", "[LTwinThreads$State;", true)
def tyX0 : Nat → FieldType := fun k => match k with
  | 0 => .int
  | 1 => .int
  | _ => .array (.object "TwinThreads$State")
abbrev wsX00 : List Cond := u_ws RX0 TX0 3
theorem nmX0 : ∀ a, a < 3 → ∀ b, b < 3 → a ≠ b → (TX0 a).2.1 ≠ (TX0 b).2.1 := by decide +kernel
theorem tyX0_ok : ∀ k, k < 3 → parseFieldDescriptor (TX0 k).2.2.1 = some (tyX0 k) := by decide +kernel
abbrev cX0_init : ByteArray := prog_2_method_1_code
def yX0_init : MethodName := ⟨RX0, "<init>", "()V"⟩
abbrev cX0_record : ByteArray := prog_2_method_2_code
def yX0_record : MethodName := ⟨RX0, "record", "(LTwinThreads$State;)V"⟩
abbrev cX0_takeBack : ByteArray := prog_2_method_3_code
def yX0_takeBack : MethodName := ⟨RX0, "takeBack", "(LTwinThreads$State;)V"⟩
def RX1 : String := "TwinThreads$Pad"
def TX1 : u_T := fun k => match k with
  | 0 => ("TwinThreads$Pad", "length", "I", false)
  | _ => ("TwinThreads$Pad", "text", "[C", true)
def tyX1 : Nat → FieldType := fun k => match k with
  | 0 => .int
  | _ => .array .char
abbrev wsX10 : List Cond := u_ws RX1 TX1 2
theorem nmX1 : ∀ a, a < 2 → ∀ b, b < 2 → a ≠ b → (TX1 a).2.1 ≠ (TX1 b).2.1 := by decide +kernel
theorem tyX1_ok : ∀ k, k < 2 → parseFieldDescriptor (TX1 k).2.2.1 = some (tyX1 k) := by decide +kernel
abbrev cX1_init : ByteArray := prog_3_method_1_code
def yX1_init : MethodName := ⟨RX1, "<init>", "()V"⟩
abbrev cX1_charactersIn : ByteArray := prog_3_method_2_code
def yX1_charactersIn : MethodName := ⟨RX1, "charactersIn", "(J)I"⟩
abbrev cX1_append : ByteArray := prog_3_method_3_code
def yX1_append : MethodName := ⟨RX1, "append", "(JI)V"⟩
abbrev cX1_charAt : ByteArray := prog_3_method_4_code
def yX1_charAt : MethodName := ⟨RX1, "charAt", "(I)C"⟩
def RX2 : String := "TwinThreads$Path"
def TX2 : u_T := fun k => match k with
  | 0 => ("TwinThreads$Path", "steps", "I", false)
  | 1 => ("TwinThreads$Path", "stopped", "Z", false)
  | 2 => ("TwinThreads$Path", "orders", "[I", true)
  | _ => ("TwinThreads$Path", "values", "[I", true)
def tyX2 : Nat → FieldType := fun k => match k with
  | 0 => .int
  | 1 => .boolean
  | 2 => .array .int
  | _ => .array .int
abbrev wsX20 : List Cond := u_ws RX2 TX2 4
theorem nmX2 : ∀ a, a < 4 → ∀ b, b < 4 → a ≠ b → (TX2 a).2.1 ≠ (TX2 b).2.1 := by decide +kernel
theorem tyX2_ok : ∀ k, k < 4 → parseFieldDescriptor (TX2 k).2.2.1 = some (tyX2 k) := by decide +kernel
abbrev cX2_init : ByteArray := prog_4_method_1_code
def yX2_init : MethodName := ⟨RX2, "<init>", "()V"⟩
abbrev cX2_follow : ByteArray := prog_4_method_2_code
def yX2_follow : MethodName := ⟨RX2, "follow", "(LTwinThreads$Program;[I)V"⟩
abbrev cX2_sameValues : ByteArray := prog_4_method_3_code
def yX2_sameValues : MethodName := ⟨RX2, "sameValues", "(LTwinThreads$Path;)Z"⟩
abbrev cX2_stepOver : ByteArray := prog_4_method_4_code
def yX2_stepOver : MethodName := ⟨RX2, "stepOver", "(LTwinThreads$Program;I)I"⟩
abbrev cX2_valueOf : ByteArray := prog_4_method_5_code
def yX2_valueOf : MethodName := ⟨RX2, "valueOf", "(I)I"⟩
abbrev cX2_give : ByteArray := prog_4_method_6_code
def yX2_give : MethodName := ⟨RX2, "give", "(II)V"⟩
abbrev cX2_placeOfCell : ByteArray := prog_4_method_7_code
def yX2_placeOfCell : MethodName := ⟨RX2, "placeOfCell", "(I)I"⟩
def RX3 : String := "TwinThreads$Program"
def TX3 : u_T := fun k => match k with
  | 0 => ("TwinThreads$Program", "size", "I", false)
  | _ => ("TwinThreads$Program", "table", "[I", true)
def tyX3 : Nat → FieldType := fun k => match k with
  | 0 => .int
  | _ => .array .int
abbrev wsX30 : List Cond := u_ws RX3 TX3 2
theorem nmX3 : ∀ a, a < 2 → ∀ b, b < 2 → a ≠ b → (TX3 a).2.1 ≠ (TX3 b).2.1 := by decide +kernel
theorem tyX3_ok : ∀ k, k < 2 → parseFieldDescriptor (TX3 k).2.2.1 = some (tyX3 k) := by decide +kernel
abbrev cX3_init : ByteArray := prog_5_method_1_code
def yX3_init : MethodName := ⟨RX3, "<init>", "()V"⟩
abbrev cX3_told : ByteArray := prog_5_method_2_code
def yX3_told : MethodName := ⟨RX3, "told", "(II)I"⟩
abbrev cX3_add : ByteArray := prog_5_method_3_code
def yX3_add : MethodName := ⟨RX3, "add", "(IIIII)V"⟩
abbrev cX3_copyFrom : ByteArray := prog_5_method_4_code
def yX3_copyFrom : MethodName := ⟨RX3, "copyFrom", "(LTwinThreads$Program;)V"⟩
abbrev cX3_exchangeWithNext : ByteArray := prog_5_method_5_code
def yX3_exchangeWithNext : MethodName := ⟨RX3, "exchangeWithNext", "(I)V"⟩
abbrev cX3_mayMove : ByteArray := prog_5_method_6_code
def yX3_mayMove : MethodName := ⟨RX3, "mayMove", "(I)Z"⟩
abbrev cX3_roomOf : ByteArray := prog_5_method_7_code
def yX3_roomOf : MethodName := ⟨RX3, "roomOf", "(I)I"⟩
abbrev cX3_givenBy : ByteArray := prog_5_method_8_code
def yX3_givenBy : MethodName := ⟨RX3, "givenBy", "(I)I"⟩
def RX4 : String := "TwinThreads$Reader"
def TX4 : u_T := fun k => match k with
  | 0 => ("TwinThreads$Reader", "program", "LTwinThreads$Program;", true)
  | 1 => ("TwinThreads$Reader", "orders", "I", false)
  | 2 => ("TwinThreads$Reader", "pad", "LTwinThreads$Pad;", true)
  | _ => ("TwinThreads$Reader", "index", "I", false)
def tyX4 : Nat → FieldType := fun k => match k with
  | 0 => .object "TwinThreads$Program"
  | 1 => .int
  | 2 => .object "TwinThreads$Pad"
  | _ => .int
abbrev wsX40 : List Cond := u_ws RX4 TX4 4
theorem nmX4 : ∀ a, a < 4 → ∀ b, b < 4 → a ≠ b → (TX4 a).2.1 ≠ (TX4 b).2.1 := by decide +kernel
theorem tyX4_ok : ∀ k, k < 4 → parseFieldDescriptor (TX4 k).2.2.1 = some (tyX4 k) := by decide +kernel
abbrev cX4_init : ByteArray := prog_6_method_1_code
def yX4_init : MethodName := ⟨RX4, "<init>", "(LTwinThreads$Pad;)V"⟩
abbrev cX4_read : ByteArray := prog_6_method_2_code
def yX4_read : MethodName := ⟨RX4, "read", "()I"⟩
abbrev cX4_readOrder : ByteArray := prog_6_method_3_code
def yX4_readOrder : MethodName := ⟨RX4, "readOrder", "()Z"⟩
abbrev cX4_readStore : ByteArray := prog_6_method_4_code
def yX4_readStore : MethodName := ⟨RX4, "readStore", "()Z"⟩
abbrev cX4_readGiven : ByteArray := prog_6_method_5_code
def yX4_readGiven : MethodName := ⟨RX4, "readGiven", "(I)Z"⟩
abbrev cX4_readLoad : ByteArray := prog_6_method_6_code
def yX4_readLoad : MethodName := ⟨RX4, "readLoad", "(I)Z"⟩
abbrev cX4_readNumber : ByteArray := prog_6_method_7_code
def yX4_readNumber : MethodName := ⟨RX4, "readNumber", "(II)Z"⟩
abbrev cX4_take : ByteArray := prog_6_method_8_code
def yX4_take : MethodName := ⟨RX4, "take", "(C)Z"⟩
abbrev cX4_takeRegister : ByteArray := prog_6_method_9_code
def yX4_takeRegister : MethodName := ⟨RX4, "takeRegister", "()I"⟩
abbrev cX4_takeFrom : ByteArray := prog_6_method_10_code
def yX4_takeFrom : MethodName := ⟨RX4, "takeFrom", "(CI)I"⟩
abbrev cX4_takeSign : ByteArray := prog_6_method_11_code
def yX4_takeSign : MethodName := ⟨RX4, "takeSign", "()I"⟩
def RX5 : String := "TwinThreads$Run"
def TX5 : u_T := fun k => match k with
  | 0 => ("TwinThreads$Run", "paths", "[LTwinThreads$Path;", true)
  | 1 => ("TwinThreads$Run", "started", "[I", true)
  | 2 => ("TwinThreads$Run", "lengths", "[I", true)
  | 3 => ("TwinThreads$Run", "starts", "[[I", true)
  | 4 => ("TwinThreads$Run", "ends", "[[I", true)
  | 5 => ("TwinThreads$Run", "waits", "[[I", true)
  | 6 => ("TwinThreads$Run", "state", "LTwinThreads$State;", true)
  | 7 => ("TwinThreads$Run", "hindrances", "[I", true)
  | 8 => ("TwinThreads$Run", "readyAt", "[[I", true)
  | 9 => ("TwinThreads$Run", "roomFreeAt", "[I", true)
  | 10 => ("TwinThreads$Run", "roomUser", "[I", true)
  | _ => ("TwinThreads$Run", "openRoom", "I", false)
def tyX5 : Nat → FieldType := fun k => match k with
  | 0 => .array (.object "TwinThreads$Path")
  | 1 => .array .int
  | 2 => .array .int
  | 3 => .array (.array .int)
  | 4 => .array (.array .int)
  | 5 => .array (.array .int)
  | 6 => .object "TwinThreads$State"
  | 7 => .array .int
  | 8 => .array (.array .int)
  | 9 => .array .int
  | 10 => .array .int
  | _ => .int
abbrev wsX50 : List Cond := u_ws RX5 TX5 12
theorem nmX5 : ∀ a, a < 12 → ∀ b, b < 12 → a ≠ b → (TX5 a).2.1 ≠ (TX5 b).2.1 := by decide +kernel
theorem tyX5_ok : ∀ k, k < 12 → parseFieldDescriptor (TX5 k).2.2.1 = some (tyX5 k) := by decide +kernel
abbrev cX5_init : ByteArray := prog_7_method_1_code
def yX5_init : MethodName := ⟨RX5, "<init>", "(LTwinThreads$State;)V"⟩
abbrev cX5_play : ByteArray := prog_7_method_2_code
def yX5_play : MethodName := ⟨RX5, "play", "(I)V"⟩
abbrev cX5_follow : ByteArray := prog_7_method_3_code
def yX5_follow : MethodName := ⟨RX5, "follow", "()V"⟩
abbrev cX5_schedule : ByteArray := prog_7_method_4_code
def yX5_schedule : MethodName := ⟨RX5, "schedule", "(I)V"⟩
abbrev cX5_clear : ByteArray := prog_7_method_5_code
def yX5_clear : MethodName := ⟨RX5, "clear", "()V"⟩
abbrev cX5_hasStep : ByteArray := prog_7_method_6_code
def yX5_hasStep : MethodName := ⟨RX5, "hasStep", "(I)Z"⟩
abbrev cX5_playTick : ByteArray := prog_7_method_7_code
def yX5_playTick : MethodName := ⟨RX5, "playTick", "(I)V"⟩
abbrev cX5_hindranceOf : ByteArray := prog_7_method_8_code
def yX5_hindranceOf : MethodName := ⟨RX5, "hindranceOf", "(II)I"⟩
abbrev cX5_isReady : ByteArray := prog_7_method_9_code
def yX5_isReady : MethodName := ⟨RX5, "isReady", "(III)Z"⟩
abbrev cX5_starterNow : ByteArray := prog_7_method_10_code
def yX5_starterNow : MethodName := ⟨RX5, "starterNow", "(I)I"⟩
abbrev cX5_start : ByteArray := prog_7_method_11_code
def yX5_start : MethodName := ⟨RX5, "start", "(II)V"⟩
abbrev cX5_length : ByteArray := prog_7_method_12_code
def yX5_length : MethodName := ⟨RX5, "length", "()I"⟩
abbrev cX5_latestStart : ByteArray := prog_7_method_13_code
def yX5_latestStart : MethodName := ⟨RX5, "latestStart", "(I)I"⟩
abbrev cX5_waitAhead : ByteArray := prog_7_method_14_code
def yX5_waitAhead : MethodName := ⟨RX5, "waitAhead", "(II)I"⟩
abbrev cX5_stepsIn : ByteArray := prog_7_method_15_code
def yX5_stepsIn : MethodName := ⟨RX5, "stepsIn", "(II)I"⟩
abbrev cX5_ticksIn : ByteArray := prog_7_method_16_code
def yX5_ticksIn : MethodName := ⟨RX5, "ticksIn", "(I)I"⟩
abbrev cX5_starterIn : ByteArray := prog_7_method_17_code
def yX5_starterIn : MethodName := ⟨RX5, "starterIn", "(I)I"⟩
abbrev cX5_userIn : ByteArray := prog_7_method_18_code
def yX5_userIn : MethodName := ⟨RX5, "userIn", "(II)I"⟩
def RX6 : String := "TwinThreads$State"
def TX6 : u_T := fun k => match k with
  | 0 => ("TwinThreads$State", "settings", "[I", true)
  | 1 => ("TwinThreads$State", "programs", "[LTwinThreads$Program;", true)
  | _ => ("TwinThreads$State", "firstValues", "[[I", true)
def tyX6 : Nat → FieldType := fun k => match k with
  | 0 => .array .int
  | 1 => .array (.object "TwinThreads$Program")
  | _ => .array (.array .int)
abbrev wsX60 : List Cond := u_ws RX6 TX6 3
theorem nmX6 : ∀ a, a < 3 → ∀ b, b < 3 → a ≠ b → (TX6 a).2.1 ≠ (TX6 b).2.1 := by decide +kernel
theorem tyX6_ok : ∀ k, k < 3 → parseFieldDescriptor (TX6 k).2.2.1 = some (tyX6 k) := by decide +kernel
abbrev cX6_init : ByteArray := prog_8_method_1_code
def yX6_init : MethodName := ⟨RX6, "<init>", "()V"⟩
abbrev cX6_copyFrom : ByteArray := prog_8_method_2_code
def yX6_copyFrom : MethodName := ⟨RX6, "copyFrom", "(LTwinThreads$State;)V"⟩
abbrev cX6_exchangeThreads : ByteArray := prog_8_method_3_code
def yX6_exchangeThreads : MethodName := ⟨RX6, "exchangeThreads", "()V"⟩
abbrev cX6_ticksFor : ByteArray := prog_8_method_4_code
def yX6_ticksFor : MethodName := ⟨RX6, "ticksFor", "(I)I"⟩
def RX7 : String := "TwinThreads"
def TX7 : u_T := fun k => match k with
  | 0 => ("TwinThreads", "now", "LTwinThreads$State;", true)
  | 1 => ("TwinThreads", "run", "LTwinThreads$Run;", true)
  | 2 => ("TwinThreads", "trial", "LTwinThreads$State;", true)
  | 3 => ("TwinThreads", "trialRun", "LTwinThreads$Run;", true)
  | 4 => ("TwinThreads", "pad", "LTwinThreads$Pad;", true)
  | 5 => ("TwinThreads", "reader", "LTwinThreads$Reader;", true)
  | 6 => ("TwinThreads", "history", "LTwinThreads$History;", true)
  | 7 => ("TwinThreads", "slots", "[LTwinThreads$State;", true)
  | _ => ("TwinThreads", "saved", "[Z", true)
def tyX7 : Nat → FieldType := fun k => match k with
  | 0 => .object "TwinThreads$State"
  | 1 => .object "TwinThreads$Run"
  | 2 => .object "TwinThreads$State"
  | 3 => .object "TwinThreads$Run"
  | 4 => .object "TwinThreads$Pad"
  | 5 => .object "TwinThreads$Reader"
  | 6 => .object "TwinThreads$History"
  | 7 => .array (.object "TwinThreads$State")
  | _ => .array .boolean
abbrev wsX70 : List Cond := u_ws RX7 TX7 9
theorem nmX7 : ∀ a, a < 9 → ∀ b, b < 9 → a ≠ b → (TX7 a).2.1 ≠ (TX7 b).2.1 := by decide +kernel
theorem tyX7_ok : ∀ k, k < 9 → parseFieldDescriptor (TX7 k).2.2.1 = some (tyX7 k) := by decide +kernel
abbrev cX7_init : ByteArray := prog_1_method_1_code
def yX7_init : MethodName := ⟨RX7, "<init>", "()V"⟩
abbrev cX7_set : ByteArray := prog_1_method_2_code
def yX7_set : MethodName := ⟨RX7, "set", "(II)I"⟩
abbrev cX7_put : ByteArray := prog_1_method_3_code
def yX7_put : MethodName := ⟨RX7, "put", "(J)I"⟩
abbrev cX7_wipe : ByteArray := prog_1_method_4_code
def yX7_wipe : MethodName := ⟨RX7, "wipe", "()I"⟩
abbrev cX7_fault : ByteArray := prog_1_method_5_code
def yX7_fault : MethodName := ⟨RX7, "fault", "()I"⟩
abbrev cX7_program : ByteArray := prog_1_method_6_code
def yX7_program : MethodName := ⟨RX7, "program", "(I)I"⟩
abbrev cX7_drop : ByteArray := prog_1_method_7_code
def yX7_drop : MethodName := ⟨RX7, "drop", "(I)I"⟩
abbrev cX7_first : ByteArray := prog_1_method_8_code
def yX7_first : MethodName := ⟨RX7, "first", "(III)I"⟩
abbrev cX7_exchange : ByteArray := prog_1_method_9_code
def yX7_exchange : MethodName := ⟨RX7, "exchange", "()I"⟩
abbrev cX7_ofOrder : ByteArray := prog_1_method_10_code
def yX7_ofOrder : MethodName := ⟨RX7, "ofOrder", "(III)I"⟩
abbrev cX7_ofThread : ByteArray := prog_1_method_11_code
def yX7_ofThread : MethodName := ⟨RX7, "ofThread", "(II)I"⟩
abbrev cX7_last : ByteArray := prog_1_method_12_code
def yX7_last : MethodName := ⟨RX7, "last", "(II)I"⟩
abbrev cX7_ofStep : ByteArray := prog_1_method_13_code
def yX7_ofStep : MethodName := ⟨RX7, "ofStep", "(III)I"⟩
abbrev cX7_at : ByteArray := prog_1_method_14_code
def yX7_at : MethodName := ⟨RX7, "at", "(II)I"⟩
abbrev cX7_count : ByteArray := prog_1_method_15_code
def yX7_count : MethodName := ⟨RX7, "count", "(I)I"⟩
abbrev cX7_alone : ByteArray := prog_1_method_16_code
def yX7_alone : MethodName := ⟨RX7, "alone", "(I)I"⟩
abbrev cX7_lengthWith : ByteArray := prog_1_method_17_code
def yX7_lengthWith : MethodName := ⟨RX7, "lengthWith", "(I)I"⟩
abbrev cX7_bestTurns : ByteArray := prog_1_method_18_code
def yX7_bestTurns : MethodName := ⟨RX7, "bestTurns", "()I"⟩
abbrev cX7_lengthByTurns : ByteArray := prog_1_method_19_code
def yX7_lengthByTurns : MethodName := ⟨RX7, "lengthByTurns", "(I)I"⟩
abbrev cX7_lengthWithout : ByteArray := prog_1_method_20_code
def yX7_lengthWithout : MethodName := ⟨RX7, "lengthWithout", "(I)I"⟩
abbrev cX7_bestExchange : ByteArray := prog_1_method_21_code
def yX7_bestExchange : MethodName := ⟨RX7, "bestExchange", "(II)I"⟩
abbrev cX7_lengthExchanged : ByteArray := prog_1_method_22_code
def yX7_lengthExchanged : MethodName := ⟨RX7, "lengthExchanged", "(II)I"⟩
abbrev cX7_undo : ByteArray := prog_1_method_23_code
def yX7_undo : MethodName := ⟨RX7, "undo", "()I"⟩
abbrev cX7_save : ByteArray := prog_1_method_24_code
def yX7_save : MethodName := ⟨RX7, "save", "(I)I"⟩
abbrev cX7_restore : ByteArray := prog_1_method_25_code
def yX7_restore : MethodName := ⟨RX7, "restore", "(I)I"⟩
abbrev cX7_isThread : ByteArray := prog_1_method_26_code
def yX7_isThread : MethodName := ⟨RX7, "isThread", "(I)Z"⟩
def RX8 : String := "TwinThreadsModel"
def TX8 : u_T := fun k => match k with
  | 0 => ("TwinThreadsModel", "now", "[I", true)
  | 1 => ("TwinThreadsModel", "history", "[I", true)
  | 2 => ("TwinThreadsModel", "undos", "I", false)
  | 3 => ("TwinThreadsModel", "saved", "[I", true)
  | 4 => ("TwinThreadsModel", "isSaved", "[Z", true)
  | 5 => ("TwinThreadsModel", "pad", "[I", true)
  | 6 => ("TwinThreadsModel", "signs", "I", false)
  | 7 => ("TwinThreadsModel", "orders", "[I", true)
  | 8 => ("TwinThreadsModel", "read", "I", false)
  | 9 => ("TwinThreadsModel", "place", "I", false)
  | 10 => ("TwinThreadsModel", "isWrong", "Z", false)
  | 11 => ("TwinThreadsModel", "values", "[I", true)
  | 12 => ("TwinThreadsModel", "ready", "[I", true)
  | 13 => ("TwinThreadsModel", "start", "[I", true)
  | 14 => ("TwinThreadsModel", "order", "[I", true)
  | 15 => ("TwinThreadsModel", "end", "[I", true)
  | 16 => ("TwinThreadsModel", "waited", "[I", true)
  | 17 => ("TwinThreadsModel", "steps", "[I", true)
  | 18 => ("TwinThreadsModel", "next", "[I", true)
  | 19 => ("TwinThreadsModel", "waits", "[I", true)
  | 20 => ("TwinThreadsModel", "pending", "[I", true)
  | 21 => ("TwinThreadsModel", "free", "[I", true)
  | 22 => ("TwinThreadsModel", "owner", "[I", true)
  | _ => ("TwinThreadsModel", "valuesWere", "[I", true)
def tyX8 : Nat → FieldType := fun k => match k with
  | 0 => .array .int
  | 1 => .array .int
  | 2 => .int
  | 3 => .array .int
  | 4 => .array .boolean
  | 5 => .array .int
  | 6 => .int
  | 7 => .array .int
  | 8 => .int
  | 9 => .int
  | 10 => .boolean
  | 11 => .array .int
  | 12 => .array .int
  | 13 => .array .int
  | 14 => .array .int
  | 15 => .array .int
  | 16 => .array .int
  | 17 => .array .int
  | 18 => .array .int
  | 19 => .array .int
  | 20 => .array .int
  | 21 => .array .int
  | 22 => .array .int
  | _ => .array .int
abbrev wsX80 : List Cond := u_ws RX8 TX8 24
theorem nmX8 : ∀ a, a < 24 → ∀ b, b < 24 → a ≠ b → (TX8 a).2.1 ≠ (TX8 b).2.1 := by decide +kernel
theorem tyX8_ok : ∀ k, k < 24 → parseFieldDescriptor (TX8 k).2.2.1 = some (tyX8 k) := by decide +kernel
abbrev cX8_init : ByteArray := prog_10_method_1_code
def yX8_init : MethodName := ⟨RX8, "<init>", "()V"⟩
abbrev cX8_in : ByteArray := prog_10_method_2_code
def yX8_in : MethodName := ⟨RX8, "in", "(III)Z"⟩
abbrev cX8_record : ByteArray := prog_10_method_3_code
def yX8_record : MethodName := ⟨RX8, "record", "()V"⟩
abbrev cX8_set : ByteArray := prog_10_method_4_code
def yX8_set : MethodName := ⟨RX8, "set", "(II)I"⟩
abbrev cX8_isThread : ByteArray := prog_10_method_5_code
def yX8_isThread : MethodName := ⟨RX8, "isThread", "(I)Z"⟩
abbrev cX8_first : ByteArray := prog_10_method_6_code
def yX8_first : MethodName := ⟨RX8, "first", "(III)I"⟩
abbrev cX8_sign : ByteArray := prog_10_method_7_code
def yX8_sign : MethodName := ⟨RX8, "sign", "()I"⟩
abbrev cX8_between : ByteArray := prog_10_method_8_code
def yX8_between : MethodName := ⟨RX8, "between", "(I)V"⟩
abbrev cX8_register : ByteArray := prog_10_method_9_code
def yX8_register : MethodName := ⟨RX8, "register", "()I"⟩
abbrev cX8_number : ByteArray := prog_10_method_10_code
def yX8_number : MethodName := ⟨RX8, "number", "()I"⟩
abbrev cX8_lay : ByteArray := prog_10_method_11_code
def yX8_lay : MethodName := ⟨RX8, "lay", "(IIIII)V"⟩
abbrev cX8_readValue : ByteArray := prog_10_method_12_code
def yX8_readValue : MethodName := ⟨RX8, "readValue", "(I)V"⟩
abbrev cX8_readOne : ByteArray := prog_10_method_13_code
def yX8_readOne : MethodName := ⟨RX8, "readOne", "()V"⟩
abbrev cX8_faultOf : ByteArray := prog_10_method_14_code
def yX8_faultOf : MethodName := ⟨RX8, "faultOf", "()I"⟩
abbrev cX8_put : ByteArray := prog_10_method_15_code
def yX8_put : MethodName := ⟨RX8, "put", "(J)I"⟩
abbrev cX8_wipe : ByteArray := prog_10_method_16_code
def yX8_wipe : MethodName := ⟨RX8, "wipe", "()I"⟩
abbrev cX8_fault : ByteArray := prog_10_method_17_code
def yX8_fault : MethodName := ⟨RX8, "fault", "()I"⟩
abbrev cX8_program : ByteArray := prog_10_method_18_code
def yX8_program : MethodName := ⟨RX8, "program", "(I)I"⟩
abbrev cX8_many : ByteArray := prog_10_method_19_code
def yX8_many : MethodName := ⟨RX8, "many", "(I)I"⟩
abbrev cX8_of : ByteArray := prog_10_method_20_code
def yX8_of : MethodName := ⟨RX8, "of", "(III)I"⟩
abbrev cX8_drop : ByteArray := prog_10_method_21_code
def yX8_drop : MethodName := ⟨RX8, "drop", "(I)I"⟩
abbrev cX8_exchange : ByteArray := prog_10_method_22_code
def yX8_exchange : MethodName := ⟨RX8, "exchange", "()I"⟩
abbrev cX8_ofOrder : ByteArray := prog_10_method_23_code
def yX8_ofOrder : MethodName := ⟨RX8, "ofOrder", "(III)I"⟩
abbrev cX8_isOpen : ByteArray := prog_10_method_24_code
def yX8_isOpen : MethodName := ⟨RX8, "isOpen", "(I)Z"⟩
abbrev cX8_roomOf : ByteArray := prog_10_method_25_code
def yX8_roomOf : MethodName := ⟨RX8, "roomOf", "(I)I"⟩
abbrev cX8_isReady : ByteArray := prog_10_method_26_code
def yX8_isReady : MethodName := ⟨RX8, "isReady", "(II)Z"⟩
abbrev cX8_whyNot : ByteArray := prog_10_method_27_code
def yX8_whyNot : MethodName := ⟨RX8, "whyNot", "(III)I"⟩
abbrev cX8_latest : ByteArray := prog_10_method_28_code
def yX8_latest : MethodName := ⟨RX8, "latest", "(I)I"⟩
abbrev cX8_starter : ByteArray := prog_10_method_29_code
def yX8_starter : MethodName := ⟨RX8, "starter", "(III)I"⟩
abbrev cX8_value : ByteArray := prog_10_method_30_code
def yX8_value : MethodName := ⟨RX8, "value", "(II)I"⟩
abbrev cX8_does : ByteArray := prog_10_method_31_code
def yX8_does : MethodName := ⟨RX8, "does", "(II)I"⟩
abbrev cX8_begin : ByteArray := prog_10_method_32_code
def yX8_begin : MethodName := ⟨RX8, "begin", "(II)V"⟩
abbrev cX8_lengthOf : ByteArray := prog_10_method_33_code
def yX8_lengthOf : MethodName := ⟨RX8, "lengthOf", "(I)I"⟩
abbrev cX8_goThrough : ByteArray := prog_10_method_34_code
def yX8_goThrough : MethodName := ⟨RX8, "goThrough", "(III)I"⟩
abbrev cX8_run : ByteArray := prog_10_method_35_code
def yX8_run : MethodName := ⟨RX8, "run", "()I"⟩
abbrev cX8_stepsOf : ByteArray := prog_10_method_36_code
def yX8_stepsOf : MethodName := ⟨RX8, "stepsOf", "(II)I"⟩
abbrev cX8_ofThread : ByteArray := prog_10_method_37_code
def yX8_ofThread : MethodName := ⟨RX8, "ofThread", "(II)I"⟩
abbrev cX8_last : ByteArray := prog_10_method_38_code
def yX8_last : MethodName := ⟨RX8, "last", "(II)I"⟩
abbrev cX8_ofStep : ByteArray := prog_10_method_39_code
def yX8_ofStep : MethodName := ⟨RX8, "ofStep", "(III)I"⟩
abbrev cX8_at : ByteArray := prog_10_method_40_code
def yX8_at : MethodName := ⟨RX8, "at", "(II)I"⟩
abbrev cX8_count : ByteArray := prog_10_method_41_code
def yX8_count : MethodName := ⟨RX8, "count", "(I)I"⟩
abbrev cX8_alone : ByteArray := prog_10_method_42_code
def yX8_alone : MethodName := ⟨RX8, "alone", "(I)I"⟩
abbrev cX8_lengthWith : ByteArray := prog_10_method_43_code
def yX8_lengthWith : MethodName := ⟨RX8, "lengthWith", "(I)I"⟩
abbrev cX8_bestTurns : ByteArray := prog_10_method_44_code
def yX8_bestTurns : MethodName := ⟨RX8, "bestTurns", "()I"⟩
abbrev cX8_lengthWithout : ByteArray := prog_10_method_45_code
def yX8_lengthWithout : MethodName := ⟨RX8, "lengthWithout", "(I)I"⟩
abbrev cX8_isFixed : ByteArray := prog_10_method_46_code
def yX8_isFixed : MethodName := ⟨RX8, "isFixed", "(II)Z"⟩
abbrev cX8_swap : ByteArray := prog_10_method_47_code
def yX8_swap : MethodName := ⟨RX8, "swap", "(II)V"⟩
abbrev cX8_areValuesSame : ByteArray := prog_10_method_48_code
def yX8_areValuesSame : MethodName := ⟨RX8, "areValuesSame", "()Z"⟩
abbrev cX8_bestExchange : ByteArray := prog_10_method_49_code
def yX8_bestExchange : MethodName := ⟨RX8, "bestExchange", "(II)I"⟩
abbrev cX8_undo : ByteArray := prog_10_method_50_code
def yX8_undo : MethodName := ⟨RX8, "undo", "()I"⟩
abbrev cX8_save : ByteArray := prog_10_method_51_code
def yX8_save : MethodName := ⟨RX8, "save", "(I)I"⟩
abbrev cX8_restore : ByteArray := prog_10_method_52_code
def yX8_restore : MethodName := ⟨RX8, "restore", "(I)I"⟩
def RJ9 : String := "java/lang/Math"
def TJ9 : u_T := fun k => match k with
  | _ => ("", "", "", false)
def tyJ9 : Nat → FieldType := fun k => match k with
  | _ => .int
abbrev wsJ90 : List Cond := u_ws RJ9 TJ9 0
theorem nmJ9 : ∀ a, a < 0 → ∀ b, b < 0 → a ≠ b → (TJ9 a).2.1 ≠ (TJ9 b).2.1 := by decide +kernel
theorem tyJ9_ok : ∀ k, k < 0 → parseFieldDescriptor (TJ9 k).2.2.1 = some (tyJ9 k) := by decide +kernel
abbrev cJ9_floorMod_7cf53 : ByteArray := prog_11_method_50_code
def yJ9_floorMod_7cf53 : MethodName := ⟨RJ9, "floorMod", "(II)I"⟩
abbrev cJ9_max_7cf53 : ByteArray := prog_11_method_65_code
def yJ9_max_7cf53 : MethodName := ⟨RJ9, "max", "(II)I"⟩
def RJ10 : String := "java/lang/System"
def TJ10 : u_T := fun k => match k with
  | _ => ("", "", "", false)
def tyJ10 : Nat → FieldType := fun k => match k with
  | _ => .int
abbrev wsJ100 : List Cond := u_ws RJ10 TJ10 0
theorem nmJ10 : ∀ a, a < 0 → ∀ b, b < 0 → a ≠ b → (TJ10 a).2.1 ≠ (TJ10 b).2.1 := by decide +kernel
theorem tyJ10_ok : ∀ k, k < 0 → parseFieldDescriptor (TJ10 k).2.2.1 = some (tyJ10 k) := by decide +kernel
def RL : String := "TwinThreadsLaw"
abbrev cL_law : ByteArray := code
abbrev vwCl : List vw_C := [(RX0, TX0, 3), (RX1, TX1, 2), (RX2, TX2, 4), (RX3, TX3, 2), (RX4, TX4, 4), (RX5, TX5, 12), (RX6, TX6, 3), (RX7, TX7, 9), (RX8, TX8, 24)]
